noncomputable def t_wo_seekLain_82 (x2 : Int32) (x3 : Int32) (y0 : Int32) (M : dM) : Option (Int32 × dM) :=
  if x3 = 0 then
    some ((-1), M)
  else
    if y0 = 0 then
      some ((-1), M)
    else
      some (x2, M)
noncomputable def t_wo_seekLain_55 (x1 : Int32) (x2 : Int32) (y0 : Int32) (M : dM) : Option (Int32 × dM) :=
  (f_wo_draw M).bind fun q7 =>
  gd (vp_in x1 80) <|
  gd (vp_in (gI q7.2 7 x1.toNatClampNeg) 10) <|
  if (gI q7.2 57 (gI q7.2 7 x1.toNatClampNeg).toNatClampNeg) ≤ q7.1 then
    t_wo_seekLain_82 x2 y0 0 q7.2
  else
    t_wo_seekLain_82 x2 y0 1 q7.2
noncomputable def f_wo_seekLain (a1 : Int32) (M : dM) : Option (Int32 × dM) :=
  gd (vp_in a1 80) <|
  (f_wo_drawLayer (gI M 8 a1.toNatClampNeg) M).bind fun q2 =>
  if q2.1 = (-1) then
    some ((-1), q2.2)
  else
    (f_wo_draw q2.2).bind fun q4 =>
    gd (vp_in (((gI q4.2 8 a1.toNatClampNeg) * 10) + q2.1) 80) <|
    if (gI q4.2 3 (((gI q4.2 8 a1.toNatClampNeg) * 10) + q2.1).toNatClampNeg) ≤ q4.1 then
      t_wo_seekLain_55 a1 q2.1 0 q4.2
    else
      t_wo_seekLain_55 a1 q2.1 1 q4.2
theorem w_t_wo_seekLain_82 (x2 : Int32) (x3 : Int32) (y0 : Int32) (M : dM) {Q : mz_P} {o : (Int32 × dM)} (hf : t_wo_seekLain_82 x2 x3 y0 M = some o) (hk : mR Q (some (.int o.1)) o.2) : mW mX10_seekLain 5 Q 82 [none, none, some (.int x2), some (.int x3), none] [.int y0] M := by
  unfold t_wo_seekLain_82 at hf
  refine y_istore (i := 4) (n := 84) (L2 := [none, none, some (.int x2), some (.int x3), some (.int y0)]) ⟨dX10_seekLain_82, rfl⟩ (by decide) rfl rfl ?_
  refine y_iload_n (i := 3) (n := 85) ⟨dX10_seekLain_84, rfl⟩ rfl ?_
  refine y_if_eq (t := 97) (n := 88) ⟨dX10_seekLain_85, rfl, rfl⟩ (fun (hc : x3 = 0) => ?_) (fun (hc : ¬ (x3 = 0)) => ?_)
  · replace hf := i_t hc hf
    refine y_iconst (n := 98) (v := (-1)) ⟨dX10_seekLain_97, rfl⟩ ki_m1 ?_
    cases hf
    exact y_ireturn (n := 99) ⟨dX10_seekLain_98, rfl⟩ rfl rfl hk
  · replace hf := i_f hc hf
    refine y_iload (i := 4) (n := 90) ⟨dX10_seekLain_88, rfl⟩ rfl ?_
    refine y_if_eq (t := 97) (n := 93) ⟨dX10_seekLain_90, rfl, rfl⟩ (fun (hc : y0 = 0) => ?_) (fun (hc : ¬ (y0 = 0)) => ?_)
    · replace hf := i_t hc hf
      refine y_iconst (n := 98) (v := (-1)) ⟨dX10_seekLain_97, rfl⟩ ki_m1 ?_
      cases hf
      exact y_ireturn (n := 99) ⟨dX10_seekLain_98, rfl⟩ rfl rfl hk
    · replace hf := i_f hc hf
      refine y_iload_n (i := 2) (n := 94) ⟨dX10_seekLain_93, rfl⟩ rfl ?_
      refine y_goto (t := 98) ⟨dX10_seekLain_94, rfl, rfl⟩ ?_
      cases hf
      exact y_ireturn (n := 99) ⟨dX10_seekLain_98, rfl⟩ rfl rfl hk
theorem w_t_wo_seekLain_55 (x1 : Int32) (x2 : Int32) (y0 : Int32) (M : dM) {Q : mz_P} {o : (Int32 × dM)} (hf : t_wo_seekLain_55 x1 x2 y0 M = some o) (hk : mR Q (some (.int o.1)) o.2) : mW mX10_seekLain 5 Q 55 [some (.ref 56), some (.int x1), some (.int x2), none, none] [.int y0] M := by
  unfold t_wo_seekLain_55 at hf
  refine y_istore_n (i := 3) (n := 56) (L2 := [some (.ref 56), some (.int x1), some (.int x2), some (.int y0), none]) ⟨dX10_seekLain_55, rfl⟩ (by decide) rfl rfl ?_
  refine y_aload_n (i := 0) (n := 57) ⟨dX10_seekLain_56, rfl⟩ rfl ?_
  obtain ⟨q7, hv8, hf⟩ := b_s hf
  refine c_wo_draw M (n := 60) ⟨dX10_seekLain_57, rfl⟩ klX10_130 hv8 (by decide) (Nat.le_of_ble_eq_true rfl) rfl rfl ?_
  refine y_aload_n (i := 0) (n := 61) ⟨dX10_seekLain_60, rfl⟩ rfl ?_
  refine y_getR (n := 64) ⟨dX10_seekLain_61, rfl⟩ kfX10_11 l_56 rfl r_56_3 ?_
  refine y_aload_n (i := 0) (n := 65) ⟨dX10_seekLain_64, rfl⟩ rfl ?_
  refine y_getR (n := 68) ⟨dX10_seekLain_65, rfl⟩ kfX10_47 l_56 rfl r_56_1 ?_
  refine y_getR (n := 71) ⟨dX10_seekLain_68, rfl⟩ kfX10_141 l_6 rfl r_6_0 ?_
  refine y_iload_n (i := 1) (n := 72) ⟨dX10_seekLain_71, rfl⟩ rfl ?_
  obtain ⟨hg9, hf⟩ := g_s hf
  refine y_iaload (n := 73) ⟨dX10_seekLain_72, rfl⟩ l_7 hg9 ?_
  obtain ⟨hg10, hf⟩ := g_s hf
  refine y_iaload (n := 74) ⟨dX10_seekLain_73, rfl⟩ l_57 hg10 ?_
  refine y_icmp_ge (t := 81) (n := 77) ⟨dX10_seekLain_74, rfl, rfl⟩ (fun (hc : (gI q7.2 57 (gI q7.2 7 x1.toNatClampNeg).toNatClampNeg) ≤ q7.1) => ?_) (fun (hc : ¬ ((gI q7.2 57 (gI q7.2 7 x1.toNatClampNeg).toNatClampNeg) ≤ q7.1)) => ?_)
  · replace hf := i_t hc hf
    refine y_iconst (n := 82) (v := 0) ⟨dX10_seekLain_81, rfl⟩ ki_0 ?_
    exact y_wk (L2 := [none, none, some (.int x2), some (.int y0), none]) ⟨Or.inl rfl, Or.inl rfl, Or.inr rfl, Or.inr rfl, Or.inr rfl, trivial⟩ (w_t_wo_seekLain_82 x2 y0 0 q7.2 hf hk)
  · replace hf := i_f hc hf
    refine y_iconst (n := 78) (v := 1) ⟨dX10_seekLain_77, rfl⟩ ki_1 ?_
    refine y_goto (t := 82) ⟨dX10_seekLain_78, rfl, rfl⟩ ?_
    exact y_wk (L2 := [none, none, some (.int x2), some (.int y0), none]) ⟨Or.inl rfl, Or.inl rfl, Or.inr rfl, Or.inr rfl, Or.inr rfl, trivial⟩ (w_t_wo_seekLain_82 x2 y0 1 q7.2 hf hk)
theorem ok_wo_seekLain (a1 : Int32) (M : dM) {o : (Int32 × dM)} (hf : f_wo_seekLain a1 M = some o) : mO mX10_seekLain 5 [.ref 56, .int a1] M (some (.int o.1)) o.2 := by
  refine y_ok (by decide +kernel) (Nat.le_of_ble_eq_true rfl) (L0 := [some (.ref 56), some (.int a1), none, none, none]) rfl ?_
  have hk := mR_mQ (some (.int o.1)) o.2
  generalize mQ _ _ = Q at hk ⊢
  unfold f_wo_seekLain at hf
  refine y_aload_n (i := 0) (n := 1) ⟨dX10_seekLain_0, rfl⟩ rfl ?_
  refine y_aload_n (i := 0) (n := 2) ⟨dX10_seekLain_1, rfl⟩ rfl ?_
  refine y_getR (n := 5) ⟨dX10_seekLain_2, rfl⟩ kfX10_47 l_56 rfl r_56_1 ?_
  refine y_getR (n := 8) ⟨dX10_seekLain_5, rfl⟩ kfX10_101 l_6 rfl r_6_1 ?_
  refine y_iload_n (i := 1) (n := 9) ⟨dX10_seekLain_8, rfl⟩ rfl ?_
  obtain ⟨hg1, hf⟩ := g_s hf
  refine y_iaload (n := 10) ⟨dX10_seekLain_9, rfl⟩ l_8 hg1 ?_
  obtain ⟨q2, hv3, hf⟩ := b_s hf
  refine c_wo_drawLayer (gI M 8 a1.toNatClampNeg) M (n := 13) ⟨dX10_seekLain_10, rfl⟩ klX10_144 hv3 (by decide) (Nat.le_of_ble_eq_true rfl) rfl rfl ?_
  refine y_istore_n (i := 2) (n := 14) (L2 := [some (.ref 56), some (.int a1), some (.int q2.1), none, none]) ⟨dX10_seekLain_13, rfl⟩ (by decide) rfl rfl ?_
  refine y_iload_n (i := 2) (n := 15) ⟨dX10_seekLain_14, rfl⟩ rfl ?_
  refine y_iconst (n := 16) (v := (-1)) ⟨dX10_seekLain_15, rfl⟩ ki_m1 ?_
  refine y_icmp_ne (t := 21) (n := 19) ⟨dX10_seekLain_16, rfl, rfl⟩ (fun (hc : ¬ (q2.1 = (-1))) => ?_) (fun (hc : q2.1 = (-1)) => ?_)
  · replace hf := i_f hc hf
    refine y_aload_n (i := 0) (n := 22) ⟨dX10_seekLain_21, rfl⟩ rfl ?_
    obtain ⟨q4, hv5, hf⟩ := b_s hf
    refine c_wo_draw q2.2 (n := 25) ⟨dX10_seekLain_22, rfl⟩ klX10_130 hv5 (by decide) (Nat.le_of_ble_eq_true rfl) rfl rfl ?_
    refine y_aload_n (i := 0) (n := 26) ⟨dX10_seekLain_25, rfl⟩ rfl ?_
    refine y_getR (n := 29) ⟨dX10_seekLain_26, rfl⟩ kfX10_43 l_56 rfl r_56_0 ?_
    refine y_getR (n := 32) ⟨dX10_seekLain_29, rfl⟩ kfX10_150 l_1 rfl r_1_1 ?_
    refine y_aload_n (i := 0) (n := 33) ⟨dX10_seekLain_32, rfl⟩ rfl ?_
    refine y_getR (n := 36) ⟨dX10_seekLain_33, rfl⟩ kfX10_47 l_56 rfl r_56_1 ?_
    refine y_getR (n := 39) ⟨dX10_seekLain_36, rfl⟩ kfX10_101 l_6 rfl r_6_1 ?_
    refine y_iload_n (i := 1) (n := 40) ⟨dX10_seekLain_39, rfl⟩ rfl ?_
    refine y_iaload (n := 41) ⟨dX10_seekLain_40, rfl⟩ l_8 hg1 ?_
    refine y_bipush (n := 43) (v := 10) ⟨dX10_seekLain_41, rfl⟩ kb_10 ?_
    refine y_imul (n := 44) ⟨dX10_seekLain_43, rfl⟩ ?_
    refine y_iload_n (i := 2) (n := 45) ⟨dX10_seekLain_44, rfl⟩ rfl ?_
    refine y_iadd (n := 46) ⟨dX10_seekLain_45, rfl⟩ ?_
    obtain ⟨hg6, hf⟩ := g_s hf
    refine y_iaload (n := 47) ⟨dX10_seekLain_46, rfl⟩ l_3 hg6 ?_
    refine y_icmp_ge (t := 54) (n := 50) ⟨dX10_seekLain_47, rfl, rfl⟩ (fun (hc : (gI q4.2 3 (((gI q4.2 8 a1.toNatClampNeg) * 10) + q2.1).toNatClampNeg) ≤ q4.1) => ?_) (fun (hc : ¬ ((gI q4.2 3 (((gI q4.2 8 a1.toNatClampNeg) * 10) + q2.1).toNatClampNeg) ≤ q4.1)) => ?_)
    · replace hf := i_t hc hf
      refine y_iconst (n := 55) (v := 0) ⟨dX10_seekLain_54, rfl⟩ ki_0 ?_
      exact y_wk (L2 := [some (.ref 56), some (.int a1), some (.int q2.1), none, none]) ⟨Or.inr rfl, Or.inr rfl, Or.inr rfl, Or.inr rfl, Or.inr rfl, trivial⟩ (w_t_wo_seekLain_55 a1 q2.1 0 q4.2 hf hk)
    · replace hf := i_f hc hf
      refine y_iconst (n := 51) (v := 1) ⟨dX10_seekLain_50, rfl⟩ ki_1 ?_
      refine y_goto (t := 55) ⟨dX10_seekLain_51, rfl, rfl⟩ ?_
      exact y_wk (L2 := [some (.ref 56), some (.int a1), some (.int q2.1), none, none]) ⟨Or.inr rfl, Or.inr rfl, Or.inr rfl, Or.inr rfl, Or.inr rfl, trivial⟩ (w_t_wo_seekLain_55 a1 q2.1 1 q4.2 hf hk)
  · replace hf := i_t hc hf
    refine y_iconst (n := 20) (v := (-1)) ⟨dX10_seekLain_19, rfl⟩ ki_m1 ?_
    cases hf
    exact y_ireturn (n := 21) ⟨dX10_seekLain_20, rfl⟩ rfl rfl hk
theorem c_wo_seekLain (a1 : Int32) (M : dM) {o : (Int32 × dM)} {y : mz_M} {d : Nat} {Q : mz_P} {pc n i : Nat} {L : List (Option Value)} {st : List Value} (h : mz_d y.2.1 pc n 3 (.invokevirtual i)) (hl : mz_ml y.1.cls i yX10_seekLain) (hf : f_wo_seekLain a1 M = some o) (hd : 5 + 1 ≤ d) (hsm : (st.map (fun v => v.category)).sum ≤ 8) (hLr : mz_rL 133 L = true) (hSr : mz_rS 133 st = true) (kk : mW y d Q n L (.int o.1 :: st) o.2) : mW y d Q pc L (.int a1 :: .ref 56 :: st) M :=
  y_callV kmX10_seekLain kvX10_seekLain l_56 (by decide +kernel) (by decide +kernel) h hl (ok_wo_seekLain a1 M hf) (vs := [.int a1]) rfl rfl hd hsm hLr hSr kk
def K_wo_live_58 (Q : mz_P) (x1 : Int32) : ((Int32 × dM) ⊕ dM) → Prop
  | .inl s => mW mX10_live 6 Q 58 [some (.ref 56), some (.int x1), some (.int s.1), none, none, none] [] s.2
  | .inr r => mR Q none r
def K_wo_live_71 (Q : mz_P) (x1 : Int32) (x2 : Int32) : ((Int32 × dM) ⊕ dM) → Prop
  | .inl s => mW mX10_live 6 Q 71 [some (.ref 56), some (.int x1), some (.int x2), some (.int s.1), none, none] [] s.2
  | .inr t => mW mX10_live 6 Q 166 [some (.ref 56), some (.int x1), some (.int x2), none, none, none] [] t
noncomputable def b_wo_live_71_142 (x1 : Int32) (x2 : Int32) (x3 : Int32) (x4 : Int32) (y0 : Int32) (M : dM) : Option ((Int32 × dM) ⊕ dM) :=
  if y0 = (-1) then
    some (.inl ((x3 + 1), M))
  else
    (f_wo_take x2 x3 y0 x4 M).bind fun q15 =>
    some (.inl ((x3 + 1), q15))
noncomputable def b_wo_live_71_122 (x1 : Int32) (x2 : Int32) (x3 : Int32) (y0 : Int32) (M : dM) : Option ((Int32 × dM) ⊕ dM) :=
  if y0 = 0 then
    (f_wo_seekLain x2 M).bind fun q13 =>
    b_wo_live_71_142 x1 x2 x3 y0 q13.1 q13.2
  else
    (f_wo_seekPut x2 M).bind fun q17 =>
    b_wo_live_71_142 x1 x2 x3 y0 q17.1 q17.2
noncomputable def b_wo_live_71_71 (x1 : Int32) (x2 : Int32) (x3 : Int32) (M : dM) : Option ((Int32 × dM) ⊕ dM) :=
  if 24 ≤ x3 then
    some (.inr M)
  else
    gd (vp_in x2 80) <|
    if (f_ax_hasBit ((gI M 10 x2.toNatClampNeg).toInt64) x3) = true then
      (f_wo_putOne x2 x3 M).bind fun q10 =>
      gd (vp_in (gI q10 8 x2.toNatClampNeg) 8) <|
      if (gI q10 61 (gI q10 8 x2.toNatClampNeg).toNatClampNeg) ≤ 0 then
        b_wo_live_71_122 x1 x2 x3 0 q10
      else
        b_wo_live_71_122 x1 x2 x3 1 q10
    else
      some (.inl ((x3 + 1), M))
noncomputable def l_wo_live_71 (x1 : Int32) (x2 : Int32) (x3 : Int32) (M : dM) : Option dM := lpc (fun s => b_wo_live_71_71 x1 x2 s.1 s.2) (x3, M)
noncomputable def b_wo_live_58_58 (x1 : Int32) (x2 : Int32) (M : dM) : Option ((Int32 × dM) ⊕ dM) :=
  if (gI M 6 5) ≤ x2 then
    some (.inr (sI M 56 14 x1))
  else
    (l_wo_live_71 x1 x2 0 M).bind fun t19 =>
      some (.inl ((x2 + 1), t19))
noncomputable def l_wo_live_58 (x1 : Int32) (x2 : Int32) (M : dM) : Option dM := lpc (fun s => b_wo_live_58_58 x1 s.1 s.2) (x2, M)
noncomputable def f_wo_live (a1 : Int32) (M : dM) : Option dM :=
  if (gI M 56 14) = a1 then
    some M
  else
    (f_li_weigh M).bind fun q1 =>
    (f_jd_fill_61 0 (sI (sI (sJ q1 56 8 a1.toInt64) 56 10 0) 56 13 (-1))).bind fun q3 =>
    (f_jd_fill_63 0 q3).bind fun q5 =>
    (f_jd_fill_64 0 q5).bind fun q7 =>
    (l_wo_live_58 a1 0 q7).bind fun r24 => some r24
theorem w_b_wo_live_71_142 (x1 : Int32) (x2 : Int32) (x3 : Int32) (x4 : Int32) (y0 : Int32)  (M : dM) {Q : mz_P} {o : ((Int32 × dM) ⊕ dM)} (hf : b_wo_live_71_142 x1 x2 x3 x4 y0 M = some o) (hk : K_wo_live_71 Q x1 x2 o) : mW mX10_live 6 Q 142 [some (.ref 56), some (.int x1), some (.int x2), some (.int x3), some (.int x4), none] [.int y0] M := by
  unfold b_wo_live_71_142 at hf
  refine y_istore (i := 5) (n := 144) (L2 := [some (.ref 56), some (.int x1), some (.int x2), some (.int x3), some (.int x4), some (.int y0)]) ⟨dX10_live_142, rfl⟩ (by decide) rfl rfl ?_
  refine y_iload (i := 5) (n := 146) ⟨dX10_live_144, rfl⟩ rfl ?_
  refine y_iconst (n := 147) (v := (-1)) ⟨dX10_live_146, rfl⟩ ki_m1 ?_
  refine y_icmp_eq (t := 160) (n := 150) ⟨dX10_live_147, rfl, rfl⟩ (fun (hc : y0 = (-1)) => ?_) (fun (hc : ¬ (y0 = (-1))) => ?_)
  · replace hf := i_t hc hf
    refine y_iinc (i := 3) (n := 163) (b := (x3 + 1)) (L2 := [some (.ref 56), some (.int x1), some (.int x2), some (.int (x3 + 1)), some (.int x4), some (.int y0)]) ⟨dX10_live_160, rfl⟩ rfl (by rw [ki_1]) (by decide) rfl rfl ?_
    refine y_goto (t := 71) ⟨dX10_live_163, rfl, rfl⟩ ?_
    cases hf
    exact y_wk (L2 := [some (.ref 56), some (.int x1), some (.int x2), some (.int (x3 + 1)), none, none]) ⟨Or.inr rfl, Or.inr rfl, Or.inr rfl, Or.inr rfl, Or.inl rfl, Or.inl rfl, trivial⟩ hk
  · replace hf := i_f hc hf
    refine y_aload_n (i := 0) (n := 151) ⟨dX10_live_150, rfl⟩ rfl ?_
    refine y_iload_n (i := 2) (n := 152) ⟨dX10_live_151, rfl⟩ rfl ?_
    refine y_iload_n (i := 3) (n := 153) ⟨dX10_live_152, rfl⟩ rfl ?_
    refine y_iload (i := 5) (n := 155) ⟨dX10_live_153, rfl⟩ rfl ?_
    refine y_iload (i := 4) (n := 157) ⟨dX10_live_155, rfl⟩ rfl ?_
    obtain ⟨q15, hv16, hf⟩ := b_s hf
    refine c_wo_take x2 x3 y0 x4 M (n := 160) ⟨dX10_live_157, rfl⟩ klX10_111 hv16 (by decide) (Nat.le_of_ble_eq_true rfl) rfl rfl ?_
    refine y_iinc (i := 3) (n := 163) (b := (x3 + 1)) (L2 := [some (.ref 56), some (.int x1), some (.int x2), some (.int (x3 + 1)), some (.int x4), some (.int y0)]) ⟨dX10_live_160, rfl⟩ rfl (by rw [ki_1]) (by decide) rfl rfl ?_
    refine y_goto (t := 71) ⟨dX10_live_163, rfl, rfl⟩ ?_
    cases hf
    exact y_wk (L2 := [some (.ref 56), some (.int x1), some (.int x2), some (.int (x3 + 1)), none, none]) ⟨Or.inr rfl, Or.inr rfl, Or.inr rfl, Or.inr rfl, Or.inl rfl, Or.inl rfl, trivial⟩ hk
theorem w_b_wo_live_71_122 (x1 : Int32) (x2 : Int32) (x3 : Int32) (y0 : Int32)  (M : dM) {Q : mz_P} {o : ((Int32 × dM) ⊕ dM)} (hf : b_wo_live_71_122 x1 x2 x3 y0 M = some o) (hk : K_wo_live_71 Q x1 x2 o) : mW mX10_live 6 Q 122 [some (.ref 56), some (.int x1), some (.int x2), some (.int x3), none, none] [.int y0] M := by
  unfold b_wo_live_71_122 at hf
  refine y_istore (i := 4) (n := 124) (L2 := [some (.ref 56), some (.int x1), some (.int x2), some (.int x3), some (.int y0), none]) ⟨dX10_live_122, rfl⟩ (by decide) rfl rfl ?_
  refine y_iload (i := 4) (n := 126) ⟨dX10_live_124, rfl⟩ rfl ?_
  refine y_if_eq (t := 137) (n := 129) ⟨dX10_live_126, rfl, rfl⟩ (fun (hc : y0 = 0) => ?_) (fun (hc : ¬ (y0 = 0)) => ?_)
  · replace hf := i_t hc hf
    refine y_aload_n (i := 0) (n := 138) ⟨dX10_live_137, rfl⟩ rfl ?_
    refine y_iload_n (i := 2) (n := 139) ⟨dX10_live_138, rfl⟩ rfl ?_
    obtain ⟨q13, hv14, hf⟩ := b_s hf
    refine c_wo_seekLain x2 M (n := 142) ⟨dX10_live_139, rfl⟩ klX10_108 hv14 (by decide) (Nat.le_of_ble_eq_true rfl) rfl rfl ?_
    exact y_wk (L2 := [some (.ref 56), some (.int x1), some (.int x2), some (.int x3), some (.int y0), none]) ⟨Or.inr rfl, Or.inr rfl, Or.inr rfl, Or.inr rfl, Or.inr rfl, Or.inr rfl, trivial⟩ (w_b_wo_live_71_142 x1 x2 x3 y0 q13.1 q13.2 hf hk)
  · replace hf := i_f hc hf
    refine y_aload_n (i := 0) (n := 130) ⟨dX10_live_129, rfl⟩ rfl ?_
    refine y_iload_n (i := 2) (n := 131) ⟨dX10_live_130, rfl⟩ rfl ?_
    obtain ⟨q17, hv18, hf⟩ := b_s hf
    refine c_wo_seekPut x2 M (n := 134) ⟨dX10_live_131, rfl⟩ klX10_104 hv18 (by decide) (Nat.le_of_ble_eq_true rfl) rfl rfl ?_
    refine y_goto (t := 142) ⟨dX10_live_134, rfl, rfl⟩ ?_
    exact y_wk (L2 := [some (.ref 56), some (.int x1), some (.int x2), some (.int x3), some (.int y0), none]) ⟨Or.inr rfl, Or.inr rfl, Or.inr rfl, Or.inr rfl, Or.inr rfl, Or.inr rfl, trivial⟩ (w_b_wo_live_71_142 x1 x2 x3 y0 q17.1 q17.2 hf hk)
theorem w_b_wo_live_71_71 (x1 : Int32) (x2 : Int32) (x3 : Int32)  (M : dM) {Q : mz_P} {o : ((Int32 × dM) ⊕ dM)} (hf : b_wo_live_71_71 x1 x2 x3 M = some o) (hk : K_wo_live_71 Q x1 x2 o) : mW mX10_live 6 Q 71 [some (.ref 56), some (.int x1), some (.int x2), some (.int x3), none, none] [] M := by
  unfold b_wo_live_71_71 at hf
  refine y_iload_n (i := 3) (n := 72) ⟨dX10_live_71, rfl⟩ rfl ?_
  refine y_bipush (n := 74) (v := 24) ⟨dX10_live_72, rfl⟩ kb_24 ?_
  refine y_icmp_ge (t := 166) (n := 77) ⟨dX10_live_74, rfl, rfl⟩ (fun (hc : 24 ≤ x3) => ?_) (fun (hc : ¬ (24 ≤ x3)) => ?_)
  · replace hf := i_t hc hf
    cases hf
    exact y_wk (L2 := [some (.ref 56), some (.int x1), some (.int x2), none, none, none]) ⟨Or.inr rfl, Or.inr rfl, Or.inr rfl, Or.inl rfl, Or.inr rfl, Or.inr rfl, trivial⟩ hk
  · replace hf := i_f hc hf
    refine y_aload_n (i := 0) (n := 78) ⟨dX10_live_77, rfl⟩ rfl ?_
    refine y_getR (n := 81) ⟨dX10_live_78, rfl⟩ kfX10_47 l_56 rfl r_56_1 ?_
    refine y_getR (n := 84) ⟨dX10_live_81, rfl⟩ kfX10_94 l_6 rfl r_6_3 ?_
    refine y_iload_n (i := 2) (n := 85) ⟨dX10_live_84, rfl⟩ rfl ?_
    obtain ⟨hg9, hf⟩ := g_s hf
    refine y_iaload (n := 86) ⟨dX10_live_85, rfl⟩ l_10 hg9 ?_
    refine y_i2l (n := 87) ⟨dX10_live_86, rfl⟩ ?_
    refine y_iload_n (i := 3) (n := 88) ⟨dX10_live_87, rfl⟩ rfl ?_
    refine c_ax_hasBit ((gI M 10 x2.toNatClampNeg).toInt64) x3 M (n := 91) ⟨dX10_live_88, rfl⟩ klX10_58 rfl (by decide) (Nat.le_of_ble_eq_true rfl) rfl rfl ?_
    refine y_if_eq (t := 160) (n := 94) ⟨dX10_live_91, rfl, rfl⟩ (fun h0 => ?_) (fun h0 => ?_)
    · have hc := bI_0 h0
      replace hf := i_f hc hf
      refine y_iinc (i := 3) (n := 163) (b := (x3 + 1)) (L2 := [some (.ref 56), some (.int x1), some (.int x2), some (.int (x3 + 1)), none, none]) ⟨dX10_live_160, rfl⟩ rfl (by rw [ki_1]) (by decide) rfl rfl ?_
      refine y_goto (t := 71) ⟨dX10_live_163, rfl, rfl⟩ ?_
      cases hf
      exact y_wk (L2 := [some (.ref 56), some (.int x1), some (.int x2), some (.int (x3 + 1)), none, none]) ⟨Or.inr rfl, Or.inr rfl, Or.inr rfl, Or.inr rfl, Or.inr rfl, Or.inr rfl, trivial⟩ hk
    · have hc := bI_1 h0
      replace hf := i_t hc hf
      refine y_aload_n (i := 0) (n := 95) ⟨dX10_live_94, rfl⟩ rfl ?_
      refine y_iload_n (i := 2) (n := 96) ⟨dX10_live_95, rfl⟩ rfl ?_
      refine y_iload_n (i := 3) (n := 97) ⟨dX10_live_96, rfl⟩ rfl ?_
      obtain ⟨q10, hv11, hf⟩ := b_s hf
      refine c_wo_putOne x2 x3 M (n := 100) ⟨dX10_live_97, rfl⟩ klX10_97 hv11 (by decide) (Nat.le_of_ble_eq_true rfl) rfl rfl ?_
      refine y_aload_n (i := 0) (n := 101) ⟨dX10_live_100, rfl⟩ rfl ?_
      refine y_getR (n := 104) ⟨dX10_live_101, rfl⟩ kfX10_24 l_56 rfl r_56_7 ?_
      refine y_aload_n (i := 0) (n := 105) ⟨dX10_live_104, rfl⟩ rfl ?_
      refine y_getR (n := 108) ⟨dX10_live_105, rfl⟩ kfX10_47 l_56 rfl r_56_1 ?_
      refine y_getR (n := 111) ⟨dX10_live_108, rfl⟩ kfX10_101 l_6 rfl r_6_1 ?_
      refine y_iload_n (i := 2) (n := 112) ⟨dX10_live_111, rfl⟩ rfl ?_
      refine y_iaload (n := 113) ⟨dX10_live_112, rfl⟩ l_8 hg9 ?_
      obtain ⟨hg12, hf⟩ := g_s hf
      refine y_iaload (n := 114) ⟨dX10_live_113, rfl⟩ l_61 hg12 ?_
      refine y_if_le (t := 121) (n := 117) ⟨dX10_live_114, rfl, rfl⟩ (fun (hc : (gI q10 61 (gI q10 8 x2.toNatClampNeg).toNatClampNeg) ≤ 0) => ?_) (fun (hc : ¬ ((gI q10 61 (gI q10 8 x2.toNatClampNeg).toNatClampNeg) ≤ 0)) => ?_)
      · replace hf := i_t hc hf
        refine y_iconst (n := 122) (v := 0) ⟨dX10_live_121, rfl⟩ ki_0 ?_
        exact y_wk (L2 := [some (.ref 56), some (.int x1), some (.int x2), some (.int x3), none, none]) ⟨Or.inr rfl, Or.inr rfl, Or.inr rfl, Or.inr rfl, Or.inr rfl, Or.inr rfl, trivial⟩ (w_b_wo_live_71_122 x1 x2 x3 0 q10 hf hk)
      · replace hf := i_f hc hf
        refine y_iconst (n := 118) (v := 1) ⟨dX10_live_117, rfl⟩ ki_1 ?_
        refine y_goto (t := 122) ⟨dX10_live_118, rfl, rfl⟩ ?_
        exact y_wk (L2 := [some (.ref 56), some (.int x1), some (.int x2), some (.int x3), none, none]) ⟨Or.inr rfl, Or.inr rfl, Or.inr rfl, Or.inr rfl, Or.inr rfl, Or.inr rfl, trivial⟩ (w_b_wo_live_71_122 x1 x2 x3 1 q10 hf hk)
theorem wl_wo_live_71 (x1 : Int32) (x2 : Int32) (x3 : Int32) (M : dM) {Q : mz_P} {x : dM} (hf : l_wo_live_71 x1 x2 x3 M = some x) (hk : K_wo_live_71 Q x1 x2 (.inr x)) : mW mX10_live 6 Q 71 [some (.ref 56), some (.int x1), some (.int x2), some (.int x3), none, none] [] M :=
  lpc_wp (σ := (Int32 × dM)) (ξ := dM) (s := (x3, M)) (Wh := fun s => mW mX10_live 6 Q 71 [some (.ref 56), some (.int x1), some (.int x2), some (.int s.1), none, none] [] s.2) (K := K_wo_live_71 Q x1 x2) (fun _ h => h) (fun s o hb hk => w_b_wo_live_71_71 x1 x2 s.1 s.2 hb hk) hf hk
theorem w_b_wo_live_58_58 (x1 : Int32) (x2 : Int32)  (M : dM) {Q : mz_P} {o : ((Int32 × dM) ⊕ dM)} (hf : b_wo_live_58_58 x1 x2 M = some o) (hk : K_wo_live_58 Q x1 o) : mW mX10_live 6 Q 58 [some (.ref 56), some (.int x1), some (.int x2), none, none, none] [] M := by
  unfold b_wo_live_58_58 at hf
  refine y_iload_n (i := 2) (n := 59) ⟨dX10_live_58, rfl⟩ rfl ?_
  refine y_aload_n (i := 0) (n := 60) ⟨dX10_live_59, rfl⟩ rfl ?_
  refine y_getR (n := 63) ⟨dX10_live_60, rfl⟩ kfX10_47 l_56 rfl r_56_1 ?_
  refine y_getI (n := 66) ⟨dX10_live_63, rfl⟩ kfX10_93 l_6 rfl ?_
  refine y_icmp_ge (t := 172) (n := 69) ⟨dX10_live_66, rfl, rfl⟩ (fun (hc : (gI M 6 5) ≤ x2) => ?_) (fun (hc : ¬ ((gI M 6 5) ≤ x2)) => ?_)
  · replace hf := i_t hc hf
    refine y_aload_n (i := 0) (n := 173) ⟨dX10_live_172, rfl⟩ rfl ?_
    refine y_iload_n (i := 1) (n := 174) ⟨dX10_live_173, rfl⟩ rfl ?_
    refine y_putI (n := 177) ⟨dX10_live_174, rfl⟩ kfX10_36 l_56 (by decide +kernel) rfl ?_
    cases hf
    exact y_return (n := 178) ⟨dX10_live_177, rfl⟩ rfl hk
  · replace hf := i_f hc hf
    refine y_iconst (n := 70) (v := 0) ⟨dX10_live_69, rfl⟩ ki_0 ?_
    refine y_istore_n (i := 3) (n := 71) (L2 := [some (.ref 56), some (.int x1), some (.int x2), some (.int 0), none, none]) ⟨dX10_live_70, rfl⟩ (by decide) rfl rfl ?_
    obtain ⟨t19, hl20, hf⟩ := b_s hf
    refine y_wk (L2 := [some (.ref 56), some (.int x1), some (.int x2), some (.int 0), none, none]) ⟨Or.inr rfl, Or.inr rfl, Or.inr rfl, Or.inr rfl, Or.inr rfl, Or.inr rfl, trivial⟩ (wl_wo_live_71 x1 x2 0 M hl20 ?_)
    show mW mX10_live 6 Q 166 [some (.ref 56), some (.int x1), some (.int x2), none, none, none] [] t19
    refine y_iinc (i := 2) (n := 169) (b := (x2 + 1)) (L2 := [some (.ref 56), some (.int x1), some (.int (x2 + 1)), none, none, none]) ⟨dX10_live_166, rfl⟩ rfl (by rw [ki_1]) (by decide) rfl rfl ?_
    refine y_goto (t := 58) ⟨dX10_live_169, rfl, rfl⟩ ?_
    cases hf
    exact y_wk (L2 := [some (.ref 56), some (.int x1), some (.int (x2 + 1)), none, none, none]) ⟨Or.inr rfl, Or.inr rfl, Or.inr rfl, Or.inr rfl, Or.inr rfl, Or.inr rfl, trivial⟩ hk
theorem wl_wo_live_58 (x1 : Int32) (x2 : Int32) (M : dM) {Q : mz_P} {x : dM} (hf : l_wo_live_58 x1 x2 M = some x) (hk : K_wo_live_58 Q x1 (.inr x)) : mW mX10_live 6 Q 58 [some (.ref 56), some (.int x1), some (.int x2), none, none, none] [] M :=
  lpc_wp (σ := (Int32 × dM)) (ξ := dM) (s := (x2, M)) (Wh := fun s => mW mX10_live 6 Q 58 [some (.ref 56), some (.int x1), some (.int s.1), none, none, none] [] s.2) (K := K_wo_live_58 Q x1) (fun _ h => h) (fun s o hb hk => w_b_wo_live_58_58 x1 s.1 s.2 hb hk) hf hk
theorem ok_wo_live (a1 : Int32) (M : dM) {o : dM} (hf : f_wo_live a1 M = some o) : mO mX10_live 6 [.ref 56, .int a1] M none o := by
  refine y_ok (by decide +kernel) (Nat.le_of_ble_eq_true rfl) (L0 := [some (.ref 56), some (.int a1), none, none, none, none]) rfl ?_
  have hk := mR_mQ none o
  generalize mQ _ _ = Q at hk ⊢
  unfold f_wo_live at hf
  refine y_aload_n (i := 0) (n := 1) ⟨dX10_live_0, rfl⟩ rfl ?_
  refine y_getI (n := 4) ⟨dX10_live_1, rfl⟩ kfX10_36 l_56 rfl ?_
  refine y_iload_n (i := 1) (n := 5) ⟨dX10_live_4, rfl⟩ rfl ?_
  refine y_icmp_ne (t := 9) (n := 8) ⟨dX10_live_5, rfl, rfl⟩ (fun (hc : ¬ ((gI M 56 14) = a1)) => ?_) (fun (hc : (gI M 56 14) = a1) => ?_)
  · replace hf := i_f hc hf
    refine y_aload_n (i := 0) (n := 10) ⟨dX10_live_9, rfl⟩ rfl ?_
    refine y_getR (n := 13) ⟨dX10_live_10, rfl⟩ kfX10_47 l_56 rfl r_56_1 ?_
    obtain ⟨q1, hv2, hf⟩ := b_s hf
    refine c_li_weigh M (n := 16) ⟨dX10_live_13, rfl⟩ klX10_72 hv2 (by decide) (Nat.le_of_ble_eq_true rfl) rfl rfl ?_
    refine y_aload_n (i := 0) (n := 17) ⟨dX10_live_16, rfl⟩ rfl ?_
    refine y_iload_n (i := 1) (n := 18) ⟨dX10_live_17, rfl⟩ rfl ?_
    refine y_i2l (n := 19) ⟨dX10_live_18, rfl⟩ ?_
    refine y_putJ (n := 22) ⟨dX10_live_19, rfl⟩ kfX10_77 l_56 (by decide +kernel) rfl ?_
    refine y_aload_n (i := 0) (n := 23) ⟨dX10_live_22, rfl⟩ rfl ?_
    refine y_iconst (n := 24) (v := 0) ⟨dX10_live_23, rfl⟩ ki_0 ?_
    refine y_putI (n := 27) ⟨dX10_live_24, rfl⟩ kfX10_81 l_56 (by decide +kernel) rfl ?_
    refine y_aload_n (i := 0) (n := 28) ⟨dX10_live_27, rfl⟩ rfl ?_
    refine y_iconst (n := 29) (v := (-1)) ⟨dX10_live_28, rfl⟩ ki_m1 ?_
    refine y_putI (n := 32) ⟨dX10_live_29, rfl⟩ kfX10_84 l_56 (by decide +kernel) rfl ?_
    refine y_aload_n (i := 0) (n := 33) ⟨dX10_live_32, rfl⟩ rfl ?_
    refine y_getR (n := 36) ⟨dX10_live_33, rfl⟩ kfX10_24 l_56 rfl r_56_7 ?_
    refine y_iconst (n := 37) (v := 0) ⟨dX10_live_36, rfl⟩ ki_0 ?_
    obtain ⟨q3, hv4, hf⟩ := b_s hf
    refine c_jd_fill_61 0 (sI (sI (sJ q1 56 8 a1.toInt64) 56 10 0) 56 13 (-1)) (n := 40) ⟨dX10_live_37, rfl⟩ klX10_87 hv4 (by decide) (Nat.le_of_ble_eq_true rfl) rfl rfl ?_
    refine y_aload_n (i := 0) (n := 41) ⟨dX10_live_40, rfl⟩ rfl ?_
    refine y_getR (n := 44) ⟨dX10_live_41, rfl⟩ kfX10_30 l_56 rfl r_56_11 ?_
    refine y_iconst (n := 45) (v := 0) ⟨dX10_live_44, rfl⟩ ki_0 ?_
    obtain ⟨q5, hv6, hf⟩ := b_s hf
    refine c_jd_fill_63 0 q3 (n := 48) ⟨dX10_live_45, rfl⟩ klX10_87 hv6 (by decide) (Nat.le_of_ble_eq_true rfl) rfl rfl ?_
    refine y_aload_n (i := 0) (n := 49) ⟨dX10_live_48, rfl⟩ rfl ?_
    refine y_getR (n := 52) ⟨dX10_live_49, rfl⟩ kfX10_33 l_56 rfl r_56_12 ?_
    refine y_iconst (n := 53) (v := 0) ⟨dX10_live_52, rfl⟩ ki_0 ?_
    obtain ⟨q7, hv8, hf⟩ := b_s hf
    refine c_jd_fill_64 0 q5 (n := 56) ⟨dX10_live_53, rfl⟩ klX10_87 hv8 (by decide) (Nat.le_of_ble_eq_true rfl) rfl rfl ?_
    refine y_iconst (n := 57) (v := 0) ⟨dX10_live_56, rfl⟩ ki_0 ?_
    refine y_istore_n (i := 2) (n := 58) (L2 := [some (.ref 56), some (.int a1), some (.int 0), none, none, none]) ⟨dX10_live_57, rfl⟩ (by decide) rfl rfl ?_
    obtain ⟨r24, hl23, hf⟩ := b_s hf
    cases hf
    exact y_wk (L2 := [some (.ref 56), some (.int a1), some (.int 0), none, none, none]) ⟨Or.inr rfl, Or.inr rfl, Or.inr rfl, Or.inr rfl, Or.inr rfl, Or.inr rfl, trivial⟩ (wl_wo_live_58 a1 0 q7 hl23 hk)
  · replace hf := i_t hc hf
    cases hf
    exact y_return (n := 9) ⟨dX10_live_8, rfl⟩ rfl hk
theorem c_wo_live (a1 : Int32) (M : dM) {o : dM} {y : mz_M} {d : Nat} {Q : mz_P} {pc n i : Nat} {L : List (Option Value)} {st : List Value} (h : mz_d y.2.1 pc n 3 (.invokevirtual i)) (hl : mz_ml y.1.cls i yX10_live) (hf : f_wo_live a1 M = some o) (hd : 6 + 1 ≤ d) (hsm : (st.map (fun v => v.category)).sum ≤ 8) (hLr : mz_rL 133 L = true) (hSr : mz_rS 133 st = true) (kk : mW y d Q n L st o) : mW y d Q pc L (.int a1 :: .ref 56 :: st) M :=
  y_callV kmX10_live kvX10_live l_56 (by decide +kernel) (by decide +kernel) h hl (ok_wo_live a1 M hf) (vs := [.int a1]) rfl rfl hd hsm hLr hSr kk
def K_wo_luckiest_6 (Q : mz_P)  (M : dM) : ((Int32 × Int32 × Int32) ⊕ Int32) → Prop
  | .inl s => mW mX10_luckiest 1 Q 6 [some (.ref 56), some (.int s.1), some (.int s.2.1), some (.int s.2.2)] [] M
  | .inr r => mR Q (some (.int r)) M
noncomputable def b_wo_luckiest_6_6 (x1 : Int32) (x2 : Int32) (x3 : Int32) (M : dM) : Option ((Int32 × Int32 × Int32) ⊕ Int32) :=
  if 10 ≤ x3 then
    some (.inr x1)
  else
    gd (vp_in x3 10) <|
    if (gI M 64 x3.toNatClampNeg) ≤ x2 then
      some (.inl (x1, x2, (x3 + 1)))
    else
      some (.inl (x3, (gI M 64 x3.toNatClampNeg), (x3 + 1)))
noncomputable def l_wo_luckiest_6 (x1 : Int32) (x2 : Int32) (x3 : Int32) (M : dM) : Option Int32 := lpc (fun s => b_wo_luckiest_6_6 s.1 s.2.1 s.2.2 M) (x1, x2, x3)
noncomputable def f_wo_luckiest (M : dM) : Option Int32 :=
  (l_wo_luckiest_6 (-1) 0 0 M).bind fun r4 => some r4
theorem w_b_wo_luckiest_6_6 (x1 : Int32) (x2 : Int32) (x3 : Int32)  (M : dM) {Q : mz_P} {o : ((Int32 × Int32 × Int32) ⊕ Int32)} (hf : b_wo_luckiest_6_6 x1 x2 x3 M = some o) (hk : K_wo_luckiest_6 Q  M o) : mW mX10_luckiest 1 Q 6 [some (.ref 56), some (.int x1), some (.int x2), some (.int x3)] [] M := by
  unfold b_wo_luckiest_6_6 at hf
  refine y_iload_n (i := 3) (n := 7) ⟨dX10_luckiest_6, rfl⟩ rfl ?_
  refine y_bipush (n := 9) (v := 10) ⟨dX10_luckiest_7, rfl⟩ kb_10 ?_
  refine y_icmp_ge (t := 37) (n := 12) ⟨dX10_luckiest_9, rfl, rfl⟩ (fun (hc : 10 ≤ x3) => ?_) (fun (hc : ¬ (10 ≤ x3)) => ?_)
  · replace hf := i_t hc hf
    refine y_iload_n (i := 1) (n := 38) ⟨dX10_luckiest_37, rfl⟩ rfl ?_
    cases hf
    exact y_ireturn (n := 39) ⟨dX10_luckiest_38, rfl⟩ rfl rfl hk
  · replace hf := i_f hc hf
    refine y_aload_n (i := 0) (n := 13) ⟨dX10_luckiest_12, rfl⟩ rfl ?_
    refine y_getR (n := 16) ⟨dX10_luckiest_13, rfl⟩ kfX10_33 l_56 rfl r_56_12 ?_
    refine y_iload_n (i := 3) (n := 17) ⟨dX10_luckiest_16, rfl⟩ rfl ?_
    obtain ⟨hg1, hf⟩ := g_s hf
    refine y_iaload (n := 18) ⟨dX10_luckiest_17, rfl⟩ l_64 hg1 ?_
    refine y_iload_n (i := 2) (n := 19) ⟨dX10_luckiest_18, rfl⟩ rfl ?_
    refine y_icmp_le (t := 31) (n := 22) ⟨dX10_luckiest_19, rfl, rfl⟩ (fun (hc : (gI M 64 x3.toNatClampNeg) ≤ x2) => ?_) (fun (hc : ¬ ((gI M 64 x3.toNatClampNeg) ≤ x2)) => ?_)
    · replace hf := i_t hc hf
      refine y_iinc (i := 3) (n := 34) (b := (x3 + 1)) (L2 := [some (.ref 56), some (.int x1), some (.int x2), some (.int (x3 + 1))]) ⟨dX10_luckiest_31, rfl⟩ rfl (by rw [ki_1]) (by decide) rfl rfl ?_
      refine y_goto (t := 6) ⟨dX10_luckiest_34, rfl, rfl⟩ ?_
      cases hf
      exact y_wk (L2 := [some (.ref 56), some (.int x1), some (.int x2), some (.int (x3 + 1))]) ⟨Or.inr rfl, Or.inr rfl, Or.inr rfl, Or.inr rfl, trivial⟩ hk
    · replace hf := i_f hc hf
      refine y_aload_n (i := 0) (n := 23) ⟨dX10_luckiest_22, rfl⟩ rfl ?_
      refine y_getR (n := 26) ⟨dX10_luckiest_23, rfl⟩ kfX10_33 l_56 rfl r_56_12 ?_
      refine y_iload_n (i := 3) (n := 27) ⟨dX10_luckiest_26, rfl⟩ rfl ?_
      refine y_iaload (n := 28) ⟨dX10_luckiest_27, rfl⟩ l_64 hg1 ?_
      refine y_istore_n (i := 2) (n := 29) (L2 := [some (.ref 56), some (.int x1), some (.int (gI M 64 x3.toNatClampNeg)), some (.int x3)]) ⟨dX10_luckiest_28, rfl⟩ (by decide) rfl rfl ?_
      refine y_iload_n (i := 3) (n := 30) ⟨dX10_luckiest_29, rfl⟩ rfl ?_
      refine y_istore_n (i := 1) (n := 31) (L2 := [some (.ref 56), some (.int x3), some (.int (gI M 64 x3.toNatClampNeg)), some (.int x3)]) ⟨dX10_luckiest_30, rfl⟩ (by decide) rfl rfl ?_
      refine y_iinc (i := 3) (n := 34) (b := (x3 + 1)) (L2 := [some (.ref 56), some (.int x3), some (.int (gI M 64 x3.toNatClampNeg)), some (.int (x3 + 1))]) ⟨dX10_luckiest_31, rfl⟩ rfl (by rw [ki_1]) (by decide) rfl rfl ?_
      refine y_goto (t := 6) ⟨dX10_luckiest_34, rfl, rfl⟩ ?_
      cases hf
      exact y_wk (L2 := [some (.ref 56), some (.int x3), some (.int (gI M 64 x3.toNatClampNeg)), some (.int (x3 + 1))]) ⟨Or.inr rfl, Or.inr rfl, Or.inr rfl, Or.inr rfl, trivial⟩ hk
theorem wl_wo_luckiest_6 (x1 : Int32) (x2 : Int32) (x3 : Int32) (M : dM) {Q : mz_P} {x : Int32} (hf : l_wo_luckiest_6 x1 x2 x3 M = some x) (hk : K_wo_luckiest_6 Q  M (.inr x)) : mW mX10_luckiest 1 Q 6 [some (.ref 56), some (.int x1), some (.int x2), some (.int x3)] [] M :=
  lpc_wp (σ := (Int32 × Int32 × Int32)) (ξ := Int32) (s := (x1, x2, x3)) (Wh := fun s => mW mX10_luckiest 1 Q 6 [some (.ref 56), some (.int s.1), some (.int s.2.1), some (.int s.2.2)] [] M) (K := K_wo_luckiest_6 Q  M) (fun _ h => h) (fun s o hb hk => w_b_wo_luckiest_6_6 s.1 s.2.1 s.2.2 M hb hk) hf hk
theorem ok_wo_luckiest  (M : dM) {o : Int32} (hf : f_wo_luckiest M = some o) : mO mX10_luckiest 1 [.ref 56] M (some (.int o)) M := by
  refine y_ok (by decide +kernel) (Nat.le_of_ble_eq_true rfl) (L0 := [some (.ref 56), none, none, none]) rfl ?_
  have hk := mR_mQ (some (.int o)) M
  generalize mQ _ _ = Q at hk ⊢
  unfold f_wo_luckiest at hf
  refine y_iconst (n := 1) (v := (-1)) ⟨dX10_luckiest_0, rfl⟩ ki_m1 ?_
  refine y_istore_n (i := 1) (n := 2) (L2 := [some (.ref 56), some (.int (-1)), none, none]) ⟨dX10_luckiest_1, rfl⟩ (by decide) rfl rfl ?_
  refine y_iconst (n := 3) (v := 0) ⟨dX10_luckiest_2, rfl⟩ ki_0 ?_
  refine y_istore_n (i := 2) (n := 4) (L2 := [some (.ref 56), some (.int (-1)), some (.int 0), none]) ⟨dX10_luckiest_3, rfl⟩ (by decide) rfl rfl ?_
  refine y_iconst (n := 5) (v := 0) ⟨dX10_luckiest_4, rfl⟩ ki_0 ?_
  refine y_istore_n (i := 3) (n := 6) (L2 := [some (.ref 56), some (.int (-1)), some (.int 0), some (.int 0)]) ⟨dX10_luckiest_5, rfl⟩ (by decide) rfl rfl ?_
  obtain ⟨r4, hl3, hf⟩ := b_s hf
  cases hf
  exact y_wk (L2 := [some (.ref 56), some (.int (-1)), some (.int 0), some (.int 0)]) ⟨Or.inr rfl, Or.inr rfl, Or.inr rfl, Or.inr rfl, trivial⟩ (wl_wo_luckiest_6 (-1) 0 0 M hl3 hk)
theorem c_wo_luckiest  (M : dM) {o : Int32} {y : mz_M} {d : Nat} {Q : mz_P} {pc n i : Nat} {L : List (Option Value)} {st : List Value} (h : mz_d y.2.1 pc n 3 (.invokevirtual i)) (hl : mz_ml y.1.cls i yX10_luckiest) (hf : f_wo_luckiest M = some o) (hd : 1 + 1 ≤ d) (hsm : (st.map (fun v => v.category)).sum ≤ 8) (hLr : mz_rL 133 L = true) (hSr : mz_rS 133 st = true) (kk : mW y d Q n L (.int o :: st) M) : mW y d Q pc L (.ref 56 :: st) M :=
  y_callV kmX10_luckiest kvX10_luckiest l_56 (by decide +kernel) (by decide +kernel) h hl (ok_wo_luckiest  M hf) (vs := []) rfl rfl hd hsm hLr hSr kk
def K_wo_leftOver_4 (Q : mz_P)  (M : dM) : ((Int32 × Int32) ⊕ Int32) → Prop
  | .inl s => mW mX10_leftOver 1 Q 4 [some (.ref 56), some (.int s.1), some (.int s.2)] [] M
  | .inr r => mR Q (some (.int r)) M
noncomputable def b_wo_leftOver_4_4 (x1 : Int32) (x2 : Int32) (M : dM) : Option ((Int32 × Int32) ⊕ Int32) :=
  if 8 ≤ x2 then
    some (.inr x1)
  else
    gd (vp_in x2 8) <|
    some (.inl ((x1 + (gI M 61 x2.toNatClampNeg)), (x2 + 1)))
noncomputable def l_wo_leftOver_4 (x1 : Int32) (x2 : Int32) (M : dM) : Option Int32 := lpc (fun s => b_wo_leftOver_4_4 s.1 s.2 M) (x1, x2)
noncomputable def f_wo_leftOver (M : dM) : Option Int32 :=
  (l_wo_leftOver_4 0 0 M).bind fun r4 => some r4
theorem w_b_wo_leftOver_4_4 (x1 : Int32) (x2 : Int32)  (M : dM) {Q : mz_P} {o : ((Int32 × Int32) ⊕ Int32)} (hf : b_wo_leftOver_4_4 x1 x2 M = some o) (hk : K_wo_leftOver_4 Q  M o) : mW mX10_leftOver 1 Q 4 [some (.ref 56), some (.int x1), some (.int x2)] [] M := by
  unfold b_wo_leftOver_4_4 at hf
  refine y_iload_n (i := 2) (n := 5) ⟨dX10_leftOver_4, rfl⟩ rfl ?_
  refine y_bipush (n := 7) (v := 8) ⟨dX10_leftOver_5, rfl⟩ kb_8 ?_
  refine y_icmp_ge (t := 25) (n := 10) ⟨dX10_leftOver_7, rfl, rfl⟩ (fun (hc : 8 ≤ x2) => ?_) (fun (hc : ¬ (8 ≤ x2)) => ?_)
  · replace hf := i_t hc hf
    refine y_iload_n (i := 1) (n := 26) ⟨dX10_leftOver_25, rfl⟩ rfl ?_
    cases hf
    exact y_ireturn (n := 27) ⟨dX10_leftOver_26, rfl⟩ rfl rfl hk
  · replace hf := i_f hc hf
    refine y_iload_n (i := 1) (n := 11) ⟨dX10_leftOver_10, rfl⟩ rfl ?_
    refine y_aload_n (i := 0) (n := 12) ⟨dX10_leftOver_11, rfl⟩ rfl ?_
    refine y_getR (n := 15) ⟨dX10_leftOver_12, rfl⟩ kfX10_24 l_56 rfl r_56_7 ?_
    refine y_iload_n (i := 2) (n := 16) ⟨dX10_leftOver_15, rfl⟩ rfl ?_
    obtain ⟨hg1, hf⟩ := g_s hf
    refine y_iaload (n := 17) ⟨dX10_leftOver_16, rfl⟩ l_61 hg1 ?_
    refine y_iadd (n := 18) ⟨dX10_leftOver_17, rfl⟩ ?_
    refine y_istore_n (i := 1) (n := 19) (L2 := [some (.ref 56), some (.int (x1 + (gI M 61 x2.toNatClampNeg))), some (.int x2)]) ⟨dX10_leftOver_18, rfl⟩ (by decide) rfl rfl ?_
    refine y_iinc (i := 2) (n := 22) (b := (x2 + 1)) (L2 := [some (.ref 56), some (.int (x1 + (gI M 61 x2.toNatClampNeg))), some (.int (x2 + 1))]) ⟨dX10_leftOver_19, rfl⟩ rfl (by rw [ki_1]) (by decide) rfl rfl ?_
    refine y_goto (t := 4) ⟨dX10_leftOver_22, rfl, rfl⟩ ?_
    cases hf
    exact y_wk (L2 := [some (.ref 56), some (.int (x1 + (gI M 61 x2.toNatClampNeg))), some (.int (x2 + 1))]) ⟨Or.inr rfl, Or.inr rfl, Or.inr rfl, trivial⟩ hk
theorem wl_wo_leftOver_4 (x1 : Int32) (x2 : Int32) (M : dM) {Q : mz_P} {x : Int32} (hf : l_wo_leftOver_4 x1 x2 M = some x) (hk : K_wo_leftOver_4 Q  M (.inr x)) : mW mX10_leftOver 1 Q 4 [some (.ref 56), some (.int x1), some (.int x2)] [] M :=
  lpc_wp (σ := (Int32 × Int32)) (ξ := Int32) (s := (x1, x2)) (Wh := fun s => mW mX10_leftOver 1 Q 4 [some (.ref 56), some (.int s.1), some (.int s.2)] [] M) (K := K_wo_leftOver_4 Q  M) (fun _ h => h) (fun s o hb hk => w_b_wo_leftOver_4_4 s.1 s.2 M hb hk) hf hk
theorem ok_wo_leftOver  (M : dM) {o : Int32} (hf : f_wo_leftOver M = some o) : mO mX10_leftOver 1 [.ref 56] M (some (.int o)) M := by
  refine y_ok (by decide +kernel) (Nat.le_of_ble_eq_true rfl) (L0 := [some (.ref 56), none, none]) rfl ?_
  have hk := mR_mQ (some (.int o)) M
  generalize mQ _ _ = Q at hk ⊢
  unfold f_wo_leftOver at hf
  refine y_iconst (n := 1) (v := 0) ⟨dX10_leftOver_0, rfl⟩ ki_0 ?_
  refine y_istore_n (i := 1) (n := 2) (L2 := [some (.ref 56), some (.int 0), none]) ⟨dX10_leftOver_1, rfl⟩ (by decide) rfl rfl ?_
  refine y_iconst (n := 3) (v := 0) ⟨dX10_leftOver_2, rfl⟩ ki_0 ?_
  refine y_istore_n (i := 2) (n := 4) (L2 := [some (.ref 56), some (.int 0), some (.int 0)]) ⟨dX10_leftOver_3, rfl⟩ (by decide) rfl rfl ?_
  obtain ⟨r4, hl3, hf⟩ := b_s hf
  cases hf
  exact y_wk (L2 := [some (.ref 56), some (.int 0), some (.int 0)]) ⟨Or.inr rfl, Or.inr rfl, Or.inr rfl, trivial⟩ (wl_wo_leftOver_4 0 0 M hl3 hk)
theorem c_wo_leftOver  (M : dM) {o : Int32} {y : mz_M} {d : Nat} {Q : mz_P} {pc n i : Nat} {L : List (Option Value)} {st : List Value} (h : mz_d y.2.1 pc n 3 (.invokevirtual i)) (hl : mz_ml y.1.cls i yX10_leftOver) (hf : f_wo_leftOver M = some o) (hd : 1 + 1 ≤ d) (hsm : (st.map (fun v => v.category)).sum ≤ 8) (hLr : mz_rL 133 L = true) (hSr : mz_rS 133 st = true) (kk : mW y d Q n L (.int o :: st) M) : mW y d Q pc L (.ref 56 :: st) M :=
  y_callV kmX10_leftOver kvX10_leftOver l_56 (by decide +kernel) (by decide +kernel) h hl (ok_wo_leftOver  M hf) (vs := []) rfl rfl hd hsm hLr hSr kk
noncomputable def f_ax_world (a1 : Int32) (a2 : Int32) (M : dM) : Option (Int32 × dM) :=
  if (f_ax_within a1 10000) = true then
    if (f_ax_within a2 5) = true then
      (f_wo_live a1 M).bind fun q1 =>
      if a2 = 0 then
        some ((gI q1 63 0), q1)
      else
      if a2 = 1 then
        some ((gI q1 63 3), q1)
      else
      if a2 = 2 then
        (f_wo_leftOver q1).bind fun v3 =>
        some (v3, q1)
      else
      if a2 = 3 then
        (f_wo_luckiest q1).bind fun v5 =>
        some (v5, q1)
      else
      some ((gI q1 56 13), q1)
    else
      some ((-1), M)
  else
    some ((-1), M)
theorem ok_ax_world (a1 : Int32) (a2 : Int32) (M : dM) {o : (Int32 × dM)} (hf : f_ax_world a1 a2 M = some o) : mO mX11_world 7 [.ref 0, .int a1, .int a2] M (some (.int o.1)) o.2 := by
  refine y_ok (by decide +kernel) (Nat.le_of_ble_eq_true rfl) (L0 := [some (.ref 0), some (.int a1), some (.int a2)]) rfl ?_
  have hk := mR_mQ (some (.int o.1)) o.2
  generalize mQ _ _ = Q at hk ⊢
  unfold f_ax_world at hf
  refine y_iload_n (i := 1) (n := 1) ⟨dX11_world_0, rfl⟩ rfl ?_
  refine y_sipush (n := 4) (v := 10000) ⟨dX11_world_1, rfl⟩ ks_10000 ?_
  refine c_ax_within a1 10000 M (n := 7) ⟨dX11_world_4, rfl⟩ klX11_91 rfl (by decide) (Nat.le_of_ble_eq_true rfl) rfl rfl ?_
  refine y_if_eq (t := 18) (n := 10) ⟨dX11_world_7, rfl, rfl⟩ (fun h0 => ?_) (fun h0 => ?_)
  · have hc := bI_0 h0
    replace hf := i_f hc hf
    refine y_iconst (n := 19) (v := (-1)) ⟨dX11_world_18, rfl⟩ ki_m1 ?_
    cases hf
    exact y_ireturn (n := 20) ⟨dX11_world_19, rfl⟩ rfl rfl hk
  · have hc := bI_1 h0
    replace hf := i_t hc hf
    refine y_iload_n (i := 2) (n := 11) ⟨dX11_world_10, rfl⟩ rfl ?_
    refine y_iconst (n := 12) (v := 5) ⟨dX11_world_11, rfl⟩ ki_5 ?_
    refine c_ax_within a2 5 M (n := 15) ⟨dX11_world_12, rfl⟩ klX11_91 rfl (by decide) (Nat.le_of_ble_eq_true rfl) rfl rfl ?_
    refine y_if_ne (t := 20) (n := 18) ⟨dX11_world_15, rfl, rfl⟩ (fun h0 => ?_) (fun h0 => ?_)
    · have hc := bI_1 h0
      replace hf := i_t hc hf
      refine y_aload_n (i := 0) (n := 21) ⟨dX11_world_20, rfl⟩ rfl ?_
      refine y_getR (n := 24) ⟨dX11_world_21, rfl⟩ kfX11_83 l_0 rfl r_0_9 ?_
      refine y_iload_n (i := 1) (n := 25) ⟨dX11_world_24, rfl⟩ rfl ?_
      obtain ⟨q1, hv2, hf⟩ := b_s hf
      refine c_wo_live a1 M (n := 28) ⟨dX11_world_25, rfl⟩ klX11_327 hv2 (by decide) (Nat.le_of_ble_eq_true rfl) rfl rfl ?_
      refine y_iload_n (i := 2) (n := 29) ⟨dX11_world_28, rfl⟩ rfl ?_
      by_cases hc0 : a2 = 0
      · replace hf := i_t hc0 hf
        refine y_tabIn (t := 60) (off := 31) dX11_world_29 (sw_lo hc0 (by decide)) (sw_hi hc0 (by decide)) (sw_at hc0 (by decide)) rfl ?_
        refine y_aload_n (i := 0) (n := 61) ⟨dX11_world_60, rfl⟩ rfl ?_
        refine y_getR (n := 64) ⟨dX11_world_61, rfl⟩ kfX11_83 l_0 rfl r_0_9 ?_
        refine y_getR (n := 67) ⟨dX11_world_64, rfl⟩ kfX11_330 l_56 rfl r_56_11 ?_
        refine y_iconst (n := 68) (v := 0) ⟨dX11_world_67, rfl⟩ ki_0 ?_
        refine y_iaload (n := 69) ⟨dX11_world_68, rfl⟩ l_63 (by unfold vp_in; decide) ?_
        cases hf
        exact y_ireturn (n := 70) ⟨dX11_world_69, rfl⟩ rfl rfl hk
      replace hf := i_f hc0 hf
      by_cases hc1 : a2 = 1
      · replace hf := i_t hc1 hf
        refine y_tabIn (t := 70) (off := 41) dX11_world_29 (sw_lo hc1 (by decide)) (sw_hi hc1 (by decide)) (sw_at hc1 (by decide)) rfl ?_
        refine y_aload_n (i := 0) (n := 71) ⟨dX11_world_70, rfl⟩ rfl ?_
        refine y_getR (n := 74) ⟨dX11_world_71, rfl⟩ kfX11_83 l_0 rfl r_0_9 ?_
        refine y_getR (n := 77) ⟨dX11_world_74, rfl⟩ kfX11_330 l_56 rfl r_56_11 ?_
        refine y_iconst (n := 78) (v := 3) ⟨dX11_world_77, rfl⟩ ki_3 ?_
        refine y_iaload (n := 79) ⟨dX11_world_78, rfl⟩ l_63 (by unfold vp_in; decide) ?_
        cases hf
        exact y_ireturn (n := 80) ⟨dX11_world_79, rfl⟩ rfl rfl hk
      replace hf := i_f hc1 hf
      by_cases hc2 : a2 = 2
      · replace hf := i_t hc2 hf
        refine y_tabIn (t := 80) (off := 51) dX11_world_29 (sw_lo hc2 (by decide)) (sw_hi hc2 (by decide)) (sw_at hc2 (by decide)) rfl ?_
        refine y_aload_n (i := 0) (n := 81) ⟨dX11_world_80, rfl⟩ rfl ?_
        refine y_getR (n := 84) ⟨dX11_world_81, rfl⟩ kfX11_83 l_0 rfl r_0_9 ?_
        obtain ⟨v3, hv4, hf⟩ := b_s hf
        refine c_wo_leftOver q1 (n := 87) ⟨dX11_world_84, rfl⟩ klX11_333 hv4 (by decide) (Nat.le_of_ble_eq_true rfl) rfl rfl ?_
        cases hf
        exact y_ireturn (n := 88) ⟨dX11_world_87, rfl⟩ rfl rfl hk
      replace hf := i_f hc2 hf
      by_cases hc3 : a2 = 3
      · replace hf := i_t hc3 hf
        refine y_tabIn (t := 88) (off := 59) dX11_world_29 (sw_lo hc3 (by decide)) (sw_hi hc3 (by decide)) (sw_at hc3 (by decide)) rfl ?_
        refine y_aload_n (i := 0) (n := 89) ⟨dX11_world_88, rfl⟩ rfl ?_
        refine y_getR (n := 92) ⟨dX11_world_89, rfl⟩ kfX11_83 l_0 rfl r_0_9 ?_
        obtain ⟨v5, hv6, hf⟩ := b_s hf
        refine c_wo_luckiest q1 (n := 95) ⟨dX11_world_92, rfl⟩ klX11_336 hv6 (by decide) (Nat.le_of_ble_eq_true rfl) rfl rfl ?_
        cases hf
        exact y_ireturn (n := 96) ⟨dX11_world_95, rfl⟩ rfl rfl hk
      replace hf := i_f hc3 hf
      refine y_tabOut (t := 96) dX11_world_29 (sw_out (lo := 0) (cs := [0, 1, 2, 3]) (by decide) (by decide) ⟨hc0, hc1, hc2, hc3, trivial⟩) rfl ?_
      refine y_aload_n (i := 0) (n := 97) ⟨dX11_world_96, rfl⟩ rfl ?_
      refine y_getR (n := 100) ⟨dX11_world_97, rfl⟩ kfX11_83 l_0 rfl r_0_9 ?_
      refine y_getI (n := 103) ⟨dX11_world_100, rfl⟩ kfX11_339 l_56 rfl ?_
      cases hf
      exact y_ireturn (n := 104) ⟨dX11_world_103, rfl⟩ rfl rfl hk
    · have hc := bI_0 h0
      replace hf := i_f hc hf
      refine y_iconst (n := 19) (v := (-1)) ⟨dX11_world_18, rfl⟩ ki_m1 ?_
      cases hf
      exact y_ireturn (n := 20) ⟨dX11_world_19, rfl⟩ rfl rfl hk
theorem c_ax_world (a1 : Int32) (a2 : Int32) (M : dM) {o : (Int32 × dM)} {y : mz_M} {d : Nat} {Q : mz_P} {pc n i : Nat} {L : List (Option Value)} {st : List Value} (h : mz_d y.2.1 pc n 3 (.invokevirtual i)) (hl : mz_ml y.1.cls i yX11_world) (hf : f_ax_world a1 a2 M = some o) (hd : 7 + 1 ≤ d) (hsm : (st.map (fun v => v.category)).sum ≤ 8) (hLr : mz_rL 133 L = true) (hSr : mz_rS 133 st = true) (kk : mW y d Q n L (.int o.1 :: st) o.2) : mW y d Q pc L (.int a2 :: .int a1 :: .ref 0 :: st) M :=
  y_callV kmX11_world kvX11_world l_0 (by decide +kernel) (by decide +kernel) h hl (ok_ax_world a1 a2 M hf) (vs := [.int a1, .int a2]) rfl rfl hd hsm hLr hSr kk
noncomputable def f_wo_partOf (a1 : Int32) (a2 : Int32) (M : dM) : Option Int32 :=
  gd (vp_in a1 1920) <|
  if a2 = 0 then
    some ((gI M 62 a1.toNatClampNeg) &&& 1)
  else
  if a2 = 1 then
    some (((gI M 62 a1.toNatClampNeg) >>> ((1 : Int32) &&& 31)) &&& 255)
  else
  if a2 = 2 then
    some (((gI M 62 a1.toNatClampNeg) >>> ((9 : Int32) &&& 31)) &&& 15)
  else
  if a2 = 3 then
    some (((gI M 62 a1.toNatClampNeg) >>> ((13 : Int32) &&& 31)) &&& 15)
  else
  if a2 = 4 then
    some (((gI M 62 a1.toNatClampNeg) >>> ((17 : Int32) &&& 31)) &&& 127)
  else
  some (((gI M 62 a1.toNatClampNeg) >>> ((24 : Int32) &&& 31)) &&& 3)
theorem ok_wo_partOf (a1 : Int32) (a2 : Int32) (M : dM) {o : Int32} (hf : f_wo_partOf a1 a2 M = some o) : mO mX10_partOf 1 [.ref 56, .int a1, .int a2] M (some (.int o)) M := by
  refine y_ok (by decide +kernel) (Nat.le_of_ble_eq_true rfl) (L0 := [some (.ref 56), some (.int a1), some (.int a2), none]) rfl ?_
  have hk := mR_mQ (some (.int o)) M
  generalize mQ _ _ = Q at hk ⊢
  unfold f_wo_partOf at hf
  refine y_aload_n (i := 0) (n := 1) ⟨dX10_partOf_0, rfl⟩ rfl ?_
  refine y_getR (n := 4) ⟨dX10_partOf_1, rfl⟩ kfX10_27 l_56 rfl r_56_9 ?_
  refine y_iload_n (i := 1) (n := 5) ⟨dX10_partOf_4, rfl⟩ rfl ?_
  obtain ⟨hg1, hf⟩ := g_s hf
  refine y_iaload (n := 6) ⟨dX10_partOf_5, rfl⟩ l_62 hg1 ?_
  refine y_istore_n (i := 3) (n := 7) (L2 := [some (.ref 56), some (.int a1), some (.int a2), some (.int (gI M 62 a1.toNatClampNeg))]) ⟨dX10_partOf_6, rfl⟩ (by decide) rfl rfl ?_
  refine y_iload_n (i := 2) (n := 8) ⟨dX10_partOf_7, rfl⟩ rfl ?_
  by_cases hc0 : a2 = 0
  · replace hf := i_t hc0 hf
    refine y_tabIn (t := 44) (off := 36) dX10_partOf_8 (sw_lo hc0 (by decide)) (sw_hi hc0 (by decide)) (sw_at hc0 (by decide)) rfl ?_
    refine y_iload_n (i := 3) (n := 45) ⟨dX10_partOf_44, rfl⟩ rfl ?_
    refine y_iconst (n := 46) (v := 1) ⟨dX10_partOf_45, rfl⟩ ki_1 ?_
    refine y_iand (n := 47) ⟨dX10_partOf_46, rfl⟩ ?_
    cases hf
    exact y_ireturn (n := 48) ⟨dX10_partOf_47, rfl⟩ rfl rfl hk
  replace hf := i_f hc0 hf
  by_cases hc1 : a2 = 1
  · replace hf := i_t hc1 hf
    refine y_tabIn (t := 48) (off := 40) dX10_partOf_8 (sw_lo hc1 (by decide)) (sw_hi hc1 (by decide)) (sw_at hc1 (by decide)) rfl ?_
    refine y_iload_n (i := 3) (n := 49) ⟨dX10_partOf_48, rfl⟩ rfl ?_
    refine y_iconst (n := 50) (v := 1) ⟨dX10_partOf_49, rfl⟩ ki_1 ?_
    refine y_ishr (n := 51) ⟨dX10_partOf_50, rfl⟩ ?_
    refine y_sipush (n := 54) (v := 255) ⟨dX10_partOf_51, rfl⟩ ks_255 ?_
    refine y_iand (n := 55) ⟨dX10_partOf_54, rfl⟩ ?_
    cases hf
    exact y_ireturn (n := 56) ⟨dX10_partOf_55, rfl⟩ rfl rfl hk
  replace hf := i_f hc1 hf
  by_cases hc2 : a2 = 2
  · replace hf := i_t hc2 hf
    refine y_tabIn (t := 56) (off := 48) dX10_partOf_8 (sw_lo hc2 (by decide)) (sw_hi hc2 (by decide)) (sw_at hc2 (by decide)) rfl ?_
    refine y_iload_n (i := 3) (n := 57) ⟨dX10_partOf_56, rfl⟩ rfl ?_
    refine y_bipush (n := 59) (v := 9) ⟨dX10_partOf_57, rfl⟩ kb_9 ?_
    refine y_ishr (n := 60) ⟨dX10_partOf_59, rfl⟩ ?_
    refine y_bipush (n := 62) (v := 15) ⟨dX10_partOf_60, rfl⟩ kb_15 ?_
    refine y_iand (n := 63) ⟨dX10_partOf_62, rfl⟩ ?_
    cases hf
    exact y_ireturn (n := 64) ⟨dX10_partOf_63, rfl⟩ rfl rfl hk
  replace hf := i_f hc2 hf
  by_cases hc3 : a2 = 3
  · replace hf := i_t hc3 hf
    refine y_tabIn (t := 64) (off := 56) dX10_partOf_8 (sw_lo hc3 (by decide)) (sw_hi hc3 (by decide)) (sw_at hc3 (by decide)) rfl ?_
    refine y_iload_n (i := 3) (n := 65) ⟨dX10_partOf_64, rfl⟩ rfl ?_
    refine y_bipush (n := 67) (v := 13) ⟨dX10_partOf_65, rfl⟩ kb_13 ?_
    refine y_ishr (n := 68) ⟨dX10_partOf_67, rfl⟩ ?_
    refine y_bipush (n := 70) (v := 15) ⟨dX10_partOf_68, rfl⟩ kb_15 ?_
    refine y_iand (n := 71) ⟨dX10_partOf_70, rfl⟩ ?_
    cases hf
    exact y_ireturn (n := 72) ⟨dX10_partOf_71, rfl⟩ rfl rfl hk
  replace hf := i_f hc3 hf
  by_cases hc4 : a2 = 4
  · replace hf := i_t hc4 hf
    refine y_tabIn (t := 72) (off := 64) dX10_partOf_8 (sw_lo hc4 (by decide)) (sw_hi hc4 (by decide)) (sw_at hc4 (by decide)) rfl ?_
    refine y_iload_n (i := 3) (n := 73) ⟨dX10_partOf_72, rfl⟩ rfl ?_
    refine y_bipush (n := 75) (v := 17) ⟨dX10_partOf_73, rfl⟩ kb_17 ?_
    refine y_ishr (n := 76) ⟨dX10_partOf_75, rfl⟩ ?_
    refine y_bipush (n := 78) (v := 127) ⟨dX10_partOf_76, rfl⟩ kb_127 ?_
    refine y_iand (n := 79) ⟨dX10_partOf_78, rfl⟩ ?_
    cases hf
    exact y_ireturn (n := 80) ⟨dX10_partOf_79, rfl⟩ rfl rfl hk
  replace hf := i_f hc4 hf
  refine y_tabOut (t := 80) dX10_partOf_8 (sw_out (lo := 0) (cs := [0, 1, 2, 3, 4]) (by decide) (by decide) ⟨hc0, hc1, hc2, hc3, hc4, trivial⟩) rfl ?_
  refine y_iload_n (i := 3) (n := 81) ⟨dX10_partOf_80, rfl⟩ rfl ?_
  refine y_bipush (n := 83) (v := 24) ⟨dX10_partOf_81, rfl⟩ kb_24 ?_
  refine y_ishr (n := 84) ⟨dX10_partOf_83, rfl⟩ ?_
  refine y_iconst (n := 85) (v := 3) ⟨dX10_partOf_84, rfl⟩ ki_3 ?_
  refine y_iand (n := 86) ⟨dX10_partOf_85, rfl⟩ ?_
  cases hf
  exact y_ireturn (n := 87) ⟨dX10_partOf_86, rfl⟩ rfl rfl hk
theorem c_wo_partOf (a1 : Int32) (a2 : Int32) (M : dM) {o : Int32} {y : mz_M} {d : Nat} {Q : mz_P} {pc n i : Nat} {L : List (Option Value)} {st : List Value} (h : mz_d y.2.1 pc n 3 (.invokevirtual i)) (hl : mz_ml y.1.cls i yX10_partOf) (hf : f_wo_partOf a1 a2 M = some o) (hd : 1 + 1 ≤ d) (hsm : (st.map (fun v => v.category)).sum ≤ 8) (hLr : mz_rL 133 L = true) (hSr : mz_rS 133 st = true) (kk : mW y d Q n L (.int o :: st) M) : mW y d Q pc L (.int a2 :: .int a1 :: .ref 56 :: st) M :=
  y_callV kmX10_partOf kvX10_partOf l_56 (by decide +kernel) (by decide +kernel) h hl (ok_wo_partOf a1 a2 M hf) (vs := [.int a1, .int a2]) rfl rfl hd hsm hLr hSr kk
noncomputable def f_ax_found (a1 : Int32) (a2 : Int32) (a3 : Int32) (M : dM) : Option (Int32 × dM) :=
  if (f_ax_within a1 10000) = true then
    if (f_ax_within a3 6) = true then
      (f_wo_live a1 M).bind fun q1 =>
      if (f_ax_within a2 (gI q1 56 10)) = true then
        (f_wo_partOf a2 a3 q1).bind fun v3 =>
        some (v3, q1)
      else
        some ((-1), q1)
    else
      some ((-1), M)
  else
    some ((-1), M)
theorem ok_ax_found (a1 : Int32) (a2 : Int32) (a3 : Int32) (M : dM) {o : (Int32 × dM)} (hf : f_ax_found a1 a2 a3 M = some o) : mO mX11_found 7 [.ref 0, .int a1, .int a2, .int a3] M (some (.int o.1)) o.2 := by
  refine y_ok (by decide +kernel) (Nat.le_of_ble_eq_true rfl) (L0 := [some (.ref 0), some (.int a1), some (.int a2), some (.int a3)]) rfl ?_
  have hk := mR_mQ (some (.int o.1)) o.2
  generalize mQ _ _ = Q at hk ⊢
  unfold f_ax_found at hf
  refine y_iload_n (i := 1) (n := 1) ⟨dX11_found_0, rfl⟩ rfl ?_
  refine y_sipush (n := 4) (v := 10000) ⟨dX11_found_1, rfl⟩ ks_10000 ?_
  refine c_ax_within a1 10000 M (n := 7) ⟨dX11_found_4, rfl⟩ klX11_91 rfl (by decide) (Nat.le_of_ble_eq_true rfl) rfl rfl ?_
  refine y_if_eq (t := 19) (n := 10) ⟨dX11_found_7, rfl, rfl⟩ (fun h0 => ?_) (fun h0 => ?_)
  · have hc := bI_0 h0
    replace hf := i_f hc hf
    refine y_iconst (n := 20) (v := (-1)) ⟨dX11_found_19, rfl⟩ ki_m1 ?_
    cases hf
    exact y_ireturn (n := 21) ⟨dX11_found_20, rfl⟩ rfl rfl hk
  · have hc := bI_1 h0
    replace hf := i_t hc hf
    refine y_iload_n (i := 3) (n := 11) ⟨dX11_found_10, rfl⟩ rfl ?_
    refine y_bipush (n := 13) (v := 6) ⟨dX11_found_11, rfl⟩ kb_6 ?_
    refine c_ax_within a3 6 M (n := 16) ⟨dX11_found_13, rfl⟩ klX11_91 rfl (by decide) (Nat.le_of_ble_eq_true rfl) rfl rfl ?_
    refine y_if_ne (t := 21) (n := 19) ⟨dX11_found_16, rfl, rfl⟩ (fun h0 => ?_) (fun h0 => ?_)
    · have hc := bI_1 h0
      replace hf := i_t hc hf
      refine y_aload_n (i := 0) (n := 22) ⟨dX11_found_21, rfl⟩ rfl ?_
      refine y_getR (n := 25) ⟨dX11_found_22, rfl⟩ kfX11_83 l_0 rfl r_0_9 ?_
      refine y_iload_n (i := 1) (n := 26) ⟨dX11_found_25, rfl⟩ rfl ?_
      obtain ⟨q1, hv2, hf⟩ := b_s hf
      refine c_wo_live a1 M (n := 29) ⟨dX11_found_26, rfl⟩ klX11_327 hv2 (by decide) (Nat.le_of_ble_eq_true rfl) rfl rfl ?_
      refine y_iload_n (i := 2) (n := 30) ⟨dX11_found_29, rfl⟩ rfl ?_
      refine y_aload_n (i := 0) (n := 31) ⟨dX11_found_30, rfl⟩ rfl ?_
      refine y_getR (n := 34) ⟨dX11_found_31, rfl⟩ kfX11_83 l_0 rfl r_0_9 ?_
      refine y_getI (n := 37) ⟨dX11_found_34, rfl⟩ kfX11_342 l_56 rfl ?_
      refine c_ax_within a2 (gI q1 56 10) q1 (n := 40) ⟨dX11_found_37, rfl⟩ klX11_91 rfl (by decide) (Nat.le_of_ble_eq_true rfl) rfl rfl ?_
      refine y_if_eq (t := 55) (n := 43) ⟨dX11_found_40, rfl, rfl⟩ (fun h0 => ?_) (fun h0 => ?_)
      · have hc := bI_0 h0
        replace hf := i_f hc hf
        refine y_iconst (n := 56) (v := (-1)) ⟨dX11_found_55, rfl⟩ ki_m1 ?_
        cases hf
        exact y_ireturn (n := 57) ⟨dX11_found_56, rfl⟩ rfl rfl hk
      · have hc := bI_1 h0
        replace hf := i_t hc hf
        refine y_aload_n (i := 0) (n := 44) ⟨dX11_found_43, rfl⟩ rfl ?_
        refine y_getR (n := 47) ⟨dX11_found_44, rfl⟩ kfX11_83 l_0 rfl r_0_9 ?_
        refine y_iload_n (i := 2) (n := 48) ⟨dX11_found_47, rfl⟩ rfl ?_
        refine y_iload_n (i := 3) (n := 49) ⟨dX11_found_48, rfl⟩ rfl ?_
        obtain ⟨v3, hv4, hf⟩ := b_s hf
        refine c_wo_partOf a2 a3 q1 (n := 52) ⟨dX11_found_49, rfl⟩ klX11_343 hv4 (by decide) (Nat.le_of_ble_eq_true rfl) rfl rfl ?_
        refine y_goto (t := 56) ⟨dX11_found_52, rfl, rfl⟩ ?_
        cases hf
        exact y_ireturn (n := 57) ⟨dX11_found_56, rfl⟩ rfl rfl hk
    · have hc := bI_0 h0
      replace hf := i_f hc hf
      refine y_iconst (n := 20) (v := (-1)) ⟨dX11_found_19, rfl⟩ ki_m1 ?_
      cases hf
      exact y_ireturn (n := 21) ⟨dX11_found_20, rfl⟩ rfl rfl hk
theorem c_ax_found (a1 : Int32) (a2 : Int32) (a3 : Int32) (M : dM) {o : (Int32 × dM)} {y : mz_M} {d : Nat} {Q : mz_P} {pc n i : Nat} {L : List (Option Value)} {st : List Value} (h : mz_d y.2.1 pc n 3 (.invokevirtual i)) (hl : mz_ml y.1.cls i yX11_found) (hf : f_ax_found a1 a2 a3 M = some o) (hd : 7 + 1 ≤ d) (hsm : (st.map (fun v => v.category)).sum ≤ 8) (hLr : mz_rL 133 L = true) (hSr : mz_rS 133 st = true) (kk : mW y d Q n L (.int o.1 :: st) o.2) : mW y d Q pc L (.int a3 :: .int a2 :: .int a1 :: .ref 0 :: st) M :=
  y_callV kmX11_found kvX11_found l_0 (by decide +kernel) (by decide +kernel) h hl (ok_ax_found a1 a2 a3 M hf) (vs := [.int a1, .int a2, .int a3]) rfl rfl hd hsm hLr hSr kk
def K_wo_tallyOfFirst_5 (Q : mz_P) (x1 : Int32) (x2 : Int32) : ((Int32 × Int32 × dM) ⊕ (Int32 × dM)) → Prop
  | .inl s => mW mX10_tallyOfFirst 7 Q 5 [some (.ref 56), some (.int x1), some (.int x2), some (.int s.1), some (.int s.2.1)] [] s.2.2
  | .inr r => mR Q (some (.int r.1)) r.2
noncomputable def b_wo_tallyOfFirst_5_62 (x1 : Int32) (x2 : Int32) (x3 : Int32) (x4 : Int32) (M : dM) : Option ((Int32 × Int32 × dM) ⊕ (Int32 × dM)) :=
  gd (vp_in ((x4 * 14) + x2) 280) <|
  some (.inl ((x3 + (gI M 65 ((x4 * 14) + x2).toNatClampNeg)), (x4 + 1), M))
noncomputable def b_wo_tallyOfFirst_5_5 (x1 : Int32) (x2 : Int32) (x3 : Int32) (x4 : Int32) (M : dM) : Option ((Int32 × Int32 × dM) ⊕ (Int32 × dM)) :=
  if x1 ≤ x4 then
    some (.inr (x3, M))
  else
    if (f_ax_hasBit ((gI M 56 16).toInt64) x4) = true then
      b_wo_tallyOfFirst_5_62 x1 x2 x3 x4 M
    else
      (f_wo_live x4 M).bind fun q2 =>
      gd ((¬ (0 : Int32) < 0 ∧ ¬ (x4 * 14) < 0 ∧ ¬ (14 : Int32) < 0) ∧ (0 : Int32).toNatClampNeg + (14 : Int32).toNatClampNeg ≤ 14 ∧ (x4 * 14).toNatClampNeg + (14 : Int32).toNatClampNeg ≤ 280) <|
      b_wo_tallyOfFirst_5_62 x1 x2 x3 x4 (sI (cI q2 63 65 (0 : Int32).toNatClampNeg (x4 * 14).toNatClampNeg (14 : Int32).toNatClampNeg) 56 16 ((gI (cI q2 63 65 (0 : Int32).toNatClampNeg (x4 * 14).toNatClampNeg (14 : Int32).toNatClampNeg) 56 16) ||| ((1 : Int32) <<< (x4 &&& 31))))
noncomputable def l_wo_tallyOfFirst_5 (x1 : Int32) (x2 : Int32) (x3 : Int32) (x4 : Int32) (M : dM) : Option (Int32 × dM) := lpc (fun s => b_wo_tallyOfFirst_5_5 x1 x2 s.1 s.2.1 s.2.2) (x3, x4, M)
noncomputable def f_wo_tallyOfFirst (a1 : Int32) (a2 : Int32) (M : dM) : Option (Int32 × dM) :=
  (l_wo_tallyOfFirst_5 a1 a2 0 0 M).bind fun r7 => some r7
theorem w_b_wo_tallyOfFirst_5_62 (x1 : Int32) (x2 : Int32) (x3 : Int32) (x4 : Int32)  (M : dM) {Q : mz_P} {o : ((Int32 × Int32 × dM) ⊕ (Int32 × dM))} (hf : b_wo_tallyOfFirst_5_62 x1 x2 x3 x4 M = some o) (hk : K_wo_tallyOfFirst_5 Q x1 x2 o) : mW mX10_tallyOfFirst 7 Q 62 [some (.ref 56), some (.int x1), some (.int x2), some (.int x3), some (.int x4)] [] M := by
  unfold b_wo_tallyOfFirst_5_62 at hf
  refine y_iload_n (i := 3) (n := 63) ⟨dX10_tallyOfFirst_62, rfl⟩ rfl ?_
  refine y_aload_n (i := 0) (n := 64) ⟨dX10_tallyOfFirst_63, rfl⟩ rfl ?_
  refine y_getR (n := 67) ⟨dX10_tallyOfFirst_64, rfl⟩ kfX10_40 l_56 rfl r_56_15 ?_
  refine y_iload (i := 4) (n := 69) ⟨dX10_tallyOfFirst_67, rfl⟩ rfl ?_
  refine y_bipush (n := 71) (v := 14) ⟨dX10_tallyOfFirst_69, rfl⟩ kb_14 ?_
  refine y_imul (n := 72) ⟨dX10_tallyOfFirst_71, rfl⟩ ?_
  refine y_iload_n (i := 2) (n := 73) ⟨dX10_tallyOfFirst_72, rfl⟩ rfl ?_
  refine y_iadd (n := 74) ⟨dX10_tallyOfFirst_73, rfl⟩ ?_
  obtain ⟨hg1, hf⟩ := g_s hf
  refine y_iaload (n := 75) ⟨dX10_tallyOfFirst_74, rfl⟩ l_65 hg1 ?_
  refine y_iadd (n := 76) ⟨dX10_tallyOfFirst_75, rfl⟩ ?_
  refine y_istore_n (i := 3) (n := 77) (L2 := [some (.ref 56), some (.int x1), some (.int x2), some (.int (x3 + (gI M 65 ((x4 * 14) + x2).toNatClampNeg))), some (.int x4)]) ⟨dX10_tallyOfFirst_76, rfl⟩ (by decide) rfl rfl ?_
  refine y_iinc (i := 4) (n := 80) (b := (x4 + 1)) (L2 := [some (.ref 56), some (.int x1), some (.int x2), some (.int (x3 + (gI M 65 ((x4 * 14) + x2).toNatClampNeg))), some (.int (x4 + 1))]) ⟨dX10_tallyOfFirst_77, rfl⟩ rfl (by rw [ki_1]) (by decide) rfl rfl ?_
  refine y_goto (t := 5) ⟨dX10_tallyOfFirst_80, rfl, rfl⟩ ?_
  cases hf
  exact y_wk (L2 := [some (.ref 56), some (.int x1), some (.int x2), some (.int (x3 + (gI M 65 ((x4 * 14) + x2).toNatClampNeg))), some (.int (x4 + 1))]) ⟨Or.inr rfl, Or.inr rfl, Or.inr rfl, Or.inr rfl, Or.inr rfl, trivial⟩ hk
theorem w_b_wo_tallyOfFirst_5_5 (x1 : Int32) (x2 : Int32) (x3 : Int32) (x4 : Int32)  (M : dM) {Q : mz_P} {o : ((Int32 × Int32 × dM) ⊕ (Int32 × dM))} (hf : b_wo_tallyOfFirst_5_5 x1 x2 x3 x4 M = some o) (hk : K_wo_tallyOfFirst_5 Q x1 x2 o) : mW mX10_tallyOfFirst 7 Q 5 [some (.ref 56), some (.int x1), some (.int x2), some (.int x3), some (.int x4)] [] M := by
  unfold b_wo_tallyOfFirst_5_5 at hf
  refine y_iload (i := 4) (n := 7) ⟨dX10_tallyOfFirst_5, rfl⟩ rfl ?_
  refine y_iload_n (i := 1) (n := 8) ⟨dX10_tallyOfFirst_7, rfl⟩ rfl ?_
  refine y_icmp_ge (t := 83) (n := 11) ⟨dX10_tallyOfFirst_8, rfl, rfl⟩ (fun (hc : x1 ≤ x4) => ?_) (fun (hc : ¬ (x1 ≤ x4)) => ?_)
  · replace hf := i_t hc hf
    refine y_iload_n (i := 3) (n := 84) ⟨dX10_tallyOfFirst_83, rfl⟩ rfl ?_
    cases hf
    exact y_ireturn (n := 85) ⟨dX10_tallyOfFirst_84, rfl⟩ rfl rfl hk
  · replace hf := i_f hc hf
    refine y_aload_n (i := 0) (n := 12) ⟨dX10_tallyOfFirst_11, rfl⟩ rfl ?_
    refine y_getI (n := 15) ⟨dX10_tallyOfFirst_12, rfl⟩ kfX10_55 l_56 rfl ?_
    refine y_i2l (n := 16) ⟨dX10_tallyOfFirst_15, rfl⟩ ?_
    refine y_iload (i := 4) (n := 18) ⟨dX10_tallyOfFirst_16, rfl⟩ rfl ?_
    refine c_ax_hasBit ((gI M 56 16).toInt64) x4 M (n := 21) ⟨dX10_tallyOfFirst_18, rfl⟩ klX10_58 rfl (by decide) (Nat.le_of_ble_eq_true rfl) rfl rfl ?_
    refine y_if_ne (t := 62) (n := 24) ⟨dX10_tallyOfFirst_21, rfl, rfl⟩ (fun h0 => ?_) (fun h0 => ?_)
    · have hc := bI_1 h0
      replace hf := i_t hc hf
      exact y_wk (L2 := [some (.ref 56), some (.int x1), some (.int x2), some (.int x3), some (.int x4)]) ⟨Or.inr rfl, Or.inr rfl, Or.inr rfl, Or.inr rfl, Or.inr rfl, trivial⟩ (w_b_wo_tallyOfFirst_5_62 x1 x2 x3 x4 M hf hk)
    · have hc := bI_0 h0
      replace hf := i_f hc hf
      refine y_aload_n (i := 0) (n := 25) ⟨dX10_tallyOfFirst_24, rfl⟩ rfl ?_
      refine y_iload (i := 4) (n := 27) ⟨dX10_tallyOfFirst_25, rfl⟩ rfl ?_
      obtain ⟨q2, hv3, hf⟩ := b_s hf
      refine c_wo_live x4 M (n := 30) ⟨dX10_tallyOfFirst_27, rfl⟩ klX10_62 hv3 (by decide) (Nat.le_of_ble_eq_true rfl) rfl rfl ?_
      refine y_aload_n (i := 0) (n := 31) ⟨dX10_tallyOfFirst_30, rfl⟩ rfl ?_
      refine y_getR (n := 34) ⟨dX10_tallyOfFirst_31, rfl⟩ kfX10_30 l_56 rfl r_56_11 ?_
      refine y_iconst (n := 35) (v := 0) ⟨dX10_tallyOfFirst_34, rfl⟩ ki_0 ?_
      refine y_aload_n (i := 0) (n := 36) ⟨dX10_tallyOfFirst_35, rfl⟩ rfl ?_
      refine y_getR (n := 39) ⟨dX10_tallyOfFirst_36, rfl⟩ kfX10_40 l_56 rfl r_56_15 ?_
      refine y_iload (i := 4) (n := 41) ⟨dX10_tallyOfFirst_39, rfl⟩ rfl ?_
      refine y_bipush (n := 43) (v := 14) ⟨dX10_tallyOfFirst_41, rfl⟩ kb_14 ?_
      refine y_imul (n := 44) ⟨dX10_tallyOfFirst_43, rfl⟩ ?_
      refine y_bipush (n := 46) (v := 14) ⟨dX10_tallyOfFirst_44, rfl⟩ kb_14 ?_
      obtain ⟨hg4, hf⟩ := g_s hf
      refine y_copy (n := 49) ⟨dX10_tallyOfFirst_46, rfl⟩ (mz_in 1353 (by decide +kernel) (by decide +kernel)) kcopyN kcopyS kcopyI l_63 l_65 hg4.1.1 hg4.1.2.1 hg4.1.2.2 hg4.2.1 hg4.2.2 (by decide) (Nat.le_of_ble_eq_true rfl) ?_
      refine y_aload_n (i := 0) (n := 50) ⟨dX10_tallyOfFirst_49, rfl⟩ rfl ?_
      refine y_dup_r (n := 51) ⟨dX10_tallyOfFirst_50, rfl⟩ ?_
      refine y_getI (n := 54) ⟨dX10_tallyOfFirst_51, rfl⟩ kfX10_55 l_56 rfl ?_
      refine y_iconst (n := 55) (v := 1) ⟨dX10_tallyOfFirst_54, rfl⟩ ki_1 ?_
      refine y_iload (i := 4) (n := 57) ⟨dX10_tallyOfFirst_55, rfl⟩ rfl ?_
      refine y_ishl (n := 58) ⟨dX10_tallyOfFirst_57, rfl⟩ ?_
      refine y_ior (n := 59) ⟨dX10_tallyOfFirst_58, rfl⟩ ?_
      refine y_putI (n := 62) ⟨dX10_tallyOfFirst_59, rfl⟩ kfX10_55 l_56 (by decide +kernel) rfl ?_
      exact y_wk (L2 := [some (.ref 56), some (.int x1), some (.int x2), some (.int x3), some (.int x4)]) ⟨Or.inr rfl, Or.inr rfl, Or.inr rfl, Or.inr rfl, Or.inr rfl, trivial⟩ (w_b_wo_tallyOfFirst_5_62 x1 x2 x3 x4 (sI (cI q2 63 65 (0 : Int32).toNatClampNeg (x4 * 14).toNatClampNeg (14 : Int32).toNatClampNeg) 56 16 ((gI (cI q2 63 65 (0 : Int32).toNatClampNeg (x4 * 14).toNatClampNeg (14 : Int32).toNatClampNeg) 56 16) ||| ((1 : Int32) <<< (x4 &&& 31)))) hf hk)
theorem wl_wo_tallyOfFirst_5 (x1 : Int32) (x2 : Int32) (x3 : Int32) (x4 : Int32) (M : dM) {Q : mz_P} {x : (Int32 × dM)} (hf : l_wo_tallyOfFirst_5 x1 x2 x3 x4 M = some x) (hk : K_wo_tallyOfFirst_5 Q x1 x2 (.inr x)) : mW mX10_tallyOfFirst 7 Q 5 [some (.ref 56), some (.int x1), some (.int x2), some (.int x3), some (.int x4)] [] M :=
  lpc_wp (σ := (Int32 × Int32 × dM)) (ξ := (Int32 × dM)) (s := (x3, x4, M)) (Wh := fun s => mW mX10_tallyOfFirst 7 Q 5 [some (.ref 56), some (.int x1), some (.int x2), some (.int s.1), some (.int s.2.1)] [] s.2.2) (K := K_wo_tallyOfFirst_5 Q x1 x2) (fun _ h => h) (fun s o hb hk => w_b_wo_tallyOfFirst_5_5 x1 x2 s.1 s.2.1 s.2.2 hb hk) hf hk
theorem ok_wo_tallyOfFirst (a1 : Int32) (a2 : Int32) (M : dM) {o : (Int32 × dM)} (hf : f_wo_tallyOfFirst a1 a2 M = some o) : mO mX10_tallyOfFirst 7 [.ref 56, .int a1, .int a2] M (some (.int o.1)) o.2 := by
  refine y_ok (by decide +kernel) (Nat.le_of_ble_eq_true rfl) (L0 := [some (.ref 56), some (.int a1), some (.int a2), none, none]) rfl ?_
  have hk := mR_mQ (some (.int o.1)) o.2
  generalize mQ _ _ = Q at hk ⊢
  unfold f_wo_tallyOfFirst at hf
  refine y_iconst (n := 1) (v := 0) ⟨dX10_tallyOfFirst_0, rfl⟩ ki_0 ?_
  refine y_istore_n (i := 3) (n := 2) (L2 := [some (.ref 56), some (.int a1), some (.int a2), some (.int 0), none]) ⟨dX10_tallyOfFirst_1, rfl⟩ (by decide) rfl rfl ?_
  refine y_iconst (n := 3) (v := 0) ⟨dX10_tallyOfFirst_2, rfl⟩ ki_0 ?_
  refine y_istore (i := 4) (n := 5) (L2 := [some (.ref 56), some (.int a1), some (.int a2), some (.int 0), some (.int 0)]) ⟨dX10_tallyOfFirst_3, rfl⟩ (by decide) rfl rfl ?_
  obtain ⟨r7, hl6, hf⟩ := b_s hf
  cases hf
  exact y_wk (L2 := [some (.ref 56), some (.int a1), some (.int a2), some (.int 0), some (.int 0)]) ⟨Or.inr rfl, Or.inr rfl, Or.inr rfl, Or.inr rfl, Or.inr rfl, trivial⟩ (wl_wo_tallyOfFirst_5 a1 a2 0 0 M hl6 hk)
theorem c_wo_tallyOfFirst (a1 : Int32) (a2 : Int32) (M : dM) {o : (Int32 × dM)} {y : mz_M} {d : Nat} {Q : mz_P} {pc n i : Nat} {L : List (Option Value)} {st : List Value} (h : mz_d y.2.1 pc n 3 (.invokevirtual i)) (hl : mz_ml y.1.cls i yX10_tallyOfFirst) (hf : f_wo_tallyOfFirst a1 a2 M = some o) (hd : 7 + 1 ≤ d) (hsm : (st.map (fun v => v.category)).sum ≤ 8) (hLr : mz_rL 133 L = true) (hSr : mz_rS 133 st = true) (kk : mW y d Q n L (.int o.1 :: st) o.2) : mW y d Q pc L (.int a2 :: .int a1 :: .ref 56 :: st) M :=
  y_callV kmX10_tallyOfFirst kvX10_tallyOfFirst l_56 (by decide +kernel) (by decide +kernel) h hl (ok_wo_tallyOfFirst a1 a2 M hf) (vs := [.int a1, .int a2]) rfl rfl hd hsm hLr hSr kk
noncomputable def f_ax_rates (a1 : Int32) (a2 : Int32) (M : dM) : Option (Int32 × dM) :=
  if a1 < 1 then
    some ((-1), M)
  else
    if 20 < a1 then
      some ((-1), M)
    else
      if (f_ax_within a2 6) = true then
        (f_wo_tallyOfFirst a1 a2 M).bind fun q1 =>
        some (q1.1, q1.2)
      else
        some ((-1), M)
theorem ok_ax_rates (a1 : Int32) (a2 : Int32) (M : dM) {o : (Int32 × dM)} (hf : f_ax_rates a1 a2 M = some o) : mO mX11_rates 8 [.ref 0, .int a1, .int a2] M (some (.int o.1)) o.2 := by
  refine y_ok (by decide +kernel) (Nat.le_of_ble_eq_true rfl) (L0 := [some (.ref 0), some (.int a1), some (.int a2)]) rfl ?_
  have hk := mR_mQ (some (.int o.1)) o.2
  generalize mQ _ _ = Q at hk ⊢
  unfold f_ax_rates at hf
  refine y_iload_n (i := 1) (n := 1) ⟨dX11_rates_0, rfl⟩ rfl ?_
  refine y_iconst (n := 2) (v := 1) ⟨dX11_rates_1, rfl⟩ ki_1 ?_
  refine y_icmp_lt (t := 20) (n := 5) ⟨dX11_rates_2, rfl, rfl⟩ (fun (hc : a1 < 1) => ?_) (fun (hc : ¬ (a1 < 1)) => ?_)
  · replace hf := i_t hc hf
    refine y_iconst (n := 21) (v := (-1)) ⟨dX11_rates_20, rfl⟩ ki_m1 ?_
    cases hf
    exact y_ireturn (n := 22) ⟨dX11_rates_21, rfl⟩ rfl rfl hk
  · replace hf := i_f hc hf
    refine y_iload_n (i := 1) (n := 6) ⟨dX11_rates_5, rfl⟩ rfl ?_
    refine y_bipush (n := 8) (v := 20) ⟨dX11_rates_6, rfl⟩ kb_20 ?_
    refine y_icmp_gt (t := 20) (n := 11) ⟨dX11_rates_8, rfl, rfl⟩ (fun (hc : 20 < a1) => ?_) (fun (hc : ¬ (20 < a1)) => ?_)
    · replace hf := i_t hc hf
      refine y_iconst (n := 21) (v := (-1)) ⟨dX11_rates_20, rfl⟩ ki_m1 ?_
      cases hf
      exact y_ireturn (n := 22) ⟨dX11_rates_21, rfl⟩ rfl rfl hk
    · replace hf := i_f hc hf
      refine y_iload_n (i := 2) (n := 12) ⟨dX11_rates_11, rfl⟩ rfl ?_
      refine y_bipush (n := 14) (v := 6) ⟨dX11_rates_12, rfl⟩ kb_6 ?_
      refine c_ax_within a2 6 M (n := 17) ⟨dX11_rates_14, rfl⟩ klX11_91 rfl (by decide) (Nat.le_of_ble_eq_true rfl) rfl rfl ?_
      refine y_if_ne (t := 22) (n := 20) ⟨dX11_rates_17, rfl, rfl⟩ (fun h0 => ?_) (fun h0 => ?_)
      · have hc := bI_1 h0
        replace hf := i_t hc hf
        refine y_aload_n (i := 0) (n := 23) ⟨dX11_rates_22, rfl⟩ rfl ?_
        refine y_getR (n := 26) ⟨dX11_rates_23, rfl⟩ kfX11_83 l_0 rfl r_0_9 ?_
        refine y_iload_n (i := 1) (n := 27) ⟨dX11_rates_26, rfl⟩ rfl ?_
        refine y_iload_n (i := 2) (n := 28) ⟨dX11_rates_27, rfl⟩ rfl ?_
        obtain ⟨q1, hv2, hf⟩ := b_s hf
        refine c_wo_tallyOfFirst a1 a2 M (n := 31) ⟨dX11_rates_28, rfl⟩ klX11_346 hv2 (by decide) (Nat.le_of_ble_eq_true rfl) rfl rfl ?_
        cases hf
        exact y_ireturn (n := 32) ⟨dX11_rates_31, rfl⟩ rfl rfl hk
      · have hc := bI_0 h0
        replace hf := i_f hc hf
        refine y_iconst (n := 21) (v := (-1)) ⟨dX11_rates_20, rfl⟩ ki_m1 ?_
        cases hf
        exact y_ireturn (n := 22) ⟨dX11_rates_21, rfl⟩ rfl rfl hk
theorem c_ax_rates (a1 : Int32) (a2 : Int32) (M : dM) {o : (Int32 × dM)} {y : mz_M} {d : Nat} {Q : mz_P} {pc n i : Nat} {L : List (Option Value)} {st : List Value} (h : mz_d y.2.1 pc n 3 (.invokevirtual i)) (hl : mz_ml y.1.cls i yX11_rates) (hf : f_ax_rates a1 a2 M = some o) (hd : 8 + 1 ≤ d) (hsm : (st.map (fun v => v.category)).sum ≤ 8) (hLr : mz_rL 133 L = true) (hSr : mz_rS 133 st = true) (kk : mW y d Q n L (.int o.1 :: st) o.2) : mW y d Q pc L (.int a2 :: .int a1 :: .ref 0 :: st) M :=
  y_callV kmX11_rates kvX11_rates l_0 (by decide +kernel) (by decide +kernel) h hl (ok_ax_rates a1 a2 M hf) (vs := [.int a1, .int a2]) rfl rfl hd hsm hLr hSr kk
def K_ax_parted_47 (Q : mz_P) (x1 : Int32) (x2 : Int32) : ((Int32 × Int32 × Int32 × dM) ⊕ (Int32 × Int32 × dM)) → Prop
  | .inl s => mW mX11_parted 8 Q 47 [some (.ref 0), some (.int x1), some (.int x2), some (.int s.1), some (.int s.2.1), some (.int s.2.2.1), none] [] s.2.2.2
  | .inr t => mW mX11_parted 8 Q 89 [none, none, some (.int x2), some (.int t.1), some (.int t.2.1), none, none] [] t.2.2
noncomputable def b_ax_parted_47_47 (x1 : Int32) (x2 : Int32) (x3 : Int32) (x4 : Int32) (x5 : Int32) (M : dM) : Option ((Int32 × Int32 × Int32 × dM) ⊕ (Int32 × Int32 × dM)) :=
  if 8 ≤ x5 then
    some (.inr (x3, x4, M))
  else
    (f_wo_tallyOfFirst x1 (6 + x5) M).bind fun q3 =>
    if q3.1 ≤ x4 then
      some (.inl (x3, x4, (x5 + 1), q3.2))
    else
      some (.inl (x5, q3.1, (x5 + 1), q3.2))
noncomputable def l_ax_parted_47 (x1 : Int32) (x2 : Int32) (x3 : Int32) (x4 : Int32) (x5 : Int32) (M : dM) : Option (Int32 × Int32 × dM) := lpc (fun s => b_ax_parted_47_47 x1 x2 s.1 s.2.1 s.2.2.1 s.2.2.2) (x3, x4, x5, M)
noncomputable def f_ax_parted (a1 : Int32) (a2 : Int32) (M : dM) : Option (Int32 × dM) :=
  if a1 < 1 then
    none
  else
    if 20 < a1 then
      none
    else
      if (f_ax_within a2 2) = true then
        (f_wo_tallyOfFirst a1 6 M).bind fun q1 =>
        (l_ax_parted_47 a1 a2 0 q1.1 1 q1.2).bind fun t5 =>
          if a2 = 0 then
            some (t5.1, t5.2.2)
          else
            some (t5.2.1, t5.2.2)
      else
        none
theorem w_b_ax_parted_47_47 (x1 : Int32) (x2 : Int32) (x3 : Int32) (x4 : Int32) (x5 : Int32)  (M : dM) {Q : mz_P} {o : ((Int32 × Int32 × Int32 × dM) ⊕ (Int32 × Int32 × dM))} (hf : b_ax_parted_47_47 x1 x2 x3 x4 x5 M = some o) (hk : K_ax_parted_47 Q x1 x2 o) : mW mX11_parted 8 Q 47 [some (.ref 0), some (.int x1), some (.int x2), some (.int x3), some (.int x4), some (.int x5), none] [] M := by
  unfold b_ax_parted_47_47 at hf
  refine y_iload (i := 5) (n := 49) ⟨dX11_parted_47, rfl⟩ rfl ?_
  refine y_bipush (n := 51) (v := 8) ⟨dX11_parted_49, rfl⟩ kb_8 ?_
  refine y_icmp_ge (t := 89) (n := 54) ⟨dX11_parted_51, rfl, rfl⟩ (fun (hc : 8 ≤ x5) => ?_) (fun (hc : ¬ (8 ≤ x5)) => ?_)
  · replace hf := i_t hc hf
    cases hf
    exact y_wk (L2 := [none, none, some (.int x2), some (.int x3), some (.int x4), none, none]) ⟨Or.inl rfl, Or.inl rfl, Or.inr rfl, Or.inr rfl, Or.inr rfl, Or.inl rfl, Or.inr rfl, trivial⟩ hk
  · replace hf := i_f hc hf
    refine y_aload_n (i := 0) (n := 55) ⟨dX11_parted_54, rfl⟩ rfl ?_
    refine y_getR (n := 58) ⟨dX11_parted_55, rfl⟩ kfX11_83 l_0 rfl r_0_9 ?_
    refine y_iload_n (i := 1) (n := 59) ⟨dX11_parted_58, rfl⟩ rfl ?_
    refine y_bipush (n := 61) (v := 6) ⟨dX11_parted_59, rfl⟩ kb_6 ?_
    refine y_iload (i := 5) (n := 63) ⟨dX11_parted_61, rfl⟩ rfl ?_
    refine y_iadd (n := 64) ⟨dX11_parted_63, rfl⟩ ?_
    obtain ⟨q3, hv4, hf⟩ := b_s hf
    refine c_wo_tallyOfFirst x1 (6 + x5) M (n := 67) ⟨dX11_parted_64, rfl⟩ klX11_346 hv4 (by decide) (Nat.le_of_ble_eq_true rfl) rfl rfl ?_
    refine y_istore (i := 6) (n := 69) (L2 := [some (.ref 0), some (.int x1), some (.int x2), some (.int x3), some (.int x4), some (.int x5), some (.int q3.1)]) ⟨dX11_parted_67, rfl⟩ (by decide) rfl rfl ?_
    refine y_iload (i := 6) (n := 71) ⟨dX11_parted_69, rfl⟩ rfl ?_
    refine y_iload (i := 4) (n := 73) ⟨dX11_parted_71, rfl⟩ rfl ?_
    refine y_icmp_le (t := 83) (n := 76) ⟨dX11_parted_73, rfl, rfl⟩ (fun (hc : q3.1 ≤ x4) => ?_) (fun (hc : ¬ (q3.1 ≤ x4)) => ?_)
    · replace hf := i_t hc hf
      refine y_iinc (i := 5) (n := 86) (b := (x5 + 1)) (L2 := [some (.ref 0), some (.int x1), some (.int x2), some (.int x3), some (.int x4), some (.int (x5 + 1)), some (.int q3.1)]) ⟨dX11_parted_83, rfl⟩ rfl (by rw [ki_1]) (by decide) rfl rfl ?_
      refine y_goto (t := 47) ⟨dX11_parted_86, rfl, rfl⟩ ?_
      cases hf
      exact y_wk (L2 := [some (.ref 0), some (.int x1), some (.int x2), some (.int x3), some (.int x4), some (.int (x5 + 1)), none]) ⟨Or.inr rfl, Or.inr rfl, Or.inr rfl, Or.inr rfl, Or.inr rfl, Or.inr rfl, Or.inl rfl, trivial⟩ hk
    · replace hf := i_f hc hf
      refine y_iload (i := 6) (n := 78) ⟨dX11_parted_76, rfl⟩ rfl ?_
      refine y_istore (i := 4) (n := 80) (L2 := [some (.ref 0), some (.int x1), some (.int x2), some (.int x3), some (.int q3.1), some (.int x5), some (.int q3.1)]) ⟨dX11_parted_78, rfl⟩ (by decide) rfl rfl ?_
      refine y_iload (i := 5) (n := 82) ⟨dX11_parted_80, rfl⟩ rfl ?_
      refine y_istore_n (i := 3) (n := 83) (L2 := [some (.ref 0), some (.int x1), some (.int x2), some (.int x5), some (.int q3.1), some (.int x5), some (.int q3.1)]) ⟨dX11_parted_82, rfl⟩ (by decide) rfl rfl ?_
      refine y_iinc (i := 5) (n := 86) (b := (x5 + 1)) (L2 := [some (.ref 0), some (.int x1), some (.int x2), some (.int x5), some (.int q3.1), some (.int (x5 + 1)), some (.int q3.1)]) ⟨dX11_parted_83, rfl⟩ rfl (by rw [ki_1]) (by decide) rfl rfl ?_
      refine y_goto (t := 47) ⟨dX11_parted_86, rfl, rfl⟩ ?_
      cases hf
      exact y_wk (L2 := [some (.ref 0), some (.int x1), some (.int x2), some (.int x5), some (.int q3.1), some (.int (x5 + 1)), none]) ⟨Or.inr rfl, Or.inr rfl, Or.inr rfl, Or.inr rfl, Or.inr rfl, Or.inr rfl, Or.inl rfl, trivial⟩ hk
theorem wl_ax_parted_47 (x1 : Int32) (x2 : Int32) (x3 : Int32) (x4 : Int32) (x5 : Int32) (M : dM) {Q : mz_P} {x : (Int32 × Int32 × dM)} (hf : l_ax_parted_47 x1 x2 x3 x4 x5 M = some x) (hk : K_ax_parted_47 Q x1 x2 (.inr x)) : mW mX11_parted 8 Q 47 [some (.ref 0), some (.int x1), some (.int x2), some (.int x3), some (.int x4), some (.int x5), none] [] M :=
  lpc_wp (σ := (Int32 × Int32 × Int32 × dM)) (ξ := (Int32 × Int32 × dM)) (s := (x3, x4, x5, M)) (Wh := fun s => mW mX11_parted 8 Q 47 [some (.ref 0), some (.int x1), some (.int x2), some (.int s.1), some (.int s.2.1), some (.int s.2.2.1), none] [] s.2.2.2) (K := K_ax_parted_47 Q x1 x2) (fun _ h => h) (fun s o hb hk => w_b_ax_parted_47_47 x1 x2 s.1 s.2.1 s.2.2.1 s.2.2.2 hb hk) hf hk
theorem ok_ax_parted (a1 : Int32) (a2 : Int32) (M : dM) {o : (Int32 × dM)} (hf : f_ax_parted a1 a2 M = some o) : mO mX11_parted 8 [.ref 0, .int a1, .int a2] M (some (.int o.1)) o.2 := by
  refine y_ok (by decide +kernel) (Nat.le_of_ble_eq_true rfl) (L0 := [some (.ref 0), some (.int a1), some (.int a2), none, none, none, none]) rfl ?_
  have hk := mR_mQ (some (.int o.1)) o.2
  generalize mQ _ _ = Q at hk ⊢
  unfold f_ax_parted at hf
  refine y_iload_n (i := 1) (n := 1) ⟨dX11_parted_0, rfl⟩ rfl ?_
  refine y_iconst (n := 2) (v := 1) ⟨dX11_parted_1, rfl⟩ ki_1 ?_
  refine y_icmp_lt (t := 19) (n := 5) ⟨dX11_parted_2, rfl, rfl⟩ (fun (hc : a1 < 1) => ?_) (fun (hc : ¬ (a1 < 1)) => ?_)
  · replace hf := i_t hc hf
    cases hf
  · replace hf := i_f hc hf
    refine y_iload_n (i := 1) (n := 6) ⟨dX11_parted_5, rfl⟩ rfl ?_
    refine y_bipush (n := 8) (v := 20) ⟨dX11_parted_6, rfl⟩ kb_20 ?_
    refine y_icmp_gt (t := 19) (n := 11) ⟨dX11_parted_8, rfl, rfl⟩ (fun (hc : 20 < a1) => ?_) (fun (hc : ¬ (20 < a1)) => ?_)
    · replace hf := i_t hc hf
      cases hf
    · replace hf := i_f hc hf
      refine y_iload_n (i := 2) (n := 12) ⟨dX11_parted_11, rfl⟩ rfl ?_
      refine y_iconst (n := 13) (v := 2) ⟨dX11_parted_12, rfl⟩ ki_2 ?_
      refine c_ax_within a2 2 M (n := 16) ⟨dX11_parted_13, rfl⟩ klX11_91 rfl (by decide) (Nat.le_of_ble_eq_true rfl) rfl rfl ?_
      refine y_if_ne (t := 30) (n := 19) ⟨dX11_parted_16, rfl, rfl⟩ (fun h0 => ?_) (fun h0 => ?_)
      · have hc := bI_1 h0
        replace hf := i_t hc hf
        refine y_iconst (n := 31) (v := 0) ⟨dX11_parted_30, rfl⟩ ki_0 ?_
        refine y_istore_n (i := 3) (n := 32) (L2 := [some (.ref 0), some (.int a1), some (.int a2), some (.int 0), none, none, none]) ⟨dX11_parted_31, rfl⟩ (by decide) rfl rfl ?_
        refine y_aload_n (i := 0) (n := 33) ⟨dX11_parted_32, rfl⟩ rfl ?_
        refine y_getR (n := 36) ⟨dX11_parted_33, rfl⟩ kfX11_83 l_0 rfl r_0_9 ?_
        refine y_iload_n (i := 1) (n := 37) ⟨dX11_parted_36, rfl⟩ rfl ?_
        refine y_bipush (n := 39) (v := 6) ⟨dX11_parted_37, rfl⟩ kb_6 ?_
        obtain ⟨q1, hv2, hf⟩ := b_s hf
        refine c_wo_tallyOfFirst a1 6 M (n := 42) ⟨dX11_parted_39, rfl⟩ klX11_346 hv2 (by decide) (Nat.le_of_ble_eq_true rfl) rfl rfl ?_
        refine y_istore (i := 4) (n := 44) (L2 := [some (.ref 0), some (.int a1), some (.int a2), some (.int 0), some (.int q1.1), none, none]) ⟨dX11_parted_42, rfl⟩ (by decide) rfl rfl ?_
        refine y_iconst (n := 45) (v := 1) ⟨dX11_parted_44, rfl⟩ ki_1 ?_
        refine y_istore (i := 5) (n := 47) (L2 := [some (.ref 0), some (.int a1), some (.int a2), some (.int 0), some (.int q1.1), some (.int 1), none]) ⟨dX11_parted_45, rfl⟩ (by decide) rfl rfl ?_
        obtain ⟨t5, hl6, hf⟩ := b_s hf
        refine y_wk (L2 := [some (.ref 0), some (.int a1), some (.int a2), some (.int 0), some (.int q1.1), some (.int 1), none]) ⟨Or.inr rfl, Or.inr rfl, Or.inr rfl, Or.inr rfl, Or.inr rfl, Or.inr rfl, Or.inr rfl, trivial⟩ (wl_ax_parted_47 a1 a2 0 q1.1 1 q1.2 hl6 ?_)
        show mW mX11_parted 8 Q 89 [none, none, some (.int a2), some (.int t5.1), some (.int t5.2.1), none, none] [] t5.2.2
        refine y_iload_n (i := 2) (n := 90) ⟨dX11_parted_89, rfl⟩ rfl ?_
        refine y_if_ne (t := 97) (n := 93) ⟨dX11_parted_90, rfl, rfl⟩ (fun (hc : ¬ (a2 = 0)) => ?_) (fun (hc : a2 = 0) => ?_)
        · replace hf := i_f hc hf
          refine y_iload (i := 4) (n := 99) ⟨dX11_parted_97, rfl⟩ rfl ?_
          cases hf
          exact y_ireturn (n := 100) ⟨dX11_parted_99, rfl⟩ rfl rfl hk
        · replace hf := i_t hc hf
          refine y_iload_n (i := 3) (n := 94) ⟨dX11_parted_93, rfl⟩ rfl ?_
          refine y_goto (t := 99) ⟨dX11_parted_94, rfl, rfl⟩ ?_
          cases hf
          exact y_ireturn (n := 100) ⟨dX11_parted_99, rfl⟩ rfl rfl hk
      · have hc := bI_0 h0
        replace hf := i_f hc hf
        cases hf
theorem c_ax_parted (a1 : Int32) (a2 : Int32) (M : dM) {o : (Int32 × dM)} {y : mz_M} {d : Nat} {Q : mz_P} {pc n i : Nat} {L : List (Option Value)} {st : List Value} (h : mz_d y.2.1 pc n 3 (.invokevirtual i)) (hl : mz_ml y.1.cls i yX11_parted) (hf : f_ax_parted a1 a2 M = some o) (hd : 8 + 1 ≤ d) (hsm : (st.map (fun v => v.category)).sum ≤ 8) (hLr : mz_rL 133 L = true) (hSr : mz_rS 133 st = true) (kk : mW y d Q n L (.int o.1 :: st) o.2) : mW y d Q pc L (.int a2 :: .int a1 :: .ref 0 :: st) M :=
  y_callV kmX11_parted kvX11_parted l_0 (by decide +kernel) (by decide +kernel) h hl (ok_ax_parted a1 a2 M hf) (vs := [.int a1, .int a2]) rfl rfl hd hsm hLr hSr kk
def K_si_layersTold_4 (Q : mz_P)  (M : dM) : ((Int32 × Int32) ⊕ Int32) → Prop
  | .inl s => mW mX7_layersTold 3 Q 4 [some (.ref 1), some (.int s.1), some (.int s.2)] [] M
  | .inr r => mR Q (some (.int r)) M
noncomputable def b_si_layersTold_4_4 (x1 : Int32) (x2 : Int32) (M : dM) : Option ((Int32 × Int32) ⊕ Int32) :=
  if 8 ≤ x2 then
    some (.inr x1)
  else
    (f_si_layersAt x2 M).bind fun v1 =>
    some (.inl ((x1 + v1), (x2 + 1)))
noncomputable def l_si_layersTold_4 (x1 : Int32) (x2 : Int32) (M : dM) : Option Int32 := lpc (fun s => b_si_layersTold_4_4 s.1 s.2 M) (x1, x2)
noncomputable def f_si_layersTold (M : dM) : Option Int32 :=
  (l_si_layersTold_4 0 0 M).bind fun r5 => some r5
theorem w_b_si_layersTold_4_4 (x1 : Int32) (x2 : Int32)  (M : dM) {Q : mz_P} {o : ((Int32 × Int32) ⊕ Int32)} (hf : b_si_layersTold_4_4 x1 x2 M = some o) (hk : K_si_layersTold_4 Q  M o) : mW mX7_layersTold 3 Q 4 [some (.ref 1), some (.int x1), some (.int x2)] [] M := by
  unfold b_si_layersTold_4_4 at hf
  refine y_iload_n (i := 2) (n := 5) ⟨dX7_layersTold_4, rfl⟩ rfl ?_
  refine y_bipush (n := 7) (v := 8) ⟨dX7_layersTold_5, rfl⟩ kb_8 ?_
  refine y_icmp_ge (t := 24) (n := 10) ⟨dX7_layersTold_7, rfl, rfl⟩ (fun (hc : 8 ≤ x2) => ?_) (fun (hc : ¬ (8 ≤ x2)) => ?_)
  · replace hf := i_t hc hf
    refine y_iload_n (i := 1) (n := 25) ⟨dX7_layersTold_24, rfl⟩ rfl ?_
    cases hf
    exact y_ireturn (n := 26) ⟨dX7_layersTold_25, rfl⟩ rfl rfl hk
  · replace hf := i_f hc hf
    refine y_iload_n (i := 1) (n := 11) ⟨dX7_layersTold_10, rfl⟩ rfl ?_
    refine y_aload_n (i := 0) (n := 12) ⟨dX7_layersTold_11, rfl⟩ rfl ?_
    refine y_iload_n (i := 2) (n := 13) ⟨dX7_layersTold_12, rfl⟩ rfl ?_
    obtain ⟨v1, hv2, hf⟩ := b_s hf
    refine c_si_layersAt x2 M (n := 16) ⟨dX7_layersTold_13, rfl⟩ klX7_34 hv2 (by decide) (Nat.le_of_ble_eq_true rfl) rfl rfl ?_
    refine y_iadd (n := 17) ⟨dX7_layersTold_16, rfl⟩ ?_
    refine y_istore_n (i := 1) (n := 18) (L2 := [some (.ref 1), some (.int (x1 + v1)), some (.int x2)]) ⟨dX7_layersTold_17, rfl⟩ (by decide) rfl rfl ?_
    refine y_iinc (i := 2) (n := 21) (b := (x2 + 1)) (L2 := [some (.ref 1), some (.int (x1 + v1)), some (.int (x2 + 1))]) ⟨dX7_layersTold_18, rfl⟩ rfl (by rw [ki_1]) (by decide) rfl rfl ?_
    refine y_goto (t := 4) ⟨dX7_layersTold_21, rfl, rfl⟩ ?_
    cases hf
    exact y_wk (L2 := [some (.ref 1), some (.int (x1 + v1)), some (.int (x2 + 1))]) ⟨Or.inr rfl, Or.inr rfl, Or.inr rfl, trivial⟩ hk
theorem wl_si_layersTold_4 (x1 : Int32) (x2 : Int32) (M : dM) {Q : mz_P} {x : Int32} (hf : l_si_layersTold_4 x1 x2 M = some x) (hk : K_si_layersTold_4 Q  M (.inr x)) : mW mX7_layersTold 3 Q 4 [some (.ref 1), some (.int x1), some (.int x2)] [] M :=
  lpc_wp (σ := (Int32 × Int32)) (ξ := Int32) (s := (x1, x2)) (Wh := fun s => mW mX7_layersTold 3 Q 4 [some (.ref 1), some (.int s.1), some (.int s.2)] [] M) (K := K_si_layersTold_4 Q  M) (fun _ h => h) (fun s o hb hk => w_b_si_layersTold_4_4 s.1 s.2 M hb hk) hf hk
theorem ok_si_layersTold  (M : dM) {o : Int32} (hf : f_si_layersTold M = some o) : mO mX7_layersTold 3 [.ref 1] M (some (.int o)) M := by
  refine y_ok (by decide +kernel) (Nat.le_of_ble_eq_true rfl) (L0 := [some (.ref 1), none, none]) rfl ?_
  have hk := mR_mQ (some (.int o)) M
  generalize mQ _ _ = Q at hk ⊢
  unfold f_si_layersTold at hf
  refine y_iconst (n := 1) (v := 0) ⟨dX7_layersTold_0, rfl⟩ ki_0 ?_
  refine y_istore_n (i := 1) (n := 2) (L2 := [some (.ref 1), some (.int 0), none]) ⟨dX7_layersTold_1, rfl⟩ (by decide) rfl rfl ?_
  refine y_iconst (n := 3) (v := 0) ⟨dX7_layersTold_2, rfl⟩ ki_0 ?_
  refine y_istore_n (i := 2) (n := 4) (L2 := [some (.ref 1), some (.int 0), some (.int 0)]) ⟨dX7_layersTold_3, rfl⟩ (by decide) rfl rfl ?_
  obtain ⟨r5, hl4, hf⟩ := b_s hf
  cases hf
  exact y_wk (L2 := [some (.ref 1), some (.int 0), some (.int 0)]) ⟨Or.inr rfl, Or.inr rfl, Or.inr rfl, trivial⟩ (wl_si_layersTold_4 0 0 M hl4 hk)
theorem c_si_layersTold  (M : dM) {o : Int32} {y : mz_M} {d : Nat} {Q : mz_P} {pc n i : Nat} {L : List (Option Value)} {st : List Value} (h : mz_d y.2.1 pc n 3 (.invokevirtual i)) (hl : mz_ml y.1.cls i yX7_layersTold) (hf : f_si_layersTold M = some o) (hd : 3 + 1 ≤ d) (hsm : (st.map (fun v => v.category)).sum ≤ 8) (hLr : mz_rL 133 L = true) (hSr : mz_rS 133 st = true) (kk : mW y d Q n L (.int o :: st) M) : mW y d Q pc L (.ref 1 :: st) M :=
  y_callV kmX7_layersTold kvX7_layersTold l_1 (by decide +kernel) (by decide +kernel) h hl (ok_si_layersTold  M hf) (vs := []) rfl rfl hd hsm hLr hSr kk
def K_la_rulesTold_4 (Q : mz_P)  (M : dM) : ((Int32 × Int32) ⊕ Int32) → Prop
  | .inl s => mW mX3_rulesTold 2 Q 4 [some (.ref 27), some (.int s.1), some (.int s.2)] [] M
  | .inr r => mR Q (some (.int r)) M
noncomputable def b_la_rulesTold_4_4 (x1 : Int32) (x2 : Int32) (M : dM) : Option ((Int32 × Int32) ⊕ Int32) :=
  if 8 ≤ x2 then
    some (.inr x1)
  else
    (f_la_isTold_27 (12 + x2) M).bind fun v1 =>
    if v1 = true then
      some (.inl ((x1 + 1), (x2 + 1)))
    else
      some (.inl (x1, (x2 + 1)))
noncomputable def l_la_rulesTold_4 (x1 : Int32) (x2 : Int32) (M : dM) : Option Int32 := lpc (fun s => b_la_rulesTold_4_4 s.1 s.2 M) (x1, x2)
noncomputable def f_la_rulesTold (M : dM) : Option Int32 :=
  (l_la_rulesTold_4 0 0 M).bind fun r5 => some r5
theorem w_b_la_rulesTold_4_4 (x1 : Int32) (x2 : Int32)  (M : dM) {Q : mz_P} {o : ((Int32 × Int32) ⊕ Int32)} (hf : b_la_rulesTold_4_4 x1 x2 M = some o) (hk : K_la_rulesTold_4 Q  M o) : mW mX3_rulesTold 2 Q 4 [some (.ref 27), some (.int x1), some (.int x2)] [] M := by
  unfold b_la_rulesTold_4_4 at hf
  refine y_iload_n (i := 2) (n := 5) ⟨dX3_rulesTold_4, rfl⟩ rfl ?_
  refine y_bipush (n := 7) (v := 8) ⟨dX3_rulesTold_5, rfl⟩ kb_8 ?_
  refine y_icmp_ge (t := 30) (n := 10) ⟨dX3_rulesTold_7, rfl, rfl⟩ (fun (hc : 8 ≤ x2) => ?_) (fun (hc : ¬ (8 ≤ x2)) => ?_)
  · replace hf := i_t hc hf
    refine y_iload_n (i := 1) (n := 31) ⟨dX3_rulesTold_30, rfl⟩ rfl ?_
    cases hf
    exact y_ireturn (n := 32) ⟨dX3_rulesTold_31, rfl⟩ rfl rfl hk
  · replace hf := i_f hc hf
    refine y_aload_n (i := 0) (n := 11) ⟨dX3_rulesTold_10, rfl⟩ rfl ?_
    refine y_bipush (n := 13) (v := 12) ⟨dX3_rulesTold_11, rfl⟩ kb_12 ?_
    refine y_iload_n (i := 2) (n := 14) ⟨dX3_rulesTold_13, rfl⟩ rfl ?_
    refine y_iadd (n := 15) ⟨dX3_rulesTold_14, rfl⟩ ?_
    obtain ⟨v1, hv2, hf⟩ := b_s hf
    refine c_la_isTold_27 (12 + x2) M (n := 18) ⟨dX3_rulesTold_15, rfl⟩ klX3_52 hv2 (by decide) (Nat.le_of_ble_eq_true rfl) rfl rfl ?_
    refine y_if_eq (t := 24) (n := 21) ⟨dX3_rulesTold_18, rfl, rfl⟩ (fun h0 => ?_) (fun h0 => ?_)
    · have hc := bI_0 h0
      replace hf := i_f hc hf
      refine y_iinc (i := 2) (n := 27) (b := (x2 + 1)) (L2 := [some (.ref 27), some (.int x1), some (.int (x2 + 1))]) ⟨dX3_rulesTold_24, rfl⟩ rfl (by rw [ki_1]) (by decide) rfl rfl ?_
      refine y_goto (t := 4) ⟨dX3_rulesTold_27, rfl, rfl⟩ ?_
      cases hf
      exact y_wk (L2 := [some (.ref 27), some (.int x1), some (.int (x2 + 1))]) ⟨Or.inr rfl, Or.inr rfl, Or.inr rfl, trivial⟩ hk
    · have hc := bI_1 h0
      replace hf := i_t hc hf
      refine y_iinc (i := 1) (n := 24) (b := (x1 + 1)) (L2 := [some (.ref 27), some (.int (x1 + 1)), some (.int x2)]) ⟨dX3_rulesTold_21, rfl⟩ rfl (by rw [ki_1]) (by decide) rfl rfl ?_
      refine y_iinc (i := 2) (n := 27) (b := (x2 + 1)) (L2 := [some (.ref 27), some (.int (x1 + 1)), some (.int (x2 + 1))]) ⟨dX3_rulesTold_24, rfl⟩ rfl (by rw [ki_1]) (by decide) rfl rfl ?_
      refine y_goto (t := 4) ⟨dX3_rulesTold_27, rfl, rfl⟩ ?_
      cases hf
      exact y_wk (L2 := [some (.ref 27), some (.int (x1 + 1)), some (.int (x2 + 1))]) ⟨Or.inr rfl, Or.inr rfl, Or.inr rfl, trivial⟩ hk
theorem wl_la_rulesTold_4 (x1 : Int32) (x2 : Int32) (M : dM) {Q : mz_P} {x : Int32} (hf : l_la_rulesTold_4 x1 x2 M = some x) (hk : K_la_rulesTold_4 Q  M (.inr x)) : mW mX3_rulesTold 2 Q 4 [some (.ref 27), some (.int x1), some (.int x2)] [] M :=
  lpc_wp (σ := (Int32 × Int32)) (ξ := Int32) (s := (x1, x2)) (Wh := fun s => mW mX3_rulesTold 2 Q 4 [some (.ref 27), some (.int s.1), some (.int s.2)] [] M) (K := K_la_rulesTold_4 Q  M) (fun _ h => h) (fun s o hb hk => w_b_la_rulesTold_4_4 s.1 s.2 M hb hk) hf hk
theorem ok_la_rulesTold  (M : dM) {o : Int32} (hf : f_la_rulesTold M = some o) : mO mX3_rulesTold 2 [.ref 27] M (some (.int o)) M := by
  refine y_ok (by decide +kernel) (Nat.le_of_ble_eq_true rfl) (L0 := [some (.ref 27), none, none]) rfl ?_
  have hk := mR_mQ (some (.int o)) M
  generalize mQ _ _ = Q at hk ⊢
  unfold f_la_rulesTold at hf
  refine y_iconst (n := 1) (v := 0) ⟨dX3_rulesTold_0, rfl⟩ ki_0 ?_
  refine y_istore_n (i := 1) (n := 2) (L2 := [some (.ref 27), some (.int 0), none]) ⟨dX3_rulesTold_1, rfl⟩ (by decide) rfl rfl ?_
  refine y_iconst (n := 3) (v := 0) ⟨dX3_rulesTold_2, rfl⟩ ki_0 ?_
  refine y_istore_n (i := 2) (n := 4) (L2 := [some (.ref 27), some (.int 0), some (.int 0)]) ⟨dX3_rulesTold_3, rfl⟩ (by decide) rfl rfl ?_
  obtain ⟨r5, hl4, hf⟩ := b_s hf
  cases hf
  exact y_wk (L2 := [some (.ref 27), some (.int 0), some (.int 0)]) ⟨Or.inr rfl, Or.inr rfl, Or.inr rfl, trivial⟩ (wl_la_rulesTold_4 0 0 M hl4 hk)
theorem c_la_rulesTold  (M : dM) {o : Int32} {y : mz_M} {d : Nat} {Q : mz_P} {pc n i : Nat} {L : List (Option Value)} {st : List Value} (h : mz_d y.2.1 pc n 3 (.invokevirtual i)) (hl : mz_ml y.1.cls i yX3_rulesTold) (hf : f_la_rulesTold M = some o) (hd : 2 + 1 ≤ d) (hsm : (st.map (fun v => v.category)).sum ≤ 8) (hLr : mz_rL 133 L = true) (hSr : mz_rS 133 st = true) (kk : mW y d Q n L (.int o :: st) M) : mW y d Q pc L (.ref 27 :: st) M :=
  y_callV kmX3_rulesTold kvX3_rulesTold l_27 (by decide +kernel) (by decide +kernel) h hl (ok_la_rulesTold  M hf) (vs := []) rfl rfl hd hsm hLr hSr kk
noncomputable def f_ax_count (a1 : Int32) (M : dM) : Option Int32 :=
  if a1 = 0 then
    some (gI M 12 7)
  else
  if a1 = 1 then
    some (gI M 6 5)
  else
  if a1 = 2 then
    some (gI M 12 11)
  else
  if a1 = 3 then
    some (gI M 12 13)
  else
  if a1 = 4 then
    some (gI M 50 4)
  else
  if a1 = 5 then
    (f_la_rulesTold M).bind fun v1 =>
    some v1
  else
  if a1 = 6 then
    some (gI M 32 1)
  else
  if a1 = 7 then
    (f_si_layersTold M).bind fun v3 =>
    some v3
  else
  some (-1)
theorem ok_ax_count (a1 : Int32) (M : dM) {o : Int32} (hf : f_ax_count a1 M = some o) : mO mX11_count 4 [.ref 0, .int a1] M (some (.int o)) M := by
  refine y_ok (by decide +kernel) (Nat.le_of_ble_eq_true rfl) (L0 := [some (.ref 0), some (.int a1)]) rfl ?_
  have hk := mR_mQ (some (.int o)) M
  generalize mQ _ _ = Q at hk ⊢
  unfold f_ax_count at hf
  refine y_iload_n (i := 1) (n := 1) ⟨dX11_count_0, rfl⟩ rfl ?_
  by_cases hc0 : a1 = 0
  · replace hf := i_t hc0 hf
    refine y_tabIn (t := 48) (off := 47) dX11_count_1 (sw_lo hc0 (by decide)) (sw_hi hc0 (by decide)) (sw_at hc0 (by decide)) rfl ?_
    refine y_aload_n (i := 0) (n := 49) ⟨dX11_count_48, rfl⟩ rfl ?_
    refine y_getR (n := 52) ⟨dX11_count_49, rfl⟩ kfX11_26 l_0 rfl r_0_2 ?_
    refine y_getI (n := 55) ⟨dX11_count_52, rfl⟩ kfX11_146 l_12 rfl ?_
    cases hf
    exact y_ireturn (n := 56) ⟨dX11_count_55, rfl⟩ rfl rfl hk
  replace hf := i_f hc0 hf
  by_cases hc1 : a1 = 1
  · replace hf := i_t hc1 hf
    refine y_tabIn (t := 56) (off := 55) dX11_count_1 (sw_lo hc1 (by decide)) (sw_hi hc1 (by decide)) (sw_at hc1 (by decide)) rfl ?_
    refine y_aload_n (i := 0) (n := 57) ⟨dX11_count_56, rfl⟩ rfl ?_
    refine y_getR (n := 60) ⟨dX11_count_57, rfl⟩ kfX11_19 l_0 rfl r_0_1 ?_
    refine y_getI (n := 63) ⟨dX11_count_60, rfl⟩ kfX11_294 l_6 rfl ?_
    cases hf
    exact y_ireturn (n := 64) ⟨dX11_count_63, rfl⟩ rfl rfl hk
  replace hf := i_f hc1 hf
  by_cases hc2 : a1 = 2
  · replace hf := i_t hc2 hf
    refine y_tabIn (t := 64) (off := 63) dX11_count_1 (sw_lo hc2 (by decide)) (sw_hi hc2 (by decide)) (sw_at hc2 (by decide)) rfl ?_
    refine y_aload_n (i := 0) (n := 65) ⟨dX11_count_64, rfl⟩ rfl ?_
    refine y_getR (n := 68) ⟨dX11_count_65, rfl⟩ kfX11_26 l_0 rfl r_0_2 ?_
    refine y_getI (n := 71) ⟨dX11_count_68, rfl⟩ kfX11_306 l_12 rfl ?_
    cases hf
    exact y_ireturn (n := 72) ⟨dX11_count_71, rfl⟩ rfl rfl hk
  replace hf := i_f hc2 hf
  by_cases hc3 : a1 = 3
  · replace hf := i_t hc3 hf
    refine y_tabIn (t := 72) (off := 71) dX11_count_1 (sw_lo hc3 (by decide)) (sw_hi hc3 (by decide)) (sw_at hc3 (by decide)) rfl ?_
    refine y_aload_n (i := 0) (n := 73) ⟨dX11_count_72, rfl⟩ rfl ?_
    refine y_getR (n := 76) ⟨dX11_count_73, rfl⟩ kfX11_26 l_0 rfl r_0_2 ?_
    refine y_getI (n := 79) ⟨dX11_count_76, rfl⟩ kfX11_309 l_12 rfl ?_
    cases hf
    exact y_ireturn (n := 80) ⟨dX11_count_79, rfl⟩ rfl rfl hk
  replace hf := i_f hc3 hf
  by_cases hc4 : a1 = 4
  · replace hf := i_t hc4 hf
    refine y_tabIn (t := 80) (off := 79) dX11_count_1 (sw_lo hc4 (by decide)) (sw_hi hc4 (by decide)) (sw_at hc4 (by decide)) rfl ?_
    refine y_aload_n (i := 0) (n := 81) ⟨dX11_count_80, rfl⟩ rfl ?_
    refine y_getR (n := 84) ⟨dX11_count_81, rfl⟩ kfX11_74 l_0 rfl r_0_8 ?_
    refine y_getI (n := 87) ⟨dX11_count_84, rfl⟩ kfX11_295 l_50 rfl ?_
    cases hf
    exact y_ireturn (n := 88) ⟨dX11_count_87, rfl⟩ rfl rfl hk
  replace hf := i_f hc4 hf
  by_cases hc5 : a1 = 5
  · replace hf := i_t hc5 hf
    refine y_tabIn (t := 88) (off := 87) dX11_count_1 (sw_lo hc5 (by decide)) (sw_hi hc5 (by decide)) (sw_at hc5 (by decide)) rfl ?_
    refine y_aload_n (i := 0) (n := 89) ⟨dX11_count_88, rfl⟩ rfl ?_
    refine y_getR (n := 92) ⟨dX11_count_89, rfl⟩ kfX11_40 l_0 rfl r_0_4 ?_
    obtain ⟨v1, hv2, hf⟩ := b_s hf
    refine c_la_rulesTold M (n := 95) ⟨dX11_count_92, rfl⟩ klX11_351 hv2 (by decide) (Nat.le_of_ble_eq_true rfl) rfl rfl ?_
    cases hf
    exact y_ireturn (n := 96) ⟨dX11_count_95, rfl⟩ rfl rfl hk
  replace hf := i_f hc5 hf
  by_cases hc6 : a1 = 6
  · replace hf := i_t hc6 hf
    refine y_tabIn (t := 96) (off := 95) dX11_count_1 (sw_lo hc6 (by decide)) (sw_hi hc6 (by decide)) (sw_at hc6 (by decide)) rfl ?_
    refine y_aload_n (i := 0) (n := 97) ⟨dX11_count_96, rfl⟩ rfl ?_
    refine y_getR (n := 100) ⟨dX11_count_97, rfl⟩ kfX11_47 l_0 rfl r_0_5 ?_
    refine y_getI (n := 103) ⟨dX11_count_100, rfl⟩ kfX11_132 l_32 rfl ?_
    cases hf
    exact y_ireturn (n := 104) ⟨dX11_count_103, rfl⟩ rfl rfl hk
  replace hf := i_f hc6 hf
  by_cases hc7 : a1 = 7
  · replace hf := i_t hc7 hf
    refine y_tabIn (t := 104) (off := 103) dX11_count_1 (sw_lo hc7 (by decide)) (sw_hi hc7 (by decide)) (sw_at hc7 (by decide)) rfl ?_
    refine y_aload_n (i := 0) (n := 105) ⟨dX11_count_104, rfl⟩ rfl ?_
    refine y_getR (n := 108) ⟨dX11_count_105, rfl⟩ kfX11_10 l_0 rfl r_0_0 ?_
    obtain ⟨v3, hv4, hf⟩ := b_s hf
    refine c_si_layersTold M (n := 111) ⟨dX11_count_108, rfl⟩ klX11_354 hv4 (by decide) (Nat.le_of_ble_eq_true rfl) rfl rfl ?_
    cases hf
    exact y_ireturn (n := 112) ⟨dX11_count_111, rfl⟩ rfl rfl hk
  replace hf := i_f hc7 hf
  refine y_tabOut (t := 112) dX11_count_1 (sw_out (lo := 0) (cs := [0, 1, 2, 3, 4, 5, 6, 7]) (by decide) (by decide) ⟨hc0, hc1, hc2, hc3, hc4, hc5, hc6, hc7, trivial⟩) rfl ?_
  refine y_iconst (n := 113) (v := (-1)) ⟨dX11_count_112, rfl⟩ ki_m1 ?_
  cases hf
  exact y_ireturn (n := 114) ⟨dX11_count_113, rfl⟩ rfl rfl hk
theorem c_ax_count (a1 : Int32) (M : dM) {o : Int32} {y : mz_M} {d : Nat} {Q : mz_P} {pc n i : Nat} {L : List (Option Value)} {st : List Value} (h : mz_d y.2.1 pc n 3 (.invokevirtual i)) (hl : mz_ml y.1.cls i yX11_count) (hf : f_ax_count a1 M = some o) (hd : 4 + 1 ≤ d) (hsm : (st.map (fun v => v.category)).sum ≤ 8) (hLr : mz_rL 133 L = true) (hSr : mz_rS 133 st = true) (kk : mW y d Q n L (.int o :: st) M) : mW y d Q pc L (.int a1 :: .ref 0 :: st) M :=
  y_callV kmX11_count kvX11_count l_0 (by decide +kernel) (by decide +kernel) h hl (ok_ax_count a1 M hf) (vs := [.int a1]) rfl rfl hd hsm hLr hSr kk
noncomputable def f_mo_thrown (M : dM) : Int32 :=
  (gI M 66 0)
theorem ok_mo_thrown  (M : dM) {o : Int32} (hf : f_mo_thrown M = o) : mO mX12_thrown 1 [.ref 66] M (some (.int o)) M := by
  refine y_ok (by decide +kernel) (Nat.le_of_ble_eq_true rfl) (L0 := [some (.ref 66)]) rfl ?_
  have hk := mR_mQ (some (.int o)) M
  generalize mQ _ _ = Q at hk ⊢
  unfold f_mo_thrown at hf
  refine y_aload_n (i := 0) (n := 1) ⟨dX12_thrown_0, rfl⟩ rfl ?_
  refine y_getI (n := 4) ⟨dX12_thrown_1, rfl⟩ kfX12_214 l_66 rfl ?_
  cases hf
  exact y_ireturn (n := 5) ⟨dX12_thrown_4, rfl⟩ rfl rfl hk
theorem c_mo_thrown  (M : dM) {o : Int32} {y : mz_M} {d : Nat} {Q : mz_P} {pc n i : Nat} {L : List (Option Value)} {st : List Value} (h : mz_d y.2.1 pc n 3 (.invokevirtual i)) (hl : mz_ml y.1.cls i yX12_thrown) (hf : f_mo_thrown M = o) (hd : 1 + 1 ≤ d) (hsm : (st.map (fun v => v.category)).sum ≤ 8) (hLr : mz_rL 133 L = true) (hSr : mz_rS 133 st = true) (kk : mW y d Q n L (.int o :: st) M) : mW y d Q pc L (.ref 66 :: st) M :=
  y_callV kmX12_thrown kvX12_thrown l_66 (by decide +kernel) (by decide +kernel) h hl (ok_mo_thrown  M hf) (vs := []) rfl rfl hd hsm hLr hSr kk
noncomputable def f_mo_isSite (a1 : Int32) : Bool :=
  if a1 < 0 then
    false
  else
    if 8 ≤ a1 then
      false
    else
      true
theorem ok_mo_isSite (a1 : Int32) (M : dM) {o : Bool} (hf : f_mo_isSite a1 = o) : mO mX12_isSite 1 [.int a1] M (some (.int (bI o))) M := by
  refine y_ok (by decide +kernel) (Nat.le_of_ble_eq_true rfl) (L0 := [some (.int a1)]) rfl ?_
  have hk := mR_mQ (some (.int (bI o))) M
  generalize mQ _ _ = Q at hk ⊢
  unfold f_mo_isSite at hf
  refine y_iload_n (i := 0) (n := 1) ⟨dX12_isSite_0, rfl⟩ rfl ?_
  refine y_if_lt (t := 14) (n := 4) ⟨dX12_isSite_1, rfl, rfl⟩ (fun (hc : a1 < 0) => ?_) (fun (hc : ¬ (a1 < 0)) => ?_)
  · replace hf := i_t hc hf
    refine y_iconst (n := 15) (v := 0) ⟨dX12_isSite_14, rfl⟩ ki_0 ?_
    cases hf
    exact y_ireturn (n := 16) ⟨dX12_isSite_15, rfl⟩ rfl rfl hk
  · replace hf := i_f hc hf
    refine y_iload_n (i := 0) (n := 5) ⟨dX12_isSite_4, rfl⟩ rfl ?_
    refine y_bipush (n := 7) (v := 8) ⟨dX12_isSite_5, rfl⟩ kb_8 ?_
    refine y_icmp_ge (t := 14) (n := 10) ⟨dX12_isSite_7, rfl, rfl⟩ (fun (hc : 8 ≤ a1) => ?_) (fun (hc : ¬ (8 ≤ a1)) => ?_)
    · replace hf := i_t hc hf
      refine y_iconst (n := 15) (v := 0) ⟨dX12_isSite_14, rfl⟩ ki_0 ?_
      cases hf
      exact y_ireturn (n := 16) ⟨dX12_isSite_15, rfl⟩ rfl rfl hk
    · replace hf := i_f hc hf
      refine y_iconst (n := 11) (v := 1) ⟨dX12_isSite_10, rfl⟩ ki_1 ?_
      refine y_goto (t := 15) ⟨dX12_isSite_11, rfl, rfl⟩ ?_
      cases hf
      exact y_ireturn (n := 16) ⟨dX12_isSite_15, rfl⟩ rfl rfl hk
theorem c_mo_isSite (a1 : Int32) (M : dM) {o : Bool} {y : mz_M} {d : Nat} {Q : mz_P} {pc n i : Nat} {L : List (Option Value)} {st : List Value} (h : mz_d y.2.1 pc n 3 (.invokestatic i)) (hl : mz_ml y.1.cls i yX12_isSite) (hf : f_mo_isSite a1 = o) (hd : 1 + 1 ≤ d) (hsm : (st.map (fun v => v.category)).sum ≤ 8) (hLr : mz_rL 133 L = true) (hSr : mz_rS 133 st = true) (kk : mW y d Q n L (.int (bI o) :: st) M) : mW y d Q pc L (.int a1 :: st) M :=
  y_callS kmX12_isSite ksX12_isSite h hl (ok_mo_isSite a1 M hf) (vs := [.int a1]) rfl rfl hd hsm hLr hSr kk
noncomputable def f_mo_within (a1 : Int32) (a2 : Int32) (a3 : Int32) : Bool :=
  if a1 < a2 then
    false
  else
    if a3 < a1 then
      false
    else
      true
theorem ok_mo_within (a1 : Int32) (a2 : Int32) (a3 : Int32) (M : dM) {o : Bool} (hf : f_mo_within a1 a2 a3 = o) : mO mX12_within 1 [.int a1, .int a2, .int a3] M (some (.int (bI o))) M := by
  refine y_ok (by decide +kernel) (Nat.le_of_ble_eq_true rfl) (L0 := [some (.int a1), some (.int a2), some (.int a3)]) rfl ?_
  have hk := mR_mQ (some (.int (bI o))) M
  generalize mQ _ _ = Q at hk ⊢
  unfold f_mo_within at hf
  refine y_iload_n (i := 0) (n := 1) ⟨dX12_within_0, rfl⟩ rfl ?_
  refine y_iload_n (i := 1) (n := 2) ⟨dX12_within_1, rfl⟩ rfl ?_
  refine y_icmp_lt (t := 14) (n := 5) ⟨dX12_within_2, rfl, rfl⟩ (fun (hc : a1 < a2) => ?_) (fun (hc : ¬ (a1 < a2)) => ?_)
  · replace hf := i_t hc hf
    refine y_iconst (n := 15) (v := 0) ⟨dX12_within_14, rfl⟩ ki_0 ?_
    cases hf
    exact y_ireturn (n := 16) ⟨dX12_within_15, rfl⟩ rfl rfl hk
  · replace hf := i_f hc hf
    refine y_iload_n (i := 0) (n := 6) ⟨dX12_within_5, rfl⟩ rfl ?_
    refine y_iload_n (i := 2) (n := 7) ⟨dX12_within_6, rfl⟩ rfl ?_
    refine y_icmp_gt (t := 14) (n := 10) ⟨dX12_within_7, rfl, rfl⟩ (fun (hc : a3 < a1) => ?_) (fun (hc : ¬ (a3 < a1)) => ?_)
    · replace hf := i_t hc hf
      refine y_iconst (n := 15) (v := 0) ⟨dX12_within_14, rfl⟩ ki_0 ?_
      cases hf
      exact y_ireturn (n := 16) ⟨dX12_within_15, rfl⟩ rfl rfl hk
    · replace hf := i_f hc hf
      refine y_iconst (n := 11) (v := 1) ⟨dX12_within_10, rfl⟩ ki_1 ?_
      refine y_goto (t := 15) ⟨dX12_within_11, rfl, rfl⟩ ?_
      cases hf
      exact y_ireturn (n := 16) ⟨dX12_within_15, rfl⟩ rfl rfl hk
theorem c_mo_within (a1 : Int32) (a2 : Int32) (a3 : Int32) (M : dM) {o : Bool} {y : mz_M} {d : Nat} {Q : mz_P} {pc n i : Nat} {L : List (Option Value)} {st : List Value} (h : mz_d y.2.1 pc n 3 (.invokestatic i)) (hl : mz_ml y.1.cls i yX12_within) (hf : f_mo_within a1 a2 a3 = o) (hd : 1 + 1 ≤ d) (hsm : (st.map (fun v => v.category)).sum ≤ 8) (hLr : mz_rL 133 L = true) (hSr : mz_rS 133 st = true) (kk : mW y d Q n L (.int (bI o) :: st) M) : mW y d Q pc L (.int a3 :: .int a2 :: .int a1 :: st) M :=
  y_callS kmX12_within ksX12_within h hl (ok_mo_within a1 a2 a3 M hf) (vs := [.int a1, .int a2, .int a3]) rfl rfl hd hsm hLr hSr kk
noncomputable def f_mo_layer (a1 : Int32) (a2 : Int32) (a3 : Int32) (M : dM) : Option (Bool × dM) :=
  if (f_mo_isSite a1) = true then
    if (f_mo_within a2 0 9) = true then
      if (f_mo_within a3 0 9999) = true then
        gd (vp_in ((10 * a1) + a2) 80) <|
        some (true, (sI (sI M 66 0 0) 67 ((10 * a1) + a2).toNatClampNeg a3))
      else
        some (false, (sI M 66 0 0))
    else
      some (false, (sI M 66 0 0))
  else
    some (false, (sI M 66 0 0))
theorem ok_mo_layer (a1 : Int32) (a2 : Int32) (a3 : Int32) (M : dM) {o : (Bool × dM)} (hf : f_mo_layer a1 a2 a3 M = some o) : mO mX12_layer 2 [.ref 66, .int a1, .int a2, .int a3] M (some (.int (bI o.1))) o.2 := by
  refine y_ok (by decide +kernel) (Nat.le_of_ble_eq_true rfl) (L0 := [some (.ref 66), some (.int a1), some (.int a2), some (.int a3)]) rfl ?_
  have hk := mR_mQ (some (.int (bI o.1))) o.2
  generalize mQ _ _ = Q at hk ⊢
  unfold f_mo_layer at hf
  refine y_aload_n (i := 0) (n := 1) ⟨dX12_layer_0, rfl⟩ rfl ?_
  refine y_iconst (n := 2) (v := 0) ⟨dX12_layer_1, rfl⟩ ki_0 ?_
  refine y_putI (n := 5) ⟨dX12_layer_2, rfl⟩ kfX12_214 l_66 (by decide +kernel) rfl ?_
  refine y_iload_n (i := 1) (n := 6) ⟨dX12_layer_5, rfl⟩ rfl ?_
  refine c_mo_isSite a1 (sI M 66 0 0) (n := 9) ⟨dX12_layer_6, rfl⟩ klX12_217 rfl (by decide) (Nat.le_of_ble_eq_true rfl) rfl rfl ?_
  refine y_if_eq (t := 33) (n := 12) ⟨dX12_layer_9, rfl, rfl⟩ (fun h0 => ?_) (fun h0 => ?_)
  · have hc := bI_0 h0
    replace hf := i_f hc hf
    refine y_iconst (n := 34) (v := 0) ⟨dX12_layer_33, rfl⟩ ki_0 ?_
    cases hf
    exact y_ireturn (n := 35) ⟨dX12_layer_34, rfl⟩ rfl rfl hk
  · have hc := bI_1 h0
    replace hf := i_t hc hf
    refine y_iload_n (i := 2) (n := 13) ⟨dX12_layer_12, rfl⟩ rfl ?_
    refine y_iconst (n := 14) (v := 0) ⟨dX12_layer_13, rfl⟩ ki_0 ?_
    refine y_bipush (n := 16) (v := 9) ⟨dX12_layer_14, rfl⟩ kb_9 ?_
    refine c_mo_within a2 0 9 (sI M 66 0 0) (n := 19) ⟨dX12_layer_16, rfl⟩ klX12_221 rfl (by decide) (Nat.le_of_ble_eq_true rfl) rfl rfl ?_
    refine y_if_eq (t := 33) (n := 22) ⟨dX12_layer_19, rfl, rfl⟩ (fun h0 => ?_) (fun h0 => ?_)
    · have hc := bI_0 h0
      replace hf := i_f hc hf
      refine y_iconst (n := 34) (v := 0) ⟨dX12_layer_33, rfl⟩ ki_0 ?_
      cases hf
      exact y_ireturn (n := 35) ⟨dX12_layer_34, rfl⟩ rfl rfl hk
    · have hc := bI_1 h0
      replace hf := i_t hc hf
      refine y_iload_n (i := 3) (n := 23) ⟨dX12_layer_22, rfl⟩ rfl ?_
      refine y_iconst (n := 24) (v := 0) ⟨dX12_layer_23, rfl⟩ ki_0 ?_
      refine y_sipush (n := 27) (v := 9999) ⟨dX12_layer_24, rfl⟩ ks_9999 ?_
      refine c_mo_within a3 0 9999 (sI M 66 0 0) (n := 30) ⟨dX12_layer_27, rfl⟩ klX12_221 rfl (by decide) (Nat.le_of_ble_eq_true rfl) rfl rfl ?_
      refine y_if_ne (t := 35) (n := 33) ⟨dX12_layer_30, rfl, rfl⟩ (fun h0 => ?_) (fun h0 => ?_)
      · have hc := bI_1 h0
        replace hf := i_t hc hf
        refine y_aload_n (i := 0) (n := 36) ⟨dX12_layer_35, rfl⟩ rfl ?_
        refine y_getR (n := 39) ⟨dX12_layer_36, rfl⟩ kfX12_7 l_66 rfl r_66_1 ?_
        refine y_bipush (n := 41) (v := 10) ⟨dX12_layer_39, rfl⟩ kb_10 ?_
        refine y_iload_n (i := 1) (n := 42) ⟨dX12_layer_41, rfl⟩ rfl ?_
        refine y_imul (n := 43) ⟨dX12_layer_42, rfl⟩ ?_
        refine y_iload_n (i := 2) (n := 44) ⟨dX12_layer_43, rfl⟩ rfl ?_
        refine y_iadd (n := 45) ⟨dX12_layer_44, rfl⟩ ?_
        refine y_iload_n (i := 3) (n := 46) ⟨dX12_layer_45, rfl⟩ rfl ?_
        obtain ⟨hg1, hf⟩ := g_s hf
        refine y_iastore (n := 47) ⟨dX12_layer_46, rfl⟩ l_67 hg1 ?_
        refine y_iconst (n := 48) (v := 1) ⟨dX12_layer_47, rfl⟩ ki_1 ?_
        cases hf
        exact y_ireturn (n := 49) ⟨dX12_layer_48, rfl⟩ rfl rfl hk
      · have hc := bI_0 h0
        replace hf := i_f hc hf
        refine y_iconst (n := 34) (v := 0) ⟨dX12_layer_33, rfl⟩ ki_0 ?_
        cases hf
        exact y_ireturn (n := 35) ⟨dX12_layer_34, rfl⟩ rfl rfl hk
theorem c_mo_layer (a1 : Int32) (a2 : Int32) (a3 : Int32) (M : dM) {o : (Bool × dM)} {y : mz_M} {d : Nat} {Q : mz_P} {pc n i : Nat} {L : List (Option Value)} {st : List Value} (h : mz_d y.2.1 pc n 3 (.invokevirtual i)) (hl : mz_ml y.1.cls i yX12_layer) (hf : f_mo_layer a1 a2 a3 M = some o) (hd : 2 + 1 ≤ d) (hsm : (st.map (fun v => v.category)).sum ≤ 8) (hLr : mz_rL 133 L = true) (hSr : mz_rS 133 st = true) (kk : mW y d Q n L (.int (bI o.1) :: st) o.2) : mW y d Q pc L (.int a3 :: .int a2 :: .int a1 :: .ref 66 :: st) M :=
  y_callV kmX12_layer kvX12_layer l_66 (by decide +kernel) (by decide +kernel) h hl (ok_mo_layer a1 a2 a3 M hf) (vs := [.int a1, .int a2, .int a3]) rfl rfl hd hsm hLr hSr kk
noncomputable def f_mo_way (a1 : Int32) (a2 : Int32) (a3 : Int32) (M : dM) : Option (Bool × dM) :=
  if (f_mo_isSite a1) = true then
    if (f_mo_isSite a2) = true then
      if a1 = a2 then
        some (false, (sI M 66 0 0))
      else
        if (f_mo_within a3 0 999) = true then
          gd (vp_in ((8 * a1) + a2) 64) <|
          gd (vp_in ((8 * a2) + a1) 64) <|
          some (true, (sI (sI (sI M 66 0 0) 68 ((8 * a1) + a2).toNatClampNeg a3) 68 ((8 * a2) + a1).toNatClampNeg a3))
        else
          some (false, (sI M 66 0 0))
    else
      some (false, (sI M 66 0 0))
  else
    some (false, (sI M 66 0 0))
theorem ok_mo_way (a1 : Int32) (a2 : Int32) (a3 : Int32) (M : dM) {o : (Bool × dM)} (hf : f_mo_way a1 a2 a3 M = some o) : mO mX12_way 2 [.ref 66, .int a1, .int a2, .int a3] M (some (.int (bI o.1))) o.2 := by
  refine y_ok (by decide +kernel) (Nat.le_of_ble_eq_true rfl) (L0 := [some (.ref 66), some (.int a1), some (.int a2), some (.int a3)]) rfl ?_
  have hk := mR_mQ (some (.int (bI o.1))) o.2
  generalize mQ _ _ = Q at hk ⊢
  unfold f_mo_way at hf
  refine y_aload_n (i := 0) (n := 1) ⟨dX12_way_0, rfl⟩ rfl ?_
  refine y_iconst (n := 2) (v := 0) ⟨dX12_way_1, rfl⟩ ki_0 ?_
  refine y_putI (n := 5) ⟨dX12_way_2, rfl⟩ kfX12_214 l_66 (by decide +kernel) rfl ?_
  refine y_iload_n (i := 1) (n := 6) ⟨dX12_way_5, rfl⟩ rfl ?_
  refine c_mo_isSite a1 (sI M 66 0 0) (n := 9) ⟨dX12_way_6, rfl⟩ klX12_217 rfl (by decide) (Nat.le_of_ble_eq_true rfl) rfl rfl ?_
  refine y_if_eq (t := 35) (n := 12) ⟨dX12_way_9, rfl, rfl⟩ (fun h0 => ?_) (fun h0 => ?_)
  · have hc := bI_0 h0
    replace hf := i_f hc hf
    refine y_iconst (n := 36) (v := 0) ⟨dX12_way_35, rfl⟩ ki_0 ?_
    cases hf
    exact y_ireturn (n := 37) ⟨dX12_way_36, rfl⟩ rfl rfl hk
  · have hc := bI_1 h0
    replace hf := i_t hc hf
    refine y_iload_n (i := 2) (n := 13) ⟨dX12_way_12, rfl⟩ rfl ?_
    refine c_mo_isSite a2 (sI M 66 0 0) (n := 16) ⟨dX12_way_13, rfl⟩ klX12_217 rfl (by decide) (Nat.le_of_ble_eq_true rfl) rfl rfl ?_
    refine y_if_eq (t := 35) (n := 19) ⟨dX12_way_16, rfl, rfl⟩ (fun h0 => ?_) (fun h0 => ?_)
    · have hc := bI_0 h0
      replace hf := i_f hc hf
      refine y_iconst (n := 36) (v := 0) ⟨dX12_way_35, rfl⟩ ki_0 ?_
      cases hf
      exact y_ireturn (n := 37) ⟨dX12_way_36, rfl⟩ rfl rfl hk
    · have hc := bI_1 h0
      replace hf := i_t hc hf
      refine y_iload_n (i := 1) (n := 20) ⟨dX12_way_19, rfl⟩ rfl ?_
      refine y_iload_n (i := 2) (n := 21) ⟨dX12_way_20, rfl⟩ rfl ?_
      refine y_icmp_eq (t := 35) (n := 24) ⟨dX12_way_21, rfl, rfl⟩ (fun (hc : a1 = a2) => ?_) (fun (hc : ¬ (a1 = a2)) => ?_)
      · replace hf := i_t hc hf
        refine y_iconst (n := 36) (v := 0) ⟨dX12_way_35, rfl⟩ ki_0 ?_
        cases hf
        exact y_ireturn (n := 37) ⟨dX12_way_36, rfl⟩ rfl rfl hk
      · replace hf := i_f hc hf
        refine y_iload_n (i := 3) (n := 25) ⟨dX12_way_24, rfl⟩ rfl ?_
        refine y_iconst (n := 26) (v := 0) ⟨dX12_way_25, rfl⟩ ki_0 ?_
        refine y_sipush (n := 29) (v := 999) ⟨dX12_way_26, rfl⟩ ks_999 ?_
        refine c_mo_within a3 0 999 (sI M 66 0 0) (n := 32) ⟨dX12_way_29, rfl⟩ klX12_221 rfl (by decide) (Nat.le_of_ble_eq_true rfl) rfl rfl ?_
        refine y_if_ne (t := 37) (n := 35) ⟨dX12_way_32, rfl, rfl⟩ (fun h0 => ?_) (fun h0 => ?_)
        · have hc := bI_1 h0
          replace hf := i_t hc hf
          refine y_aload_n (i := 0) (n := 38) ⟨dX12_way_37, rfl⟩ rfl ?_
          refine y_getR (n := 41) ⟨dX12_way_38, rfl⟩ kfX12_13 l_66 rfl r_66_2 ?_
          refine y_bipush (n := 43) (v := 8) ⟨dX12_way_41, rfl⟩ kb_8 ?_
          refine y_iload_n (i := 1) (n := 44) ⟨dX12_way_43, rfl⟩ rfl ?_
          refine y_imul (n := 45) ⟨dX12_way_44, rfl⟩ ?_
          refine y_iload_n (i := 2) (n := 46) ⟨dX12_way_45, rfl⟩ rfl ?_
          refine y_iadd (n := 47) ⟨dX12_way_46, rfl⟩ ?_
          refine y_iload_n (i := 3) (n := 48) ⟨dX12_way_47, rfl⟩ rfl ?_
          obtain ⟨hg1, hf⟩ := g_s hf
          refine y_iastore (n := 49) ⟨dX12_way_48, rfl⟩ l_68 hg1 ?_
          refine y_aload_n (i := 0) (n := 50) ⟨dX12_way_49, rfl⟩ rfl ?_
          refine y_getR (n := 53) ⟨dX12_way_50, rfl⟩ kfX12_13 l_66 rfl r_66_2 ?_
          refine y_bipush (n := 55) (v := 8) ⟨dX12_way_53, rfl⟩ kb_8 ?_
          refine y_iload_n (i := 2) (n := 56) ⟨dX12_way_55, rfl⟩ rfl ?_
          refine y_imul (n := 57) ⟨dX12_way_56, rfl⟩ ?_
          refine y_iload_n (i := 1) (n := 58) ⟨dX12_way_57, rfl⟩ rfl ?_
          refine y_iadd (n := 59) ⟨dX12_way_58, rfl⟩ ?_
          refine y_iload_n (i := 3) (n := 60) ⟨dX12_way_59, rfl⟩ rfl ?_
          obtain ⟨hg2, hf⟩ := g_s hf
          refine y_iastore (n := 61) ⟨dX12_way_60, rfl⟩ l_68 hg2 ?_
          refine y_iconst (n := 62) (v := 1) ⟨dX12_way_61, rfl⟩ ki_1 ?_
          cases hf
          exact y_ireturn (n := 63) ⟨dX12_way_62, rfl⟩ rfl rfl hk
        · have hc := bI_0 h0
          replace hf := i_f hc hf
          refine y_iconst (n := 36) (v := 0) ⟨dX12_way_35, rfl⟩ ki_0 ?_
          cases hf
          exact y_ireturn (n := 37) ⟨dX12_way_36, rfl⟩ rfl rfl hk
theorem c_mo_way (a1 : Int32) (a2 : Int32) (a3 : Int32) (M : dM) {o : (Bool × dM)} {y : mz_M} {d : Nat} {Q : mz_P} {pc n i : Nat} {L : List (Option Value)} {st : List Value} (h : mz_d y.2.1 pc n 3 (.invokevirtual i)) (hl : mz_ml y.1.cls i yX12_way) (hf : f_mo_way a1 a2 a3 M = some o) (hd : 2 + 1 ≤ d) (hsm : (st.map (fun v => v.category)).sum ≤ 8) (hLr : mz_rL 133 L = true) (hSr : mz_rS 133 st = true) (kk : mW y d Q n L (.int (bI o.1) :: st) o.2) : mW y d Q pc L (.int a3 :: .int a2 :: .int a1 :: .ref 66 :: st) M :=
  y_callV kmX12_way kvX12_way l_66 (by decide +kernel) (by decide +kernel) h hl (ok_mo_way a1 a2 a3 M hf) (vs := [.int a1, .int a2, .int a3]) rfl rfl hd hsm hLr hSr kk
noncomputable def f_mo_isHand (a1 : Int32) : Bool :=
  if a1 < 0 then
    false
  else
    if 10 ≤ a1 then
      false
    else
      true
theorem ok_mo_isHand (a1 : Int32) (M : dM) {o : Bool} (hf : f_mo_isHand a1 = o) : mO mX12_isHand 1 [.int a1] M (some (.int (bI o))) M := by
  refine y_ok (by decide +kernel) (Nat.le_of_ble_eq_true rfl) (L0 := [some (.int a1)]) rfl ?_
  have hk := mR_mQ (some (.int (bI o))) M
  generalize mQ _ _ = Q at hk ⊢
  unfold f_mo_isHand at hf
  refine y_iload_n (i := 0) (n := 1) ⟨dX12_isHand_0, rfl⟩ rfl ?_
  refine y_if_lt (t := 14) (n := 4) ⟨dX12_isHand_1, rfl, rfl⟩ (fun (hc : a1 < 0) => ?_) (fun (hc : ¬ (a1 < 0)) => ?_)
  · replace hf := i_t hc hf
    refine y_iconst (n := 15) (v := 0) ⟨dX12_isHand_14, rfl⟩ ki_0 ?_
    cases hf
    exact y_ireturn (n := 16) ⟨dX12_isHand_15, rfl⟩ rfl rfl hk
  · replace hf := i_f hc hf
    refine y_iload_n (i := 0) (n := 5) ⟨dX12_isHand_4, rfl⟩ rfl ?_
    refine y_bipush (n := 7) (v := 10) ⟨dX12_isHand_5, rfl⟩ kb_10 ?_
    refine y_icmp_ge (t := 14) (n := 10) ⟨dX12_isHand_7, rfl, rfl⟩ (fun (hc : 10 ≤ a1) => ?_) (fun (hc : ¬ (10 ≤ a1)) => ?_)
    · replace hf := i_t hc hf
      refine y_iconst (n := 15) (v := 0) ⟨dX12_isHand_14, rfl⟩ ki_0 ?_
      cases hf
      exact y_ireturn (n := 16) ⟨dX12_isHand_15, rfl⟩ rfl rfl hk
    · replace hf := i_f hc hf
      refine y_iconst (n := 11) (v := 1) ⟨dX12_isHand_10, rfl⟩ ki_1 ?_
      refine y_goto (t := 15) ⟨dX12_isHand_11, rfl, rfl⟩ ?_
      cases hf
      exact y_ireturn (n := 16) ⟨dX12_isHand_15, rfl⟩ rfl rfl hk
theorem c_mo_isHand (a1 : Int32) (M : dM) {o : Bool} {y : mz_M} {d : Nat} {Q : mz_P} {pc n i : Nat} {L : List (Option Value)} {st : List Value} (h : mz_d y.2.1 pc n 3 (.invokestatic i)) (hl : mz_ml y.1.cls i yX12_isHand) (hf : f_mo_isHand a1 = o) (hd : 1 + 1 ≤ d) (hsm : (st.map (fun v => v.category)).sum ≤ 8) (hLr : mz_rL 133 L = true) (hSr : mz_rS 133 st = true) (kk : mW y d Q n L (.int (bI o) :: st) M) : mW y d Q pc L (.int a1 :: st) M :=
  y_callS kmX12_isHand ksX12_isHand h hl (ok_mo_isHand a1 M hf) (vs := [.int a1]) rfl rfl hd hsm hLr hSr kk
def K_mo_here_63 (Q : mz_P) (x1 : Int32) (x2 : Int32) (x3 : Int32) (x4 : Int32) (x5 : Int32) (M : dM) : (Int32 ⊕ (Unit ⊕ (Bool × dM))) → Prop
  | .inl s => mW mX12_here 2 Q 63 [some (.ref 66), some (.int x1), some (.int x2), some (.int x3), some (.int x4), some (.int x5), some (.int s)] [] M
  | .inr (.inl t) => mW mX12_here 2 Q 137 [some (.ref 66), some (.int x1), some (.int x2), some (.int x3), some (.int x4), some (.int x5), none] [] M
  | .inr (.inr r) => mR Q (some (.int (bI r.1))) r.2
noncomputable def b_mo_here_63_63 (x1 : Int32) (x2 : Int32) (x3 : Int32) (x4 : Int32) (x5 : Int32) (x6 : Int32) (M : dM) : Option (Int32 ⊕ (Unit ⊕ (Bool × dM))) :=
  if (gI M 66 3) ≤ x6 then
    some (.inr (.inl ()))
  else
    gd (vp_in x6 80) <|
    if (gI M 69 x6.toNatClampNeg) = x1 then
      if (gI M 71 x6.toNatClampNeg) = x3 then
        if (gI M 70 x6.toNatClampNeg) = x2 then
          some (.inl (x6 + 1))
        else
          if x5 < (gI M 72 x6.toNatClampNeg) then
            some (.inl (x6 + 1))
          else
            if (gI M 73 x6.toNatClampNeg) < x4 then
              some (.inl (x6 + 1))
            else
              some (.inr (.inr (false, M)))
      else
        some (.inl (x6 + 1))
    else
      some (.inl (x6 + 1))
noncomputable def l_mo_here_63 (x1 : Int32) (x2 : Int32) (x3 : Int32) (x4 : Int32) (x5 : Int32) (x6 : Int32) (M : dM) : Option (Unit ⊕ (Bool × dM)) := lpc (fun s => b_mo_here_63_63 x1 x2 x3 x4 x5 s M) x6
noncomputable def f_mo_here (a1 : Int32) (a2 : Int32) (a3 : Int32) (a4 : Int32) (a5 : Int32) (M : dM) : Option (Bool × dM) :=
  if (f_mo_isHand a1) = true then
    if (f_mo_isSite a2) = true then
      if (f_mo_within a3 0 999) = true then
        if a4 < 0 then
          some (false, (sI M 66 0 0))
        else
          if a5 < a4 then
            some (false, (sI M 66 0 0))
          else
            if 23 < a5 then
              some (false, (sI M 66 0 0))
            else
              if (gI (sI M 66 0 0) 66 3) = 80 then
                some (false, (sI M 66 0 0))
              else
                (l_mo_here_63 a1 a2 a3 a4 a5 0 (sI M 66 0 0)).bind (Sum.elim (fun t2 =>
                    gd (vp_in (gI (sI M 66 0 0) 66 3) 80) <|
                    gd (vp_in (gI (sI (sI M 66 0 0) 69 (gI (sI M 66 0 0) 66 3).toNatClampNeg a1) 66 3) 80) <|
                    gd (vp_in (gI (sI (sI (sI M 66 0 0) 69 (gI (sI M 66 0 0) 66 3).toNatClampNeg a1) 70 (gI (sI (sI M 66 0 0) 69 (gI (sI M 66 0 0) 66 3).toNatClampNeg a1) 66 3).toNatClampNeg a2) 66 3) 80) <|
                    gd (vp_in (gI (sI (sI (sI (sI M 66 0 0) 69 (gI (sI M 66 0 0) 66 3).toNatClampNeg a1) 70 (gI (sI (sI M 66 0 0) 69 (gI (sI M 66 0 0) 66 3).toNatClampNeg a1) 66 3).toNatClampNeg a2) 71 (gI (sI (sI (sI M 66 0 0) 69 (gI (sI M 66 0 0) 66 3).toNatClampNeg a1) 70 (gI (sI (sI M 66 0 0) 69 (gI (sI M 66 0 0) 66 3).toNatClampNeg a1) 66 3).toNatClampNeg a2) 66 3).toNatClampNeg a3) 66 3) 80) <|
                    gd (vp_in (gI (sI (sI (sI (sI (sI M 66 0 0) 69 (gI (sI M 66 0 0) 66 3).toNatClampNeg a1) 70 (gI (sI (sI M 66 0 0) 69 (gI (sI M 66 0 0) 66 3).toNatClampNeg a1) 66 3).toNatClampNeg a2) 71 (gI (sI (sI (sI M 66 0 0) 69 (gI (sI M 66 0 0) 66 3).toNatClampNeg a1) 70 (gI (sI (sI M 66 0 0) 69 (gI (sI M 66 0 0) 66 3).toNatClampNeg a1) 66 3).toNatClampNeg a2) 66 3).toNatClampNeg a3) 72 (gI (sI (sI (sI (sI M 66 0 0) 69 (gI (sI M 66 0 0) 66 3).toNatClampNeg a1) 70 (gI (sI (sI M 66 0 0) 69 (gI (sI M 66 0 0) 66 3).toNatClampNeg a1) 66 3).toNatClampNeg a2) 71 (gI (sI (sI (sI M 66 0 0) 69 (gI (sI M 66 0 0) 66 3).toNatClampNeg a1) 70 (gI (sI (sI M 66 0 0) 69 (gI (sI M 66 0 0) 66 3).toNatClampNeg a1) 66 3).toNatClampNeg a2) 66 3).toNatClampNeg a3) 66 3).toNatClampNeg a4) 66 3) 80) <|
                    some (true, (sI (sI (sI (sI (sI (sI (sI M 66 0 0) 69 (gI (sI M 66 0 0) 66 3).toNatClampNeg a1) 70 (gI (sI (sI M 66 0 0) 69 (gI (sI M 66 0 0) 66 3).toNatClampNeg a1) 66 3).toNatClampNeg a2) 71 (gI (sI (sI (sI M 66 0 0) 69 (gI (sI M 66 0 0) 66 3).toNatClampNeg a1) 70 (gI (sI (sI M 66 0 0) 69 (gI (sI M 66 0 0) 66 3).toNatClampNeg a1) 66 3).toNatClampNeg a2) 66 3).toNatClampNeg a3) 72 (gI (sI (sI (sI (sI M 66 0 0) 69 (gI (sI M 66 0 0) 66 3).toNatClampNeg a1) 70 (gI (sI (sI M 66 0 0) 69 (gI (sI M 66 0 0) 66 3).toNatClampNeg a1) 66 3).toNatClampNeg a2) 71 (gI (sI (sI (sI M 66 0 0) 69 (gI (sI M 66 0 0) 66 3).toNatClampNeg a1) 70 (gI (sI (sI M 66 0 0) 69 (gI (sI M 66 0 0) 66 3).toNatClampNeg a1) 66 3).toNatClampNeg a2) 66 3).toNatClampNeg a3) 66 3).toNatClampNeg a4) 73 (gI (sI (sI (sI (sI (sI M 66 0 0) 69 (gI (sI M 66 0 0) 66 3).toNatClampNeg a1) 70 (gI (sI (sI M 66 0 0) 69 (gI (sI M 66 0 0) 66 3).toNatClampNeg a1) 66 3).toNatClampNeg a2) 71 (gI (sI (sI (sI M 66 0 0) 69 (gI (sI M 66 0 0) 66 3).toNatClampNeg a1) 70 (gI (sI (sI M 66 0 0) 69 (gI (sI M 66 0 0) 66 3).toNatClampNeg a1) 66 3).toNatClampNeg a2) 66 3).toNatClampNeg a3) 72 (gI (sI (sI (sI (sI M 66 0 0) 69 (gI (sI M 66 0 0) 66 3).toNatClampNeg a1) 70 (gI (sI (sI M 66 0 0) 69 (gI (sI M 66 0 0) 66 3).toNatClampNeg a1) 66 3).toNatClampNeg a2) 71 (gI (sI (sI (sI M 66 0 0) 69 (gI (sI M 66 0 0) 66 3).toNatClampNeg a1) 70 (gI (sI (sI M 66 0 0) 69 (gI (sI M 66 0 0) 66 3).toNatClampNeg a1) 66 3).toNatClampNeg a2) 66 3).toNatClampNeg a3) 66 3).toNatClampNeg a4) 66 3).toNatClampNeg a5) 66 3 ((gI (sI (sI (sI (sI (sI (sI M 66 0 0) 69 (gI (sI M 66 0 0) 66 3).toNatClampNeg a1) 70 (gI (sI (sI M 66 0 0) 69 (gI (sI M 66 0 0) 66 3).toNatClampNeg a1) 66 3).toNatClampNeg a2) 71 (gI (sI (sI (sI M 66 0 0) 69 (gI (sI M 66 0 0) 66 3).toNatClampNeg a1) 70 (gI (sI (sI M 66 0 0) 69 (gI (sI M 66 0 0) 66 3).toNatClampNeg a1) 66 3).toNatClampNeg a2) 66 3).toNatClampNeg a3) 72 (gI (sI (sI (sI (sI M 66 0 0) 69 (gI (sI M 66 0 0) 66 3).toNatClampNeg a1) 70 (gI (sI (sI M 66 0 0) 69 (gI (sI M 66 0 0) 66 3).toNatClampNeg a1) 66 3).toNatClampNeg a2) 71 (gI (sI (sI (sI M 66 0 0) 69 (gI (sI M 66 0 0) 66 3).toNatClampNeg a1) 70 (gI (sI (sI M 66 0 0) 69 (gI (sI M 66 0 0) 66 3).toNatClampNeg a1) 66 3).toNatClampNeg a2) 66 3).toNatClampNeg a3) 66 3).toNatClampNeg a4) 73 (gI (sI (sI (sI (sI (sI M 66 0 0) 69 (gI (sI M 66 0 0) 66 3).toNatClampNeg a1) 70 (gI (sI (sI M 66 0 0) 69 (gI (sI M 66 0 0) 66 3).toNatClampNeg a1) 66 3).toNatClampNeg a2) 71 (gI (sI (sI (sI M 66 0 0) 69 (gI (sI M 66 0 0) 66 3).toNatClampNeg a1) 70 (gI (sI (sI M 66 0 0) 69 (gI (sI M 66 0 0) 66 3).toNatClampNeg a1) 66 3).toNatClampNeg a2) 66 3).toNatClampNeg a3) 72 (gI (sI (sI (sI (sI M 66 0 0) 69 (gI (sI M 66 0 0) 66 3).toNatClampNeg a1) 70 (gI (sI (sI M 66 0 0) 69 (gI (sI M 66 0 0) 66 3).toNatClampNeg a1) 66 3).toNatClampNeg a2) 71 (gI (sI (sI (sI M 66 0 0) 69 (gI (sI M 66 0 0) 66 3).toNatClampNeg a1) 70 (gI (sI (sI M 66 0 0) 69 (gI (sI M 66 0 0) 66 3).toNatClampNeg a1) 66 3).toNatClampNeg a2) 66 3).toNatClampNeg a3) 66 3).toNatClampNeg a4) 66 3).toNatClampNeg a5) 66 3) + 1)))
                  ) (fun r4 => some r4))
      else
        some (false, (sI M 66 0 0))
    else
      some (false, (sI M 66 0 0))
  else
    some (false, (sI M 66 0 0))
theorem w_b_mo_here_63_63 (x1 : Int32) (x2 : Int32) (x3 : Int32) (x4 : Int32) (x5 : Int32) (x6 : Int32)  (M : dM) {Q : mz_P} {o : (Int32 ⊕ (Unit ⊕ (Bool × dM)))} (hf : b_mo_here_63_63 x1 x2 x3 x4 x5 x6 M = some o) (hk : K_mo_here_63 Q x1 x2 x3 x4 x5 M o) : mW mX12_here 2 Q 63 [some (.ref 66), some (.int x1), some (.int x2), some (.int x3), some (.int x4), some (.int x5), some (.int x6)] [] M := by
  unfold b_mo_here_63_63 at hf
  refine y_iload (i := 6) (n := 65) ⟨dX12_here_63, rfl⟩ rfl ?_
  refine y_aload_n (i := 0) (n := 66) ⟨dX12_here_65, rfl⟩ rfl ?_
  refine y_getI (n := 69) ⟨dX12_here_66, rfl⟩ kfX12_228 l_66 rfl ?_
  refine y_icmp_ge (t := 137) (n := 72) ⟨dX12_here_69, rfl, rfl⟩ (fun (hc : (gI M 66 3) ≤ x6) => ?_) (fun (hc : ¬ ((gI M 66 3) ≤ x6)) => ?_)
  · replace hf := i_t hc hf
    cases hf
    exact y_wk (L2 := [some (.ref 66), some (.int x1), some (.int x2), some (.int x3), some (.int x4), some (.int x5), none]) ⟨Or.inr rfl, Or.inr rfl, Or.inr rfl, Or.inr rfl, Or.inr rfl, Or.inr rfl, Or.inl rfl, trivial⟩ hk
  · replace hf := i_f hc hf
    refine y_aload_n (i := 0) (n := 73) ⟨dX12_here_72, rfl⟩ rfl ?_
    refine y_getR (n := 76) ⟨dX12_here_73, rfl⟩ kfX12_16 l_66 rfl r_66_4 ?_
    refine y_iload (i := 6) (n := 78) ⟨dX12_here_76, rfl⟩ rfl ?_
    obtain ⟨hg1, hf⟩ := g_s hf
    refine y_iaload (n := 79) ⟨dX12_here_78, rfl⟩ l_69 hg1 ?_
    refine y_iload_n (i := 1) (n := 80) ⟨dX12_here_79, rfl⟩ rfl ?_
    refine y_icmp_ne (t := 131) (n := 83) ⟨dX12_here_80, rfl, rfl⟩ (fun (hc : ¬ ((gI M 69 x6.toNatClampNeg) = x1)) => ?_) (fun (hc : (gI M 69 x6.toNatClampNeg) = x1) => ?_)
    · replace hf := i_f hc hf
      refine y_iinc (i := 6) (n := 134) (b := (x6 + 1)) (L2 := [some (.ref 66), some (.int x1), some (.int x2), some (.int x3), some (.int x4), some (.int x5), some (.int (x6 + 1))]) ⟨dX12_here_131, rfl⟩ rfl (by rw [ki_1]) (by decide) rfl rfl ?_
      refine y_goto (t := 63) ⟨dX12_here_134, rfl, rfl⟩ ?_
      cases hf
      exact y_wk (L2 := [some (.ref 66), some (.int x1), some (.int x2), some (.int x3), some (.int x4), some (.int x5), some (.int (x6 + 1))]) ⟨Or.inr rfl, Or.inr rfl, Or.inr rfl, Or.inr rfl, Or.inr rfl, Or.inr rfl, Or.inr rfl, trivial⟩ hk
    · replace hf := i_t hc hf
      refine y_aload_n (i := 0) (n := 84) ⟨dX12_here_83, rfl⟩ rfl ?_
      refine y_getR (n := 87) ⟨dX12_here_84, rfl⟩ kfX12_22 l_66 rfl r_66_6 ?_
      refine y_iload (i := 6) (n := 89) ⟨dX12_here_87, rfl⟩ rfl ?_
      refine y_iaload (n := 90) ⟨dX12_here_89, rfl⟩ l_71 hg1 ?_
      refine y_iload_n (i := 3) (n := 91) ⟨dX12_here_90, rfl⟩ rfl ?_
      refine y_icmp_ne (t := 131) (n := 94) ⟨dX12_here_91, rfl, rfl⟩ (fun (hc : ¬ ((gI M 71 x6.toNatClampNeg) = x3)) => ?_) (fun (hc : (gI M 71 x6.toNatClampNeg) = x3) => ?_)
      · replace hf := i_f hc hf
        refine y_iinc (i := 6) (n := 134) (b := (x6 + 1)) (L2 := [some (.ref 66), some (.int x1), some (.int x2), some (.int x3), some (.int x4), some (.int x5), some (.int (x6 + 1))]) ⟨dX12_here_131, rfl⟩ rfl (by rw [ki_1]) (by decide) rfl rfl ?_
        refine y_goto (t := 63) ⟨dX12_here_134, rfl, rfl⟩ ?_
        cases hf
        exact y_wk (L2 := [some (.ref 66), some (.int x1), some (.int x2), some (.int x3), some (.int x4), some (.int x5), some (.int (x6 + 1))]) ⟨Or.inr rfl, Or.inr rfl, Or.inr rfl, Or.inr rfl, Or.inr rfl, Or.inr rfl, Or.inr rfl, trivial⟩ hk
      · replace hf := i_t hc hf
        refine y_aload_n (i := 0) (n := 95) ⟨dX12_here_94, rfl⟩ rfl ?_
        refine y_getR (n := 98) ⟨dX12_here_95, rfl⟩ kfX12_19 l_66 rfl r_66_5 ?_
        refine y_iload (i := 6) (n := 100) ⟨dX12_here_98, rfl⟩ rfl ?_
        refine y_iaload (n := 101) ⟨dX12_here_100, rfl⟩ l_70 hg1 ?_
        refine y_iload_n (i := 2) (n := 102) ⟨dX12_here_101, rfl⟩ rfl ?_
        refine y_icmp_eq (t := 131) (n := 105) ⟨dX12_here_102, rfl, rfl⟩ (fun (hc : (gI M 70 x6.toNatClampNeg) = x2) => ?_) (fun (hc : ¬ ((gI M 70 x6.toNatClampNeg) = x2)) => ?_)
        · replace hf := i_t hc hf
          refine y_iinc (i := 6) (n := 134) (b := (x6 + 1)) (L2 := [some (.ref 66), some (.int x1), some (.int x2), some (.int x3), some (.int x4), some (.int x5), some (.int (x6 + 1))]) ⟨dX12_here_131, rfl⟩ rfl (by rw [ki_1]) (by decide) rfl rfl ?_
          refine y_goto (t := 63) ⟨dX12_here_134, rfl, rfl⟩ ?_
          cases hf
          exact y_wk (L2 := [some (.ref 66), some (.int x1), some (.int x2), some (.int x3), some (.int x4), some (.int x5), some (.int (x6 + 1))]) ⟨Or.inr rfl, Or.inr rfl, Or.inr rfl, Or.inr rfl, Or.inr rfl, Or.inr rfl, Or.inr rfl, trivial⟩ hk
        · replace hf := i_f hc hf
          refine y_aload_n (i := 0) (n := 106) ⟨dX12_here_105, rfl⟩ rfl ?_
          refine y_getR (n := 109) ⟨dX12_here_106, rfl⟩ kfX12_25 l_66 rfl r_66_7 ?_
          refine y_iload (i := 6) (n := 111) ⟨dX12_here_109, rfl⟩ rfl ?_
          refine y_iaload (n := 112) ⟨dX12_here_111, rfl⟩ l_72 hg1 ?_
          refine y_iload (i := 5) (n := 114) ⟨dX12_here_112, rfl⟩ rfl ?_
          refine y_icmp_gt (t := 131) (n := 117) ⟨dX12_here_114, rfl, rfl⟩ (fun (hc : x5 < (gI M 72 x6.toNatClampNeg)) => ?_) (fun (hc : ¬ (x5 < (gI M 72 x6.toNatClampNeg))) => ?_)
          · replace hf := i_t hc hf
            refine y_iinc (i := 6) (n := 134) (b := (x6 + 1)) (L2 := [some (.ref 66), some (.int x1), some (.int x2), some (.int x3), some (.int x4), some (.int x5), some (.int (x6 + 1))]) ⟨dX12_here_131, rfl⟩ rfl (by rw [ki_1]) (by decide) rfl rfl ?_
            refine y_goto (t := 63) ⟨dX12_here_134, rfl, rfl⟩ ?_
            cases hf
            exact y_wk (L2 := [some (.ref 66), some (.int x1), some (.int x2), some (.int x3), some (.int x4), some (.int x5), some (.int (x6 + 1))]) ⟨Or.inr rfl, Or.inr rfl, Or.inr rfl, Or.inr rfl, Or.inr rfl, Or.inr rfl, Or.inr rfl, trivial⟩ hk
          · replace hf := i_f hc hf
            refine y_aload_n (i := 0) (n := 118) ⟨dX12_here_117, rfl⟩ rfl ?_
            refine y_getR (n := 121) ⟨dX12_here_118, rfl⟩ kfX12_28 l_66 rfl r_66_8 ?_
            refine y_iload (i := 6) (n := 123) ⟨dX12_here_121, rfl⟩ rfl ?_
            refine y_iaload (n := 124) ⟨dX12_here_123, rfl⟩ l_73 hg1 ?_
            refine y_iload (i := 4) (n := 126) ⟨dX12_here_124, rfl⟩ rfl ?_
            refine y_icmp_lt (t := 131) (n := 129) ⟨dX12_here_126, rfl, rfl⟩ (fun (hc : (gI M 73 x6.toNatClampNeg) < x4) => ?_) (fun (hc : ¬ ((gI M 73 x6.toNatClampNeg) < x4)) => ?_)
            · replace hf := i_t hc hf
              refine y_iinc (i := 6) (n := 134) (b := (x6 + 1)) (L2 := [some (.ref 66), some (.int x1), some (.int x2), some (.int x3), some (.int x4), some (.int x5), some (.int (x6 + 1))]) ⟨dX12_here_131, rfl⟩ rfl (by rw [ki_1]) (by decide) rfl rfl ?_
              refine y_goto (t := 63) ⟨dX12_here_134, rfl, rfl⟩ ?_
              cases hf
              exact y_wk (L2 := [some (.ref 66), some (.int x1), some (.int x2), some (.int x3), some (.int x4), some (.int x5), some (.int (x6 + 1))]) ⟨Or.inr rfl, Or.inr rfl, Or.inr rfl, Or.inr rfl, Or.inr rfl, Or.inr rfl, Or.inr rfl, trivial⟩ hk
            · replace hf := i_f hc hf
              refine y_iconst (n := 130) (v := 0) ⟨dX12_here_129, rfl⟩ ki_0 ?_
              cases hf
              exact y_ireturn (n := 131) ⟨dX12_here_130, rfl⟩ rfl rfl hk
theorem wl_mo_here_63 (x1 : Int32) (x2 : Int32) (x3 : Int32) (x4 : Int32) (x5 : Int32) (x6 : Int32) (M : dM) {Q : mz_P} {x : (Unit ⊕ (Bool × dM))} (hf : l_mo_here_63 x1 x2 x3 x4 x5 x6 M = some x) (hk : K_mo_here_63 Q x1 x2 x3 x4 x5 M (.inr x)) : mW mX12_here 2 Q 63 [some (.ref 66), some (.int x1), some (.int x2), some (.int x3), some (.int x4), some (.int x5), some (.int x6)] [] M :=
  lpc_wp (σ := Int32) (ξ := (Unit ⊕ (Bool × dM))) (s := x6) (Wh := fun s => mW mX12_here 2 Q 63 [some (.ref 66), some (.int x1), some (.int x2), some (.int x3), some (.int x4), some (.int x5), some (.int s)] [] M) (K := K_mo_here_63 Q x1 x2 x3 x4 x5 M) (fun _ h => h) (fun s o hb hk => w_b_mo_here_63_63 x1 x2 x3 x4 x5 s M hb hk) hf hk
theorem ok_mo_here (a1 : Int32) (a2 : Int32) (a3 : Int32) (a4 : Int32) (a5 : Int32) (M : dM) {o : (Bool × dM)} (hf : f_mo_here a1 a2 a3 a4 a5 M = some o) : mO mX12_here 2 [.ref 66, .int a1, .int a2, .int a3, .int a4, .int a5] M (some (.int (bI o.1))) o.2 := by
  refine y_ok (by decide +kernel) (Nat.le_of_ble_eq_true rfl) (L0 := [some (.ref 66), some (.int a1), some (.int a2), some (.int a3), some (.int a4), some (.int a5), none]) rfl ?_
  have hk := mR_mQ (some (.int (bI o.1))) o.2
  generalize mQ _ _ = Q at hk ⊢
  unfold f_mo_here at hf
  refine y_aload_n (i := 0) (n := 1) ⟨dX12_here_0, rfl⟩ rfl ?_
  refine y_iconst (n := 2) (v := 0) ⟨dX12_here_1, rfl⟩ ki_0 ?_
  refine y_putI (n := 5) ⟨dX12_here_2, rfl⟩ kfX12_214 l_66 (by decide +kernel) rfl ?_
  refine y_iload_n (i := 1) (n := 6) ⟨dX12_here_5, rfl⟩ rfl ?_
  refine c_mo_isHand a1 (sI M 66 0 0) (n := 9) ⟨dX12_here_6, rfl⟩ klX12_225 rfl (by decide) (Nat.le_of_ble_eq_true rfl) rfl rfl ?_
  refine y_if_eq (t := 58) (n := 12) ⟨dX12_here_9, rfl, rfl⟩ (fun h0 => ?_) (fun h0 => ?_)
  · have hc := bI_0 h0
    replace hf := i_f hc hf
    refine y_iconst (n := 59) (v := 0) ⟨dX12_here_58, rfl⟩ ki_0 ?_
    cases hf
    exact y_ireturn (n := 60) ⟨dX12_here_59, rfl⟩ rfl rfl hk
  · have hc := bI_1 h0
    replace hf := i_t hc hf
    refine y_iload_n (i := 2) (n := 13) ⟨dX12_here_12, rfl⟩ rfl ?_
    refine c_mo_isSite a2 (sI M 66 0 0) (n := 16) ⟨dX12_here_13, rfl⟩ klX12_217 rfl (by decide) (Nat.le_of_ble_eq_true rfl) rfl rfl ?_
    refine y_if_eq (t := 58) (n := 19) ⟨dX12_here_16, rfl, rfl⟩ (fun h0 => ?_) (fun h0 => ?_)
    · have hc := bI_0 h0
      replace hf := i_f hc hf
      refine y_iconst (n := 59) (v := 0) ⟨dX12_here_58, rfl⟩ ki_0 ?_
      cases hf
      exact y_ireturn (n := 60) ⟨dX12_here_59, rfl⟩ rfl rfl hk
    · have hc := bI_1 h0
      replace hf := i_t hc hf
      refine y_iload_n (i := 3) (n := 20) ⟨dX12_here_19, rfl⟩ rfl ?_
      refine y_iconst (n := 21) (v := 0) ⟨dX12_here_20, rfl⟩ ki_0 ?_
      refine y_sipush (n := 24) (v := 999) ⟨dX12_here_21, rfl⟩ ks_999 ?_
      refine c_mo_within a3 0 999 (sI M 66 0 0) (n := 27) ⟨dX12_here_24, rfl⟩ klX12_221 rfl (by decide) (Nat.le_of_ble_eq_true rfl) rfl rfl ?_
      refine y_if_eq (t := 58) (n := 30) ⟨dX12_here_27, rfl, rfl⟩ (fun h0 => ?_) (fun h0 => ?_)
      · have hc := bI_0 h0
        replace hf := i_f hc hf
        refine y_iconst (n := 59) (v := 0) ⟨dX12_here_58, rfl⟩ ki_0 ?_
        cases hf
        exact y_ireturn (n := 60) ⟨dX12_here_59, rfl⟩ rfl rfl hk
      · have hc := bI_1 h0
        replace hf := i_t hc hf
        refine y_iload (i := 4) (n := 32) ⟨dX12_here_30, rfl⟩ rfl ?_
        refine y_if_lt (t := 58) (n := 35) ⟨dX12_here_32, rfl, rfl⟩ (fun (hc : a4 < 0) => ?_) (fun (hc : ¬ (a4 < 0)) => ?_)
        · replace hf := i_t hc hf
          refine y_iconst (n := 59) (v := 0) ⟨dX12_here_58, rfl⟩ ki_0 ?_
          cases hf
          exact y_ireturn (n := 60) ⟨dX12_here_59, rfl⟩ rfl rfl hk
        · replace hf := i_f hc hf
          refine y_iload (i := 4) (n := 37) ⟨dX12_here_35, rfl⟩ rfl ?_
          refine y_iload (i := 5) (n := 39) ⟨dX12_here_37, rfl⟩ rfl ?_
          refine y_icmp_gt (t := 58) (n := 42) ⟨dX12_here_39, rfl, rfl⟩ (fun (hc : a5 < a4) => ?_) (fun (hc : ¬ (a5 < a4)) => ?_)
          · replace hf := i_t hc hf
            refine y_iconst (n := 59) (v := 0) ⟨dX12_here_58, rfl⟩ ki_0 ?_
            cases hf
            exact y_ireturn (n := 60) ⟨dX12_here_59, rfl⟩ rfl rfl hk
          · replace hf := i_f hc hf
            refine y_iload (i := 5) (n := 44) ⟨dX12_here_42, rfl⟩ rfl ?_
            refine y_bipush (n := 46) (v := 23) ⟨dX12_here_44, rfl⟩ kb_23 ?_
            refine y_icmp_gt (t := 58) (n := 49) ⟨dX12_here_46, rfl, rfl⟩ (fun (hc : 23 < a5) => ?_) (fun (hc : ¬ (23 < a5)) => ?_)
            · replace hf := i_t hc hf
              refine y_iconst (n := 59) (v := 0) ⟨dX12_here_58, rfl⟩ ki_0 ?_
              cases hf
              exact y_ireturn (n := 60) ⟨dX12_here_59, rfl⟩ rfl rfl hk
            · replace hf := i_f hc hf
              refine y_aload_n (i := 0) (n := 50) ⟨dX12_here_49, rfl⟩ rfl ?_
              refine y_getI (n := 53) ⟨dX12_here_50, rfl⟩ kfX12_228 l_66 rfl ?_
              refine y_bipush (n := 55) (v := 80) ⟨dX12_here_53, rfl⟩ kb_80 ?_
              refine y_icmp_ne (t := 60) (n := 58) ⟨dX12_here_55, rfl, rfl⟩ (fun (hc : ¬ ((gI (sI M 66 0 0) 66 3) = 80)) => ?_) (fun (hc : (gI (sI M 66 0 0) 66 3) = 80) => ?_)
              · replace hf := i_f hc hf
                refine y_iconst (n := 61) (v := 0) ⟨dX12_here_60, rfl⟩ ki_0 ?_
                refine y_istore (i := 6) (n := 63) (L2 := [some (.ref 66), some (.int a1), some (.int a2), some (.int a3), some (.int a4), some (.int a5), some (.int 0)]) ⟨dX12_here_61, rfl⟩ (by decide) rfl rfl ?_
                obtain ⟨z10, hl3, hf⟩ := b_s hf
                refine y_wk (L2 := [some (.ref 66), some (.int a1), some (.int a2), some (.int a3), some (.int a4), some (.int a5), some (.int 0)]) ⟨Or.inr rfl, Or.inr rfl, Or.inr rfl, Or.inr rfl, Or.inr rfl, Or.inr rfl, Or.inr rfl, trivial⟩ (wl_mo_here_63 a1 a2 a3 a4 a5 0 (sI M 66 0 0) hl3 ?_)
                rcases z10 with t2 | r4
                · show mW mX12_here 2 Q 137 [some (.ref 66), some (.int a1), some (.int a2), some (.int a3), some (.int a4), some (.int a5), none] [] (sI M 66 0 0)
                  refine y_aload_n (i := 0) (n := 138) ⟨dX12_here_137, rfl⟩ rfl ?_
                  refine y_getR (n := 141) ⟨dX12_here_138, rfl⟩ kfX12_16 l_66 rfl r_66_4 ?_
                  refine y_aload_n (i := 0) (n := 142) ⟨dX12_here_141, rfl⟩ rfl ?_
                  refine y_getI (n := 145) ⟨dX12_here_142, rfl⟩ kfX12_228 l_66 rfl ?_
                  refine y_iload_n (i := 1) (n := 146) ⟨dX12_here_145, rfl⟩ rfl ?_
                  obtain ⟨hg5, hf⟩ := g_s hf
                  refine y_iastore (n := 147) ⟨dX12_here_146, rfl⟩ l_69 hg5 ?_
                  refine y_aload_n (i := 0) (n := 148) ⟨dX12_here_147, rfl⟩ rfl ?_
                  refine y_getR (n := 151) ⟨dX12_here_148, rfl⟩ kfX12_19 l_66 rfl r_66_5 ?_
                  refine y_aload_n (i := 0) (n := 152) ⟨dX12_here_151, rfl⟩ rfl ?_
                  refine y_getI (n := 155) ⟨dX12_here_152, rfl⟩ kfX12_228 l_66 rfl ?_
                  refine y_iload_n (i := 2) (n := 156) ⟨dX12_here_155, rfl⟩ rfl ?_
                  obtain ⟨hg6, hf⟩ := g_s hf
                  refine y_iastore (n := 157) ⟨dX12_here_156, rfl⟩ l_70 hg6 ?_
                  refine y_aload_n (i := 0) (n := 158) ⟨dX12_here_157, rfl⟩ rfl ?_
                  refine y_getR (n := 161) ⟨dX12_here_158, rfl⟩ kfX12_22 l_66 rfl r_66_6 ?_
                  refine y_aload_n (i := 0) (n := 162) ⟨dX12_here_161, rfl⟩ rfl ?_
                  refine y_getI (n := 165) ⟨dX12_here_162, rfl⟩ kfX12_228 l_66 rfl ?_
                  refine y_iload_n (i := 3) (n := 166) ⟨dX12_here_165, rfl⟩ rfl ?_
                  obtain ⟨hg7, hf⟩ := g_s hf
                  refine y_iastore (n := 167) ⟨dX12_here_166, rfl⟩ l_71 hg7 ?_
                  refine y_aload_n (i := 0) (n := 168) ⟨dX12_here_167, rfl⟩ rfl ?_
                  refine y_getR (n := 171) ⟨dX12_here_168, rfl⟩ kfX12_25 l_66 rfl r_66_7 ?_
                  refine y_aload_n (i := 0) (n := 172) ⟨dX12_here_171, rfl⟩ rfl ?_
                  refine y_getI (n := 175) ⟨dX12_here_172, rfl⟩ kfX12_228 l_66 rfl ?_
                  refine y_iload (i := 4) (n := 177) ⟨dX12_here_175, rfl⟩ rfl ?_
                  obtain ⟨hg8, hf⟩ := g_s hf
                  refine y_iastore (n := 178) ⟨dX12_here_177, rfl⟩ l_72 hg8 ?_
                  refine y_aload_n (i := 0) (n := 179) ⟨dX12_here_178, rfl⟩ rfl ?_
                  refine y_getR (n := 182) ⟨dX12_here_179, rfl⟩ kfX12_28 l_66 rfl r_66_8 ?_
                  refine y_aload_n (i := 0) (n := 183) ⟨dX12_here_182, rfl⟩ rfl ?_
                  refine y_getI (n := 186) ⟨dX12_here_183, rfl⟩ kfX12_228 l_66 rfl ?_
                  refine y_iload (i := 5) (n := 188) ⟨dX12_here_186, rfl⟩ rfl ?_
                  obtain ⟨hg9, hf⟩ := g_s hf
                  refine y_iastore (n := 189) ⟨dX12_here_188, rfl⟩ l_73 hg9 ?_
                  refine y_aload_n (i := 0) (n := 190) ⟨dX12_here_189, rfl⟩ rfl ?_
                  refine y_dup_r (n := 191) ⟨dX12_here_190, rfl⟩ ?_
                  refine y_getI (n := 194) ⟨dX12_here_191, rfl⟩ kfX12_228 l_66 rfl ?_
                  refine y_iconst (n := 195) (v := 1) ⟨dX12_here_194, rfl⟩ ki_1 ?_
                  refine y_iadd (n := 196) ⟨dX12_here_195, rfl⟩ ?_
                  refine y_putI (n := 199) ⟨dX12_here_196, rfl⟩ kfX12_228 l_66 (by decide +kernel) rfl ?_
                  refine y_iconst (n := 200) (v := 1) ⟨dX12_here_199, rfl⟩ ki_1 ?_
                  cases hf
                  exact y_ireturn (n := 201) ⟨dX12_here_200, rfl⟩ rfl rfl hk
                · cases hf
                  exact hk
              · replace hf := i_t hc hf
                refine y_iconst (n := 59) (v := 0) ⟨dX12_here_58, rfl⟩ ki_0 ?_
                cases hf
                exact y_ireturn (n := 60) ⟨dX12_here_59, rfl⟩ rfl rfl hk
theorem c_mo_here (a1 : Int32) (a2 : Int32) (a3 : Int32) (a4 : Int32) (a5 : Int32) (M : dM) {o : (Bool × dM)} {y : mz_M} {d : Nat} {Q : mz_P} {pc n i : Nat} {L : List (Option Value)} {st : List Value} (h : mz_d y.2.1 pc n 3 (.invokevirtual i)) (hl : mz_ml y.1.cls i yX12_here) (hf : f_mo_here a1 a2 a3 a4 a5 M = some o) (hd : 2 + 1 ≤ d) (hsm : (st.map (fun v => v.category)).sum ≤ 8) (hLr : mz_rL 133 L = true) (hSr : mz_rS 133 st = true) (kk : mW y d Q n L (.int (bI o.1) :: st) o.2) : mW y d Q pc L (.int a5 :: .int a4 :: .int a3 :: .int a2 :: .int a1 :: .ref 66 :: st) M :=
  y_callV kmX12_here kvX12_here l_66 (by decide +kernel) (by decide +kernel) h hl (ok_mo_here a1 a2 a3 a4 a5 M hf) (vs := [.int a1, .int a2, .int a3, .int a4, .int a5]) rfl rfl hd hsm hLr hSr kk
def K_mo_presentAt_6 (Q : mz_P) (x1 : Int32) (x2 : Int32) (x3 : Int32) (M : dM) : ((Int32 × Int32) ⊕ Int32) → Prop
  | .inl s => mW mX12_presentAt 1 Q 6 [some (.ref 66), some (.int x1), some (.int x2), some (.int x3), some (.int s.1), some (.int s.2)] [] M
  | .inr r => mR Q (some (.int r)) M
noncomputable def b_mo_presentAt_6_6 (x1 : Int32) (x2 : Int32) (x3 : Int32) (x4 : Int32) (x5 : Int32) (M : dM) : Option ((Int32 × Int32) ⊕ Int32) :=
  if (gI M 66 3) ≤ x5 then
    some (.inr x4)
  else
    gd (vp_in x5 80) <|
    if (gI M 70 x5.toNatClampNeg) = x1 then
      if (gI M 71 x5.toNatClampNeg) = x2 then
        if x3 < (gI M 72 x5.toNatClampNeg) then
          some (.inl (x4, (x5 + 1)))
        else
          if (gI M 73 x5.toNatClampNeg) < x3 then
            some (.inl (x4, (x5 + 1)))
          else
            some (.inl ((x4 ||| ((1 : Int32) <<< ((gI M 69 x5.toNatClampNeg) &&& 31))), (x5 + 1)))
      else
        some (.inl (x4, (x5 + 1)))
    else
      some (.inl (x4, (x5 + 1)))
noncomputable def l_mo_presentAt_6 (x1 : Int32) (x2 : Int32) (x3 : Int32) (x4 : Int32) (x5 : Int32) (M : dM) : Option Int32 := lpc (fun s => b_mo_presentAt_6_6 x1 x2 x3 s.1 s.2 M) (x4, x5)
noncomputable def f_mo_presentAt (a1 : Int32) (a2 : Int32) (a3 : Int32) (M : dM) : Option Int32 :=
  (l_mo_presentAt_6 a1 a2 a3 0 0 M).bind fun r4 => some r4
theorem w_b_mo_presentAt_6_6 (x1 : Int32) (x2 : Int32) (x3 : Int32) (x4 : Int32) (x5 : Int32)  (M : dM) {Q : mz_P} {o : ((Int32 × Int32) ⊕ Int32)} (hf : b_mo_presentAt_6_6 x1 x2 x3 x4 x5 M = some o) (hk : K_mo_presentAt_6 Q x1 x2 x3 M o) : mW mX12_presentAt 1 Q 6 [some (.ref 66), some (.int x1), some (.int x2), some (.int x3), some (.int x4), some (.int x5)] [] M := by
  unfold b_mo_presentAt_6_6 at hf
  refine y_iload (i := 5) (n := 8) ⟨dX12_presentAt_6, rfl⟩ rfl ?_
  refine y_aload_n (i := 0) (n := 9) ⟨dX12_presentAt_8, rfl⟩ rfl ?_
  refine y_getI (n := 12) ⟨dX12_presentAt_9, rfl⟩ kfX12_228 l_66 rfl ?_
  refine y_icmp_ge (t := 79) (n := 15) ⟨dX12_presentAt_12, rfl, rfl⟩ (fun (hc : (gI M 66 3) ≤ x5) => ?_) (fun (hc : ¬ ((gI M 66 3) ≤ x5)) => ?_)
  · replace hf := i_t hc hf
    refine y_iload (i := 4) (n := 81) ⟨dX12_presentAt_79, rfl⟩ rfl ?_
    cases hf
    exact y_ireturn (n := 82) ⟨dX12_presentAt_81, rfl⟩ rfl rfl hk
  · replace hf := i_f hc hf
    refine y_aload_n (i := 0) (n := 16) ⟨dX12_presentAt_15, rfl⟩ rfl ?_
    refine y_getR (n := 19) ⟨dX12_presentAt_16, rfl⟩ kfX12_19 l_66 rfl r_66_5 ?_
    refine y_iload (i := 5) (n := 21) ⟨dX12_presentAt_19, rfl⟩ rfl ?_
    obtain ⟨hg1, hf⟩ := g_s hf
    refine y_iaload (n := 22) ⟨dX12_presentAt_21, rfl⟩ l_70 hg1 ?_
    refine y_iload_n (i := 1) (n := 23) ⟨dX12_presentAt_22, rfl⟩ rfl ?_
    refine y_icmp_ne (t := 73) (n := 26) ⟨dX12_presentAt_23, rfl, rfl⟩ (fun (hc : ¬ ((gI M 70 x5.toNatClampNeg) = x1)) => ?_) (fun (hc : (gI M 70 x5.toNatClampNeg) = x1) => ?_)
    · replace hf := i_f hc hf
      refine y_iinc (i := 5) (n := 76) (b := (x5 + 1)) (L2 := [some (.ref 66), some (.int x1), some (.int x2), some (.int x3), some (.int x4), some (.int (x5 + 1))]) ⟨dX12_presentAt_73, rfl⟩ rfl (by rw [ki_1]) (by decide) rfl rfl ?_
      refine y_goto (t := 6) ⟨dX12_presentAt_76, rfl, rfl⟩ ?_
      cases hf
      exact y_wk (L2 := [some (.ref 66), some (.int x1), some (.int x2), some (.int x3), some (.int x4), some (.int (x5 + 1))]) ⟨Or.inr rfl, Or.inr rfl, Or.inr rfl, Or.inr rfl, Or.inr rfl, Or.inr rfl, trivial⟩ hk
    · replace hf := i_t hc hf
      refine y_aload_n (i := 0) (n := 27) ⟨dX12_presentAt_26, rfl⟩ rfl ?_
      refine y_getR (n := 30) ⟨dX12_presentAt_27, rfl⟩ kfX12_22 l_66 rfl r_66_6 ?_
      refine y_iload (i := 5) (n := 32) ⟨dX12_presentAt_30, rfl⟩ rfl ?_
      refine y_iaload (n := 33) ⟨dX12_presentAt_32, rfl⟩ l_71 hg1 ?_
      refine y_iload_n (i := 2) (n := 34) ⟨dX12_presentAt_33, rfl⟩ rfl ?_
      refine y_icmp_ne (t := 73) (n := 37) ⟨dX12_presentAt_34, rfl, rfl⟩ (fun (hc : ¬ ((gI M 71 x5.toNatClampNeg) = x2)) => ?_) (fun (hc : (gI M 71 x5.toNatClampNeg) = x2) => ?_)
      · replace hf := i_f hc hf
        refine y_iinc (i := 5) (n := 76) (b := (x5 + 1)) (L2 := [some (.ref 66), some (.int x1), some (.int x2), some (.int x3), some (.int x4), some (.int (x5 + 1))]) ⟨dX12_presentAt_73, rfl⟩ rfl (by rw [ki_1]) (by decide) rfl rfl ?_
        refine y_goto (t := 6) ⟨dX12_presentAt_76, rfl, rfl⟩ ?_
        cases hf
        exact y_wk (L2 := [some (.ref 66), some (.int x1), some (.int x2), some (.int x3), some (.int x4), some (.int (x5 + 1))]) ⟨Or.inr rfl, Or.inr rfl, Or.inr rfl, Or.inr rfl, Or.inr rfl, Or.inr rfl, trivial⟩ hk
      · replace hf := i_t hc hf
        refine y_aload_n (i := 0) (n := 38) ⟨dX12_presentAt_37, rfl⟩ rfl ?_
        refine y_getR (n := 41) ⟨dX12_presentAt_38, rfl⟩ kfX12_25 l_66 rfl r_66_7 ?_
        refine y_iload (i := 5) (n := 43) ⟨dX12_presentAt_41, rfl⟩ rfl ?_
        refine y_iaload (n := 44) ⟨dX12_presentAt_43, rfl⟩ l_72 hg1 ?_
        refine y_iload_n (i := 3) (n := 45) ⟨dX12_presentAt_44, rfl⟩ rfl ?_
        refine y_icmp_gt (t := 73) (n := 48) ⟨dX12_presentAt_45, rfl, rfl⟩ (fun (hc : x3 < (gI M 72 x5.toNatClampNeg)) => ?_) (fun (hc : ¬ (x3 < (gI M 72 x5.toNatClampNeg))) => ?_)
        · replace hf := i_t hc hf
          refine y_iinc (i := 5) (n := 76) (b := (x5 + 1)) (L2 := [some (.ref 66), some (.int x1), some (.int x2), some (.int x3), some (.int x4), some (.int (x5 + 1))]) ⟨dX12_presentAt_73, rfl⟩ rfl (by rw [ki_1]) (by decide) rfl rfl ?_
          refine y_goto (t := 6) ⟨dX12_presentAt_76, rfl, rfl⟩ ?_
          cases hf
          exact y_wk (L2 := [some (.ref 66), some (.int x1), some (.int x2), some (.int x3), some (.int x4), some (.int (x5 + 1))]) ⟨Or.inr rfl, Or.inr rfl, Or.inr rfl, Or.inr rfl, Or.inr rfl, Or.inr rfl, trivial⟩ hk
        · replace hf := i_f hc hf
          refine y_aload_n (i := 0) (n := 49) ⟨dX12_presentAt_48, rfl⟩ rfl ?_
          refine y_getR (n := 52) ⟨dX12_presentAt_49, rfl⟩ kfX12_28 l_66 rfl r_66_8 ?_
          refine y_iload (i := 5) (n := 54) ⟨dX12_presentAt_52, rfl⟩ rfl ?_
          refine y_iaload (n := 55) ⟨dX12_presentAt_54, rfl⟩ l_73 hg1 ?_
          refine y_iload_n (i := 3) (n := 56) ⟨dX12_presentAt_55, rfl⟩ rfl ?_
          refine y_icmp_lt (t := 73) (n := 59) ⟨dX12_presentAt_56, rfl, rfl⟩ (fun (hc : (gI M 73 x5.toNatClampNeg) < x3) => ?_) (fun (hc : ¬ ((gI M 73 x5.toNatClampNeg) < x3)) => ?_)
          · replace hf := i_t hc hf
            refine y_iinc (i := 5) (n := 76) (b := (x5 + 1)) (L2 := [some (.ref 66), some (.int x1), some (.int x2), some (.int x3), some (.int x4), some (.int (x5 + 1))]) ⟨dX12_presentAt_73, rfl⟩ rfl (by rw [ki_1]) (by decide) rfl rfl ?_
            refine y_goto (t := 6) ⟨dX12_presentAt_76, rfl, rfl⟩ ?_
            cases hf
            exact y_wk (L2 := [some (.ref 66), some (.int x1), some (.int x2), some (.int x3), some (.int x4), some (.int (x5 + 1))]) ⟨Or.inr rfl, Or.inr rfl, Or.inr rfl, Or.inr rfl, Or.inr rfl, Or.inr rfl, trivial⟩ hk
          · replace hf := i_f hc hf
            refine y_iload (i := 4) (n := 61) ⟨dX12_presentAt_59, rfl⟩ rfl ?_
            refine y_iconst (n := 62) (v := 1) ⟨dX12_presentAt_61, rfl⟩ ki_1 ?_
            refine y_aload_n (i := 0) (n := 63) ⟨dX12_presentAt_62, rfl⟩ rfl ?_
            refine y_getR (n := 66) ⟨dX12_presentAt_63, rfl⟩ kfX12_16 l_66 rfl r_66_4 ?_
            refine y_iload (i := 5) (n := 68) ⟨dX12_presentAt_66, rfl⟩ rfl ?_
            refine y_iaload (n := 69) ⟨dX12_presentAt_68, rfl⟩ l_69 hg1 ?_
            refine y_ishl (n := 70) ⟨dX12_presentAt_69, rfl⟩ ?_
            refine y_ior (n := 71) ⟨dX12_presentAt_70, rfl⟩ ?_
            refine y_istore (i := 4) (n := 73) (L2 := [some (.ref 66), some (.int x1), some (.int x2), some (.int x3), some (.int (x4 ||| ((1 : Int32) <<< ((gI M 69 x5.toNatClampNeg) &&& 31)))), some (.int x5)]) ⟨dX12_presentAt_71, rfl⟩ (by decide) rfl rfl ?_
            refine y_iinc (i := 5) (n := 76) (b := (x5 + 1)) (L2 := [some (.ref 66), some (.int x1), some (.int x2), some (.int x3), some (.int (x4 ||| ((1 : Int32) <<< ((gI M 69 x5.toNatClampNeg) &&& 31)))), some (.int (x5 + 1))]) ⟨dX12_presentAt_73, rfl⟩ rfl (by rw [ki_1]) (by decide) rfl rfl ?_
            refine y_goto (t := 6) ⟨dX12_presentAt_76, rfl, rfl⟩ ?_
            cases hf
            exact y_wk (L2 := [some (.ref 66), some (.int x1), some (.int x2), some (.int x3), some (.int (x4 ||| ((1 : Int32) <<< ((gI M 69 x5.toNatClampNeg) &&& 31)))), some (.int (x5 + 1))]) ⟨Or.inr rfl, Or.inr rfl, Or.inr rfl, Or.inr rfl, Or.inr rfl, Or.inr rfl, trivial⟩ hk
theorem wl_mo_presentAt_6 (x1 : Int32) (x2 : Int32) (x3 : Int32) (x4 : Int32) (x5 : Int32) (M : dM) {Q : mz_P} {x : Int32} (hf : l_mo_presentAt_6 x1 x2 x3 x4 x5 M = some x) (hk : K_mo_presentAt_6 Q x1 x2 x3 M (.inr x)) : mW mX12_presentAt 1 Q 6 [some (.ref 66), some (.int x1), some (.int x2), some (.int x3), some (.int x4), some (.int x5)] [] M :=
  lpc_wp (σ := (Int32 × Int32)) (ξ := Int32) (s := (x4, x5)) (Wh := fun s => mW mX12_presentAt 1 Q 6 [some (.ref 66), some (.int x1), some (.int x2), some (.int x3), some (.int s.1), some (.int s.2)] [] M) (K := K_mo_presentAt_6 Q x1 x2 x3 M) (fun _ h => h) (fun s o hb hk => w_b_mo_presentAt_6_6 x1 x2 x3 s.1 s.2 M hb hk) hf hk
theorem ok_mo_presentAt (a1 : Int32) (a2 : Int32) (a3 : Int32) (M : dM) {o : Int32} (hf : f_mo_presentAt a1 a2 a3 M = some o) : mO mX12_presentAt 1 [.ref 66, .int a1, .int a2, .int a3] M (some (.int o)) M := by
  refine y_ok (by decide +kernel) (Nat.le_of_ble_eq_true rfl) (L0 := [some (.ref 66), some (.int a1), some (.int a2), some (.int a3), none, none]) rfl ?_
  have hk := mR_mQ (some (.int o)) M
  generalize mQ _ _ = Q at hk ⊢
  unfold f_mo_presentAt at hf
  refine y_iconst (n := 1) (v := 0) ⟨dX12_presentAt_0, rfl⟩ ki_0 ?_
  refine y_istore (i := 4) (n := 3) (L2 := [some (.ref 66), some (.int a1), some (.int a2), some (.int a3), some (.int 0), none]) ⟨dX12_presentAt_1, rfl⟩ (by decide) rfl rfl ?_
  refine y_iconst (n := 4) (v := 0) ⟨dX12_presentAt_3, rfl⟩ ki_0 ?_
  refine y_istore (i := 5) (n := 6) (L2 := [some (.ref 66), some (.int a1), some (.int a2), some (.int a3), some (.int 0), some (.int 0)]) ⟨dX12_presentAt_4, rfl⟩ (by decide) rfl rfl ?_
  obtain ⟨r4, hl3, hf⟩ := b_s hf
  cases hf
  exact y_wk (L2 := [some (.ref 66), some (.int a1), some (.int a2), some (.int a3), some (.int 0), some (.int 0)]) ⟨Or.inr rfl, Or.inr rfl, Or.inr rfl, Or.inr rfl, Or.inr rfl, Or.inr rfl, trivial⟩ (wl_mo_presentAt_6 a1 a2 a3 0 0 M hl3 hk)
theorem c_mo_presentAt (a1 : Int32) (a2 : Int32) (a3 : Int32) (M : dM) {o : Int32} {y : mz_M} {d : Nat} {Q : mz_P} {pc n i : Nat} {L : List (Option Value)} {st : List Value} (h : mz_d y.2.1 pc n 3 (.invokevirtual i)) (hl : mz_ml y.1.cls i yX12_presentAt) (hf : f_mo_presentAt a1 a2 a3 M = some o) (hd : 1 + 1 ≤ d) (hsm : (st.map (fun v => v.category)).sum ≤ 8) (hLr : mz_rL 133 L = true) (hSr : mz_rS 133 st = true) (kk : mW y d Q n L (.int o :: st) M) : mW y d Q pc L (.int a3 :: .int a2 :: .int a1 :: .ref 66 :: st) M :=
  y_callV kmX12_presentAt kvX12_presentAt l_66 (by decide +kernel) (by decide +kernel) h hl (ok_mo_presentAt a1 a2 a3 M hf) (vs := [.int a1, .int a2, .int a3]) rfl rfl hd hsm hLr hSr kk
noncomputable def f_mo_present (a1 : Int32) (a2 : Int32) (a3 : Int32) (M : dM) : Option (Int32 × dM) :=
  if (f_mo_isSite a1) = true then
    if (f_mo_within a2 0 999) = true then
      if (f_mo_within a3 0 23) = true then
        (f_mo_presentAt a1 a2 a3 (sI M 66 0 0)).bind fun v1 =>
        some (v1, (sI M 66 0 0))
      else
        some ((-1), (sI M 66 0 0))
    else
      some ((-1), (sI M 66 0 0))
  else
    some ((-1), (sI M 66 0 0))
theorem ok_mo_present (a1 : Int32) (a2 : Int32) (a3 : Int32) (M : dM) {o : (Int32 × dM)} (hf : f_mo_present a1 a2 a3 M = some o) : mO mX12_present 2 [.ref 66, .int a1, .int a2, .int a3] M (some (.int o.1)) o.2 := by
  refine y_ok (by decide +kernel) (Nat.le_of_ble_eq_true rfl) (L0 := [some (.ref 66), some (.int a1), some (.int a2), some (.int a3)]) rfl ?_
  have hk := mR_mQ (some (.int o.1)) o.2
  generalize mQ _ _ = Q at hk ⊢
  unfold f_mo_present at hf
  refine y_aload_n (i := 0) (n := 1) ⟨dX12_present_0, rfl⟩ rfl ?_
  refine y_iconst (n := 2) (v := 0) ⟨dX12_present_1, rfl⟩ ki_0 ?_
  refine y_putI (n := 5) ⟨dX12_present_2, rfl⟩ kfX12_214 l_66 (by decide +kernel) rfl ?_
  refine y_iload_n (i := 1) (n := 6) ⟨dX12_present_5, rfl⟩ rfl ?_
  refine c_mo_isSite a1 (sI M 66 0 0) (n := 9) ⟨dX12_present_6, rfl⟩ klX12_217 rfl (by decide) (Nat.le_of_ble_eq_true rfl) rfl rfl ?_
  refine y_if_eq (t := 43) (n := 12) ⟨dX12_present_9, rfl, rfl⟩ (fun h0 => ?_) (fun h0 => ?_)
  · have hc := bI_0 h0
    replace hf := i_f hc hf
    refine y_iconst (n := 44) (v := (-1)) ⟨dX12_present_43, rfl⟩ ki_m1 ?_
    cases hf
    exact y_ireturn (n := 45) ⟨dX12_present_44, rfl⟩ rfl rfl hk
  · have hc := bI_1 h0
    replace hf := i_t hc hf
    refine y_iload_n (i := 2) (n := 13) ⟨dX12_present_12, rfl⟩ rfl ?_
    refine y_iconst (n := 14) (v := 0) ⟨dX12_present_13, rfl⟩ ki_0 ?_
    refine y_sipush (n := 17) (v := 999) ⟨dX12_present_14, rfl⟩ ks_999 ?_
    refine c_mo_within a2 0 999 (sI M 66 0 0) (n := 20) ⟨dX12_present_17, rfl⟩ klX12_221 rfl (by decide) (Nat.le_of_ble_eq_true rfl) rfl rfl ?_
    refine y_if_eq (t := 43) (n := 23) ⟨dX12_present_20, rfl, rfl⟩ (fun h0 => ?_) (fun h0 => ?_)
    · have hc := bI_0 h0
      replace hf := i_f hc hf
      refine y_iconst (n := 44) (v := (-1)) ⟨dX12_present_43, rfl⟩ ki_m1 ?_
      cases hf
      exact y_ireturn (n := 45) ⟨dX12_present_44, rfl⟩ rfl rfl hk
    · have hc := bI_1 h0
      replace hf := i_t hc hf
      refine y_iload_n (i := 3) (n := 24) ⟨dX12_present_23, rfl⟩ rfl ?_
      refine y_iconst (n := 25) (v := 0) ⟨dX12_present_24, rfl⟩ ki_0 ?_
      refine y_bipush (n := 27) (v := 23) ⟨dX12_present_25, rfl⟩ kb_23 ?_
      refine c_mo_within a3 0 23 (sI M 66 0 0) (n := 30) ⟨dX12_present_27, rfl⟩ klX12_221 rfl (by decide) (Nat.le_of_ble_eq_true rfl) rfl rfl ?_
      refine y_if_eq (t := 43) (n := 33) ⟨dX12_present_30, rfl, rfl⟩ (fun h0 => ?_) (fun h0 => ?_)
      · have hc := bI_0 h0
        replace hf := i_f hc hf
        refine y_iconst (n := 44) (v := (-1)) ⟨dX12_present_43, rfl⟩ ki_m1 ?_
        cases hf
        exact y_ireturn (n := 45) ⟨dX12_present_44, rfl⟩ rfl rfl hk
      · have hc := bI_1 h0
        replace hf := i_t hc hf
        refine y_aload_n (i := 0) (n := 34) ⟨dX12_present_33, rfl⟩ rfl ?_
        refine y_iload_n (i := 1) (n := 35) ⟨dX12_present_34, rfl⟩ rfl ?_
        refine y_iload_n (i := 2) (n := 36) ⟨dX12_present_35, rfl⟩ rfl ?_
        refine y_iload_n (i := 3) (n := 37) ⟨dX12_present_36, rfl⟩ rfl ?_
        obtain ⟨v1, hv2, hf⟩ := b_s hf
        refine c_mo_presentAt a1 a2 a3 (sI M 66 0 0) (n := 40) ⟨dX12_present_37, rfl⟩ klX12_231 hv2 (by decide) (Nat.le_of_ble_eq_true rfl) rfl rfl ?_
        refine y_goto (t := 44) ⟨dX12_present_40, rfl, rfl⟩ ?_
        cases hf
        exact y_ireturn (n := 45) ⟨dX12_present_44, rfl⟩ rfl rfl hk
theorem c_mo_present (a1 : Int32) (a2 : Int32) (a3 : Int32) (M : dM) {o : (Int32 × dM)} {y : mz_M} {d : Nat} {Q : mz_P} {pc n i : Nat} {L : List (Option Value)} {st : List Value} (h : mz_d y.2.1 pc n 3 (.invokevirtual i)) (hl : mz_ml y.1.cls i yX12_present) (hf : f_mo_present a1 a2 a3 M = some o) (hd : 2 + 1 ≤ d) (hsm : (st.map (fun v => v.category)).sum ≤ 8) (hLr : mz_rL 133 L = true) (hSr : mz_rS 133 st = true) (kk : mW y d Q n L (.int o.1 :: st) o.2) : mW y d Q pc L (.int a3 :: .int a2 :: .int a1 :: .ref 66 :: st) M :=
  y_callV kmX12_present kvX12_present l_66 (by decide +kernel) (by decide +kernel) h hl (ok_mo_present a1 a2 a3 M hf) (vs := [.int a1, .int a2, .int a3]) rfl rfl hd hsm hLr hSr kk
noncomputable def t_mo_find_122 (x1 : Int32) (x2 : Int32) (x3 : Int32) (x4 : Int32) (x5 : Int32) (x6 : Int32) (x7 : Int32) (M : dM) : Option (Int32 × dM) :=
  (f_mo_presentAt x1 x3 x4 M).bind fun v2 =>
  if ((v2 >>> (x5 &&& 31)) &&& 1) = 0 then
    some ((-1), M)
  else
    gd (vp_in (gI M 66 9) 40) <|
    gd (vp_in (gI (sI M 74 (gI M 66 9).toNatClampNeg x1) 66 9) 40) <|
    gd (vp_in (gI (sI (sI M 74 (gI M 66 9).toNatClampNeg x1) 75 (gI (sI M 74 (gI M 66 9).toNatClampNeg x1) 66 9).toNatClampNeg x2) 66 9) 40) <|
    gd (vp_in (gI (sI (sI (sI M 74 (gI M 66 9).toNatClampNeg x1) 75 (gI (sI M 74 (gI M 66 9).toNatClampNeg x1) 66 9).toNatClampNeg x2) 76 (gI (sI (sI M 74 (gI M 66 9).toNatClampNeg x1) 75 (gI (sI M 74 (gI M 66 9).toNatClampNeg x1) 66 9).toNatClampNeg x2) 66 9).toNatClampNeg x3) 66 9) 40) <|
    gd (vp_in (gI (sI (sI (sI (sI M 74 (gI M 66 9).toNatClampNeg x1) 75 (gI (sI M 74 (gI M 66 9).toNatClampNeg x1) 66 9).toNatClampNeg x2) 76 (gI (sI (sI M 74 (gI M 66 9).toNatClampNeg x1) 75 (gI (sI M 74 (gI M 66 9).toNatClampNeg x1) 66 9).toNatClampNeg x2) 66 9).toNatClampNeg x3) 77 (gI (sI (sI (sI M 74 (gI M 66 9).toNatClampNeg x1) 75 (gI (sI M 74 (gI M 66 9).toNatClampNeg x1) 66 9).toNatClampNeg x2) 76 (gI (sI (sI M 74 (gI M 66 9).toNatClampNeg x1) 75 (gI (sI M 74 (gI M 66 9).toNatClampNeg x1) 66 9).toNatClampNeg x2) 66 9).toNatClampNeg x3) 66 9).toNatClampNeg x4) 66 9) 40) <|
    gd (vp_in (gI (sI (sI (sI (sI (sI M 74 (gI M 66 9).toNatClampNeg x1) 75 (gI (sI M 74 (gI M 66 9).toNatClampNeg x1) 66 9).toNatClampNeg x2) 76 (gI (sI (sI M 74 (gI M 66 9).toNatClampNeg x1) 75 (gI (sI M 74 (gI M 66 9).toNatClampNeg x1) 66 9).toNatClampNeg x2) 66 9).toNatClampNeg x3) 77 (gI (sI (sI (sI M 74 (gI M 66 9).toNatClampNeg x1) 75 (gI (sI M 74 (gI M 66 9).toNatClampNeg x1) 66 9).toNatClampNeg x2) 76 (gI (sI (sI M 74 (gI M 66 9).toNatClampNeg x1) 75 (gI (sI M 74 (gI M 66 9).toNatClampNeg x1) 66 9).toNatClampNeg x2) 66 9).toNatClampNeg x3) 66 9).toNatClampNeg x4) 78 (gI (sI (sI (sI (sI M 74 (gI M 66 9).toNatClampNeg x1) 75 (gI (sI M 74 (gI M 66 9).toNatClampNeg x1) 66 9).toNatClampNeg x2) 76 (gI (sI (sI M 74 (gI M 66 9).toNatClampNeg x1) 75 (gI (sI M 74 (gI M 66 9).toNatClampNeg x1) 66 9).toNatClampNeg x2) 66 9).toNatClampNeg x3) 77 (gI (sI (sI (sI M 74 (gI M 66 9).toNatClampNeg x1) 75 (gI (sI M 74 (gI M 66 9).toNatClampNeg x1) 66 9).toNatClampNeg x2) 76 (gI (sI (sI M 74 (gI M 66 9).toNatClampNeg x1) 75 (gI (sI M 74 (gI M 66 9).toNatClampNeg x1) 66 9).toNatClampNeg x2) 66 9).toNatClampNeg x3) 66 9).toNatClampNeg x4) 66 9).toNatClampNeg x5) 66 9) 40) <|
    gd (vp_in (gI (sI (sI (sI (sI (sI (sI M 74 (gI M 66 9).toNatClampNeg x1) 75 (gI (sI M 74 (gI M 66 9).toNatClampNeg x1) 66 9).toNatClampNeg x2) 76 (gI (sI (sI M 74 (gI M 66 9).toNatClampNeg x1) 75 (gI (sI M 74 (gI M 66 9).toNatClampNeg x1) 66 9).toNatClampNeg x2) 66 9).toNatClampNeg x3) 77 (gI (sI (sI (sI M 74 (gI M 66 9).toNatClampNeg x1) 75 (gI (sI M 74 (gI M 66 9).toNatClampNeg x1) 66 9).toNatClampNeg x2) 76 (gI (sI (sI M 74 (gI M 66 9).toNatClampNeg x1) 75 (gI (sI M 74 (gI M 66 9).toNatClampNeg x1) 66 9).toNatClampNeg x2) 66 9).toNatClampNeg x3) 66 9).toNatClampNeg x4) 78 (gI (sI (sI (sI (sI M 74 (gI M 66 9).toNatClampNeg x1) 75 (gI (sI M 74 (gI M 66 9).toNatClampNeg x1) 66 9).toNatClampNeg x2) 76 (gI (sI (sI M 74 (gI M 66 9).toNatClampNeg x1) 75 (gI (sI M 74 (gI M 66 9).toNatClampNeg x1) 66 9).toNatClampNeg x2) 66 9).toNatClampNeg x3) 77 (gI (sI (sI (sI M 74 (gI M 66 9).toNatClampNeg x1) 75 (gI (sI M 74 (gI M 66 9).toNatClampNeg x1) 66 9).toNatClampNeg x2) 76 (gI (sI (sI M 74 (gI M 66 9).toNatClampNeg x1) 75 (gI (sI M 74 (gI M 66 9).toNatClampNeg x1) 66 9).toNatClampNeg x2) 66 9).toNatClampNeg x3) 66 9).toNatClampNeg x4) 66 9).toNatClampNeg x5) 79 (gI (sI (sI (sI (sI (sI M 74 (gI M 66 9).toNatClampNeg x1) 75 (gI (sI M 74 (gI M 66 9).toNatClampNeg x1) 66 9).toNatClampNeg x2) 76 (gI (sI (sI M 74 (gI M 66 9).toNatClampNeg x1) 75 (gI (sI M 74 (gI M 66 9).toNatClampNeg x1) 66 9).toNatClampNeg x2) 66 9).toNatClampNeg x3) 77 (gI (sI (sI (sI M 74 (gI M 66 9).toNatClampNeg x1) 75 (gI (sI M 74 (gI M 66 9).toNatClampNeg x1) 66 9).toNatClampNeg x2) 76 (gI (sI (sI M 74 (gI M 66 9).toNatClampNeg x1) 75 (gI (sI M 74 (gI M 66 9).toNatClampNeg x1) 66 9).toNatClampNeg x2) 66 9).toNatClampNeg x3) 66 9).toNatClampNeg x4) 78 (gI (sI (sI (sI (sI M 74 (gI M 66 9).toNatClampNeg x1) 75 (gI (sI M 74 (gI M 66 9).toNatClampNeg x1) 66 9).toNatClampNeg x2) 76 (gI (sI (sI M 74 (gI M 66 9).toNatClampNeg x1) 75 (gI (sI M 74 (gI M 66 9).toNatClampNeg x1) 66 9).toNatClampNeg x2) 66 9).toNatClampNeg x3) 77 (gI (sI (sI (sI M 74 (gI M 66 9).toNatClampNeg x1) 75 (gI (sI M 74 (gI M 66 9).toNatClampNeg x1) 66 9).toNatClampNeg x2) 76 (gI (sI (sI M 74 (gI M 66 9).toNatClampNeg x1) 75 (gI (sI M 74 (gI M 66 9).toNatClampNeg x1) 66 9).toNatClampNeg x2) 66 9).toNatClampNeg x3) 66 9).toNatClampNeg x4) 66 9).toNatClampNeg x5) 66 9).toNatClampNeg x6) 66 9) 40) <|
    some (((gI (sI (sI (sI (sI (sI (sI (sI (sI M 74 (gI M 66 9).toNatClampNeg x1) 75 (gI (sI M 74 (gI M 66 9).toNatClampNeg x1) 66 9).toNatClampNeg x2) 76 (gI (sI (sI M 74 (gI M 66 9).toNatClampNeg x1) 75 (gI (sI M 74 (gI M 66 9).toNatClampNeg x1) 66 9).toNatClampNeg x2) 66 9).toNatClampNeg x3) 77 (gI (sI (sI (sI M 74 (gI M 66 9).toNatClampNeg x1) 75 (gI (sI M 74 (gI M 66 9).toNatClampNeg x1) 66 9).toNatClampNeg x2) 76 (gI (sI (sI M 74 (gI M 66 9).toNatClampNeg x1) 75 (gI (sI M 74 (gI M 66 9).toNatClampNeg x1) 66 9).toNatClampNeg x2) 66 9).toNatClampNeg x3) 66 9).toNatClampNeg x4) 78 (gI (sI (sI (sI (sI M 74 (gI M 66 9).toNatClampNeg x1) 75 (gI (sI M 74 (gI M 66 9).toNatClampNeg x1) 66 9).toNatClampNeg x2) 76 (gI (sI (sI M 74 (gI M 66 9).toNatClampNeg x1) 75 (gI (sI M 74 (gI M 66 9).toNatClampNeg x1) 66 9).toNatClampNeg x2) 66 9).toNatClampNeg x3) 77 (gI (sI (sI (sI M 74 (gI M 66 9).toNatClampNeg x1) 75 (gI (sI M 74 (gI M 66 9).toNatClampNeg x1) 66 9).toNatClampNeg x2) 76 (gI (sI (sI M 74 (gI M 66 9).toNatClampNeg x1) 75 (gI (sI M 74 (gI M 66 9).toNatClampNeg x1) 66 9).toNatClampNeg x2) 66 9).toNatClampNeg x3) 66 9).toNatClampNeg x4) 66 9).toNatClampNeg x5) 79 (gI (sI (sI (sI (sI (sI M 74 (gI M 66 9).toNatClampNeg x1) 75 (gI (sI M 74 (gI M 66 9).toNatClampNeg x1) 66 9).toNatClampNeg x2) 76 (gI (sI (sI M 74 (gI M 66 9).toNatClampNeg x1) 75 (gI (sI M 74 (gI M 66 9).toNatClampNeg x1) 66 9).toNatClampNeg x2) 66 9).toNatClampNeg x3) 77 (gI (sI (sI (sI M 74 (gI M 66 9).toNatClampNeg x1) 75 (gI (sI M 74 (gI M 66 9).toNatClampNeg x1) 66 9).toNatClampNeg x2) 76 (gI (sI (sI M 74 (gI M 66 9).toNatClampNeg x1) 75 (gI (sI M 74 (gI M 66 9).toNatClampNeg x1) 66 9).toNatClampNeg x2) 66 9).toNatClampNeg x3) 66 9).toNatClampNeg x4) 78 (gI (sI (sI (sI (sI M 74 (gI M 66 9).toNatClampNeg x1) 75 (gI (sI M 74 (gI M 66 9).toNatClampNeg x1) 66 9).toNatClampNeg x2) 76 (gI (sI (sI M 74 (gI M 66 9).toNatClampNeg x1) 75 (gI (sI M 74 (gI M 66 9).toNatClampNeg x1) 66 9).toNatClampNeg x2) 66 9).toNatClampNeg x3) 77 (gI (sI (sI (sI M 74 (gI M 66 9).toNatClampNeg x1) 75 (gI (sI M 74 (gI M 66 9).toNatClampNeg x1) 66 9).toNatClampNeg x2) 76 (gI (sI (sI M 74 (gI M 66 9).toNatClampNeg x1) 75 (gI (sI M 74 (gI M 66 9).toNatClampNeg x1) 66 9).toNatClampNeg x2) 66 9).toNatClampNeg x3) 66 9).toNatClampNeg x4) 66 9).toNatClampNeg x5) 66 9).toNatClampNeg x6) 80 (gI (sI (sI (sI (sI (sI (sI M 74 (gI M 66 9).toNatClampNeg x1) 75 (gI (sI M 74 (gI M 66 9).toNatClampNeg x1) 66 9).toNatClampNeg x2) 76 (gI (sI (sI M 74 (gI M 66 9).toNatClampNeg x1) 75 (gI (sI M 74 (gI M 66 9).toNatClampNeg x1) 66 9).toNatClampNeg x2) 66 9).toNatClampNeg x3) 77 (gI (sI (sI (sI M 74 (gI M 66 9).toNatClampNeg x1) 75 (gI (sI M 74 (gI M 66 9).toNatClampNeg x1) 66 9).toNatClampNeg x2) 76 (gI (sI (sI M 74 (gI M 66 9).toNatClampNeg x1) 75 (gI (sI M 74 (gI M 66 9).toNatClampNeg x1) 66 9).toNatClampNeg x2) 66 9).toNatClampNeg x3) 66 9).toNatClampNeg x4) 78 (gI (sI (sI (sI (sI M 74 (gI M 66 9).toNatClampNeg x1) 75 (gI (sI M 74 (gI M 66 9).toNatClampNeg x1) 66 9).toNatClampNeg x2) 76 (gI (sI (sI M 74 (gI M 66 9).toNatClampNeg x1) 75 (gI (sI M 74 (gI M 66 9).toNatClampNeg x1) 66 9).toNatClampNeg x2) 66 9).toNatClampNeg x3) 77 (gI (sI (sI (sI M 74 (gI M 66 9).toNatClampNeg x1) 75 (gI (sI M 74 (gI M 66 9).toNatClampNeg x1) 66 9).toNatClampNeg x2) 76 (gI (sI (sI M 74 (gI M 66 9).toNatClampNeg x1) 75 (gI (sI M 74 (gI M 66 9).toNatClampNeg x1) 66 9).toNatClampNeg x2) 66 9).toNatClampNeg x3) 66 9).toNatClampNeg x4) 66 9).toNatClampNeg x5) 79 (gI (sI (sI (sI (sI (sI M 74 (gI M 66 9).toNatClampNeg x1) 75 (gI (sI M 74 (gI M 66 9).toNatClampNeg x1) 66 9).toNatClampNeg x2) 76 (gI (sI (sI M 74 (gI M 66 9).toNatClampNeg x1) 75 (gI (sI M 74 (gI M 66 9).toNatClampNeg x1) 66 9).toNatClampNeg x2) 66 9).toNatClampNeg x3) 77 (gI (sI (sI (sI M 74 (gI M 66 9).toNatClampNeg x1) 75 (gI (sI M 74 (gI M 66 9).toNatClampNeg x1) 66 9).toNatClampNeg x2) 76 (gI (sI (sI M 74 (gI M 66 9).toNatClampNeg x1) 75 (gI (sI M 74 (gI M 66 9).toNatClampNeg x1) 66 9).toNatClampNeg x2) 66 9).toNatClampNeg x3) 66 9).toNatClampNeg x4) 78 (gI (sI (sI (sI (sI M 74 (gI M 66 9).toNatClampNeg x1) 75 (gI (sI M 74 (gI M 66 9).toNatClampNeg x1) 66 9).toNatClampNeg x2) 76 (gI (sI (sI M 74 (gI M 66 9).toNatClampNeg x1) 75 (gI (sI M 74 (gI M 66 9).toNatClampNeg x1) 66 9).toNatClampNeg x2) 66 9).toNatClampNeg x3) 77 (gI (sI (sI (sI M 74 (gI M 66 9).toNatClampNeg x1) 75 (gI (sI M 74 (gI M 66 9).toNatClampNeg x1) 66 9).toNatClampNeg x2) 76 (gI (sI (sI M 74 (gI M 66 9).toNatClampNeg x1) 75 (gI (sI M 74 (gI M 66 9).toNatClampNeg x1) 66 9).toNatClampNeg x2) 66 9).toNatClampNeg x3) 66 9).toNatClampNeg x4) 66 9).toNatClampNeg x5) 66 9).toNatClampNeg x6) 66 9).toNatClampNeg x7) 66 9 ((gI (sI (sI (sI (sI (sI (sI (sI M 74 (gI M 66 9).toNatClampNeg x1) 75 (gI (sI M 74 (gI M 66 9).toNatClampNeg x1) 66 9).toNatClampNeg x2) 76 (gI (sI (sI M 74 (gI M 66 9).toNatClampNeg x1) 75 (gI (sI M 74 (gI M 66 9).toNatClampNeg x1) 66 9).toNatClampNeg x2) 66 9).toNatClampNeg x3) 77 (gI (sI (sI (sI M 74 (gI M 66 9).toNatClampNeg x1) 75 (gI (sI M 74 (gI M 66 9).toNatClampNeg x1) 66 9).toNatClampNeg x2) 76 (gI (sI (sI M 74 (gI M 66 9).toNatClampNeg x1) 75 (gI (sI M 74 (gI M 66 9).toNatClampNeg x1) 66 9).toNatClampNeg x2) 66 9).toNatClampNeg x3) 66 9).toNatClampNeg x4) 78 (gI (sI (sI (sI (sI M 74 (gI M 66 9).toNatClampNeg x1) 75 (gI (sI M 74 (gI M 66 9).toNatClampNeg x1) 66 9).toNatClampNeg x2) 76 (gI (sI (sI M 74 (gI M 66 9).toNatClampNeg x1) 75 (gI (sI M 74 (gI M 66 9).toNatClampNeg x1) 66 9).toNatClampNeg x2) 66 9).toNatClampNeg x3) 77 (gI (sI (sI (sI M 74 (gI M 66 9).toNatClampNeg x1) 75 (gI (sI M 74 (gI M 66 9).toNatClampNeg x1) 66 9).toNatClampNeg x2) 76 (gI (sI (sI M 74 (gI M 66 9).toNatClampNeg x1) 75 (gI (sI M 74 (gI M 66 9).toNatClampNeg x1) 66 9).toNatClampNeg x2) 66 9).toNatClampNeg x3) 66 9).toNatClampNeg x4) 66 9).toNatClampNeg x5) 79 (gI (sI (sI (sI (sI (sI M 74 (gI M 66 9).toNatClampNeg x1) 75 (gI (sI M 74 (gI M 66 9).toNatClampNeg x1) 66 9).toNatClampNeg x2) 76 (gI (sI (sI M 74 (gI M 66 9).toNatClampNeg x1) 75 (gI (sI M 74 (gI M 66 9).toNatClampNeg x1) 66 9).toNatClampNeg x2) 66 9).toNatClampNeg x3) 77 (gI (sI (sI (sI M 74 (gI M 66 9).toNatClampNeg x1) 75 (gI (sI M 74 (gI M 66 9).toNatClampNeg x1) 66 9).toNatClampNeg x2) 76 (gI (sI (sI M 74 (gI M 66 9).toNatClampNeg x1) 75 (gI (sI M 74 (gI M 66 9).toNatClampNeg x1) 66 9).toNatClampNeg x2) 66 9).toNatClampNeg x3) 66 9).toNatClampNeg x4) 78 (gI (sI (sI (sI (sI M 74 (gI M 66 9).toNatClampNeg x1) 75 (gI (sI M 74 (gI M 66 9).toNatClampNeg x1) 66 9).toNatClampNeg x2) 76 (gI (sI (sI M 74 (gI M 66 9).toNatClampNeg x1) 75 (gI (sI M 74 (gI M 66 9).toNatClampNeg x1) 66 9).toNatClampNeg x2) 66 9).toNatClampNeg x3) 77 (gI (sI (sI (sI M 74 (gI M 66 9).toNatClampNeg x1) 75 (gI (sI M 74 (gI M 66 9).toNatClampNeg x1) 66 9).toNatClampNeg x2) 76 (gI (sI (sI M 74 (gI M 66 9).toNatClampNeg x1) 75 (gI (sI M 74 (gI M 66 9).toNatClampNeg x1) 66 9).toNatClampNeg x2) 66 9).toNatClampNeg x3) 66 9).toNatClampNeg x4) 66 9).toNatClampNeg x5) 66 9).toNatClampNeg x6) 80 (gI (sI (sI (sI (sI (sI (sI M 74 (gI M 66 9).toNatClampNeg x1) 75 (gI (sI M 74 (gI M 66 9).toNatClampNeg x1) 66 9).toNatClampNeg x2) 76 (gI (sI (sI M 74 (gI M 66 9).toNatClampNeg x1) 75 (gI (sI M 74 (gI M 66 9).toNatClampNeg x1) 66 9).toNatClampNeg x2) 66 9).toNatClampNeg x3) 77 (gI (sI (sI (sI M 74 (gI M 66 9).toNatClampNeg x1) 75 (gI (sI M 74 (gI M 66 9).toNatClampNeg x1) 66 9).toNatClampNeg x2) 76 (gI (sI (sI M 74 (gI M 66 9).toNatClampNeg x1) 75 (gI (sI M 74 (gI M 66 9).toNatClampNeg x1) 66 9).toNatClampNeg x2) 66 9).toNatClampNeg x3) 66 9).toNatClampNeg x4) 78 (gI (sI (sI (sI (sI M 74 (gI M 66 9).toNatClampNeg x1) 75 (gI (sI M 74 (gI M 66 9).toNatClampNeg x1) 66 9).toNatClampNeg x2) 76 (gI (sI (sI M 74 (gI M 66 9).toNatClampNeg x1) 75 (gI (sI M 74 (gI M 66 9).toNatClampNeg x1) 66 9).toNatClampNeg x2) 66 9).toNatClampNeg x3) 77 (gI (sI (sI (sI M 74 (gI M 66 9).toNatClampNeg x1) 75 (gI (sI M 74 (gI M 66 9).toNatClampNeg x1) 66 9).toNatClampNeg x2) 76 (gI (sI (sI M 74 (gI M 66 9).toNatClampNeg x1) 75 (gI (sI M 74 (gI M 66 9).toNatClampNeg x1) 66 9).toNatClampNeg x2) 66 9).toNatClampNeg x3) 66 9).toNatClampNeg x4) 66 9).toNatClampNeg x5) 79 (gI (sI (sI (sI (sI (sI M 74 (gI M 66 9).toNatClampNeg x1) 75 (gI (sI M 74 (gI M 66 9).toNatClampNeg x1) 66 9).toNatClampNeg x2) 76 (gI (sI (sI M 74 (gI M 66 9).toNatClampNeg x1) 75 (gI (sI M 74 (gI M 66 9).toNatClampNeg x1) 66 9).toNatClampNeg x2) 66 9).toNatClampNeg x3) 77 (gI (sI (sI (sI M 74 (gI M 66 9).toNatClampNeg x1) 75 (gI (sI M 74 (gI M 66 9).toNatClampNeg x1) 66 9).toNatClampNeg x2) 76 (gI (sI (sI M 74 (gI M 66 9).toNatClampNeg x1) 75 (gI (sI M 74 (gI M 66 9).toNatClampNeg x1) 66 9).toNatClampNeg x2) 66 9).toNatClampNeg x3) 66 9).toNatClampNeg x4) 78 (gI (sI (sI (sI (sI M 74 (gI M 66 9).toNatClampNeg x1) 75 (gI (sI M 74 (gI M 66 9).toNatClampNeg x1) 66 9).toNatClampNeg x2) 76 (gI (sI (sI M 74 (gI M 66 9).toNatClampNeg x1) 75 (gI (sI M 74 (gI M 66 9).toNatClampNeg x1) 66 9).toNatClampNeg x2) 66 9).toNatClampNeg x3) 77 (gI (sI (sI (sI M 74 (gI M 66 9).toNatClampNeg x1) 75 (gI (sI M 74 (gI M 66 9).toNatClampNeg x1) 66 9).toNatClampNeg x2) 76 (gI (sI (sI M 74 (gI M 66 9).toNatClampNeg x1) 75 (gI (sI M 74 (gI M 66 9).toNatClampNeg x1) 66 9).toNatClampNeg x2) 66 9).toNatClampNeg x3) 66 9).toNatClampNeg x4) 66 9).toNatClampNeg x5) 66 9).toNatClampNeg x6) 66 9).toNatClampNeg x7) 66 9) + 1)) 66 9) - 1), (sI (sI (sI (sI (sI (sI (sI (sI M 74 (gI M 66 9).toNatClampNeg x1) 75 (gI (sI M 74 (gI M 66 9).toNatClampNeg x1) 66 9).toNatClampNeg x2) 76 (gI (sI (sI M 74 (gI M 66 9).toNatClampNeg x1) 75 (gI (sI M 74 (gI M 66 9).toNatClampNeg x1) 66 9).toNatClampNeg x2) 66 9).toNatClampNeg x3) 77 (gI (sI (sI (sI M 74 (gI M 66 9).toNatClampNeg x1) 75 (gI (sI M 74 (gI M 66 9).toNatClampNeg x1) 66 9).toNatClampNeg x2) 76 (gI (sI (sI M 74 (gI M 66 9).toNatClampNeg x1) 75 (gI (sI M 74 (gI M 66 9).toNatClampNeg x1) 66 9).toNatClampNeg x2) 66 9).toNatClampNeg x3) 66 9).toNatClampNeg x4) 78 (gI (sI (sI (sI (sI M 74 (gI M 66 9).toNatClampNeg x1) 75 (gI (sI M 74 (gI M 66 9).toNatClampNeg x1) 66 9).toNatClampNeg x2) 76 (gI (sI (sI M 74 (gI M 66 9).toNatClampNeg x1) 75 (gI (sI M 74 (gI M 66 9).toNatClampNeg x1) 66 9).toNatClampNeg x2) 66 9).toNatClampNeg x3) 77 (gI (sI (sI (sI M 74 (gI M 66 9).toNatClampNeg x1) 75 (gI (sI M 74 (gI M 66 9).toNatClampNeg x1) 66 9).toNatClampNeg x2) 76 (gI (sI (sI M 74 (gI M 66 9).toNatClampNeg x1) 75 (gI (sI M 74 (gI M 66 9).toNatClampNeg x1) 66 9).toNatClampNeg x2) 66 9).toNatClampNeg x3) 66 9).toNatClampNeg x4) 66 9).toNatClampNeg x5) 79 (gI (sI (sI (sI (sI (sI M 74 (gI M 66 9).toNatClampNeg x1) 75 (gI (sI M 74 (gI M 66 9).toNatClampNeg x1) 66 9).toNatClampNeg x2) 76 (gI (sI (sI M 74 (gI M 66 9).toNatClampNeg x1) 75 (gI (sI M 74 (gI M 66 9).toNatClampNeg x1) 66 9).toNatClampNeg x2) 66 9).toNatClampNeg x3) 77 (gI (sI (sI (sI M 74 (gI M 66 9).toNatClampNeg x1) 75 (gI (sI M 74 (gI M 66 9).toNatClampNeg x1) 66 9).toNatClampNeg x2) 76 (gI (sI (sI M 74 (gI M 66 9).toNatClampNeg x1) 75 (gI (sI M 74 (gI M 66 9).toNatClampNeg x1) 66 9).toNatClampNeg x2) 66 9).toNatClampNeg x3) 66 9).toNatClampNeg x4) 78 (gI (sI (sI (sI (sI M 74 (gI M 66 9).toNatClampNeg x1) 75 (gI (sI M 74 (gI M 66 9).toNatClampNeg x1) 66 9).toNatClampNeg x2) 76 (gI (sI (sI M 74 (gI M 66 9).toNatClampNeg x1) 75 (gI (sI M 74 (gI M 66 9).toNatClampNeg x1) 66 9).toNatClampNeg x2) 66 9).toNatClampNeg x3) 77 (gI (sI (sI (sI M 74 (gI M 66 9).toNatClampNeg x1) 75 (gI (sI M 74 (gI M 66 9).toNatClampNeg x1) 66 9).toNatClampNeg x2) 76 (gI (sI (sI M 74 (gI M 66 9).toNatClampNeg x1) 75 (gI (sI M 74 (gI M 66 9).toNatClampNeg x1) 66 9).toNatClampNeg x2) 66 9).toNatClampNeg x3) 66 9).toNatClampNeg x4) 66 9).toNatClampNeg x5) 66 9).toNatClampNeg x6) 80 (gI (sI (sI (sI (sI (sI (sI M 74 (gI M 66 9).toNatClampNeg x1) 75 (gI (sI M 74 (gI M 66 9).toNatClampNeg x1) 66 9).toNatClampNeg x2) 76 (gI (sI (sI M 74 (gI M 66 9).toNatClampNeg x1) 75 (gI (sI M 74 (gI M 66 9).toNatClampNeg x1) 66 9).toNatClampNeg x2) 66 9).toNatClampNeg x3) 77 (gI (sI (sI (sI M 74 (gI M 66 9).toNatClampNeg x1) 75 (gI (sI M 74 (gI M 66 9).toNatClampNeg x1) 66 9).toNatClampNeg x2) 76 (gI (sI (sI M 74 (gI M 66 9).toNatClampNeg x1) 75 (gI (sI M 74 (gI M 66 9).toNatClampNeg x1) 66 9).toNatClampNeg x2) 66 9).toNatClampNeg x3) 66 9).toNatClampNeg x4) 78 (gI (sI (sI (sI (sI M 74 (gI M 66 9).toNatClampNeg x1) 75 (gI (sI M 74 (gI M 66 9).toNatClampNeg x1) 66 9).toNatClampNeg x2) 76 (gI (sI (sI M 74 (gI M 66 9).toNatClampNeg x1) 75 (gI (sI M 74 (gI M 66 9).toNatClampNeg x1) 66 9).toNatClampNeg x2) 66 9).toNatClampNeg x3) 77 (gI (sI (sI (sI M 74 (gI M 66 9).toNatClampNeg x1) 75 (gI (sI M 74 (gI M 66 9).toNatClampNeg x1) 66 9).toNatClampNeg x2) 76 (gI (sI (sI M 74 (gI M 66 9).toNatClampNeg x1) 75 (gI (sI M 74 (gI M 66 9).toNatClampNeg x1) 66 9).toNatClampNeg x2) 66 9).toNatClampNeg x3) 66 9).toNatClampNeg x4) 66 9).toNatClampNeg x5) 79 (gI (sI (sI (sI (sI (sI M 74 (gI M 66 9).toNatClampNeg x1) 75 (gI (sI M 74 (gI M 66 9).toNatClampNeg x1) 66 9).toNatClampNeg x2) 76 (gI (sI (sI M 74 (gI M 66 9).toNatClampNeg x1) 75 (gI (sI M 74 (gI M 66 9).toNatClampNeg x1) 66 9).toNatClampNeg x2) 66 9).toNatClampNeg x3) 77 (gI (sI (sI (sI M 74 (gI M 66 9).toNatClampNeg x1) 75 (gI (sI M 74 (gI M 66 9).toNatClampNeg x1) 66 9).toNatClampNeg x2) 76 (gI (sI (sI M 74 (gI M 66 9).toNatClampNeg x1) 75 (gI (sI M 74 (gI M 66 9).toNatClampNeg x1) 66 9).toNatClampNeg x2) 66 9).toNatClampNeg x3) 66 9).toNatClampNeg x4) 78 (gI (sI (sI (sI (sI M 74 (gI M 66 9).toNatClampNeg x1) 75 (gI (sI M 74 (gI M 66 9).toNatClampNeg x1) 66 9).toNatClampNeg x2) 76 (gI (sI (sI M 74 (gI M 66 9).toNatClampNeg x1) 75 (gI (sI M 74 (gI M 66 9).toNatClampNeg x1) 66 9).toNatClampNeg x2) 66 9).toNatClampNeg x3) 77 (gI (sI (sI (sI M 74 (gI M 66 9).toNatClampNeg x1) 75 (gI (sI M 74 (gI M 66 9).toNatClampNeg x1) 66 9).toNatClampNeg x2) 76 (gI (sI (sI M 74 (gI M 66 9).toNatClampNeg x1) 75 (gI (sI M 74 (gI M 66 9).toNatClampNeg x1) 66 9).toNatClampNeg x2) 66 9).toNatClampNeg x3) 66 9).toNatClampNeg x4) 66 9).toNatClampNeg x5) 66 9).toNatClampNeg x6) 66 9).toNatClampNeg x7) 66 9 ((gI (sI (sI (sI (sI (sI (sI (sI M 74 (gI M 66 9).toNatClampNeg x1) 75 (gI (sI M 74 (gI M 66 9).toNatClampNeg x1) 66 9).toNatClampNeg x2) 76 (gI (sI (sI M 74 (gI M 66 9).toNatClampNeg x1) 75 (gI (sI M 74 (gI M 66 9).toNatClampNeg x1) 66 9).toNatClampNeg x2) 66 9).toNatClampNeg x3) 77 (gI (sI (sI (sI M 74 (gI M 66 9).toNatClampNeg x1) 75 (gI (sI M 74 (gI M 66 9).toNatClampNeg x1) 66 9).toNatClampNeg x2) 76 (gI (sI (sI M 74 (gI M 66 9).toNatClampNeg x1) 75 (gI (sI M 74 (gI M 66 9).toNatClampNeg x1) 66 9).toNatClampNeg x2) 66 9).toNatClampNeg x3) 66 9).toNatClampNeg x4) 78 (gI (sI (sI (sI (sI M 74 (gI M 66 9).toNatClampNeg x1) 75 (gI (sI M 74 (gI M 66 9).toNatClampNeg x1) 66 9).toNatClampNeg x2) 76 (gI (sI (sI M 74 (gI M 66 9).toNatClampNeg x1) 75 (gI (sI M 74 (gI M 66 9).toNatClampNeg x1) 66 9).toNatClampNeg x2) 66 9).toNatClampNeg x3) 77 (gI (sI (sI (sI M 74 (gI M 66 9).toNatClampNeg x1) 75 (gI (sI M 74 (gI M 66 9).toNatClampNeg x1) 66 9).toNatClampNeg x2) 76 (gI (sI (sI M 74 (gI M 66 9).toNatClampNeg x1) 75 (gI (sI M 74 (gI M 66 9).toNatClampNeg x1) 66 9).toNatClampNeg x2) 66 9).toNatClampNeg x3) 66 9).toNatClampNeg x4) 66 9).toNatClampNeg x5) 79 (gI (sI (sI (sI (sI (sI M 74 (gI M 66 9).toNatClampNeg x1) 75 (gI (sI M 74 (gI M 66 9).toNatClampNeg x1) 66 9).toNatClampNeg x2) 76 (gI (sI (sI M 74 (gI M 66 9).toNatClampNeg x1) 75 (gI (sI M 74 (gI M 66 9).toNatClampNeg x1) 66 9).toNatClampNeg x2) 66 9).toNatClampNeg x3) 77 (gI (sI (sI (sI M 74 (gI M 66 9).toNatClampNeg x1) 75 (gI (sI M 74 (gI M 66 9).toNatClampNeg x1) 66 9).toNatClampNeg x2) 76 (gI (sI (sI M 74 (gI M 66 9).toNatClampNeg x1) 75 (gI (sI M 74 (gI M 66 9).toNatClampNeg x1) 66 9).toNatClampNeg x2) 66 9).toNatClampNeg x3) 66 9).toNatClampNeg x4) 78 (gI (sI (sI (sI (sI M 74 (gI M 66 9).toNatClampNeg x1) 75 (gI (sI M 74 (gI M 66 9).toNatClampNeg x1) 66 9).toNatClampNeg x2) 76 (gI (sI (sI M 74 (gI M 66 9).toNatClampNeg x1) 75 (gI (sI M 74 (gI M 66 9).toNatClampNeg x1) 66 9).toNatClampNeg x2) 66 9).toNatClampNeg x3) 77 (gI (sI (sI (sI M 74 (gI M 66 9).toNatClampNeg x1) 75 (gI (sI M 74 (gI M 66 9).toNatClampNeg x1) 66 9).toNatClampNeg x2) 76 (gI (sI (sI M 74 (gI M 66 9).toNatClampNeg x1) 75 (gI (sI M 74 (gI M 66 9).toNatClampNeg x1) 66 9).toNatClampNeg x2) 66 9).toNatClampNeg x3) 66 9).toNatClampNeg x4) 66 9).toNatClampNeg x5) 66 9).toNatClampNeg x6) 80 (gI (sI (sI (sI (sI (sI (sI M 74 (gI M 66 9).toNatClampNeg x1) 75 (gI (sI M 74 (gI M 66 9).toNatClampNeg x1) 66 9).toNatClampNeg x2) 76 (gI (sI (sI M 74 (gI M 66 9).toNatClampNeg x1) 75 (gI (sI M 74 (gI M 66 9).toNatClampNeg x1) 66 9).toNatClampNeg x2) 66 9).toNatClampNeg x3) 77 (gI (sI (sI (sI M 74 (gI M 66 9).toNatClampNeg x1) 75 (gI (sI M 74 (gI M 66 9).toNatClampNeg x1) 66 9).toNatClampNeg x2) 76 (gI (sI (sI M 74 (gI M 66 9).toNatClampNeg x1) 75 (gI (sI M 74 (gI M 66 9).toNatClampNeg x1) 66 9).toNatClampNeg x2) 66 9).toNatClampNeg x3) 66 9).toNatClampNeg x4) 78 (gI (sI (sI (sI (sI M 74 (gI M 66 9).toNatClampNeg x1) 75 (gI (sI M 74 (gI M 66 9).toNatClampNeg x1) 66 9).toNatClampNeg x2) 76 (gI (sI (sI M 74 (gI M 66 9).toNatClampNeg x1) 75 (gI (sI M 74 (gI M 66 9).toNatClampNeg x1) 66 9).toNatClampNeg x2) 66 9).toNatClampNeg x3) 77 (gI (sI (sI (sI M 74 (gI M 66 9).toNatClampNeg x1) 75 (gI (sI M 74 (gI M 66 9).toNatClampNeg x1) 66 9).toNatClampNeg x2) 76 (gI (sI (sI M 74 (gI M 66 9).toNatClampNeg x1) 75 (gI (sI M 74 (gI M 66 9).toNatClampNeg x1) 66 9).toNatClampNeg x2) 66 9).toNatClampNeg x3) 66 9).toNatClampNeg x4) 66 9).toNatClampNeg x5) 79 (gI (sI (sI (sI (sI (sI M 74 (gI M 66 9).toNatClampNeg x1) 75 (gI (sI M 74 (gI M 66 9).toNatClampNeg x1) 66 9).toNatClampNeg x2) 76 (gI (sI (sI M 74 (gI M 66 9).toNatClampNeg x1) 75 (gI (sI M 74 (gI M 66 9).toNatClampNeg x1) 66 9).toNatClampNeg x2) 66 9).toNatClampNeg x3) 77 (gI (sI (sI (sI M 74 (gI M 66 9).toNatClampNeg x1) 75 (gI (sI M 74 (gI M 66 9).toNatClampNeg x1) 66 9).toNatClampNeg x2) 76 (gI (sI (sI M 74 (gI M 66 9).toNatClampNeg x1) 75 (gI (sI M 74 (gI M 66 9).toNatClampNeg x1) 66 9).toNatClampNeg x2) 66 9).toNatClampNeg x3) 66 9).toNatClampNeg x4) 78 (gI (sI (sI (sI (sI M 74 (gI M 66 9).toNatClampNeg x1) 75 (gI (sI M 74 (gI M 66 9).toNatClampNeg x1) 66 9).toNatClampNeg x2) 76 (gI (sI (sI M 74 (gI M 66 9).toNatClampNeg x1) 75 (gI (sI M 74 (gI M 66 9).toNatClampNeg x1) 66 9).toNatClampNeg x2) 66 9).toNatClampNeg x3) 77 (gI (sI (sI (sI M 74 (gI M 66 9).toNatClampNeg x1) 75 (gI (sI M 74 (gI M 66 9).toNatClampNeg x1) 66 9).toNatClampNeg x2) 76 (gI (sI (sI M 74 (gI M 66 9).toNatClampNeg x1) 75 (gI (sI M 74 (gI M 66 9).toNatClampNeg x1) 66 9).toNatClampNeg x2) 66 9).toNatClampNeg x3) 66 9).toNatClampNeg x4) 66 9).toNatClampNeg x5) 66 9).toNatClampNeg x6) 66 9).toNatClampNeg x7) 66 9) + 1)))
noncomputable def f_mo_find (a1 : Int32) (a2 : Int32) (a3 : Int32) (a4 : Int32) (a5 : Int32) (a6 : Int32) (a7 : Int32) (M : dM) : Option (Int32 × dM) :=
  if (f_mo_isSite a1) = true then
    if (f_mo_within a2 0 9) = true then
      gd (vp_in ((10 * a1) + a2) 80) <|
      if (gI (sI M 66 0 0) 67 ((10 * a1) + a2).toNatClampNeg) < 0 then
        some ((-1), (sI M 66 0 0))
      else
        if (f_mo_within a3 0 999) = true then
          if (f_mo_within a4 0 23) = true then
            if (f_mo_isHand a5) = true then
              if (f_mo_within a6 0 255) = true then
                if (f_mo_within a7 0 99) = true then
                  if (gI (sI M 66 0 0) 66 9) = 40 then
                    some ((-1), (sI M 66 0 0))
                  else
                    if (gI (sI M 66 0 0) 66 9) ≤ 0 then
                      t_mo_find_122 a1 a2 a3 a4 a5 a6 a7 (sI M 66 0 0)
                    else
                      gd (vp_in ((gI (sI M 66 0 0) 66 9) - 1) 40) <|
                      if a3 < (gI (sI M 66 0 0) 76 ((gI (sI M 66 0 0) 66 9) - 1).toNatClampNeg) then
                        some ((-1), (sI M 66 0 0))
                      else
                        t_mo_find_122 a1 a2 a3 a4 a5 a6 a7 (sI M 66 0 0)
                else
                  some ((-1), (sI M 66 0 0))
              else
                some ((-1), (sI M 66 0 0))
            else
              some ((-1), (sI M 66 0 0))
          else
            some ((-1), (sI M 66 0 0))
        else
          some ((-1), (sI M 66 0 0))
    else
      some ((-1), (sI M 66 0 0))
  else
    some ((-1), (sI M 66 0 0))
theorem w_t_mo_find_122 (x1 : Int32) (x2 : Int32) (x3 : Int32) (x4 : Int32) (x5 : Int32) (x6 : Int32) (x7 : Int32) (M : dM) {Q : mz_P} {o : (Int32 × dM)} (hf : t_mo_find_122 x1 x2 x3 x4 x5 x6 x7 M = some o) (hk : mR Q (some (.int o.1)) o.2) : mW mX12_find 2 Q 122 [some (.ref 66), some (.int x1), some (.int x2), some (.int x3), some (.int x4), some (.int x5), some (.int x6), some (.int x7)] [] M := by
  unfold t_mo_find_122 at hf
  refine y_aload_n (i := 0) (n := 123) ⟨dX12_find_122, rfl⟩ rfl ?_
  refine y_iload_n (i := 1) (n := 124) ⟨dX12_find_123, rfl⟩ rfl ?_
  refine y_iload_n (i := 3) (n := 125) ⟨dX12_find_124, rfl⟩ rfl ?_
  refine y_iload (i := 4) (n := 127) ⟨dX12_find_125, rfl⟩ rfl ?_
  obtain ⟨v2, hv3, hf⟩ := b_s hf
  refine c_mo_presentAt x1 x3 x4 M (n := 130) ⟨dX12_find_127, rfl⟩ klX12_231 hv3 (by decide) (Nat.le_of_ble_eq_true rfl) rfl rfl ?_
  refine y_iload (i := 5) (n := 132) ⟨dX12_find_130, rfl⟩ rfl ?_
  refine y_ishr (n := 133) ⟨dX12_find_132, rfl⟩ ?_
  refine y_iconst (n := 134) (v := 1) ⟨dX12_find_133, rfl⟩ ki_1 ?_
  refine y_iand (n := 135) ⟨dX12_find_134, rfl⟩ ?_
  refine y_if_ne (t := 140) (n := 138) ⟨dX12_find_135, rfl, rfl⟩ (fun (hc : ¬ (((v2 >>> (x5 &&& 31)) &&& 1) = 0)) => ?_) (fun (hc : ((v2 >>> (x5 &&& 31)) &&& 1) = 0) => ?_)
  · replace hf := i_f hc hf
    refine y_aload_n (i := 0) (n := 141) ⟨dX12_find_140, rfl⟩ rfl ?_
    refine y_getR (n := 144) ⟨dX12_find_141, rfl⟩ kfX12_31 l_66 rfl r_66_10 ?_
    refine y_aload_n (i := 0) (n := 145) ⟨dX12_find_144, rfl⟩ rfl ?_
    refine y_getI (n := 148) ⟨dX12_find_145, rfl⟩ kfX12_235 l_66 rfl ?_
    refine y_iload_n (i := 1) (n := 149) ⟨dX12_find_148, rfl⟩ rfl ?_
    obtain ⟨hg4, hf⟩ := g_s hf
    refine y_iastore (n := 150) ⟨dX12_find_149, rfl⟩ l_74 hg4 ?_
    refine y_aload_n (i := 0) (n := 151) ⟨dX12_find_150, rfl⟩ rfl ?_
    refine y_getR (n := 154) ⟨dX12_find_151, rfl⟩ kfX12_34 l_66 rfl r_66_11 ?_
    refine y_aload_n (i := 0) (n := 155) ⟨dX12_find_154, rfl⟩ rfl ?_
    refine y_getI (n := 158) ⟨dX12_find_155, rfl⟩ kfX12_235 l_66 rfl ?_
    refine y_iload_n (i := 2) (n := 159) ⟨dX12_find_158, rfl⟩ rfl ?_
    obtain ⟨hg5, hf⟩ := g_s hf
    refine y_iastore (n := 160) ⟨dX12_find_159, rfl⟩ l_75 hg5 ?_
    refine y_aload_n (i := 0) (n := 161) ⟨dX12_find_160, rfl⟩ rfl ?_
    refine y_getR (n := 164) ⟨dX12_find_161, rfl⟩ kfX12_37 l_66 rfl r_66_12 ?_
    refine y_aload_n (i := 0) (n := 165) ⟨dX12_find_164, rfl⟩ rfl ?_
    refine y_getI (n := 168) ⟨dX12_find_165, rfl⟩ kfX12_235 l_66 rfl ?_
    refine y_iload_n (i := 3) (n := 169) ⟨dX12_find_168, rfl⟩ rfl ?_
    obtain ⟨hg6, hf⟩ := g_s hf
    refine y_iastore (n := 170) ⟨dX12_find_169, rfl⟩ l_76 hg6 ?_
    refine y_aload_n (i := 0) (n := 171) ⟨dX12_find_170, rfl⟩ rfl ?_
    refine y_getR (n := 174) ⟨dX12_find_171, rfl⟩ kfX12_40 l_66 rfl r_66_13 ?_
    refine y_aload_n (i := 0) (n := 175) ⟨dX12_find_174, rfl⟩ rfl ?_
    refine y_getI (n := 178) ⟨dX12_find_175, rfl⟩ kfX12_235 l_66 rfl ?_
    refine y_iload (i := 4) (n := 180) ⟨dX12_find_178, rfl⟩ rfl ?_
    obtain ⟨hg7, hf⟩ := g_s hf
    refine y_iastore (n := 181) ⟨dX12_find_180, rfl⟩ l_77 hg7 ?_
    refine y_aload_n (i := 0) (n := 182) ⟨dX12_find_181, rfl⟩ rfl ?_
    refine y_getR (n := 185) ⟨dX12_find_182, rfl⟩ kfX12_43 l_66 rfl r_66_14 ?_
    refine y_aload_n (i := 0) (n := 186) ⟨dX12_find_185, rfl⟩ rfl ?_
    refine y_getI (n := 189) ⟨dX12_find_186, rfl⟩ kfX12_235 l_66 rfl ?_
    refine y_iload (i := 5) (n := 191) ⟨dX12_find_189, rfl⟩ rfl ?_
    obtain ⟨hg8, hf⟩ := g_s hf
    refine y_iastore (n := 192) ⟨dX12_find_191, rfl⟩ l_78 hg8 ?_
    refine y_aload_n (i := 0) (n := 193) ⟨dX12_find_192, rfl⟩ rfl ?_
    refine y_getR (n := 196) ⟨dX12_find_193, rfl⟩ kfX12_46 l_66 rfl r_66_15 ?_
    refine y_aload_n (i := 0) (n := 197) ⟨dX12_find_196, rfl⟩ rfl ?_
    refine y_getI (n := 200) ⟨dX12_find_197, rfl⟩ kfX12_235 l_66 rfl ?_
    refine y_iload (i := 6) (n := 202) ⟨dX12_find_200, rfl⟩ rfl ?_
    obtain ⟨hg9, hf⟩ := g_s hf
    refine y_iastore (n := 203) ⟨dX12_find_202, rfl⟩ l_79 hg9 ?_
    refine y_aload_n (i := 0) (n := 204) ⟨dX12_find_203, rfl⟩ rfl ?_
    refine y_getR (n := 207) ⟨dX12_find_204, rfl⟩ kfX12_49 l_66 rfl r_66_16 ?_
    refine y_aload_n (i := 0) (n := 208) ⟨dX12_find_207, rfl⟩ rfl ?_
    refine y_getI (n := 211) ⟨dX12_find_208, rfl⟩ kfX12_235 l_66 rfl ?_
    refine y_iload (i := 7) (n := 213) ⟨dX12_find_211, rfl⟩ rfl ?_
    obtain ⟨hg10, hf⟩ := g_s hf
    refine y_iastore (n := 214) ⟨dX12_find_213, rfl⟩ l_80 hg10 ?_
    refine y_aload_n (i := 0) (n := 215) ⟨dX12_find_214, rfl⟩ rfl ?_
    refine y_dup_r (n := 216) ⟨dX12_find_215, rfl⟩ ?_
    refine y_getI (n := 219) ⟨dX12_find_216, rfl⟩ kfX12_235 l_66 rfl ?_
    refine y_iconst (n := 220) (v := 1) ⟨dX12_find_219, rfl⟩ ki_1 ?_
    refine y_iadd (n := 221) ⟨dX12_find_220, rfl⟩ ?_
    refine y_putI (n := 224) ⟨dX12_find_221, rfl⟩ kfX12_235 l_66 (by decide +kernel) rfl ?_
    refine y_aload_n (i := 0) (n := 225) ⟨dX12_find_224, rfl⟩ rfl ?_
    refine y_getI (n := 228) ⟨dX12_find_225, rfl⟩ kfX12_235 l_66 rfl ?_
    refine y_iconst (n := 229) (v := 1) ⟨dX12_find_228, rfl⟩ ki_1 ?_
    refine y_isub (n := 230) ⟨dX12_find_229, rfl⟩ ?_
    cases hf
    exact y_ireturn (n := 231) ⟨dX12_find_230, rfl⟩ rfl rfl hk
  · replace hf := i_t hc hf
    refine y_iconst (n := 139) (v := (-1)) ⟨dX12_find_138, rfl⟩ ki_m1 ?_
    cases hf
    exact y_ireturn (n := 140) ⟨dX12_find_139, rfl⟩ rfl rfl hk
theorem ok_mo_find (a1 : Int32) (a2 : Int32) (a3 : Int32) (a4 : Int32) (a5 : Int32) (a6 : Int32) (a7 : Int32) (M : dM) {o : (Int32 × dM)} (hf : f_mo_find a1 a2 a3 a4 a5 a6 a7 M = some o) : mO mX12_find 2 [.ref 66, .int a1, .int a2, .int a3, .int a4, .int a5, .int a6, .int a7] M (some (.int o.1)) o.2 := by
  refine y_ok (by decide +kernel) (Nat.le_of_ble_eq_true rfl) (L0 := [some (.ref 66), some (.int a1), some (.int a2), some (.int a3), some (.int a4), some (.int a5), some (.int a6), some (.int a7)]) rfl ?_
  have hk := mR_mQ (some (.int o.1)) o.2
  generalize mQ _ _ = Q at hk ⊢
  unfold f_mo_find at hf
  refine y_aload_n (i := 0) (n := 1) ⟨dX12_find_0, rfl⟩ rfl ?_
  refine y_iconst (n := 2) (v := 0) ⟨dX12_find_1, rfl⟩ ki_0 ?_
  refine y_putI (n := 5) ⟨dX12_find_2, rfl⟩ kfX12_214 l_66 (by decide +kernel) rfl ?_
  refine y_iload_n (i := 1) (n := 6) ⟨dX12_find_5, rfl⟩ rfl ?_
  refine c_mo_isSite a1 (sI M 66 0 0) (n := 9) ⟨dX12_find_6, rfl⟩ klX12_217 rfl (by decide) (Nat.le_of_ble_eq_true rfl) rfl rfl ?_
  refine y_if_eq (t := 98) (n := 12) ⟨dX12_find_9, rfl, rfl⟩ (fun h0 => ?_) (fun h0 => ?_)
  · have hc := bI_0 h0
    replace hf := i_f hc hf
    refine y_iconst (n := 99) (v := (-1)) ⟨dX12_find_98, rfl⟩ ki_m1 ?_
    cases hf
    exact y_ireturn (n := 100) ⟨dX12_find_99, rfl⟩ rfl rfl hk
  · have hc := bI_1 h0
    replace hf := i_t hc hf
    refine y_iload_n (i := 2) (n := 13) ⟨dX12_find_12, rfl⟩ rfl ?_
    refine y_iconst (n := 14) (v := 0) ⟨dX12_find_13, rfl⟩ ki_0 ?_
    refine y_bipush (n := 16) (v := 9) ⟨dX12_find_14, rfl⟩ kb_9 ?_
    refine c_mo_within a2 0 9 (sI M 66 0 0) (n := 19) ⟨dX12_find_16, rfl⟩ klX12_221 rfl (by decide) (Nat.le_of_ble_eq_true rfl) rfl rfl ?_
    refine y_if_eq (t := 98) (n := 22) ⟨dX12_find_19, rfl, rfl⟩ (fun h0 => ?_) (fun h0 => ?_)
    · have hc := bI_0 h0
      replace hf := i_f hc hf
      refine y_iconst (n := 99) (v := (-1)) ⟨dX12_find_98, rfl⟩ ki_m1 ?_
      cases hf
      exact y_ireturn (n := 100) ⟨dX12_find_99, rfl⟩ rfl rfl hk
    · have hc := bI_1 h0
      replace hf := i_t hc hf
      refine y_aload_n (i := 0) (n := 23) ⟨dX12_find_22, rfl⟩ rfl ?_
      refine y_getR (n := 26) ⟨dX12_find_23, rfl⟩ kfX12_7 l_66 rfl r_66_1 ?_
      refine y_bipush (n := 28) (v := 10) ⟨dX12_find_26, rfl⟩ kb_10 ?_
      refine y_iload_n (i := 1) (n := 29) ⟨dX12_find_28, rfl⟩ rfl ?_
      refine y_imul (n := 30) ⟨dX12_find_29, rfl⟩ ?_
      refine y_iload_n (i := 2) (n := 31) ⟨dX12_find_30, rfl⟩ rfl ?_
      refine y_iadd (n := 32) ⟨dX12_find_31, rfl⟩ ?_
      obtain ⟨hg1, hf⟩ := g_s hf
      refine y_iaload (n := 33) ⟨dX12_find_32, rfl⟩ l_67 hg1 ?_
      refine y_if_lt (t := 98) (n := 36) ⟨dX12_find_33, rfl, rfl⟩ (fun (hc : (gI (sI M 66 0 0) 67 ((10 * a1) + a2).toNatClampNeg) < 0) => ?_) (fun (hc : ¬ ((gI (sI M 66 0 0) 67 ((10 * a1) + a2).toNatClampNeg) < 0)) => ?_)
      · replace hf := i_t hc hf
        refine y_iconst (n := 99) (v := (-1)) ⟨dX12_find_98, rfl⟩ ki_m1 ?_
        cases hf
        exact y_ireturn (n := 100) ⟨dX12_find_99, rfl⟩ rfl rfl hk
      · replace hf := i_f hc hf
        refine y_iload_n (i := 3) (n := 37) ⟨dX12_find_36, rfl⟩ rfl ?_
        refine y_iconst (n := 38) (v := 0) ⟨dX12_find_37, rfl⟩ ki_0 ?_
        refine y_sipush (n := 41) (v := 999) ⟨dX12_find_38, rfl⟩ ks_999 ?_
        refine c_mo_within a3 0 999 (sI M 66 0 0) (n := 44) ⟨dX12_find_41, rfl⟩ klX12_221 rfl (by decide) (Nat.le_of_ble_eq_true rfl) rfl rfl ?_
        refine y_if_eq (t := 98) (n := 47) ⟨dX12_find_44, rfl, rfl⟩ (fun h0 => ?_) (fun h0 => ?_)
        · have hc := bI_0 h0
          replace hf := i_f hc hf
          refine y_iconst (n := 99) (v := (-1)) ⟨dX12_find_98, rfl⟩ ki_m1 ?_
          cases hf
          exact y_ireturn (n := 100) ⟨dX12_find_99, rfl⟩ rfl rfl hk
        · have hc := bI_1 h0
          replace hf := i_t hc hf
          refine y_iload (i := 4) (n := 49) ⟨dX12_find_47, rfl⟩ rfl ?_
          refine y_iconst (n := 50) (v := 0) ⟨dX12_find_49, rfl⟩ ki_0 ?_
          refine y_bipush (n := 52) (v := 23) ⟨dX12_find_50, rfl⟩ kb_23 ?_
          refine c_mo_within a4 0 23 (sI M 66 0 0) (n := 55) ⟨dX12_find_52, rfl⟩ klX12_221 rfl (by decide) (Nat.le_of_ble_eq_true rfl) rfl rfl ?_
          refine y_if_eq (t := 98) (n := 58) ⟨dX12_find_55, rfl, rfl⟩ (fun h0 => ?_) (fun h0 => ?_)
          · have hc := bI_0 h0
            replace hf := i_f hc hf
            refine y_iconst (n := 99) (v := (-1)) ⟨dX12_find_98, rfl⟩ ki_m1 ?_
            cases hf
            exact y_ireturn (n := 100) ⟨dX12_find_99, rfl⟩ rfl rfl hk
          · have hc := bI_1 h0
            replace hf := i_t hc hf
            refine y_iload (i := 5) (n := 60) ⟨dX12_find_58, rfl⟩ rfl ?_
            refine c_mo_isHand a5 (sI M 66 0 0) (n := 63) ⟨dX12_find_60, rfl⟩ klX12_225 rfl (by decide) (Nat.le_of_ble_eq_true rfl) rfl rfl ?_
            refine y_if_eq (t := 98) (n := 66) ⟨dX12_find_63, rfl, rfl⟩ (fun h0 => ?_) (fun h0 => ?_)
            · have hc := bI_0 h0
              replace hf := i_f hc hf
              refine y_iconst (n := 99) (v := (-1)) ⟨dX12_find_98, rfl⟩ ki_m1 ?_
              cases hf
              exact y_ireturn (n := 100) ⟨dX12_find_99, rfl⟩ rfl rfl hk
            · have hc := bI_1 h0
              replace hf := i_t hc hf
              refine y_iload (i := 6) (n := 68) ⟨dX12_find_66, rfl⟩ rfl ?_
              refine y_iconst (n := 69) (v := 0) ⟨dX12_find_68, rfl⟩ ki_0 ?_
              refine y_sipush (n := 72) (v := 255) ⟨dX12_find_69, rfl⟩ ks_255 ?_
              refine c_mo_within a6 0 255 (sI M 66 0 0) (n := 75) ⟨dX12_find_72, rfl⟩ klX12_221 rfl (by decide) (Nat.le_of_ble_eq_true rfl) rfl rfl ?_
              refine y_if_eq (t := 98) (n := 78) ⟨dX12_find_75, rfl, rfl⟩ (fun h0 => ?_) (fun h0 => ?_)
              · have hc := bI_0 h0
                replace hf := i_f hc hf
                refine y_iconst (n := 99) (v := (-1)) ⟨dX12_find_98, rfl⟩ ki_m1 ?_
                cases hf
                exact y_ireturn (n := 100) ⟨dX12_find_99, rfl⟩ rfl rfl hk
              · have hc := bI_1 h0
                replace hf := i_t hc hf
                refine y_iload (i := 7) (n := 80) ⟨dX12_find_78, rfl⟩ rfl ?_
                refine y_iconst (n := 81) (v := 0) ⟨dX12_find_80, rfl⟩ ki_0 ?_
                refine y_bipush (n := 83) (v := 99) ⟨dX12_find_81, rfl⟩ kb_99 ?_
                refine c_mo_within a7 0 99 (sI M 66 0 0) (n := 86) ⟨dX12_find_83, rfl⟩ klX12_221 rfl (by decide) (Nat.le_of_ble_eq_true rfl) rfl rfl ?_
                refine y_if_eq (t := 98) (n := 89) ⟨dX12_find_86, rfl, rfl⟩ (fun h0 => ?_) (fun h0 => ?_)
                · have hc := bI_0 h0
                  replace hf := i_f hc hf
                  refine y_iconst (n := 99) (v := (-1)) ⟨dX12_find_98, rfl⟩ ki_m1 ?_
                  cases hf
                  exact y_ireturn (n := 100) ⟨dX12_find_99, rfl⟩ rfl rfl hk
                · have hc := bI_1 h0
                  replace hf := i_t hc hf
                  refine y_aload_n (i := 0) (n := 90) ⟨dX12_find_89, rfl⟩ rfl ?_
                  refine y_getI (n := 93) ⟨dX12_find_90, rfl⟩ kfX12_235 l_66 rfl ?_
                  refine y_bipush (n := 95) (v := 40) ⟨dX12_find_93, rfl⟩ kb_40 ?_
                  refine y_icmp_ne (t := 100) (n := 98) ⟨dX12_find_95, rfl, rfl⟩ (fun (hc : ¬ ((gI (sI M 66 0 0) 66 9) = 40)) => ?_) (fun (hc : (gI (sI M 66 0 0) 66 9) = 40) => ?_)
                  · replace hf := i_f hc hf
                    refine y_aload_n (i := 0) (n := 101) ⟨dX12_find_100, rfl⟩ rfl ?_
                    refine y_getI (n := 104) ⟨dX12_find_101, rfl⟩ kfX12_235 l_66 rfl ?_
                    refine y_if_le (t := 122) (n := 107) ⟨dX12_find_104, rfl, rfl⟩ (fun (hc : (gI (sI M 66 0 0) 66 9) ≤ 0) => ?_) (fun (hc : ¬ ((gI (sI M 66 0 0) 66 9) ≤ 0)) => ?_)
                    · replace hf := i_t hc hf
                      exact y_wk (L2 := [some (.ref 66), some (.int a1), some (.int a2), some (.int a3), some (.int a4), some (.int a5), some (.int a6), some (.int a7)]) ⟨Or.inr rfl, Or.inr rfl, Or.inr rfl, Or.inr rfl, Or.inr rfl, Or.inr rfl, Or.inr rfl, Or.inr rfl, trivial⟩ (w_t_mo_find_122 a1 a2 a3 a4 a5 a6 a7 (sI M 66 0 0) hf hk)
                    · replace hf := i_f hc hf
                      refine y_iload_n (i := 3) (n := 108) ⟨dX12_find_107, rfl⟩ rfl ?_
                      refine y_aload_n (i := 0) (n := 109) ⟨dX12_find_108, rfl⟩ rfl ?_
                      refine y_getR (n := 112) ⟨dX12_find_109, rfl⟩ kfX12_37 l_66 rfl r_66_12 ?_
                      refine y_aload_n (i := 0) (n := 113) ⟨dX12_find_112, rfl⟩ rfl ?_
                      refine y_getI (n := 116) ⟨dX12_find_113, rfl⟩ kfX12_235 l_66 rfl ?_
                      refine y_iconst (n := 117) (v := 1) ⟨dX12_find_116, rfl⟩ ki_1 ?_
                      refine y_isub (n := 118) ⟨dX12_find_117, rfl⟩ ?_
                      obtain ⟨hg11, hf⟩ := g_s hf
                      refine y_iaload (n := 119) ⟨dX12_find_118, rfl⟩ l_76 hg11 ?_
                      refine y_icmp_lt (t := 138) (n := 122) ⟨dX12_find_119, rfl, rfl⟩ (fun (hc : a3 < (gI (sI M 66 0 0) 76 ((gI (sI M 66 0 0) 66 9) - 1).toNatClampNeg)) => ?_) (fun (hc : ¬ (a3 < (gI (sI M 66 0 0) 76 ((gI (sI M 66 0 0) 66 9) - 1).toNatClampNeg))) => ?_)
                      · replace hf := i_t hc hf
                        refine y_iconst (n := 139) (v := (-1)) ⟨dX12_find_138, rfl⟩ ki_m1 ?_
                        cases hf
                        exact y_ireturn (n := 140) ⟨dX12_find_139, rfl⟩ rfl rfl hk
                      · replace hf := i_f hc hf
                        exact y_wk (L2 := [some (.ref 66), some (.int a1), some (.int a2), some (.int a3), some (.int a4), some (.int a5), some (.int a6), some (.int a7)]) ⟨Or.inr rfl, Or.inr rfl, Or.inr rfl, Or.inr rfl, Or.inr rfl, Or.inr rfl, Or.inr rfl, Or.inr rfl, trivial⟩ (w_t_mo_find_122 a1 a2 a3 a4 a5 a6 a7 (sI M 66 0 0) hf hk)
                  · replace hf := i_t hc hf
                    refine y_iconst (n := 99) (v := (-1)) ⟨dX12_find_98, rfl⟩ ki_m1 ?_
                    cases hf
                    exact y_ireturn (n := 100) ⟨dX12_find_99, rfl⟩ rfl rfl hk
theorem c_mo_find (a1 : Int32) (a2 : Int32) (a3 : Int32) (a4 : Int32) (a5 : Int32) (a6 : Int32) (a7 : Int32) (M : dM) {o : (Int32 × dM)} {y : mz_M} {d : Nat} {Q : mz_P} {pc n i : Nat} {L : List (Option Value)} {st : List Value} (h : mz_d y.2.1 pc n 3 (.invokevirtual i)) (hl : mz_ml y.1.cls i yX12_find) (hf : f_mo_find a1 a2 a3 a4 a5 a6 a7 M = some o) (hd : 2 + 1 ≤ d) (hsm : (st.map (fun v => v.category)).sum ≤ 8) (hLr : mz_rL 133 L = true) (hSr : mz_rS 133 st = true) (kk : mW y d Q n L (.int o.1 :: st) o.2) : mW y d Q pc L (.int a7 :: .int a6 :: .int a5 :: .int a4 :: .int a3 :: .int a2 :: .int a1 :: .ref 66 :: st) M :=
  y_callV kmX12_find kvX12_find l_66 (by decide +kernel) (by decide +kernel) h hl (ok_mo_find a1 a2 a3 a4 a5 a6 a7 M hf) (vs := [.int a1, .int a2, .int a3, .int a4, .int a5, .int a6, .int a7]) rfl rfl hd hsm hLr hSr kk
