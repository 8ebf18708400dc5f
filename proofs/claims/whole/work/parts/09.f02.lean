noncomputable def f_ax_law (M : dM) : Option (Int32 × dM) :=
  (f_re_readLaw M).bind fun q1 =>
  if q1.1 = 0 then
    (f_la_takeOver q1.2).bind fun q3 =>
    some (q1.1, (f_ax_changed q3))
  else
    some (q1.1, q1.2)
theorem ok_ax_law  (M : dM) {o : (Int32 × dM)} (hf : f_ax_law M = some o) : mO mX11_law 93 [.ref 0] M (some (.int o.1)) o.2 := by
  refine y_ok (by decide +kernel) (by decide) (L0 := [some (.ref 0), none]) rfl ?_
  have hk := mR_mQ (some (.int o.1)) o.2
  generalize mQ _ _ = Q at hk ⊢
  unfold f_ax_law at hf
  refine y_aload_n (i := 0) (n := 1) ⟨dX11_law_0, rfl⟩ rfl ?_
  refine y_getR (n := 4) ⟨dX11_law_1, rfl⟩ kfX11_47 l_0 rfl r_0_5 ?_
  obtain ⟨q1, hv2, hf⟩ := b_s hf
  refine c_re_readLaw M (n := 7) ⟨dX11_law_4, rfl⟩ klX11_135 hv2 (by decide) (Nat.le_of_ble_eq_true rfl) rfl rfl ?_
  refine y_istore_n (i := 1) (n := 8) (L2 := [some (.ref 0), some (.int q1.1)]) ⟨dX11_law_7, rfl⟩ (by decide) rfl rfl ?_
  refine y_iload_n (i := 1) (n := 9) ⟨dX11_law_8, rfl⟩ rfl ?_
  refine y_if_ne (t := 30) (n := 12) ⟨dX11_law_9, rfl, rfl⟩ (fun (hc : ¬ (q1.1 = 0)) => ?_) (fun (hc : q1.1 = 0) => ?_)
  · replace hf := i_f hc hf
    refine y_iload_n (i := 1) (n := 31) ⟨dX11_law_30, rfl⟩ rfl ?_
    cases hf
    exact y_ireturn (n := 32) ⟨dX11_law_31, rfl⟩ rfl rfl hk
  · replace hf := i_t hc hf
    refine y_aload_n (i := 0) (n := 13) ⟨dX11_law_12, rfl⟩ rfl ?_
    refine y_getR (n := 16) ⟨dX11_law_13, rfl⟩ kfX11_40 l_0 rfl r_0_4 ?_
    refine y_aload_n (i := 0) (n := 17) ⟨dX11_law_16, rfl⟩ rfl ?_
    refine y_getR (n := 20) ⟨dX11_law_17, rfl⟩ kfX11_47 l_0 rfl r_0_5 ?_
    refine y_getR (n := 23) ⟨dX11_law_20, rfl⟩ kfX11_139 l_32 rfl r_32_2 ?_
    obtain ⟨q3, hv4, hf⟩ := b_s hf
    refine c_la_takeOver q1.2 (n := 26) ⟨dX11_law_23, rfl⟩ klX11_142 hv4 (by decide) (Nat.le_of_ble_eq_true rfl) rfl rfl ?_
    refine y_aload_n (i := 0) (n := 27) ⟨dX11_law_26, rfl⟩ rfl ?_
    refine c_ax_changed q3 (n := 30) ⟨dX11_law_27, rfl⟩ klX11_99 rfl (by decide) (Nat.le_of_ble_eq_true rfl) rfl rfl ?_
    refine y_iload_n (i := 1) (n := 31) ⟨dX11_law_30, rfl⟩ rfl ?_
    cases hf
    exact y_ireturn (n := 32) ⟨dX11_law_31, rfl⟩ rfl rfl hk
theorem c_ax_law  (M : dM) {o : (Int32 × dM)} {y : mz_M} {d : Nat} {Q : mz_P} {pc n i : Nat} {L : List (Option Value)} {st : List Value} (h : mz_d y.2.1 pc n 3 (.invokevirtual i)) (hl : mz_ml y.1.cls i yX11_law) (hf : f_ax_law M = some o) (hd : 93 + 1 ≤ d) (hsm : (st.map (fun v => v.category)).sum ≤ 8) (hLr : mz_rL 133 L = true) (hSr : mz_rS 133 st = true) (kk : mW y d Q n L (.int o.1 :: st) o.2) : mW y d Q pc L (.ref 0 :: st) M :=
  y_callV kmX11_law kvX11_law l_0 (by decide +kernel) (by decide +kernel) h hl (ok_ax_law  M hf) (vs := []) rfl rfl hd hsm hLr hSr kk
noncomputable def f_ax_present (a1 : Int32) (a2 : Int32) (a3 : Int32) (M : dM) : Option Int32 :=
  if (f_ax_within a1 8) = true then
    if (f_ax_within a2 1000) = true then
      if (f_ax_within a3 24) = true then
        (f_li_whoAt a1 a2 a3 M).bind fun v1 =>
        some v1
      else
        some (-1)
    else
      some (-1)
  else
    some (-1)
theorem ok_ax_present (a1 : Int32) (a2 : Int32) (a3 : Int32) (M : dM) {o : Int32} (hf : f_ax_present a1 a2 a3 M = some o) : mO mX11_present 3 [.ref 0, .int a1, .int a2, .int a3] M (some (.int o)) M := by
  refine y_ok (by decide +kernel) (by decide) (L0 := [some (.ref 0), some (.int a1), some (.int a2), some (.int a3)]) rfl ?_
  have hk := mR_mQ (some (.int o)) M
  generalize mQ _ _ = Q at hk ⊢
  unfold f_ax_present at hf
  refine y_iload_n (i := 1) (n := 1) ⟨dX11_present_0, rfl⟩ rfl ?_
  refine y_bipush (n := 3) (v := 8) ⟨dX11_present_1, rfl⟩ kb_8 ?_
  refine c_ax_within a1 8 M (n := 6) ⟨dX11_present_3, rfl⟩ klX11_91 rfl (by decide) (Nat.le_of_ble_eq_true rfl) rfl rfl ?_
  refine y_if_eq (t := 28) (n := 9) ⟨dX11_present_6, rfl, rfl⟩ (fun h0 => ?_) (fun h0 => ?_)
  · have hc := bI_0 h0
    replace hf := i_f hc hf
    refine y_iconst (n := 29) (v := (-1)) ⟨dX11_present_28, rfl⟩ ki_m1 ?_
    cases hf
    exact y_ireturn (n := 30) ⟨dX11_present_29, rfl⟩ rfl rfl hk
  · have hc := bI_1 h0
    replace hf := i_t hc hf
    refine y_iload_n (i := 2) (n := 10) ⟨dX11_present_9, rfl⟩ rfl ?_
    refine y_sipush (n := 13) (v := 1000) ⟨dX11_present_10, rfl⟩ ks_1000 ?_
    refine c_ax_within a2 1000 M (n := 16) ⟨dX11_present_13, rfl⟩ klX11_91 rfl (by decide) (Nat.le_of_ble_eq_true rfl) rfl rfl ?_
    refine y_if_eq (t := 28) (n := 19) ⟨dX11_present_16, rfl, rfl⟩ (fun h0 => ?_) (fun h0 => ?_)
    · have hc := bI_0 h0
      replace hf := i_f hc hf
      refine y_iconst (n := 29) (v := (-1)) ⟨dX11_present_28, rfl⟩ ki_m1 ?_
      cases hf
      exact y_ireturn (n := 30) ⟨dX11_present_29, rfl⟩ rfl rfl hk
    · have hc := bI_1 h0
      replace hf := i_t hc hf
      refine y_iload_n (i := 3) (n := 20) ⟨dX11_present_19, rfl⟩ rfl ?_
      refine y_bipush (n := 22) (v := 24) ⟨dX11_present_20, rfl⟩ kb_24 ?_
      refine c_ax_within a3 24 M (n := 25) ⟨dX11_present_22, rfl⟩ klX11_91 rfl (by decide) (Nat.le_of_ble_eq_true rfl) rfl rfl ?_
      refine y_if_ne (t := 30) (n := 28) ⟨dX11_present_25, rfl, rfl⟩ (fun h0 => ?_) (fun h0 => ?_)
      · have hc := bI_1 h0
        replace hf := i_t hc hf
        refine y_aload_n (i := 0) (n := 31) ⟨dX11_present_30, rfl⟩ rfl ?_
        refine y_getR (n := 34) ⟨dX11_present_31, rfl⟩ kfX11_19 l_0 rfl r_0_1 ?_
        refine y_iload_n (i := 1) (n := 35) ⟨dX11_present_34, rfl⟩ rfl ?_
        refine y_iload_n (i := 2) (n := 36) ⟨dX11_present_35, rfl⟩ rfl ?_
        refine y_iload_n (i := 3) (n := 37) ⟨dX11_present_36, rfl⟩ rfl ?_
        obtain ⟨v1, hv2, hf⟩ := b_s hf
        refine c_li_whoAt a1 a2 a3 M (n := 40) ⟨dX11_present_37, rfl⟩ klX11_116 hv2 (by decide) (Nat.le_of_ble_eq_true rfl) rfl rfl ?_
        cases hf
        exact y_ireturn (n := 41) ⟨dX11_present_40, rfl⟩ rfl rfl hk
      · have hc := bI_0 h0
        replace hf := i_f hc hf
        refine y_iconst (n := 29) (v := (-1)) ⟨dX11_present_28, rfl⟩ ki_m1 ?_
        cases hf
        exact y_ireturn (n := 30) ⟨dX11_present_29, rfl⟩ rfl rfl hk
theorem c_ax_present (a1 : Int32) (a2 : Int32) (a3 : Int32) (M : dM) {o : Int32} {y : mz_M} {d : Nat} {Q : mz_P} {pc n i : Nat} {L : List (Option Value)} {st : List Value} (h : mz_d y.2.1 pc n 3 (.invokevirtual i)) (hl : mz_ml y.1.cls i yX11_present) (hf : f_ax_present a1 a2 a3 M = some o) (hd : 3 + 1 ≤ d) (hsm : (st.map (fun v => v.category)).sum ≤ 8) (hLr : mz_rL 133 L = true) (hSr : mz_rS 133 st = true) (kk : mW y d Q n L (.int o :: st) M) : mW y d Q pc L (.int a3 :: .int a2 :: .int a1 :: .ref 0 :: st) M :=
  y_callV kmX11_present kvX11_present l_0 (by decide +kernel) (by decide +kernel) h hl (ok_ax_present a1 a2 a3 M hf) (vs := [.int a1, .int a2, .int a3]) rfl rfl hd hsm hLr hSr kk
def K_li_weigh_10 (Q : mz_P)  (M : dM) : ((Int32 × dM) ⊕ dM) → Prop
  | .inl s => mW mX4_weigh 1 Q 10 [some (.ref 6), some (.int s.1), none, none, none] [] s.2
  | .inr r => mR Q none r
def K_li_weigh_25 (Q : mz_P) (x1 : Int32) (M : dM) : ((Int32 × Int32 × Int32) ⊕ (Int32 × Int32)) → Prop
  | .inl s => mW mX4_weigh 1 Q 25 [some (.ref 6), some (.int x1), some (.int s.1), some (.int s.2.1), some (.int s.2.2)] [] M
  | .inr t => mW mX4_weigh 1 Q 114 [some (.ref 6), some (.int x1), some (.int t.1), some (.int t.2), none] [] M
noncomputable def b_li_weigh_25_25 (x1 : Int32) (x2 : Int32) (x3 : Int32) (x4 : Int32) (M : dM) : Option ((Int32 × Int32 × Int32) ⊕ (Int32 × Int32)) :=
  if (gI M 6 5) ≤ x4 then
    some (.inr (x2, x3))
  else
    gd (vp_in x4 80) <|
    gd (vp_in x1 80) <|
    if (gI M 8 x4.toNatClampNeg) = (gI M 8 x1.toNatClampNeg) then
      if (gI M 9 x4.toNatClampNeg) = (gI M 9 x1.toNatClampNeg) then
        if (gI M 7 x4.toNatClampNeg) = (gI M 7 x1.toNatClampNeg) then
          some (.inl ((x2 ||| (gI M 10 x4.toNatClampNeg)), x3, (x4 + 1)))
        else
          some (.inl (x2, (x3 ||| (gI M 10 x4.toNatClampNeg)), (x4 + 1)))
      else
        some (.inl (x2, x3, (x4 + 1)))
    else
      some (.inl (x2, x3, (x4 + 1)))
noncomputable def l_li_weigh_25 (x1 : Int32) (x2 : Int32) (x3 : Int32) (x4 : Int32) (M : dM) : Option (Int32 × Int32) := lpc (fun s => b_li_weigh_25_25 x1 s.1 s.2.1 s.2.2 M) (x2, x3, x4)
noncomputable def b_li_weigh_10_10 (x1 : Int32) (M : dM) : Option ((Int32 × dM) ⊕ dM) :=
  if (gI M 6 5) ≤ x1 then
    some (.inr (sI M 6 6 1))
  else
    (l_li_weigh_25 x1 0 0 0 M).bind fun t3 =>
      gd (vp_in x1 80) <|
      some (.inl ((x1 + 1), (sI M 11 x1.toNatClampNeg (t3.1 &&& (t3.2 ^^^ (-1))))))
noncomputable def l_li_weigh_10 (x1 : Int32) (M : dM) : Option dM := lpc (fun s => b_li_weigh_10_10 s.1 s.2) (x1, M)
noncomputable def f_li_weigh (M : dM) : Option dM :=
  if (gI M 6 6) = 0 then
    (l_li_weigh_10 0 M).bind fun r9 => some r9
  else
    some M
theorem w_b_li_weigh_25_25 (x1 : Int32) (x2 : Int32) (x3 : Int32) (x4 : Int32) (M : dM) {Q : mz_P} {o : ((Int32 × Int32 × Int32) ⊕ (Int32 × Int32))} (hf : b_li_weigh_25_25 x1 x2 x3 x4 M = some o) (hk : K_li_weigh_25 Q x1 M o) : mW mX4_weigh 1 Q 25 [some (.ref 6), some (.int x1), some (.int x2), some (.int x3), some (.int x4)] [] M := by
  unfold b_li_weigh_25_25 at hf
  refine y_iload (i := 4) (n := 27) ⟨dX4_weigh_25, rfl⟩ rfl ?_
  refine y_aload_n (i := 0) (n := 28) ⟨dX4_weigh_27, rfl⟩ rfl ?_
  refine y_getI (n := 31) ⟨dX4_weigh_28, rfl⟩ kfX4_27 l_6 rfl ?_
  refine y_icmp_ge (t := 114) (n := 34) ⟨dX4_weigh_31, rfl, rfl⟩ (fun (hc : (gI M 6 5) ≤ x4) => ?_) (fun (hc : ¬ ((gI M 6 5) ≤ x4)) => ?_)
  · replace hf := i_t hc hf
    cases hf
    exact y_wk ⟨Or.inr rfl, Or.inr rfl, Or.inr rfl, Or.inr rfl, Or.inl rfl, trivial⟩ hk
  · replace hf := i_f hc hf
    refine y_aload_n (i := 0) (n := 35) ⟨dX4_weigh_34, rfl⟩ rfl ?_
    refine y_getR (n := 38) ⟨dX4_weigh_35, rfl⟩ kfX4_15 l_6 rfl r_6_1 ?_
    refine y_iload (i := 4) (n := 40) ⟨dX4_weigh_38, rfl⟩ rfl ?_
    obtain ⟨hg1, hf⟩ := g_s hf
    refine y_iaload (n := 41) ⟨dX4_weigh_40, rfl⟩ l_8 hg1 ?_
    refine y_aload_n (i := 0) (n := 42) ⟨dX4_weigh_41, rfl⟩ rfl ?_
    refine y_getR (n := 45) ⟨dX4_weigh_42, rfl⟩ kfX4_15 l_6 rfl r_6_1 ?_
    refine y_iload_n (i := 1) (n := 46) ⟨dX4_weigh_45, rfl⟩ rfl ?_
    obtain ⟨hg2, hf⟩ := g_s hf
    refine y_iaload (n := 47) ⟨dX4_weigh_46, rfl⟩ l_8 hg2 ?_
    refine y_icmp_ne (t := 108) (n := 50) ⟨dX4_weigh_47, rfl, rfl⟩ (fun (hc : ¬ ((gI M 8 x4.toNatClampNeg) = (gI M 8 x1.toNatClampNeg))) => ?_) (fun (hc : (gI M 8 x4.toNatClampNeg) = (gI M 8 x1.toNatClampNeg)) => ?_)
    · replace hf := i_f hc hf
      refine y_iinc (i := 4) (n := 111) (b := (x4 + 1)) (L2 := [some (.ref 6), some (.int x1), some (.int x2), some (.int x3), some (.int (x4 + 1))]) ⟨dX4_weigh_108, rfl⟩ rfl (by rw [ki_1]) (by decide) rfl rfl ?_
      refine y_goto (t := 25) ⟨dX4_weigh_111, rfl, rfl⟩ ?_
      cases hf
      exact y_wk ⟨Or.inr rfl, Or.inr rfl, Or.inr rfl, Or.inr rfl, Or.inr rfl, trivial⟩ hk
    · replace hf := i_t hc hf
      refine y_aload_n (i := 0) (n := 51) ⟨dX4_weigh_50, rfl⟩ rfl ?_
      refine y_getR (n := 54) ⟨dX4_weigh_51, rfl⟩ kfX4_18 l_6 rfl r_6_2 ?_
      refine y_iload (i := 4) (n := 56) ⟨dX4_weigh_54, rfl⟩ rfl ?_
      refine y_iaload (n := 57) ⟨dX4_weigh_56, rfl⟩ l_9 hg1 ?_
      refine y_aload_n (i := 0) (n := 58) ⟨dX4_weigh_57, rfl⟩ rfl ?_
      refine y_getR (n := 61) ⟨dX4_weigh_58, rfl⟩ kfX4_18 l_6 rfl r_6_2 ?_
      refine y_iload_n (i := 1) (n := 62) ⟨dX4_weigh_61, rfl⟩ rfl ?_
      refine y_iaload (n := 63) ⟨dX4_weigh_62, rfl⟩ l_9 hg2 ?_
      refine y_icmp_eq (t := 69) (n := 66) ⟨dX4_weigh_63, rfl, rfl⟩ (fun (hc : (gI M 9 x4.toNatClampNeg) = (gI M 9 x1.toNatClampNeg)) => ?_) (fun (hc : ¬ ((gI M 9 x4.toNatClampNeg) = (gI M 9 x1.toNatClampNeg))) => ?_)
      · replace hf := i_t hc hf
        refine y_aload_n (i := 0) (n := 70) ⟨dX4_weigh_69, rfl⟩ rfl ?_
        refine y_getR (n := 73) ⟨dX4_weigh_70, rfl⟩ kfX4_9 l_6 rfl r_6_0 ?_
        refine y_iload (i := 4) (n := 75) ⟨dX4_weigh_73, rfl⟩ rfl ?_
        refine y_iaload (n := 76) ⟨dX4_weigh_75, rfl⟩ l_7 hg1 ?_
        refine y_aload_n (i := 0) (n := 77) ⟨dX4_weigh_76, rfl⟩ rfl ?_
        refine y_getR (n := 80) ⟨dX4_weigh_77, rfl⟩ kfX4_9 l_6 rfl r_6_0 ?_
        refine y_iload_n (i := 1) (n := 81) ⟨dX4_weigh_80, rfl⟩ rfl ?_
        refine y_iaload (n := 82) ⟨dX4_weigh_81, rfl⟩ l_7 hg2 ?_
        refine y_icmp_ne (t := 98) (n := 85) ⟨dX4_weigh_82, rfl, rfl⟩ (fun (hc : ¬ ((gI M 7 x4.toNatClampNeg) = (gI M 7 x1.toNatClampNeg))) => ?_) (fun (hc : (gI M 7 x4.toNatClampNeg) = (gI M 7 x1.toNatClampNeg)) => ?_)
        · replace hf := i_f hc hf
          refine y_iload_n (i := 3) (n := 99) ⟨dX4_weigh_98, rfl⟩ rfl ?_
          refine y_aload_n (i := 0) (n := 100) ⟨dX4_weigh_99, rfl⟩ rfl ?_
          refine y_getR (n := 103) ⟨dX4_weigh_100, rfl⟩ kfX4_21 l_6 rfl r_6_3 ?_
          refine y_iload (i := 4) (n := 105) ⟨dX4_weigh_103, rfl⟩ rfl ?_
          refine y_iaload (n := 106) ⟨dX4_weigh_105, rfl⟩ l_10 hg1 ?_
          refine y_ior (n := 107) ⟨dX4_weigh_106, rfl⟩ ?_
          refine y_istore_n (i := 3) (n := 108) (L2 := [some (.ref 6), some (.int x1), some (.int x2), some (.int (x3 ||| (gI M 10 x4.toNatClampNeg))), some (.int x4)]) ⟨dX4_weigh_107, rfl⟩ (by decide) rfl rfl ?_
          refine y_iinc (i := 4) (n := 111) (b := (x4 + 1)) (L2 := [some (.ref 6), some (.int x1), some (.int x2), some (.int (x3 ||| (gI M 10 x4.toNatClampNeg))), some (.int (x4 + 1))]) ⟨dX4_weigh_108, rfl⟩ rfl (by rw [ki_1]) (by decide) rfl rfl ?_
          refine y_goto (t := 25) ⟨dX4_weigh_111, rfl, rfl⟩ ?_
          cases hf
          exact y_wk ⟨Or.inr rfl, Or.inr rfl, Or.inr rfl, Or.inr rfl, Or.inr rfl, trivial⟩ hk
        · replace hf := i_t hc hf
          refine y_iload_n (i := 2) (n := 86) ⟨dX4_weigh_85, rfl⟩ rfl ?_
          refine y_aload_n (i := 0) (n := 87) ⟨dX4_weigh_86, rfl⟩ rfl ?_
          refine y_getR (n := 90) ⟨dX4_weigh_87, rfl⟩ kfX4_21 l_6 rfl r_6_3 ?_
          refine y_iload (i := 4) (n := 92) ⟨dX4_weigh_90, rfl⟩ rfl ?_
          refine y_iaload (n := 93) ⟨dX4_weigh_92, rfl⟩ l_10 hg1 ?_
          refine y_ior (n := 94) ⟨dX4_weigh_93, rfl⟩ ?_
          refine y_istore_n (i := 2) (n := 95) (L2 := [some (.ref 6), some (.int x1), some (.int (x2 ||| (gI M 10 x4.toNatClampNeg))), some (.int x3), some (.int x4)]) ⟨dX4_weigh_94, rfl⟩ (by decide) rfl rfl ?_
          refine y_goto (t := 108) ⟨dX4_weigh_95, rfl, rfl⟩ ?_
          refine y_iinc (i := 4) (n := 111) (b := (x4 + 1)) (L2 := [some (.ref 6), some (.int x1), some (.int (x2 ||| (gI M 10 x4.toNatClampNeg))), some (.int x3), some (.int (x4 + 1))]) ⟨dX4_weigh_108, rfl⟩ rfl (by rw [ki_1]) (by decide) rfl rfl ?_
          refine y_goto (t := 25) ⟨dX4_weigh_111, rfl, rfl⟩ ?_
          cases hf
          exact y_wk ⟨Or.inr rfl, Or.inr rfl, Or.inr rfl, Or.inr rfl, Or.inr rfl, trivial⟩ hk
      · replace hf := i_f hc hf
        refine y_goto (t := 108) ⟨dX4_weigh_66, rfl, rfl⟩ ?_
        refine y_iinc (i := 4) (n := 111) (b := (x4 + 1)) (L2 := [some (.ref 6), some (.int x1), some (.int x2), some (.int x3), some (.int (x4 + 1))]) ⟨dX4_weigh_108, rfl⟩ rfl (by rw [ki_1]) (by decide) rfl rfl ?_
        refine y_goto (t := 25) ⟨dX4_weigh_111, rfl, rfl⟩ ?_
        cases hf
        exact y_wk ⟨Or.inr rfl, Or.inr rfl, Or.inr rfl, Or.inr rfl, Or.inr rfl, trivial⟩ hk
theorem wl_li_weigh_25 (x1 : Int32) (x2 : Int32) (x3 : Int32) (x4 : Int32) (M : dM) {Q : mz_P} {x : (Int32 × Int32)} (hf : l_li_weigh_25 x1 x2 x3 x4 M = some x) (hk : K_li_weigh_25 Q x1 M (.inr x)) : mW mX4_weigh 1 Q 25 [some (.ref 6), some (.int x1), some (.int x2), some (.int x3), some (.int x4)] [] M :=
  lpc_wp (Wh := fun s => mW mX4_weigh 1 Q 25 [some (.ref 6), some (.int x1), some (.int s.1), some (.int s.2.1), some (.int s.2.2)] [] M) (K := K_li_weigh_25 Q x1 M) (fun _ h => h) (fun s o hb hk => w_b_li_weigh_25_25 x1 s.1 s.2.1 s.2.2 M hb hk) hf hk
theorem w_b_li_weigh_10_10 (x1 : Int32) (M : dM) {Q : mz_P} {o : ((Int32 × dM) ⊕ dM)} (hf : b_li_weigh_10_10 x1 M = some o) (hk : K_li_weigh_10 Q  M o) : mW mX4_weigh 1 Q 10 [some (.ref 6), some (.int x1), none, none, none] [] M := by
  unfold b_li_weigh_10_10 at hf
  refine y_iload_n (i := 1) (n := 11) ⟨dX4_weigh_10, rfl⟩ rfl ?_
  refine y_aload_n (i := 0) (n := 12) ⟨dX4_weigh_11, rfl⟩ rfl ?_
  refine y_getI (n := 15) ⟨dX4_weigh_12, rfl⟩ kfX4_27 l_6 rfl ?_
  refine y_icmp_ge (t := 131) (n := 18) ⟨dX4_weigh_15, rfl, rfl⟩ (fun (hc : (gI M 6 5) ≤ x1) => ?_) (fun (hc : ¬ ((gI M 6 5) ≤ x1)) => ?_)
  · replace hf := i_t hc hf
    refine y_aload_n (i := 0) (n := 132) ⟨dX4_weigh_131, rfl⟩ rfl ?_
    refine y_iconst (n := 133) (v := 1) ⟨dX4_weigh_132, rfl⟩ ki_1 ?_
    refine y_putZ (n := 136) ⟨dX4_weigh_133, rfl⟩ kfX4_35 l_6 (by decide +kernel) rfl (by decide) ?_
    cases hf
    exact y_return (n := 137) ⟨dX4_weigh_136, rfl⟩ rfl hk
  · replace hf := i_f hc hf
    refine y_iconst (n := 19) (v := 0) ⟨dX4_weigh_18, rfl⟩ ki_0 ?_
    refine y_istore_n (i := 2) (n := 20) (L2 := [some (.ref 6), some (.int x1), some (.int 0), none, none]) ⟨dX4_weigh_19, rfl⟩ (by decide) rfl rfl ?_
    refine y_iconst (n := 21) (v := 0) ⟨dX4_weigh_20, rfl⟩ ki_0 ?_
    refine y_istore_n (i := 3) (n := 22) (L2 := [some (.ref 6), some (.int x1), some (.int 0), some (.int 0), none]) ⟨dX4_weigh_21, rfl⟩ (by decide) rfl rfl ?_
    refine y_iconst (n := 23) (v := 0) ⟨dX4_weigh_22, rfl⟩ ki_0 ?_
    refine y_istore (i := 4) (n := 25) (L2 := [some (.ref 6), some (.int x1), some (.int 0), some (.int 0), some (.int 0)]) ⟨dX4_weigh_23, rfl⟩ (by decide) rfl rfl ?_
    obtain ⟨t3, hl4, hf⟩ := b_s hf
    refine y_wk ⟨Or.inr rfl, Or.inr rfl, Or.inr rfl, Or.inr rfl, Or.inr rfl, trivial⟩ (wl_li_weigh_25 x1 0 0 0 M hl4 ?_)
    show mW mX4_weigh 1 Q 114 [some (.ref 6), some (.int x1), some (.int t3.1), some (.int t3.2), none] [] M
    refine y_aload_n (i := 0) (n := 115) ⟨dX4_weigh_114, rfl⟩ rfl ?_
    refine y_getR (n := 118) ⟨dX4_weigh_115, rfl⟩ kfX4_24 l_6 rfl r_6_4 ?_
    refine y_iload_n (i := 1) (n := 119) ⟨dX4_weigh_118, rfl⟩ rfl ?_
    refine y_iload_n (i := 2) (n := 120) ⟨dX4_weigh_119, rfl⟩ rfl ?_
    refine y_iload_n (i := 3) (n := 121) ⟨dX4_weigh_120, rfl⟩ rfl ?_
    refine y_iconst (n := 122) (v := (-1)) ⟨dX4_weigh_121, rfl⟩ ki_m1 ?_
    refine y_ixor (n := 123) ⟨dX4_weigh_122, rfl⟩ ?_
    refine y_iand (n := 124) ⟨dX4_weigh_123, rfl⟩ ?_
    obtain ⟨hg6, hf⟩ := g_s hf
    refine y_iastore (n := 125) ⟨dX4_weigh_124, rfl⟩ l_11 hg6 ?_
    refine y_iinc (i := 1) (n := 128) (b := (x1 + 1)) (L2 := [some (.ref 6), some (.int (x1 + 1)), some (.int t3.1), some (.int t3.2), none]) ⟨dX4_weigh_125, rfl⟩ rfl (by rw [ki_1]) (by decide) rfl rfl ?_
    refine y_goto (t := 10) ⟨dX4_weigh_128, rfl, rfl⟩ ?_
    cases hf
    exact y_wk ⟨Or.inr rfl, Or.inr rfl, Or.inl rfl, Or.inl rfl, Or.inr rfl, trivial⟩ hk
theorem wl_li_weigh_10 (x1 : Int32) (M : dM) {Q : mz_P} {x : dM} (hf : l_li_weigh_10 x1 M = some x) (hk : K_li_weigh_10 Q  M (.inr x)) : mW mX4_weigh 1 Q 10 [some (.ref 6), some (.int x1), none, none, none] [] M :=
  lpc_wp (Wh := fun s => mW mX4_weigh 1 Q 10 [some (.ref 6), some (.int s.1), none, none, none] [] s.2) (K := K_li_weigh_10 Q  M) (fun _ h => h) (fun s o hb hk => w_b_li_weigh_10_10 s.1 s.2 hb hk) hf hk
theorem ok_li_weigh  (M : dM) {o : dM} (hf : f_li_weigh M = some o) : mO mX4_weigh 1 [.ref 6] M none o := by
  refine y_ok (by decide +kernel) (by decide) (L0 := [some (.ref 6), none, none, none, none]) rfl ?_
  have hk := mR_mQ none o
  generalize mQ _ _ = Q at hk ⊢
  unfold f_li_weigh at hf
  refine y_aload_n (i := 0) (n := 1) ⟨dX4_weigh_0, rfl⟩ rfl ?_
  refine y_getI (n := 4) ⟨dX4_weigh_1, rfl⟩ kfX4_35 l_6 rfl ?_
  refine y_if_eq (t := 8) (n := 7) ⟨dX4_weigh_4, rfl, rfl⟩ (fun (hc : (gI M 6 6) = 0) => ?_) (fun (hc : ¬ ((gI M 6 6) = 0)) => ?_)
  · replace hf := i_t hc hf
    refine y_iconst (n := 9) (v := 0) ⟨dX4_weigh_8, rfl⟩ ki_0 ?_
    refine y_istore_n (i := 1) (n := 10) (L2 := [some (.ref 6), some (.int 0), none, none, none]) ⟨dX4_weigh_9, rfl⟩ (by decide) rfl rfl ?_
    obtain ⟨r9, hl8, hf⟩ := b_s hf
    cases hf
    exact y_wk ⟨Or.inr rfl, Or.inr rfl, Or.inr rfl, Or.inr rfl, Or.inr rfl, trivial⟩ (wl_li_weigh_10 0 M hl8 hk)
  · replace hf := i_f hc hf
    cases hf
    exact y_return (n := 8) ⟨dX4_weigh_7, rfl⟩ rfl hk
theorem c_li_weigh  (M : dM) {o : dM} {y : mz_M} {d : Nat} {Q : mz_P} {pc n i : Nat} {L : List (Option Value)} {st : List Value} (h : mz_d y.2.1 pc n 3 (.invokevirtual i)) (hl : mz_ml y.1.cls i yX4_weigh) (hf : f_li_weigh M = some o) (hd : 1 + 1 ≤ d) (hsm : (st.map (fun v => v.category)).sum ≤ 8) (hLr : mz_rL 133 L = true) (hSr : mz_rS 133 st = true) (kk : mW y d Q n L st o) : mW y d Q pc L (.ref 6 :: st) M :=
  y_callV kmX4_weigh kvX4_weigh l_6 (by decide +kernel) (by decide +kernel) h hl (ok_li_weigh  M hf) (vs := []) rfl rfl hd hsm hLr hSr kk
def K_ju_pairTwins_2 (Q : mz_P)  (M : dM) : ((Int32 × dM) ⊕ dM) → Prop
  | .inl s => mW mX2_pairTwins 1 Q 2 [some (.ref 39), some (.int s.1), none] [] s.2
  | .inr r => mR Q none r
def K_ju_pairTwins_22 (Q : mz_P) (x1 : Int32) (M : dM) : ((Int32 × dM) ⊕ dM) → Prop
  | .inl s => mW mX2_pairTwins 1 Q 22 [some (.ref 39), some (.int x1), some (.int s.1)] [] s.2
  | .inr t => mW mX2_pairTwins 1 Q 112 [some (.ref 39), some (.int x1), none] [] t
noncomputable def b_ju_pairTwins_22_22 (x1 : Int32) (x2 : Int32) (M : dM) : Option ((Int32 × dM) ⊕ dM) :=
  if (gI M 12 7) ≤ x2 then
    some (.inr M)
  else
    gd (vp_in x1 40) <|
    gd (vp_in x2 40) <|
    if (gI M 19 x1.toNatClampNeg) = (gI M 19 x2.toNatClampNeg) then
      gd (vp_in (((gI M 13 x1.toNatClampNeg) * 8) + (gI M 13 x2.toNatClampNeg)) 64) <|
      if (gI M 5 (((gI M 13 x1.toNatClampNeg) * 8) + (gI M 13 x2.toNatClampNeg)).toNatClampNeg) ≤ (gI M 27 7) then
        some (.inl ((x2 + 1), M))
      else
        some (.inl ((x2 + 1), (sJ M 42 x1.toNatClampNeg ((gJ M 42 x1.toNatClampNeg) ||| ((1 : Int64) <<< (x2.toInt64 &&& 63))))))
    else
      some (.inl ((x2 + 1), M))
noncomputable def l_ju_pairTwins_22 (x1 : Int32) (x2 : Int32) (M : dM) : Option dM := lpc (fun s => b_ju_pairTwins_22_22 x1 s.1 s.2) (x2, M)
noncomputable def b_ju_pairTwins_2_2 (x1 : Int32) (M : dM) : Option ((Int32 × dM) ⊕ dM) :=
  if (gI M 12 7) ≤ x1 then
    some (.inr M)
  else
    gd (vp_in x1 40) <|
    (l_ju_pairTwins_22 x1 0 (sJ M 42 x1.toNatClampNeg 0)).bind fun t5 =>
      some (.inl ((x1 + 1), t5))
noncomputable def l_ju_pairTwins_2 (x1 : Int32) (M : dM) : Option dM := lpc (fun s => b_ju_pairTwins_2_2 s.1 s.2) (x1, M)
noncomputable def f_ju_pairTwins (M : dM) : Option dM :=
  (l_ju_pairTwins_2 0 M).bind fun r10 => some r10
theorem w_b_ju_pairTwins_22_22 (x1 : Int32) (x2 : Int32) (M : dM) {Q : mz_P} {o : ((Int32 × dM) ⊕ dM)} (hf : b_ju_pairTwins_22_22 x1 x2 M = some o) (hk : K_ju_pairTwins_22 Q x1 M o) : mW mX2_pairTwins 1 Q 22 [some (.ref 39), some (.int x1), some (.int x2)] [] M := by
  unfold b_ju_pairTwins_22_22 at hf
  refine y_iload_n (i := 2) (n := 23) ⟨dX2_pairTwins_22, rfl⟩ rfl ?_
  refine y_aload_n (i := 0) (n := 24) ⟨dX2_pairTwins_23, rfl⟩ rfl ?_
  refine y_getR (n := 27) ⟨dX2_pairTwins_24, rfl⟩ kfX2_40 l_39 rfl r_39_2 ?_
  refine y_getI (n := 30) ⟨dX2_pairTwins_27, rfl⟩ kfX2_51 l_12 rfl ?_
  refine y_icmp_ge (t := 112) (n := 33) ⟨dX2_pairTwins_30, rfl, rfl⟩ (fun (hc : (gI M 12 7) ≤ x2) => ?_) (fun (hc : ¬ ((gI M 12 7) ≤ x2)) => ?_)
  · replace hf := i_t hc hf
    cases hf
    exact y_wk ⟨Or.inr rfl, Or.inr rfl, Or.inl rfl, trivial⟩ hk
  · replace hf := i_f hc hf
    refine y_aload_n (i := 0) (n := 34) ⟨dX2_pairTwins_33, rfl⟩ rfl ?_
    refine y_getR (n := 37) ⟨dX2_pairTwins_34, rfl⟩ kfX2_40 l_39 rfl r_39_2 ?_
    refine y_getR (n := 40) ⟨dX2_pairTwins_37, rfl⟩ kfX2_82 l_12 rfl r_12_6 ?_
    refine y_iload_n (i := 1) (n := 41) ⟨dX2_pairTwins_40, rfl⟩ rfl ?_
    obtain ⟨hg2, hf⟩ := g_s hf
    refine y_iaload (n := 42) ⟨dX2_pairTwins_41, rfl⟩ l_19 hg2 ?_
    refine y_aload_n (i := 0) (n := 43) ⟨dX2_pairTwins_42, rfl⟩ rfl ?_
    refine y_getR (n := 46) ⟨dX2_pairTwins_43, rfl⟩ kfX2_40 l_39 rfl r_39_2 ?_
    refine y_getR (n := 49) ⟨dX2_pairTwins_46, rfl⟩ kfX2_82 l_12 rfl r_12_6 ?_
    refine y_iload_n (i := 2) (n := 50) ⟨dX2_pairTwins_49, rfl⟩ rfl ?_
    obtain ⟨hg3, hf⟩ := g_s hf
    refine y_iaload (n := 51) ⟨dX2_pairTwins_50, rfl⟩ l_19 hg3 ?_
    refine y_icmp_ne (t := 106) (n := 54) ⟨dX2_pairTwins_51, rfl, rfl⟩ (fun (hc : ¬ ((gI M 19 x1.toNatClampNeg) = (gI M 19 x2.toNatClampNeg))) => ?_) (fun (hc : (gI M 19 x1.toNatClampNeg) = (gI M 19 x2.toNatClampNeg)) => ?_)
    · replace hf := i_f hc hf
      refine y_iinc (i := 2) (n := 109) (b := (x2 + 1)) (L2 := [some (.ref 39), some (.int x1), some (.int (x2 + 1))]) ⟨dX2_pairTwins_106, rfl⟩ rfl (by rw [ki_1]) (by decide) rfl rfl ?_
      refine y_goto (t := 22) ⟨dX2_pairTwins_109, rfl, rfl⟩ ?_
      cases hf
      exact y_wk ⟨Or.inr rfl, Or.inr rfl, Or.inr rfl, trivial⟩ hk
    · replace hf := i_t hc hf
      refine y_aload_n (i := 0) (n := 55) ⟨dX2_pairTwins_54, rfl⟩ rfl ?_
      refine y_getR (n := 58) ⟨dX2_pairTwins_55, rfl⟩ kfX2_32 l_39 rfl r_39_0 ?_
      refine y_getR (n := 61) ⟨dX2_pairTwins_58, rfl⟩ kfX2_97 l_1 rfl r_1_3 ?_
      refine y_aload_n (i := 0) (n := 62) ⟨dX2_pairTwins_61, rfl⟩ rfl ?_
      refine y_getR (n := 65) ⟨dX2_pairTwins_62, rfl⟩ kfX2_40 l_39 rfl r_39_2 ?_
      refine y_getR (n := 68) ⟨dX2_pairTwins_65, rfl⟩ kfX2_56 l_12 rfl r_12_0 ?_
      refine y_iload_n (i := 1) (n := 69) ⟨dX2_pairTwins_68, rfl⟩ rfl ?_
      refine y_iaload (n := 70) ⟨dX2_pairTwins_69, rfl⟩ l_13 hg2 ?_
      refine y_bipush (n := 72) (v := 8) ⟨dX2_pairTwins_70, rfl⟩ kb_8 ?_
      refine y_imul (n := 73) ⟨dX2_pairTwins_72, rfl⟩ ?_
      refine y_aload_n (i := 0) (n := 74) ⟨dX2_pairTwins_73, rfl⟩ rfl ?_
      refine y_getR (n := 77) ⟨dX2_pairTwins_74, rfl⟩ kfX2_40 l_39 rfl r_39_2 ?_
      refine y_getR (n := 80) ⟨dX2_pairTwins_77, rfl⟩ kfX2_56 l_12 rfl r_12_0 ?_
      refine y_iload_n (i := 2) (n := 81) ⟨dX2_pairTwins_80, rfl⟩ rfl ?_
      refine y_iaload (n := 82) ⟨dX2_pairTwins_81, rfl⟩ l_13 hg3 ?_
      refine y_iadd (n := 83) ⟨dX2_pairTwins_82, rfl⟩ ?_
      obtain ⟨hg4, hf⟩ := g_s hf
      refine y_iaload (n := 84) ⟨dX2_pairTwins_83, rfl⟩ l_5 hg4 ?_
      refine y_aload_n (i := 0) (n := 85) ⟨dX2_pairTwins_84, rfl⟩ rfl ?_
      refine y_getR (n := 88) ⟨dX2_pairTwins_85, rfl⟩ kfX2_44 l_39 rfl r_39_3 ?_
      refine y_getI (n := 91) ⟨dX2_pairTwins_88, rfl⟩ kfX2_102 l_27 rfl ?_
      refine y_icmp_le (t := 106) (n := 94) ⟨dX2_pairTwins_91, rfl, rfl⟩ (fun (hc : (gI M 5 (((gI M 13 x1.toNatClampNeg) * 8) + (gI M 13 x2.toNatClampNeg)).toNatClampNeg) ≤ (gI M 27 7)) => ?_) (fun (hc : ¬ ((gI M 5 (((gI M 13 x1.toNatClampNeg) * 8) + (gI M 13 x2.toNatClampNeg)).toNatClampNeg) ≤ (gI M 27 7))) => ?_)
      · replace hf := i_t hc hf
        refine y_iinc (i := 2) (n := 109) (b := (x2 + 1)) (L2 := [some (.ref 39), some (.int x1), some (.int (x2 + 1))]) ⟨dX2_pairTwins_106, rfl⟩ rfl (by rw [ki_1]) (by decide) rfl rfl ?_
        refine y_goto (t := 22) ⟨dX2_pairTwins_109, rfl, rfl⟩ ?_
        cases hf
        exact y_wk ⟨Or.inr rfl, Or.inr rfl, Or.inr rfl, trivial⟩ hk
      · replace hf := i_f hc hf
        refine y_aload_n (i := 0) (n := 95) ⟨dX2_pairTwins_94, rfl⟩ rfl ?_
        refine y_getR (n := 98) ⟨dX2_pairTwins_95, rfl⟩ kfX2_18 l_39 rfl r_39_6 ?_
        refine y_iload_n (i := 1) (n := 99) ⟨dX2_pairTwins_98, rfl⟩ rfl ?_
        refine y_dup2 (n := 100) ⟨dX2_pairTwins_99, rfl⟩ ?_
        refine y_laload (n := 101) ⟨dX2_pairTwins_100, rfl⟩ l_42 hg2 ?_
        refine y_lconst (n := 102) (v := 1) ⟨dX2_pairTwins_101, rfl⟩ kl_1 ?_
        refine y_iload_n (i := 2) (n := 103) ⟨dX2_pairTwins_102, rfl⟩ rfl ?_
        refine y_lshl (n := 104) ⟨dX2_pairTwins_103, rfl⟩ ?_
        refine y_lor (n := 105) ⟨dX2_pairTwins_104, rfl⟩ ?_
        refine y_lastore (n := 106) ⟨dX2_pairTwins_105, rfl⟩ l_42 hg2 ?_
        refine y_iinc (i := 2) (n := 109) (b := (x2 + 1)) (L2 := [some (.ref 39), some (.int x1), some (.int (x2 + 1))]) ⟨dX2_pairTwins_106, rfl⟩ rfl (by rw [ki_1]) (by decide) rfl rfl ?_
        refine y_goto (t := 22) ⟨dX2_pairTwins_109, rfl, rfl⟩ ?_
        cases hf
        exact y_wk ⟨Or.inr rfl, Or.inr rfl, Or.inr rfl, trivial⟩ hk
theorem wl_ju_pairTwins_22 (x1 : Int32) (x2 : Int32) (M : dM) {Q : mz_P} {x : dM} (hf : l_ju_pairTwins_22 x1 x2 M = some x) (hk : K_ju_pairTwins_22 Q x1 M (.inr x)) : mW mX2_pairTwins 1 Q 22 [some (.ref 39), some (.int x1), some (.int x2)] [] M :=
  lpc_wp (Wh := fun s => mW mX2_pairTwins 1 Q 22 [some (.ref 39), some (.int x1), some (.int s.1)] [] s.2) (K := K_ju_pairTwins_22 Q x1 M) (fun _ h => h) (fun s o hb hk => w_b_ju_pairTwins_22_22 x1 s.1 s.2 hb hk) hf hk
theorem w_b_ju_pairTwins_2_2 (x1 : Int32) (M : dM) {Q : mz_P} {o : ((Int32 × dM) ⊕ dM)} (hf : b_ju_pairTwins_2_2 x1 M = some o) (hk : K_ju_pairTwins_2 Q  M o) : mW mX2_pairTwins 1 Q 2 [some (.ref 39), some (.int x1), none] [] M := by
  unfold b_ju_pairTwins_2_2 at hf
  refine y_iload_n (i := 1) (n := 3) ⟨dX2_pairTwins_2, rfl⟩ rfl ?_
  refine y_aload_n (i := 0) (n := 4) ⟨dX2_pairTwins_3, rfl⟩ rfl ?_
  refine y_getR (n := 7) ⟨dX2_pairTwins_4, rfl⟩ kfX2_40 l_39 rfl r_39_2 ?_
  refine y_getI (n := 10) ⟨dX2_pairTwins_7, rfl⟩ kfX2_51 l_12 rfl ?_
  refine y_icmp_ge (t := 118) (n := 13) ⟨dX2_pairTwins_10, rfl, rfl⟩ (fun (hc : (gI M 12 7) ≤ x1) => ?_) (fun (hc : ¬ ((gI M 12 7) ≤ x1)) => ?_)
  · replace hf := i_t hc hf
    cases hf
    exact y_return (n := 119) ⟨dX2_pairTwins_118, rfl⟩ rfl hk
  · replace hf := i_f hc hf
    refine y_aload_n (i := 0) (n := 14) ⟨dX2_pairTwins_13, rfl⟩ rfl ?_
    refine y_getR (n := 17) ⟨dX2_pairTwins_14, rfl⟩ kfX2_18 l_39 rfl r_39_6 ?_
    refine y_iload_n (i := 1) (n := 18) ⟨dX2_pairTwins_17, rfl⟩ rfl ?_
    refine y_lconst (n := 19) (v := 0) ⟨dX2_pairTwins_18, rfl⟩ kl_0 ?_
    obtain ⟨hg1, hf⟩ := g_s hf
    refine y_lastore (n := 20) ⟨dX2_pairTwins_19, rfl⟩ l_42 hg1 ?_
    refine y_iconst (n := 21) (v := 0) ⟨dX2_pairTwins_20, rfl⟩ ki_0 ?_
    refine y_istore_n (i := 2) (n := 22) (L2 := [some (.ref 39), some (.int x1), some (.int 0)]) ⟨dX2_pairTwins_21, rfl⟩ (by decide) rfl rfl ?_
    obtain ⟨t5, hl6, hf⟩ := b_s hf
    refine y_wk ⟨Or.inr rfl, Or.inr rfl, Or.inr rfl, trivial⟩ (wl_ju_pairTwins_22 x1 0 (sJ M 42 x1.toNatClampNeg 0) hl6 ?_)
    show mW mX2_pairTwins 1 Q 112 [some (.ref 39), some (.int x1), none] [] t5
    refine y_iinc (i := 1) (n := 115) (b := (x1 + 1)) (L2 := [some (.ref 39), some (.int (x1 + 1)), none]) ⟨dX2_pairTwins_112, rfl⟩ rfl (by rw [ki_1]) (by decide) rfl rfl ?_
    refine y_goto (t := 2) ⟨dX2_pairTwins_115, rfl, rfl⟩ ?_
    cases hf
    exact y_wk ⟨Or.inr rfl, Or.inr rfl, Or.inr rfl, trivial⟩ hk
theorem wl_ju_pairTwins_2 (x1 : Int32) (M : dM) {Q : mz_P} {x : dM} (hf : l_ju_pairTwins_2 x1 M = some x) (hk : K_ju_pairTwins_2 Q  M (.inr x)) : mW mX2_pairTwins 1 Q 2 [some (.ref 39), some (.int x1), none] [] M :=
  lpc_wp (Wh := fun s => mW mX2_pairTwins 1 Q 2 [some (.ref 39), some (.int s.1), none] [] s.2) (K := K_ju_pairTwins_2 Q  M) (fun _ h => h) (fun s o hb hk => w_b_ju_pairTwins_2_2 s.1 s.2 hb hk) hf hk
theorem ok_ju_pairTwins  (M : dM) {o : dM} (hf : f_ju_pairTwins M = some o) : mO mX2_pairTwins 1 [.ref 39] M none o := by
  refine y_ok (by decide +kernel) (by decide) (L0 := [some (.ref 39), none, none]) rfl ?_
  have hk := mR_mQ none o
  generalize mQ _ _ = Q at hk ⊢
  unfold f_ju_pairTwins at hf
  refine y_iconst (n := 1) (v := 0) ⟨dX2_pairTwins_0, rfl⟩ ki_0 ?_
  refine y_istore_n (i := 1) (n := 2) (L2 := [some (.ref 39), some (.int 0), none]) ⟨dX2_pairTwins_1, rfl⟩ (by decide) rfl rfl ?_
  obtain ⟨r10, hl9, hf⟩ := b_s hf
  cases hf
  exact y_wk ⟨Or.inr rfl, Or.inr rfl, Or.inr rfl, trivial⟩ (wl_ju_pairTwins_2 0 M hl9 hk)
theorem c_ju_pairTwins  (M : dM) {o : dM} {y : mz_M} {d : Nat} {Q : mz_P} {pc n i : Nat} {L : List (Option Value)} {st : List Value} (h : mz_d y.2.1 pc n 3 (.invokevirtual i)) (hl : mz_ml y.1.cls i yX2_pairTwins) (hf : f_ju_pairTwins M = some o) (hd : 1 + 1 ≤ d) (hsm : (st.map (fun v => v.category)).sum ≤ 8) (hLr : mz_rL 133 L = true) (hSr : mz_rS 133 st = true) (kk : mW y d Q n L st o) : mW y d Q pc L (.ref 39 :: st) M :=
  y_callV kmX2_pairTwins kvX2_pairTwins l_39 (by decide +kernel) (by decide +kernel) h hl (ok_ju_pairTwins  M hf) (vs := []) rfl rfl hd hsm hLr hSr kk
def K_li_aloneHours_3 (Q : mz_P) (x1 : Int32) (x2 : Int32) (x3 : Int32) (M : dM) : (Int32 ⊕ Int32) → Prop
  | .inl s => mW mX4_aloneHours 1 Q 3 [some (.ref 6), some (.int x1), some (.int x2), some (.int x3), some (.int s)] [] M
  | .inr r => mR Q (some (.int r)) M
noncomputable def b_li_aloneHours_3_3 (x1 : Int32) (x2 : Int32) (x3 : Int32) (x4 : Int32) (M : dM) : Option (Int32 ⊕ Int32) :=
  if (gI M 6 5) ≤ x4 then
    some (.inr 0)
  else
    gd (vp_in x4 80) <|
    if (gI M 7 x4.toNatClampNeg) = x1 then
      if (gI M 8 x4.toNatClampNeg) = x2 then
        if (gI M 9 x4.toNatClampNeg) = x3 then
          some (.inr (gI M 11 x4.toNatClampNeg))
        else
          some (.inl (x4 + 1))
      else
        some (.inl (x4 + 1))
    else
      some (.inl (x4 + 1))
noncomputable def l_li_aloneHours_3 (x1 : Int32) (x2 : Int32) (x3 : Int32) (x4 : Int32) (M : dM) : Option Int32 := lpc (fun s => b_li_aloneHours_3_3 x1 x2 x3 s M) x4
noncomputable def f_li_aloneHours (a1 : Int32) (a2 : Int32) (a3 : Int32) (M : dM) : Option Int32 :=
  (l_li_aloneHours_3 a1 a2 a3 0 M).bind fun r4 => some r4
theorem w_b_li_aloneHours_3_3 (x1 : Int32) (x2 : Int32) (x3 : Int32) (x4 : Int32) (M : dM) {Q : mz_P} {o : (Int32 ⊕ Int32)} (hf : b_li_aloneHours_3_3 x1 x2 x3 x4 M = some o) (hk : K_li_aloneHours_3 Q x1 x2 x3 M o) : mW mX4_aloneHours 1 Q 3 [some (.ref 6), some (.int x1), some (.int x2), some (.int x3), some (.int x4)] [] M := by
  unfold b_li_aloneHours_3_3 at hf
  refine y_iload (i := 4) (n := 5) ⟨dX4_aloneHours_3, rfl⟩ rfl ?_
  refine y_aload_n (i := 0) (n := 6) ⟨dX4_aloneHours_5, rfl⟩ rfl ?_
  refine y_getI (n := 9) ⟨dX4_aloneHours_6, rfl⟩ kfX4_27 l_6 rfl ?_
  refine y_icmp_ge (t := 59) (n := 12) ⟨dX4_aloneHours_9, rfl, rfl⟩ (fun (hc : (gI M 6 5) ≤ x4) => ?_) (fun (hc : ¬ ((gI M 6 5) ≤ x4)) => ?_)
  · replace hf := i_t hc hf
    refine y_iconst (n := 60) (v := 0) ⟨dX4_aloneHours_59, rfl⟩ ki_0 ?_
    cases hf
    exact y_ireturn (n := 61) ⟨dX4_aloneHours_60, rfl⟩ rfl rfl hk
  · replace hf := i_f hc hf
    refine y_aload_n (i := 0) (n := 13) ⟨dX4_aloneHours_12, rfl⟩ rfl ?_
    refine y_getR (n := 16) ⟨dX4_aloneHours_13, rfl⟩ kfX4_9 l_6 rfl r_6_0 ?_
    refine y_iload (i := 4) (n := 18) ⟨dX4_aloneHours_16, rfl⟩ rfl ?_
    obtain ⟨hg1, hf⟩ := g_s hf
    refine y_iaload (n := 19) ⟨dX4_aloneHours_18, rfl⟩ l_7 hg1 ?_
    refine y_iload_n (i := 1) (n := 20) ⟨dX4_aloneHours_19, rfl⟩ rfl ?_
    refine y_icmp_ne (t := 53) (n := 23) ⟨dX4_aloneHours_20, rfl, rfl⟩ (fun (hc : ¬ ((gI M 7 x4.toNatClampNeg) = x1)) => ?_) (fun (hc : (gI M 7 x4.toNatClampNeg) = x1) => ?_)
    · replace hf := i_f hc hf
      refine y_iinc (i := 4) (n := 56) (b := (x4 + 1)) (L2 := [some (.ref 6), some (.int x1), some (.int x2), some (.int x3), some (.int (x4 + 1))]) ⟨dX4_aloneHours_53, rfl⟩ rfl (by rw [ki_1]) (by decide) rfl rfl ?_
      refine y_goto (t := 3) ⟨dX4_aloneHours_56, rfl, rfl⟩ ?_
      cases hf
      exact y_wk ⟨Or.inr rfl, Or.inr rfl, Or.inr rfl, Or.inr rfl, Or.inr rfl, trivial⟩ hk
    · replace hf := i_t hc hf
      refine y_aload_n (i := 0) (n := 24) ⟨dX4_aloneHours_23, rfl⟩ rfl ?_
      refine y_getR (n := 27) ⟨dX4_aloneHours_24, rfl⟩ kfX4_15 l_6 rfl r_6_1 ?_
      refine y_iload (i := 4) (n := 29) ⟨dX4_aloneHours_27, rfl⟩ rfl ?_
      refine y_iaload (n := 30) ⟨dX4_aloneHours_29, rfl⟩ l_8 hg1 ?_
      refine y_iload_n (i := 2) (n := 31) ⟨dX4_aloneHours_30, rfl⟩ rfl ?_
      refine y_icmp_ne (t := 53) (n := 34) ⟨dX4_aloneHours_31, rfl, rfl⟩ (fun (hc : ¬ ((gI M 8 x4.toNatClampNeg) = x2)) => ?_) (fun (hc : (gI M 8 x4.toNatClampNeg) = x2) => ?_)
      · replace hf := i_f hc hf
        refine y_iinc (i := 4) (n := 56) (b := (x4 + 1)) (L2 := [some (.ref 6), some (.int x1), some (.int x2), some (.int x3), some (.int (x4 + 1))]) ⟨dX4_aloneHours_53, rfl⟩ rfl (by rw [ki_1]) (by decide) rfl rfl ?_
        refine y_goto (t := 3) ⟨dX4_aloneHours_56, rfl, rfl⟩ ?_
        cases hf
        exact y_wk ⟨Or.inr rfl, Or.inr rfl, Or.inr rfl, Or.inr rfl, Or.inr rfl, trivial⟩ hk
      · replace hf := i_t hc hf
        refine y_aload_n (i := 0) (n := 35) ⟨dX4_aloneHours_34, rfl⟩ rfl ?_
        refine y_getR (n := 38) ⟨dX4_aloneHours_35, rfl⟩ kfX4_18 l_6 rfl r_6_2 ?_
        refine y_iload (i := 4) (n := 40) ⟨dX4_aloneHours_38, rfl⟩ rfl ?_
        refine y_iaload (n := 41) ⟨dX4_aloneHours_40, rfl⟩ l_9 hg1 ?_
        refine y_iload_n (i := 3) (n := 42) ⟨dX4_aloneHours_41, rfl⟩ rfl ?_
        refine y_icmp_ne (t := 53) (n := 45) ⟨dX4_aloneHours_42, rfl, rfl⟩ (fun (hc : ¬ ((gI M 9 x4.toNatClampNeg) = x3)) => ?_) (fun (hc : (gI M 9 x4.toNatClampNeg) = x3) => ?_)
        · replace hf := i_f hc hf
          refine y_iinc (i := 4) (n := 56) (b := (x4 + 1)) (L2 := [some (.ref 6), some (.int x1), some (.int x2), some (.int x3), some (.int (x4 + 1))]) ⟨dX4_aloneHours_53, rfl⟩ rfl (by rw [ki_1]) (by decide) rfl rfl ?_
          refine y_goto (t := 3) ⟨dX4_aloneHours_56, rfl, rfl⟩ ?_
          cases hf
          exact y_wk ⟨Or.inr rfl, Or.inr rfl, Or.inr rfl, Or.inr rfl, Or.inr rfl, trivial⟩ hk
        · replace hf := i_t hc hf
          refine y_aload_n (i := 0) (n := 46) ⟨dX4_aloneHours_45, rfl⟩ rfl ?_
          refine y_getR (n := 49) ⟨dX4_aloneHours_46, rfl⟩ kfX4_24 l_6 rfl r_6_4 ?_
          refine y_iload (i := 4) (n := 51) ⟨dX4_aloneHours_49, rfl⟩ rfl ?_
          refine y_iaload (n := 52) ⟨dX4_aloneHours_51, rfl⟩ l_11 hg1 ?_
          cases hf
          exact y_ireturn (n := 53) ⟨dX4_aloneHours_52, rfl⟩ rfl rfl hk
theorem wl_li_aloneHours_3 (x1 : Int32) (x2 : Int32) (x3 : Int32) (x4 : Int32) (M : dM) {Q : mz_P} {x : Int32} (hf : l_li_aloneHours_3 x1 x2 x3 x4 M = some x) (hk : K_li_aloneHours_3 Q x1 x2 x3 M (.inr x)) : mW mX4_aloneHours 1 Q 3 [some (.ref 6), some (.int x1), some (.int x2), some (.int x3), some (.int x4)] [] M :=
  lpc_wp (Wh := fun s => mW mX4_aloneHours 1 Q 3 [some (.ref 6), some (.int x1), some (.int x2), some (.int x3), some (.int s)] [] M) (K := K_li_aloneHours_3 Q x1 x2 x3 M) (fun _ h => h) (fun s o hb hk => w_b_li_aloneHours_3_3 x1 x2 x3 s M hb hk) hf hk
theorem ok_li_aloneHours (a1 : Int32) (a2 : Int32) (a3 : Int32) (M : dM) {o : Int32} (hf : f_li_aloneHours a1 a2 a3 M = some o) : mO mX4_aloneHours 1 [.ref 6, .int a1, .int a2, .int a3] M (some (.int o)) M := by
  refine y_ok (by decide +kernel) (by decide) (L0 := [some (.ref 6), some (.int a1), some (.int a2), some (.int a3), none]) rfl ?_
  have hk := mR_mQ (some (.int o)) M
  generalize mQ _ _ = Q at hk ⊢
  unfold f_li_aloneHours at hf
  refine y_iconst (n := 1) (v := 0) ⟨dX4_aloneHours_0, rfl⟩ ki_0 ?_
  refine y_istore (i := 4) (n := 3) (L2 := [some (.ref 6), some (.int a1), some (.int a2), some (.int a3), some (.int 0)]) ⟨dX4_aloneHours_1, rfl⟩ (by decide) rfl rfl ?_
  obtain ⟨r4, hl3, hf⟩ := b_s hf
  cases hf
  exact y_wk ⟨Or.inr rfl, Or.inr rfl, Or.inr rfl, Or.inr rfl, Or.inr rfl, trivial⟩ (wl_li_aloneHours_3 a1 a2 a3 0 M hl3 hk)
theorem c_li_aloneHours (a1 : Int32) (a2 : Int32) (a3 : Int32) (M : dM) {o : Int32} {y : mz_M} {d : Nat} {Q : mz_P} {pc n i : Nat} {L : List (Option Value)} {st : List Value} (h : mz_d y.2.1 pc n 3 (.invokevirtual i)) (hl : mz_ml y.1.cls i yX4_aloneHours) (hf : f_li_aloneHours a1 a2 a3 M = some o) (hd : 1 + 1 ≤ d) (hsm : (st.map (fun v => v.category)).sum ≤ 8) (hLr : mz_rL 133 L = true) (hSr : mz_rS 133 st = true) (kk : mW y d Q n L (.int o :: st) M) : mW y d Q pc L (.int a3 :: .int a2 :: .int a1 :: .ref 6 :: st) M :=
  y_callV kmX4_aloneHours kvX4_aloneHours l_6 (by decide +kernel) (by decide +kernel) h hl (ok_li_aloneHours a1 a2 a3 M hf) (vs := [.int a1, .int a2, .int a3]) rfl rfl hd hsm hLr hSr kk
noncomputable def f_ax_hoursAhead (a1 : Int32) : Int32 :=
  (((1 : Int32) <<< (a1 &&& 31)) - 1)
theorem ok_ax_hoursAhead (a1 : Int32) (M : dM) {o : Int32} (hf : f_ax_hoursAhead a1 = o) : mO mX11_hoursAhead 1 [.int a1] M (some (.int o)) M := by
  refine y_ok (by decide +kernel) (by decide) (L0 := [some (.int a1)]) rfl ?_
  have hk := mR_mQ (some (.int o)) M
  generalize mQ _ _ = Q at hk ⊢
  unfold f_ax_hoursAhead at hf
  refine y_iconst (n := 1) (v := 1) ⟨dX11_hoursAhead_0, rfl⟩ ki_1 ?_
  refine y_iload_n (i := 0) (n := 2) ⟨dX11_hoursAhead_1, rfl⟩ rfl ?_
  refine y_ishl (n := 3) ⟨dX11_hoursAhead_2, rfl⟩ ?_
  refine y_iconst (n := 4) (v := 1) ⟨dX11_hoursAhead_3, rfl⟩ ki_1 ?_
  refine y_isub (n := 5) ⟨dX11_hoursAhead_4, rfl⟩ ?_
  cases hf
  exact y_ireturn (n := 6) ⟨dX11_hoursAhead_5, rfl⟩ rfl rfl hk
theorem c_ax_hoursAhead (a1 : Int32) (M : dM) {o : Int32} {y : mz_M} {d : Nat} {Q : mz_P} {pc n i : Nat} {L : List (Option Value)} {st : List Value} (h : mz_d y.2.1 pc n 3 (.invokestatic i)) (hl : mz_ml y.1.cls i yX11_hoursAhead) (hf : f_ax_hoursAhead a1 = o) (hd : 1 + 1 ≤ d) (hsm : (st.map (fun v => v.category)).sum ≤ 8) (hLr : mz_rL 133 L = true) (hSr : mz_rS 133 st = true) (kk : mW y d Q n L (.int o :: st) M) : mW y d Q pc L (.int a1 :: st) M :=
  y_callS kmX11_hoursAhead ksX11_hoursAhead h hl (ok_ax_hoursAhead a1 M hf) (vs := [.int a1]) rfl rfl hd hsm hLr hSr kk
noncomputable def f_jd_bitCount_0f7a4 (a1 : Int32) : Int32 :=
  ((((((((a1 - (((a1.toUInt32 >>> ((1 : Int32).toUInt32 &&& Int32.toUInt32 31)).toInt32) &&& 1431655765)) &&& 858993459) + ((((a1 - (((a1.toUInt32 >>> ((1 : Int32).toUInt32 &&& Int32.toUInt32 31)).toInt32) &&& 1431655765)).toUInt32 >>> ((2 : Int32).toUInt32 &&& Int32.toUInt32 31)).toInt32) &&& 858993459)) + (((((a1 - (((a1.toUInt32 >>> ((1 : Int32).toUInt32 &&& Int32.toUInt32 31)).toInt32) &&& 1431655765)) &&& 858993459) + ((((a1 - (((a1.toUInt32 >>> ((1 : Int32).toUInt32 &&& Int32.toUInt32 31)).toInt32) &&& 1431655765)).toUInt32 >>> ((2 : Int32).toUInt32 &&& Int32.toUInt32 31)).toInt32) &&& 858993459)).toUInt32 >>> ((4 : Int32).toUInt32 &&& Int32.toUInt32 31)).toInt32)) &&& 252645135) + (((((((a1 - (((a1.toUInt32 >>> ((1 : Int32).toUInt32 &&& Int32.toUInt32 31)).toInt32) &&& 1431655765)) &&& 858993459) + ((((a1 - (((a1.toUInt32 >>> ((1 : Int32).toUInt32 &&& Int32.toUInt32 31)).toInt32) &&& 1431655765)).toUInt32 >>> ((2 : Int32).toUInt32 &&& Int32.toUInt32 31)).toInt32) &&& 858993459)) + (((((a1 - (((a1.toUInt32 >>> ((1 : Int32).toUInt32 &&& Int32.toUInt32 31)).toInt32) &&& 1431655765)) &&& 858993459) + ((((a1 - (((a1.toUInt32 >>> ((1 : Int32).toUInt32 &&& Int32.toUInt32 31)).toInt32) &&& 1431655765)).toUInt32 >>> ((2 : Int32).toUInt32 &&& Int32.toUInt32 31)).toInt32) &&& 858993459)).toUInt32 >>> ((4 : Int32).toUInt32 &&& Int32.toUInt32 31)).toInt32)) &&& 252645135).toUInt32 >>> ((8 : Int32).toUInt32 &&& Int32.toUInt32 31)).toInt32)) + ((((((((a1 - (((a1.toUInt32 >>> ((1 : Int32).toUInt32 &&& Int32.toUInt32 31)).toInt32) &&& 1431655765)) &&& 858993459) + ((((a1 - (((a1.toUInt32 >>> ((1 : Int32).toUInt32 &&& Int32.toUInt32 31)).toInt32) &&& 1431655765)).toUInt32 >>> ((2 : Int32).toUInt32 &&& Int32.toUInt32 31)).toInt32) &&& 858993459)) + (((((a1 - (((a1.toUInt32 >>> ((1 : Int32).toUInt32 &&& Int32.toUInt32 31)).toInt32) &&& 1431655765)) &&& 858993459) + ((((a1 - (((a1.toUInt32 >>> ((1 : Int32).toUInt32 &&& Int32.toUInt32 31)).toInt32) &&& 1431655765)).toUInt32 >>> ((2 : Int32).toUInt32 &&& Int32.toUInt32 31)).toInt32) &&& 858993459)).toUInt32 >>> ((4 : Int32).toUInt32 &&& Int32.toUInt32 31)).toInt32)) &&& 252645135) + (((((((a1 - (((a1.toUInt32 >>> ((1 : Int32).toUInt32 &&& Int32.toUInt32 31)).toInt32) &&& 1431655765)) &&& 858993459) + ((((a1 - (((a1.toUInt32 >>> ((1 : Int32).toUInt32 &&& Int32.toUInt32 31)).toInt32) &&& 1431655765)).toUInt32 >>> ((2 : Int32).toUInt32 &&& Int32.toUInt32 31)).toInt32) &&& 858993459)) + (((((a1 - (((a1.toUInt32 >>> ((1 : Int32).toUInt32 &&& Int32.toUInt32 31)).toInt32) &&& 1431655765)) &&& 858993459) + ((((a1 - (((a1.toUInt32 >>> ((1 : Int32).toUInt32 &&& Int32.toUInt32 31)).toInt32) &&& 1431655765)).toUInt32 >>> ((2 : Int32).toUInt32 &&& Int32.toUInt32 31)).toInt32) &&& 858993459)).toUInt32 >>> ((4 : Int32).toUInt32 &&& Int32.toUInt32 31)).toInt32)) &&& 252645135).toUInt32 >>> ((8 : Int32).toUInt32 &&& Int32.toUInt32 31)).toInt32)).toUInt32 >>> ((16 : Int32).toUInt32 &&& Int32.toUInt32 31)).toInt32)) &&& 63)
theorem ok_jd_bitCount_0f7a4 (a1 : Int32) (M : dM) {o : Int32} (hf : f_jd_bitCount_0f7a4 a1 = o) : mO mJ6_bitCount_0f7a4 1 [.int a1] M (some (.int o)) M := by
  refine y_ok (by decide +kernel) (by decide) (L0 := [some (.int a1)]) rfl ?_
  have hk := mR_mQ (some (.int o)) M
  generalize mQ _ _ = Q at hk ⊢
  unfold f_jd_bitCount_0f7a4 at hf
  refine y_iload_n (i := 0) (n := 1) ⟨dJ6_bitCount_0f7a4_0, rfl⟩ rfl ?_
  refine y_iload_n (i := 0) (n := 2) ⟨dJ6_bitCount_0f7a4_1, rfl⟩ rfl ?_
  refine y_iconst (n := 3) (v := 1) ⟨dJ6_bitCount_0f7a4_2, rfl⟩ ki_1 ?_
  refine y_iushr (n := 4) ⟨dJ6_bitCount_0f7a4_3, rfl⟩ ?_
  refine y_ldcw (n := 7) ⟨dJ6_bitCount_0f7a4_4, rfl⟩ kcJ6_265 ?_
  refine y_iand (n := 8) ⟨dJ6_bitCount_0f7a4_7, rfl⟩ ?_
  refine y_isub (n := 9) ⟨dJ6_bitCount_0f7a4_8, rfl⟩ ?_
  refine y_istore_n (i := 0) (n := 10) (L2 := [some (.int (a1 - (((a1.toUInt32 >>> ((1 : Int32).toUInt32 &&& Int32.toUInt32 31)).toInt32) &&& 1431655765)))]) ⟨dJ6_bitCount_0f7a4_9, rfl⟩ (by decide) rfl rfl ?_
  refine y_iload_n (i := 0) (n := 11) ⟨dJ6_bitCount_0f7a4_10, rfl⟩ rfl ?_
  refine y_ldcw (n := 14) ⟨dJ6_bitCount_0f7a4_11, rfl⟩ kcJ6_266 ?_
  refine y_iand (n := 15) ⟨dJ6_bitCount_0f7a4_14, rfl⟩ ?_
  refine y_iload_n (i := 0) (n := 16) ⟨dJ6_bitCount_0f7a4_15, rfl⟩ rfl ?_
  refine y_iconst (n := 17) (v := 2) ⟨dJ6_bitCount_0f7a4_16, rfl⟩ ki_2 ?_
  refine y_iushr (n := 18) ⟨dJ6_bitCount_0f7a4_17, rfl⟩ ?_
  refine y_ldcw (n := 21) ⟨dJ6_bitCount_0f7a4_18, rfl⟩ kcJ6_266 ?_
  refine y_iand (n := 22) ⟨dJ6_bitCount_0f7a4_21, rfl⟩ ?_
  refine y_iadd (n := 23) ⟨dJ6_bitCount_0f7a4_22, rfl⟩ ?_
  refine y_istore_n (i := 0) (n := 24) (L2 := [some (.int (((a1 - (((a1.toUInt32 >>> ((1 : Int32).toUInt32 &&& Int32.toUInt32 31)).toInt32) &&& 1431655765)) &&& 858993459) + ((((a1 - (((a1.toUInt32 >>> ((1 : Int32).toUInt32 &&& Int32.toUInt32 31)).toInt32) &&& 1431655765)).toUInt32 >>> ((2 : Int32).toUInt32 &&& Int32.toUInt32 31)).toInt32) &&& 858993459)))]) ⟨dJ6_bitCount_0f7a4_23, rfl⟩ (by decide) rfl rfl ?_
  refine y_iload_n (i := 0) (n := 25) ⟨dJ6_bitCount_0f7a4_24, rfl⟩ rfl ?_
  refine y_iload_n (i := 0) (n := 26) ⟨dJ6_bitCount_0f7a4_25, rfl⟩ rfl ?_
  refine y_iconst (n := 27) (v := 4) ⟨dJ6_bitCount_0f7a4_26, rfl⟩ ki_4 ?_
  refine y_iushr (n := 28) ⟨dJ6_bitCount_0f7a4_27, rfl⟩ ?_
  refine y_iadd (n := 29) ⟨dJ6_bitCount_0f7a4_28, rfl⟩ ?_
  refine y_ldcw (n := 32) ⟨dJ6_bitCount_0f7a4_29, rfl⟩ kcJ6_267 ?_
  refine y_iand (n := 33) ⟨dJ6_bitCount_0f7a4_32, rfl⟩ ?_
  refine y_istore_n (i := 0) (n := 34) (L2 := [some (.int (((((a1 - (((a1.toUInt32 >>> ((1 : Int32).toUInt32 &&& Int32.toUInt32 31)).toInt32) &&& 1431655765)) &&& 858993459) + ((((a1 - (((a1.toUInt32 >>> ((1 : Int32).toUInt32 &&& Int32.toUInt32 31)).toInt32) &&& 1431655765)).toUInt32 >>> ((2 : Int32).toUInt32 &&& Int32.toUInt32 31)).toInt32) &&& 858993459)) + (((((a1 - (((a1.toUInt32 >>> ((1 : Int32).toUInt32 &&& Int32.toUInt32 31)).toInt32) &&& 1431655765)) &&& 858993459) + ((((a1 - (((a1.toUInt32 >>> ((1 : Int32).toUInt32 &&& Int32.toUInt32 31)).toInt32) &&& 1431655765)).toUInt32 >>> ((2 : Int32).toUInt32 &&& Int32.toUInt32 31)).toInt32) &&& 858993459)).toUInt32 >>> ((4 : Int32).toUInt32 &&& Int32.toUInt32 31)).toInt32)) &&& 252645135))]) ⟨dJ6_bitCount_0f7a4_33, rfl⟩ (by decide) rfl rfl ?_
  refine y_iload_n (i := 0) (n := 35) ⟨dJ6_bitCount_0f7a4_34, rfl⟩ rfl ?_
  refine y_iload_n (i := 0) (n := 36) ⟨dJ6_bitCount_0f7a4_35, rfl⟩ rfl ?_
  refine y_bipush (n := 38) (v := 8) ⟨dJ6_bitCount_0f7a4_36, rfl⟩ kb_8 ?_
  refine y_iushr (n := 39) ⟨dJ6_bitCount_0f7a4_38, rfl⟩ ?_
  refine y_iadd (n := 40) ⟨dJ6_bitCount_0f7a4_39, rfl⟩ ?_
  refine y_istore_n (i := 0) (n := 41) (L2 := [some (.int ((((((a1 - (((a1.toUInt32 >>> ((1 : Int32).toUInt32 &&& Int32.toUInt32 31)).toInt32) &&& 1431655765)) &&& 858993459) + ((((a1 - (((a1.toUInt32 >>> ((1 : Int32).toUInt32 &&& Int32.toUInt32 31)).toInt32) &&& 1431655765)).toUInt32 >>> ((2 : Int32).toUInt32 &&& Int32.toUInt32 31)).toInt32) &&& 858993459)) + (((((a1 - (((a1.toUInt32 >>> ((1 : Int32).toUInt32 &&& Int32.toUInt32 31)).toInt32) &&& 1431655765)) &&& 858993459) + ((((a1 - (((a1.toUInt32 >>> ((1 : Int32).toUInt32 &&& Int32.toUInt32 31)).toInt32) &&& 1431655765)).toUInt32 >>> ((2 : Int32).toUInt32 &&& Int32.toUInt32 31)).toInt32) &&& 858993459)).toUInt32 >>> ((4 : Int32).toUInt32 &&& Int32.toUInt32 31)).toInt32)) &&& 252645135) + (((((((a1 - (((a1.toUInt32 >>> ((1 : Int32).toUInt32 &&& Int32.toUInt32 31)).toInt32) &&& 1431655765)) &&& 858993459) + ((((a1 - (((a1.toUInt32 >>> ((1 : Int32).toUInt32 &&& Int32.toUInt32 31)).toInt32) &&& 1431655765)).toUInt32 >>> ((2 : Int32).toUInt32 &&& Int32.toUInt32 31)).toInt32) &&& 858993459)) + (((((a1 - (((a1.toUInt32 >>> ((1 : Int32).toUInt32 &&& Int32.toUInt32 31)).toInt32) &&& 1431655765)) &&& 858993459) + ((((a1 - (((a1.toUInt32 >>> ((1 : Int32).toUInt32 &&& Int32.toUInt32 31)).toInt32) &&& 1431655765)).toUInt32 >>> ((2 : Int32).toUInt32 &&& Int32.toUInt32 31)).toInt32) &&& 858993459)).toUInt32 >>> ((4 : Int32).toUInt32 &&& Int32.toUInt32 31)).toInt32)) &&& 252645135).toUInt32 >>> ((8 : Int32).toUInt32 &&& Int32.toUInt32 31)).toInt32)))]) ⟨dJ6_bitCount_0f7a4_40, rfl⟩ (by decide) rfl rfl ?_
  refine y_iload_n (i := 0) (n := 42) ⟨dJ6_bitCount_0f7a4_41, rfl⟩ rfl ?_
  refine y_iload_n (i := 0) (n := 43) ⟨dJ6_bitCount_0f7a4_42, rfl⟩ rfl ?_
  refine y_bipush (n := 45) (v := 16) ⟨dJ6_bitCount_0f7a4_43, rfl⟩ kb_16 ?_
  refine y_iushr (n := 46) ⟨dJ6_bitCount_0f7a4_45, rfl⟩ ?_
  refine y_iadd (n := 47) ⟨dJ6_bitCount_0f7a4_46, rfl⟩ ?_
  refine y_istore_n (i := 0) (n := 48) (L2 := [some (.int (((((((a1 - (((a1.toUInt32 >>> ((1 : Int32).toUInt32 &&& Int32.toUInt32 31)).toInt32) &&& 1431655765)) &&& 858993459) + ((((a1 - (((a1.toUInt32 >>> ((1 : Int32).toUInt32 &&& Int32.toUInt32 31)).toInt32) &&& 1431655765)).toUInt32 >>> ((2 : Int32).toUInt32 &&& Int32.toUInt32 31)).toInt32) &&& 858993459)) + (((((a1 - (((a1.toUInt32 >>> ((1 : Int32).toUInt32 &&& Int32.toUInt32 31)).toInt32) &&& 1431655765)) &&& 858993459) + ((((a1 - (((a1.toUInt32 >>> ((1 : Int32).toUInt32 &&& Int32.toUInt32 31)).toInt32) &&& 1431655765)).toUInt32 >>> ((2 : Int32).toUInt32 &&& Int32.toUInt32 31)).toInt32) &&& 858993459)).toUInt32 >>> ((4 : Int32).toUInt32 &&& Int32.toUInt32 31)).toInt32)) &&& 252645135) + (((((((a1 - (((a1.toUInt32 >>> ((1 : Int32).toUInt32 &&& Int32.toUInt32 31)).toInt32) &&& 1431655765)) &&& 858993459) + ((((a1 - (((a1.toUInt32 >>> ((1 : Int32).toUInt32 &&& Int32.toUInt32 31)).toInt32) &&& 1431655765)).toUInt32 >>> ((2 : Int32).toUInt32 &&& Int32.toUInt32 31)).toInt32) &&& 858993459)) + (((((a1 - (((a1.toUInt32 >>> ((1 : Int32).toUInt32 &&& Int32.toUInt32 31)).toInt32) &&& 1431655765)) &&& 858993459) + ((((a1 - (((a1.toUInt32 >>> ((1 : Int32).toUInt32 &&& Int32.toUInt32 31)).toInt32) &&& 1431655765)).toUInt32 >>> ((2 : Int32).toUInt32 &&& Int32.toUInt32 31)).toInt32) &&& 858993459)).toUInt32 >>> ((4 : Int32).toUInt32 &&& Int32.toUInt32 31)).toInt32)) &&& 252645135).toUInt32 >>> ((8 : Int32).toUInt32 &&& Int32.toUInt32 31)).toInt32)) + ((((((((a1 - (((a1.toUInt32 >>> ((1 : Int32).toUInt32 &&& Int32.toUInt32 31)).toInt32) &&& 1431655765)) &&& 858993459) + ((((a1 - (((a1.toUInt32 >>> ((1 : Int32).toUInt32 &&& Int32.toUInt32 31)).toInt32) &&& 1431655765)).toUInt32 >>> ((2 : Int32).toUInt32 &&& Int32.toUInt32 31)).toInt32) &&& 858993459)) + (((((a1 - (((a1.toUInt32 >>> ((1 : Int32).toUInt32 &&& Int32.toUInt32 31)).toInt32) &&& 1431655765)) &&& 858993459) + ((((a1 - (((a1.toUInt32 >>> ((1 : Int32).toUInt32 &&& Int32.toUInt32 31)).toInt32) &&& 1431655765)).toUInt32 >>> ((2 : Int32).toUInt32 &&& Int32.toUInt32 31)).toInt32) &&& 858993459)).toUInt32 >>> ((4 : Int32).toUInt32 &&& Int32.toUInt32 31)).toInt32)) &&& 252645135) + (((((((a1 - (((a1.toUInt32 >>> ((1 : Int32).toUInt32 &&& Int32.toUInt32 31)).toInt32) &&& 1431655765)) &&& 858993459) + ((((a1 - (((a1.toUInt32 >>> ((1 : Int32).toUInt32 &&& Int32.toUInt32 31)).toInt32) &&& 1431655765)).toUInt32 >>> ((2 : Int32).toUInt32 &&& Int32.toUInt32 31)).toInt32) &&& 858993459)) + (((((a1 - (((a1.toUInt32 >>> ((1 : Int32).toUInt32 &&& Int32.toUInt32 31)).toInt32) &&& 1431655765)) &&& 858993459) + ((((a1 - (((a1.toUInt32 >>> ((1 : Int32).toUInt32 &&& Int32.toUInt32 31)).toInt32) &&& 1431655765)).toUInt32 >>> ((2 : Int32).toUInt32 &&& Int32.toUInt32 31)).toInt32) &&& 858993459)).toUInt32 >>> ((4 : Int32).toUInt32 &&& Int32.toUInt32 31)).toInt32)) &&& 252645135).toUInt32 >>> ((8 : Int32).toUInt32 &&& Int32.toUInt32 31)).toInt32)).toUInt32 >>> ((16 : Int32).toUInt32 &&& Int32.toUInt32 31)).toInt32)))]) ⟨dJ6_bitCount_0f7a4_47, rfl⟩ (by decide) rfl rfl ?_
  refine y_iload_n (i := 0) (n := 49) ⟨dJ6_bitCount_0f7a4_48, rfl⟩ rfl ?_
  refine y_bipush (n := 51) (v := 63) ⟨dJ6_bitCount_0f7a4_49, rfl⟩ kb_63 ?_
  refine y_iand (n := 52) ⟨dJ6_bitCount_0f7a4_51, rfl⟩ ?_
  cases hf
  exact y_ireturn (n := 53) ⟨dJ6_bitCount_0f7a4_52, rfl⟩ rfl rfl hk
theorem c_jd_bitCount_0f7a4 (a1 : Int32) (M : dM) {o : Int32} {y : mz_M} {d : Nat} {Q : mz_P} {pc n i : Nat} {L : List (Option Value)} {st : List Value} (h : mz_d y.2.1 pc n 3 (.invokestatic i)) (hl : mz_ml y.1.cls i yJ6_bitCount_0f7a4) (hf : f_jd_bitCount_0f7a4 a1 = o) (hd : 1 + 1 ≤ d) (hsm : (st.map (fun v => v.category)).sum ≤ 8) (hLr : mz_rL 133 L = true) (hSr : mz_rS 133 st = true) (kk : mW y d Q n L (.int o :: st) M) : mW y d Q pc L (.int a1 :: st) M :=
  y_callS kmJ6_bitCount_0f7a4 ksJ6_bitCount_0f7a4 h hl (ok_jd_bitCount_0f7a4 a1 M hf) (vs := [.int a1]) rfl rfl hd hsm hLr hSr kk
noncomputable def t_ju_placeFacts_48 (x1 : Int32) (x2 : Int32) (x3 : Int32) (x4 : Int32) (x5 : Int32) (x6 : Int32) (y1 : Int32) (y2 : Int32) (M : dM) : Option dM :=
  gd (vp_in y1 697) <|
  gd (vp_in (x1 + 14) 697) <|
  (f_li_whoAt x2 x3 x4 (sI (sI M 40 y1.toNatClampNeg y2) 40 (x1 + 14).toNatClampNeg (f_jd_bitCount_0f7a4 (x6 &&& (f_ax_hoursAhead x4))))).bind fun v6 =>
  gd (vp_in (x1 + 15) 697) <|
  some (sI (sI (sI M 40 y1.toNatClampNeg y2) 40 (x1 + 14).toNatClampNeg (f_jd_bitCount_0f7a4 (x6 &&& (f_ax_hoursAhead x4)))) 40 (x1 + 15).toNatClampNeg (f_jd_bitCount_0f7a4 (v6 &&& (((1 : Int32) <<< (x5 &&& 31)) ^^^ (-1)))))
noncomputable def f_ju_placeFacts (a1 : Int32) (a2 : Int32) (a3 : Int32) (a4 : Int32) (a5 : Int32) (M : dM) : Option dM :=
  (f_li_aloneHours a5 a2 a3 M).bind fun v1 =>
  gd (vp_in (a1 + 10) 697) <|
  if (f_ax_hasBit v1.toInt64 a4) = true then
    t_ju_placeFacts_48 a1 a2 a3 a4 a5 v1 (a1 + 13) 1 (sI M 40 (a1 + 10).toNatClampNeg a4)
  else
    t_ju_placeFacts_48 a1 a2 a3 a4 a5 v1 (a1 + 13) 0 (sI M 40 (a1 + 10).toNatClampNeg a4)
theorem w_t_ju_placeFacts_48 (x1 : Int32) (x2 : Int32) (x3 : Int32) (x4 : Int32) (x5 : Int32) (x6 : Int32) (y1 : Int32) (y2 : Int32) (M : dM) {Q : mz_P} {o : dM} (hf : t_ju_placeFacts_48 x1 x2 x3 x4 x5 x6 y1 y2 M = some o) (hk : mR Q none o) : mW mX2_placeFacts 3 Q 48 [some (.ref 39), some (.int x1), some (.int x2), some (.int x3), some (.int x4), some (.int x5), some (.int x6)] [.ref 40, .int y1, .int y2] M := by
  unfold t_ju_placeFacts_48 at hf
  obtain ⟨hg4, hf⟩ := g_s hf
  refine y_iastore (n := 49) ⟨dX2_placeFacts_48, rfl⟩ l_40 hg4 ?_
  refine y_aload_n (i := 0) (n := 50) ⟨dX2_placeFacts_49, rfl⟩ rfl ?_
  refine y_getR (n := 53) ⟨dX2_placeFacts_50, rfl⟩ kfX2_9 l_39 rfl r_39_4 ?_
  refine y_iload_n (i := 1) (n := 54) ⟨dX2_placeFacts_53, rfl⟩ rfl ?_
  refine y_bipush (n := 56) (v := 14) ⟨dX2_placeFacts_54, rfl⟩ kb_14 ?_
  refine y_iadd (n := 57) ⟨dX2_placeFacts_56, rfl⟩ ?_
  refine y_iload (i := 6) (n := 59) ⟨dX2_placeFacts_57, rfl⟩ rfl ?_
  refine y_iload (i := 4) (n := 61) ⟨dX2_placeFacts_59, rfl⟩ rfl ?_
  refine c_ax_hoursAhead x4 (sI M 40 y1.toNatClampNeg y2) (n := 64) ⟨dX2_placeFacts_61, rfl⟩ klX2_115 rfl (by decide) (Nat.le_of_ble_eq_true rfl) rfl rfl ?_
  refine y_iand (n := 65) ⟨dX2_placeFacts_64, rfl⟩ ?_
  refine c_jd_bitCount_0f7a4 (x6 &&& (f_ax_hoursAhead x4)) (sI M 40 y1.toNatClampNeg y2) (n := 68) ⟨dX2_placeFacts_65, rfl⟩ klX2_119 rfl (by decide) (Nat.le_of_ble_eq_true rfl) rfl rfl ?_
  obtain ⟨hg5, hf⟩ := g_s hf
  refine y_iastore (n := 69) ⟨dX2_placeFacts_68, rfl⟩ l_40 hg5 ?_
  refine y_aload_n (i := 0) (n := 70) ⟨dX2_placeFacts_69, rfl⟩ rfl ?_
  refine y_getR (n := 73) ⟨dX2_placeFacts_70, rfl⟩ kfX2_9 l_39 rfl r_39_4 ?_
  refine y_iload_n (i := 1) (n := 74) ⟨dX2_placeFacts_73, rfl⟩ rfl ?_
  refine y_bipush (n := 76) (v := 15) ⟨dX2_placeFacts_74, rfl⟩ kb_15 ?_
  refine y_iadd (n := 77) ⟨dX2_placeFacts_76, rfl⟩ ?_
  refine y_aload_n (i := 0) (n := 78) ⟨dX2_placeFacts_77, rfl⟩ rfl ?_
  refine y_getR (n := 81) ⟨dX2_placeFacts_78, rfl⟩ kfX2_36 l_39 rfl r_39_1 ?_
  refine y_iload_n (i := 2) (n := 82) ⟨dX2_placeFacts_81, rfl⟩ rfl ?_
  refine y_iload_n (i := 3) (n := 83) ⟨dX2_placeFacts_82, rfl⟩ rfl ?_
  refine y_iload (i := 4) (n := 85) ⟨dX2_placeFacts_83, rfl⟩ rfl ?_
  obtain ⟨v6, hv7, hf⟩ := b_s hf
  refine c_li_whoAt x2 x3 x4 (sI (sI M 40 y1.toNatClampNeg y2) 40 (x1 + 14).toNatClampNeg (f_jd_bitCount_0f7a4 (x6 &&& (f_ax_hoursAhead x4)))) (n := 88) ⟨dX2_placeFacts_85, rfl⟩ klX2_123 hv7 (by decide) (Nat.le_of_ble_eq_true rfl) rfl rfl ?_
  refine y_iconst (n := 89) (v := 1) ⟨dX2_placeFacts_88, rfl⟩ ki_1 ?_
  refine y_iload (i := 5) (n := 91) ⟨dX2_placeFacts_89, rfl⟩ rfl ?_
  refine y_ishl (n := 92) ⟨dX2_placeFacts_91, rfl⟩ ?_
  refine y_iconst (n := 93) (v := (-1)) ⟨dX2_placeFacts_92, rfl⟩ ki_m1 ?_
  refine y_ixor (n := 94) ⟨dX2_placeFacts_93, rfl⟩ ?_
  refine y_iand (n := 95) ⟨dX2_placeFacts_94, rfl⟩ ?_
  refine c_jd_bitCount_0f7a4 (v6 &&& (((1 : Int32) <<< (x5 &&& 31)) ^^^ (-1))) (sI (sI M 40 y1.toNatClampNeg y2) 40 (x1 + 14).toNatClampNeg (f_jd_bitCount_0f7a4 (x6 &&& (f_ax_hoursAhead x4)))) (n := 98) ⟨dX2_placeFacts_95, rfl⟩ klX2_119 rfl (by decide) (Nat.le_of_ble_eq_true rfl) rfl rfl ?_
  obtain ⟨hg8, hf⟩ := g_s hf
  refine y_iastore (n := 99) ⟨dX2_placeFacts_98, rfl⟩ l_40 hg8 ?_
  cases hf
  exact y_return (n := 100) ⟨dX2_placeFacts_99, rfl⟩ rfl hk
theorem ok_ju_placeFacts (a1 : Int32) (a2 : Int32) (a3 : Int32) (a4 : Int32) (a5 : Int32) (M : dM) {o : dM} (hf : f_ju_placeFacts a1 a2 a3 a4 a5 M = some o) : mO mX2_placeFacts 3 [.ref 39, .int a1, .int a2, .int a3, .int a4, .int a5] M none o := by
  refine y_ok (by decide +kernel) (by decide) (L0 := [some (.ref 39), some (.int a1), some (.int a2), some (.int a3), some (.int a4), some (.int a5), none]) rfl ?_
  have hk := mR_mQ none o
  generalize mQ _ _ = Q at hk ⊢
  unfold f_ju_placeFacts at hf
  refine y_aload_n (i := 0) (n := 1) ⟨dX2_placeFacts_0, rfl⟩ rfl ?_
  refine y_getR (n := 4) ⟨dX2_placeFacts_1, rfl⟩ kfX2_36 l_39 rfl r_39_1 ?_
  refine y_iload (i := 5) (n := 6) ⟨dX2_placeFacts_4, rfl⟩ rfl ?_
  refine y_iload_n (i := 2) (n := 7) ⟨dX2_placeFacts_6, rfl⟩ rfl ?_
  refine y_iload_n (i := 3) (n := 8) ⟨dX2_placeFacts_7, rfl⟩ rfl ?_
  obtain ⟨v1, hv2, hf⟩ := b_s hf
  refine c_li_aloneHours a5 a2 a3 M (n := 11) ⟨dX2_placeFacts_8, rfl⟩ klX2_105 hv2 (by decide) (Nat.le_of_ble_eq_true rfl) rfl rfl ?_
  refine y_istore (i := 6) (n := 13) (L2 := [some (.ref 39), some (.int a1), some (.int a2), some (.int a3), some (.int a4), some (.int a5), some (.int v1)]) ⟨dX2_placeFacts_11, rfl⟩ (by decide) rfl rfl ?_
  refine y_aload_n (i := 0) (n := 14) ⟨dX2_placeFacts_13, rfl⟩ rfl ?_
  refine y_getR (n := 17) ⟨dX2_placeFacts_14, rfl⟩ kfX2_9 l_39 rfl r_39_4 ?_
  refine y_iload_n (i := 1) (n := 18) ⟨dX2_placeFacts_17, rfl⟩ rfl ?_
  refine y_bipush (n := 20) (v := 10) ⟨dX2_placeFacts_18, rfl⟩ kb_10 ?_
  refine y_iadd (n := 21) ⟨dX2_placeFacts_20, rfl⟩ ?_
  refine y_iload (i := 4) (n := 23) ⟨dX2_placeFacts_21, rfl⟩ rfl ?_
  obtain ⟨hg3, hf⟩ := g_s hf
  refine y_iastore (n := 24) ⟨dX2_placeFacts_23, rfl⟩ l_40 hg3 ?_
  refine y_aload_n (i := 0) (n := 25) ⟨dX2_placeFacts_24, rfl⟩ rfl ?_
  refine y_getR (n := 28) ⟨dX2_placeFacts_25, rfl⟩ kfX2_9 l_39 rfl r_39_4 ?_
  refine y_iload_n (i := 1) (n := 29) ⟨dX2_placeFacts_28, rfl⟩ rfl ?_
  refine y_bipush (n := 31) (v := 13) ⟨dX2_placeFacts_29, rfl⟩ kb_13 ?_
  refine y_iadd (n := 32) ⟨dX2_placeFacts_31, rfl⟩ ?_
  refine y_iload (i := 6) (n := 34) ⟨dX2_placeFacts_32, rfl⟩ rfl ?_
  refine y_i2l (n := 35) ⟨dX2_placeFacts_34, rfl⟩ ?_
  refine y_iload (i := 4) (n := 37) ⟨dX2_placeFacts_35, rfl⟩ rfl ?_
  refine c_ax_hasBit v1.toInt64 a4 (sI M 40 (a1 + 10).toNatClampNeg a4) (n := 40) ⟨dX2_placeFacts_37, rfl⟩ klX2_111 rfl (by decide) (Nat.le_of_ble_eq_true rfl) rfl rfl ?_
  refine y_if_eq (t := 47) (n := 43) ⟨dX2_placeFacts_40, rfl, rfl⟩ (fun h0 => ?_) (fun h0 => ?_)
  · have hc := bI_0 h0
    replace hf := i_f hc hf
    refine y_iconst (n := 48) (v := 0) ⟨dX2_placeFacts_47, rfl⟩ ki_0 ?_
    exact y_wk ⟨Or.inr rfl, Or.inr rfl, Or.inr rfl, Or.inr rfl, Or.inr rfl, Or.inr rfl, Or.inr rfl, trivial⟩ (w_t_ju_placeFacts_48 a1 a2 a3 a4 a5 v1 (a1 + 13) 0 (sI M 40 (a1 + 10).toNatClampNeg a4) hf hk)
  · have hc := bI_1 h0
    replace hf := i_t hc hf
    refine y_iconst (n := 44) (v := 1) ⟨dX2_placeFacts_43, rfl⟩ ki_1 ?_
    refine y_goto (t := 48) ⟨dX2_placeFacts_44, rfl, rfl⟩ ?_
    exact y_wk ⟨Or.inr rfl, Or.inr rfl, Or.inr rfl, Or.inr rfl, Or.inr rfl, Or.inr rfl, Or.inr rfl, trivial⟩ (w_t_ju_placeFacts_48 a1 a2 a3 a4 a5 v1 (a1 + 13) 1 (sI M 40 (a1 + 10).toNatClampNeg a4) hf hk)
theorem c_ju_placeFacts (a1 : Int32) (a2 : Int32) (a3 : Int32) (a4 : Int32) (a5 : Int32) (M : dM) {o : dM} {y : mz_M} {d : Nat} {Q : mz_P} {pc n i : Nat} {L : List (Option Value)} {st : List Value} (h : mz_d y.2.1 pc n 3 (.invokevirtual i)) (hl : mz_ml y.1.cls i yX2_placeFacts) (hf : f_ju_placeFacts a1 a2 a3 a4 a5 M = some o) (hd : 3 + 1 ≤ d) (hsm : (st.map (fun v => v.category)).sum ≤ 8) (hLr : mz_rL 133 L = true) (hSr : mz_rS 133 st = true) (kk : mW y d Q n L st o) : mW y d Q pc L (.int a5 :: .int a4 :: .int a3 :: .int a2 :: .int a1 :: .ref 39 :: st) M :=
  y_callV kmX2_placeFacts kvX2_placeFacts l_39 (by decide +kernel) (by decide +kernel) h hl (ok_ju_placeFacts a1 a2 a3 a4 a5 M hf) (vs := [.int a1, .int a2, .int a3, .int a4, .int a5]) rfl rfl hd hsm hLr hSr kk
noncomputable def f_si_ageOf (a1 : Int32) (a2 : Int32) (M : dM) : Option Int32 :=
  gd (vp_in ((a1 * 10) + a2) 80) <|
  some (gI M 2 ((a1 * 10) + a2).toNatClampNeg)
theorem ok_si_ageOf (a1 : Int32) (a2 : Int32) (M : dM) {o : Int32} (hf : f_si_ageOf a1 a2 M = some o) : mO mX7_ageOf 1 [.ref 1, .int a1, .int a2] M (some (.int o)) M := by
  refine y_ok (by decide +kernel) (by decide) (L0 := [some (.ref 1), some (.int a1), some (.int a2)]) rfl ?_
  have hk := mR_mQ (some (.int o)) M
  generalize mQ _ _ = Q at hk ⊢
  unfold f_si_ageOf at hf
  refine y_aload_n (i := 0) (n := 1) ⟨dX7_ageOf_0, rfl⟩ rfl ?_
  refine y_getR (n := 4) ⟨dX7_ageOf_1, rfl⟩ kfX7_9 l_1 rfl r_1_0 ?_
  refine y_iload_n (i := 1) (n := 5) ⟨dX7_ageOf_4, rfl⟩ rfl ?_
  refine y_bipush (n := 7) (v := 10) ⟨dX7_ageOf_5, rfl⟩ kb_10 ?_
  refine y_imul (n := 8) ⟨dX7_ageOf_7, rfl⟩ ?_
  refine y_iload_n (i := 2) (n := 9) ⟨dX7_ageOf_8, rfl⟩ rfl ?_
  refine y_iadd (n := 10) ⟨dX7_ageOf_9, rfl⟩ ?_
  obtain ⟨hg1, hf⟩ := g_s hf
  refine y_iaload (n := 11) ⟨dX7_ageOf_10, rfl⟩ l_2 hg1 ?_
  cases hf
  exact y_ireturn (n := 12) ⟨dX7_ageOf_11, rfl⟩ rfl rfl hk
theorem c_si_ageOf (a1 : Int32) (a2 : Int32) (M : dM) {o : Int32} {y : mz_M} {d : Nat} {Q : mz_P} {pc n i : Nat} {L : List (Option Value)} {st : List Value} (h : mz_d y.2.1 pc n 3 (.invokevirtual i)) (hl : mz_ml y.1.cls i yX7_ageOf) (hf : f_si_ageOf a1 a2 M = some o) (hd : 1 + 1 ≤ d) (hsm : (st.map (fun v => v.category)).sum ≤ 8) (hLr : mz_rL 133 L = true) (hSr : mz_rS 133 st = true) (kk : mW y d Q n L (.int o :: st) M) : mW y d Q pc L (.int a2 :: .int a1 :: .ref 1 :: st) M :=
  y_callV kmX7_ageOf kvX7_ageOf l_1 (by decide +kernel) (by decide +kernel) h hl (ok_si_ageOf a1 a2 M hf) (vs := [.int a1, .int a2]) rfl rfl hd hsm hLr hSr kk
def K_ju_thingFacts_3 (Q : mz_P) (x1 : Int32) (x2 : Int32) (x3 : Int32) (x4 : Int32) (x5 : Int32) (M : dM) : ((Int32 × dM) ⊕ dM) → Prop
  | .inl s => mW mX2_thingFacts 2 Q 3 [some (.ref 39), some (.int x1), some (.int x2), some (.int x3), some (.int x4), some (.int x5), some (.int s.1)] [] s.2
  | .inr t => mW mX2_thingFacts 2 Q 32 [some (.ref 39), some (.int x1), some (.int x2), some (.int x3), none, some (.int x5), none] [] t
noncomputable def b_ju_thingFacts_3_3 (x1 : Int32) (x2 : Int32) (x3 : Int32) (x4 : Int32) (x5 : Int32) (x6 : Int32) (M : dM) : Option ((Int32 × dM) ⊕ dM) :=
  if 8 ≤ x6 then
    some (.inr M)
  else
    gd (vp_in (x1 + x6) 697) <|
    some (.inl ((x6 + 1), (sI M 40 (x1 + x6).toNatClampNeg ((x4 >>> (x6 &&& 31)) &&& 1))))
noncomputable def l_ju_thingFacts_3 (x1 : Int32) (x2 : Int32) (x3 : Int32) (x4 : Int32) (x5 : Int32) (x6 : Int32) (M : dM) : Option dM := lpc (fun s => b_ju_thingFacts_3_3 x1 x2 x3 x4 x5 s.1 s.2) (x6, M)
noncomputable def t_ju_thingFacts_84 (x5 : Int32) (x6 : Int32) (y1 : Int32) (y2 : Int32) (M : dM) : Option (Int32 × dM) :=
  gd (vp_in y1 697) <|
  some ((f_jd_max x6 x5), (sI M 40 y1.toNatClampNeg y2))
noncomputable def f_ju_thingFacts (a1 : Int32) (a2 : Int32) (a3 : Int32) (a4 : Int32) (a5 : Int32) (M : dM) : Option (Int32 × dM) :=
  (l_ju_thingFacts_3 a1 a2 a3 a4 a5 0 M).bind fun t2 =>
    (f_si_ageOf a2 a3 t2).bind fun v5 =>
    gd (vp_in (a1 + 8) 697) <|
    gd (vp_in (a1 + 9) 697) <|
    if v5 ≤ a5 then
      t_ju_thingFacts_84 a5 v5 (a1 + 12) 0 (sI (sI t2 40 (a1 + 8).toNatClampNeg v5) 40 (a1 + 9).toNatClampNeg a3)
    else
      t_ju_thingFacts_84 a5 v5 (a1 + 12) 1 (sI (sI t2 40 (a1 + 8).toNatClampNeg v5) 40 (a1 + 9).toNatClampNeg a3)
theorem w_b_ju_thingFacts_3_3 (x1 : Int32) (x2 : Int32) (x3 : Int32) (x4 : Int32) (x5 : Int32) (x6 : Int32) (M : dM) {Q : mz_P} {o : ((Int32 × dM) ⊕ dM)} (hf : b_ju_thingFacts_3_3 x1 x2 x3 x4 x5 x6 M = some o) (hk : K_ju_thingFacts_3 Q x1 x2 x3 x4 x5 M o) : mW mX2_thingFacts 2 Q 3 [some (.ref 39), some (.int x1), some (.int x2), some (.int x3), some (.int x4), some (.int x5), some (.int x6)] [] M := by
  unfold b_ju_thingFacts_3_3 at hf
  refine y_iload (i := 6) (n := 5) ⟨dX2_thingFacts_3, rfl⟩ rfl ?_
  refine y_bipush (n := 7) (v := 8) ⟨dX2_thingFacts_5, rfl⟩ kb_8 ?_
  refine y_icmp_ge (t := 32) (n := 10) ⟨dX2_thingFacts_7, rfl, rfl⟩ (fun (hc : 8 ≤ x6) => ?_) (fun (hc : ¬ (8 ≤ x6)) => ?_)
  · replace hf := i_t hc hf
    cases hf
    exact y_wk ⟨Or.inr rfl, Or.inr rfl, Or.inr rfl, Or.inr rfl, Or.inl rfl, Or.inr rfl, Or.inl rfl, trivial⟩ hk
  · replace hf := i_f hc hf
    refine y_aload_n (i := 0) (n := 11) ⟨dX2_thingFacts_10, rfl⟩ rfl ?_
    refine y_getR (n := 14) ⟨dX2_thingFacts_11, rfl⟩ kfX2_9 l_39 rfl r_39_4 ?_
    refine y_iload_n (i := 1) (n := 15) ⟨dX2_thingFacts_14, rfl⟩ rfl ?_
    refine y_iload (i := 6) (n := 17) ⟨dX2_thingFacts_15, rfl⟩ rfl ?_
    refine y_iadd (n := 18) ⟨dX2_thingFacts_17, rfl⟩ ?_
    refine y_iload (i := 4) (n := 20) ⟨dX2_thingFacts_18, rfl⟩ rfl ?_
    refine y_iload (i := 6) (n := 22) ⟨dX2_thingFacts_20, rfl⟩ rfl ?_
    refine y_ishr (n := 23) ⟨dX2_thingFacts_22, rfl⟩ ?_
    refine y_iconst (n := 24) (v := 1) ⟨dX2_thingFacts_23, rfl⟩ ki_1 ?_
    refine y_iand (n := 25) ⟨dX2_thingFacts_24, rfl⟩ ?_
    obtain ⟨hg1, hf⟩ := g_s hf
    refine y_iastore (n := 26) ⟨dX2_thingFacts_25, rfl⟩ l_40 hg1 ?_
    refine y_iinc (i := 6) (n := 29) (b := (x6 + 1)) (L2 := [some (.ref 39), some (.int x1), some (.int x2), some (.int x3), some (.int x4), some (.int x5), some (.int (x6 + 1))]) ⟨dX2_thingFacts_26, rfl⟩ rfl (by rw [ki_1]) (by decide) rfl rfl ?_
    refine y_goto (t := 3) ⟨dX2_thingFacts_29, rfl, rfl⟩ ?_
    cases hf
    exact y_wk ⟨Or.inr rfl, Or.inr rfl, Or.inr rfl, Or.inr rfl, Or.inr rfl, Or.inr rfl, Or.inr rfl, trivial⟩ hk
theorem wl_ju_thingFacts_3 (x1 : Int32) (x2 : Int32) (x3 : Int32) (x4 : Int32) (x5 : Int32) (x6 : Int32) (M : dM) {Q : mz_P} {x : dM} (hf : l_ju_thingFacts_3 x1 x2 x3 x4 x5 x6 M = some x) (hk : K_ju_thingFacts_3 Q x1 x2 x3 x4 x5 M (.inr x)) : mW mX2_thingFacts 2 Q 3 [some (.ref 39), some (.int x1), some (.int x2), some (.int x3), some (.int x4), some (.int x5), some (.int x6)] [] M :=
  lpc_wp (Wh := fun s => mW mX2_thingFacts 2 Q 3 [some (.ref 39), some (.int x1), some (.int x2), some (.int x3), some (.int x4), some (.int x5), some (.int s.1)] [] s.2) (K := K_ju_thingFacts_3 Q x1 x2 x3 x4 x5 M) (fun _ h => h) (fun s o hb hk => w_b_ju_thingFacts_3_3 x1 x2 x3 x4 x5 s.1 s.2 hb hk) hf hk
theorem w_t_ju_thingFacts_84 (x5 : Int32) (x6 : Int32) (y1 : Int32) (y2 : Int32) (M : dM) {Q : mz_P} {o : (Int32 × dM)} (hf : t_ju_thingFacts_84 x5 x6 y1 y2 M = some o) (hk : mR Q (some (.int o.1)) o.2) : mW mX2_thingFacts 2 Q 84 [none, none, none, none, none, some (.int x5), some (.int x6)] [.ref 40, .int y1, .int y2] M := by
  unfold t_ju_thingFacts_84 at hf
  obtain ⟨hg9, hf⟩ := g_s hf
  refine y_iastore (n := 85) ⟨dX2_thingFacts_84, rfl⟩ l_40 hg9 ?_
  refine y_iload (i := 6) (n := 87) ⟨dX2_thingFacts_85, rfl⟩ rfl ?_
  refine y_iload (i := 5) (n := 89) ⟨dX2_thingFacts_87, rfl⟩ rfl ?_
  refine c_jd_max x6 x5 (sI M 40 y1.toNatClampNeg y2) (n := 92) ⟨dX2_thingFacts_89, rfl⟩ klX2_130 rfl (by decide) (Nat.le_of_ble_eq_true rfl) rfl rfl ?_
  cases hf
  exact y_ireturn (n := 93) ⟨dX2_thingFacts_92, rfl⟩ rfl rfl hk
theorem ok_ju_thingFacts (a1 : Int32) (a2 : Int32) (a3 : Int32) (a4 : Int32) (a5 : Int32) (M : dM) {o : (Int32 × dM)} (hf : f_ju_thingFacts a1 a2 a3 a4 a5 M = some o) : mO mX2_thingFacts 2 [.ref 39, .int a1, .int a2, .int a3, .int a4, .int a5] M (some (.int o.1)) o.2 := by
  refine y_ok (by decide +kernel) (by decide) (L0 := [some (.ref 39), some (.int a1), some (.int a2), some (.int a3), some (.int a4), some (.int a5), none]) rfl ?_
  have hk := mR_mQ (some (.int o.1)) o.2
  generalize mQ _ _ = Q at hk ⊢
  unfold f_ju_thingFacts at hf
  refine y_iconst (n := 1) (v := 0) ⟨dX2_thingFacts_0, rfl⟩ ki_0 ?_
  refine y_istore (i := 6) (n := 3) (L2 := [some (.ref 39), some (.int a1), some (.int a2), some (.int a3), some (.int a4), some (.int a5), some (.int 0)]) ⟨dX2_thingFacts_1, rfl⟩ (by decide) rfl rfl ?_
  obtain ⟨t2, hl3, hf⟩ := b_s hf
  refine y_wk ⟨Or.inr rfl, Or.inr rfl, Or.inr rfl, Or.inr rfl, Or.inr rfl, Or.inr rfl, Or.inr rfl, trivial⟩ (wl_ju_thingFacts_3 a1 a2 a3 a4 a5 0 M hl3 ?_)
  show mW mX2_thingFacts 2 Q 32 [some (.ref 39), some (.int a1), some (.int a2), some (.int a3), none, some (.int a5), none] [] t2
  refine y_aload_n (i := 0) (n := 33) ⟨dX2_thingFacts_32, rfl⟩ rfl ?_
  refine y_getR (n := 36) ⟨dX2_thingFacts_33, rfl⟩ kfX2_32 l_39 rfl r_39_0 ?_
  refine y_iload_n (i := 2) (n := 37) ⟨dX2_thingFacts_36, rfl⟩ rfl ?_
  refine y_iload_n (i := 3) (n := 38) ⟨dX2_thingFacts_37, rfl⟩ rfl ?_
  obtain ⟨v5, hv6, hf⟩ := b_s hf
  refine c_si_ageOf a2 a3 t2 (n := 41) ⟨dX2_thingFacts_38, rfl⟩ klX2_126 hv6 (by decide) (Nat.le_of_ble_eq_true rfl) rfl rfl ?_
  refine y_istore (i := 6) (n := 43) (L2 := [some (.ref 39), some (.int a1), some (.int a2), some (.int a3), some (.int a4), some (.int a5), some (.int v5)]) ⟨dX2_thingFacts_41, rfl⟩ (by decide) rfl rfl ?_
  refine y_aload_n (i := 0) (n := 44) ⟨dX2_thingFacts_43, rfl⟩ rfl ?_
  refine y_getR (n := 47) ⟨dX2_thingFacts_44, rfl⟩ kfX2_9 l_39 rfl r_39_4 ?_
  refine y_iload_n (i := 1) (n := 48) ⟨dX2_thingFacts_47, rfl⟩ rfl ?_
  refine y_bipush (n := 50) (v := 8) ⟨dX2_thingFacts_48, rfl⟩ kb_8 ?_
  refine y_iadd (n := 51) ⟨dX2_thingFacts_50, rfl⟩ ?_
  refine y_iload (i := 6) (n := 53) ⟨dX2_thingFacts_51, rfl⟩ rfl ?_
  obtain ⟨hg7, hf⟩ := g_s hf
  refine y_iastore (n := 54) ⟨dX2_thingFacts_53, rfl⟩ l_40 hg7 ?_
  refine y_aload_n (i := 0) (n := 55) ⟨dX2_thingFacts_54, rfl⟩ rfl ?_
  refine y_getR (n := 58) ⟨dX2_thingFacts_55, rfl⟩ kfX2_9 l_39 rfl r_39_4 ?_
  refine y_iload_n (i := 1) (n := 59) ⟨dX2_thingFacts_58, rfl⟩ rfl ?_
  refine y_bipush (n := 61) (v := 9) ⟨dX2_thingFacts_59, rfl⟩ kb_9 ?_
  refine y_iadd (n := 62) ⟨dX2_thingFacts_61, rfl⟩ ?_
  refine y_iload_n (i := 3) (n := 63) ⟨dX2_thingFacts_62, rfl⟩ rfl ?_
  obtain ⟨hg8, hf⟩ := g_s hf
  refine y_iastore (n := 64) ⟨dX2_thingFacts_63, rfl⟩ l_40 hg8 ?_
  refine y_aload_n (i := 0) (n := 65) ⟨dX2_thingFacts_64, rfl⟩ rfl ?_
  refine y_getR (n := 68) ⟨dX2_thingFacts_65, rfl⟩ kfX2_9 l_39 rfl r_39_4 ?_
  refine y_iload_n (i := 1) (n := 69) ⟨dX2_thingFacts_68, rfl⟩ rfl ?_
  refine y_bipush (n := 71) (v := 12) ⟨dX2_thingFacts_69, rfl⟩ kb_12 ?_
  refine y_iadd (n := 72) ⟨dX2_thingFacts_71, rfl⟩ ?_
  refine y_iload (i := 6) (n := 74) ⟨dX2_thingFacts_72, rfl⟩ rfl ?_
  refine y_iload (i := 5) (n := 76) ⟨dX2_thingFacts_74, rfl⟩ rfl ?_
  refine y_icmp_le (t := 83) (n := 79) ⟨dX2_thingFacts_76, rfl, rfl⟩ (fun (hc : v5 ≤ a5) => ?_) (fun (hc : ¬ (v5 ≤ a5)) => ?_)
  · replace hf := i_t hc hf
    refine y_iconst (n := 84) (v := 0) ⟨dX2_thingFacts_83, rfl⟩ ki_0 ?_
    exact y_wk ⟨Or.inl rfl, Or.inl rfl, Or.inl rfl, Or.inl rfl, Or.inl rfl, Or.inr rfl, Or.inr rfl, trivial⟩ (w_t_ju_thingFacts_84 a5 v5 (a1 + 12) 0 (sI (sI t2 40 (a1 + 8).toNatClampNeg v5) 40 (a1 + 9).toNatClampNeg a3) hf hk)
  · replace hf := i_f hc hf
    refine y_iconst (n := 80) (v := 1) ⟨dX2_thingFacts_79, rfl⟩ ki_1 ?_
    refine y_goto (t := 84) ⟨dX2_thingFacts_80, rfl, rfl⟩ ?_
    exact y_wk ⟨Or.inl rfl, Or.inl rfl, Or.inl rfl, Or.inl rfl, Or.inl rfl, Or.inr rfl, Or.inr rfl, trivial⟩ (w_t_ju_thingFacts_84 a5 v5 (a1 + 12) 1 (sI (sI t2 40 (a1 + 8).toNatClampNeg v5) 40 (a1 + 9).toNatClampNeg a3) hf hk)
theorem c_ju_thingFacts (a1 : Int32) (a2 : Int32) (a3 : Int32) (a4 : Int32) (a5 : Int32) (M : dM) {o : (Int32 × dM)} {y : mz_M} {d : Nat} {Q : mz_P} {pc n i : Nat} {L : List (Option Value)} {st : List Value} (h : mz_d y.2.1 pc n 3 (.invokevirtual i)) (hl : mz_ml y.1.cls i yX2_thingFacts) (hf : f_ju_thingFacts a1 a2 a3 a4 a5 M = some o) (hd : 2 + 1 ≤ d) (hsm : (st.map (fun v => v.category)).sum ≤ 8) (hLr : mz_rL 133 L = true) (hSr : mz_rS 133 st = true) (kk : mW y d Q n L (.int o.1 :: st) o.2) : mW y d Q pc L (.int a5 :: .int a4 :: .int a3 :: .int a2 :: .int a1 :: .ref 39 :: st) M :=
  y_callV kmX2_thingFacts kvX2_thingFacts l_39 (by decide +kernel) (by decide +kernel) h hl (ok_ju_thingFacts a1 a2 a3 a4 a5 M hf) (vs := [.int a1, .int a2, .int a3, .int a4, .int a5]) rfl rfl hd hsm hLr hSr kk
noncomputable def f_jd_bitCount_95d88 (a1 : Int64) : Int32 :=
  (((((((((a1 - (((a1.toUInt64 >>> ((1 : Int32).toInt64.toUInt64 &&& Int64.toUInt64 63)).toInt64) &&& 6148914691236517205)) &&& 3689348814741910323) + ((((a1 - (((a1.toUInt64 >>> ((1 : Int32).toInt64.toUInt64 &&& Int64.toUInt64 63)).toInt64) &&& 6148914691236517205)).toUInt64 >>> ((2 : Int32).toInt64.toUInt64 &&& Int64.toUInt64 63)).toInt64) &&& 3689348814741910323)) + (((((a1 - (((a1.toUInt64 >>> ((1 : Int32).toInt64.toUInt64 &&& Int64.toUInt64 63)).toInt64) &&& 6148914691236517205)) &&& 3689348814741910323) + ((((a1 - (((a1.toUInt64 >>> ((1 : Int32).toInt64.toUInt64 &&& Int64.toUInt64 63)).toInt64) &&& 6148914691236517205)).toUInt64 >>> ((2 : Int32).toInt64.toUInt64 &&& Int64.toUInt64 63)).toInt64) &&& 3689348814741910323)).toUInt64 >>> ((4 : Int32).toInt64.toUInt64 &&& Int64.toUInt64 63)).toInt64)) &&& 1085102592571150095) + (((((((a1 - (((a1.toUInt64 >>> ((1 : Int32).toInt64.toUInt64 &&& Int64.toUInt64 63)).toInt64) &&& 6148914691236517205)) &&& 3689348814741910323) + ((((a1 - (((a1.toUInt64 >>> ((1 : Int32).toInt64.toUInt64 &&& Int64.toUInt64 63)).toInt64) &&& 6148914691236517205)).toUInt64 >>> ((2 : Int32).toInt64.toUInt64 &&& Int64.toUInt64 63)).toInt64) &&& 3689348814741910323)) + (((((a1 - (((a1.toUInt64 >>> ((1 : Int32).toInt64.toUInt64 &&& Int64.toUInt64 63)).toInt64) &&& 6148914691236517205)) &&& 3689348814741910323) + ((((a1 - (((a1.toUInt64 >>> ((1 : Int32).toInt64.toUInt64 &&& Int64.toUInt64 63)).toInt64) &&& 6148914691236517205)).toUInt64 >>> ((2 : Int32).toInt64.toUInt64 &&& Int64.toUInt64 63)).toInt64) &&& 3689348814741910323)).toUInt64 >>> ((4 : Int32).toInt64.toUInt64 &&& Int64.toUInt64 63)).toInt64)) &&& 1085102592571150095).toUInt64 >>> ((8 : Int32).toInt64.toUInt64 &&& Int64.toUInt64 63)).toInt64)) + ((((((((a1 - (((a1.toUInt64 >>> ((1 : Int32).toInt64.toUInt64 &&& Int64.toUInt64 63)).toInt64) &&& 6148914691236517205)) &&& 3689348814741910323) + ((((a1 - (((a1.toUInt64 >>> ((1 : Int32).toInt64.toUInt64 &&& Int64.toUInt64 63)).toInt64) &&& 6148914691236517205)).toUInt64 >>> ((2 : Int32).toInt64.toUInt64 &&& Int64.toUInt64 63)).toInt64) &&& 3689348814741910323)) + (((((a1 - (((a1.toUInt64 >>> ((1 : Int32).toInt64.toUInt64 &&& Int64.toUInt64 63)).toInt64) &&& 6148914691236517205)) &&& 3689348814741910323) + ((((a1 - (((a1.toUInt64 >>> ((1 : Int32).toInt64.toUInt64 &&& Int64.toUInt64 63)).toInt64) &&& 6148914691236517205)).toUInt64 >>> ((2 : Int32).toInt64.toUInt64 &&& Int64.toUInt64 63)).toInt64) &&& 3689348814741910323)).toUInt64 >>> ((4 : Int32).toInt64.toUInt64 &&& Int64.toUInt64 63)).toInt64)) &&& 1085102592571150095) + (((((((a1 - (((a1.toUInt64 >>> ((1 : Int32).toInt64.toUInt64 &&& Int64.toUInt64 63)).toInt64) &&& 6148914691236517205)) &&& 3689348814741910323) + ((((a1 - (((a1.toUInt64 >>> ((1 : Int32).toInt64.toUInt64 &&& Int64.toUInt64 63)).toInt64) &&& 6148914691236517205)).toUInt64 >>> ((2 : Int32).toInt64.toUInt64 &&& Int64.toUInt64 63)).toInt64) &&& 3689348814741910323)) + (((((a1 - (((a1.toUInt64 >>> ((1 : Int32).toInt64.toUInt64 &&& Int64.toUInt64 63)).toInt64) &&& 6148914691236517205)) &&& 3689348814741910323) + ((((a1 - (((a1.toUInt64 >>> ((1 : Int32).toInt64.toUInt64 &&& Int64.toUInt64 63)).toInt64) &&& 6148914691236517205)).toUInt64 >>> ((2 : Int32).toInt64.toUInt64 &&& Int64.toUInt64 63)).toInt64) &&& 3689348814741910323)).toUInt64 >>> ((4 : Int32).toInt64.toUInt64 &&& Int64.toUInt64 63)).toInt64)) &&& 1085102592571150095).toUInt64 >>> ((8 : Int32).toInt64.toUInt64 &&& Int64.toUInt64 63)).toInt64)).toUInt64 >>> ((16 : Int32).toInt64.toUInt64 &&& Int64.toUInt64 63)).toInt64)) + (((((((((a1 - (((a1.toUInt64 >>> ((1 : Int32).toInt64.toUInt64 &&& Int64.toUInt64 63)).toInt64) &&& 6148914691236517205)) &&& 3689348814741910323) + ((((a1 - (((a1.toUInt64 >>> ((1 : Int32).toInt64.toUInt64 &&& Int64.toUInt64 63)).toInt64) &&& 6148914691236517205)).toUInt64 >>> ((2 : Int32).toInt64.toUInt64 &&& Int64.toUInt64 63)).toInt64) &&& 3689348814741910323)) + (((((a1 - (((a1.toUInt64 >>> ((1 : Int32).toInt64.toUInt64 &&& Int64.toUInt64 63)).toInt64) &&& 6148914691236517205)) &&& 3689348814741910323) + ((((a1 - (((a1.toUInt64 >>> ((1 : Int32).toInt64.toUInt64 &&& Int64.toUInt64 63)).toInt64) &&& 6148914691236517205)).toUInt64 >>> ((2 : Int32).toInt64.toUInt64 &&& Int64.toUInt64 63)).toInt64) &&& 3689348814741910323)).toUInt64 >>> ((4 : Int32).toInt64.toUInt64 &&& Int64.toUInt64 63)).toInt64)) &&& 1085102592571150095) + (((((((a1 - (((a1.toUInt64 >>> ((1 : Int32).toInt64.toUInt64 &&& Int64.toUInt64 63)).toInt64) &&& 6148914691236517205)) &&& 3689348814741910323) + ((((a1 - (((a1.toUInt64 >>> ((1 : Int32).toInt64.toUInt64 &&& Int64.toUInt64 63)).toInt64) &&& 6148914691236517205)).toUInt64 >>> ((2 : Int32).toInt64.toUInt64 &&& Int64.toUInt64 63)).toInt64) &&& 3689348814741910323)) + (((((a1 - (((a1.toUInt64 >>> ((1 : Int32).toInt64.toUInt64 &&& Int64.toUInt64 63)).toInt64) &&& 6148914691236517205)) &&& 3689348814741910323) + ((((a1 - (((a1.toUInt64 >>> ((1 : Int32).toInt64.toUInt64 &&& Int64.toUInt64 63)).toInt64) &&& 6148914691236517205)).toUInt64 >>> ((2 : Int32).toInt64.toUInt64 &&& Int64.toUInt64 63)).toInt64) &&& 3689348814741910323)).toUInt64 >>> ((4 : Int32).toInt64.toUInt64 &&& Int64.toUInt64 63)).toInt64)) &&& 1085102592571150095).toUInt64 >>> ((8 : Int32).toInt64.toUInt64 &&& Int64.toUInt64 63)).toInt64)) + ((((((((a1 - (((a1.toUInt64 >>> ((1 : Int32).toInt64.toUInt64 &&& Int64.toUInt64 63)).toInt64) &&& 6148914691236517205)) &&& 3689348814741910323) + ((((a1 - (((a1.toUInt64 >>> ((1 : Int32).toInt64.toUInt64 &&& Int64.toUInt64 63)).toInt64) &&& 6148914691236517205)).toUInt64 >>> ((2 : Int32).toInt64.toUInt64 &&& Int64.toUInt64 63)).toInt64) &&& 3689348814741910323)) + (((((a1 - (((a1.toUInt64 >>> ((1 : Int32).toInt64.toUInt64 &&& Int64.toUInt64 63)).toInt64) &&& 6148914691236517205)) &&& 3689348814741910323) + ((((a1 - (((a1.toUInt64 >>> ((1 : Int32).toInt64.toUInt64 &&& Int64.toUInt64 63)).toInt64) &&& 6148914691236517205)).toUInt64 >>> ((2 : Int32).toInt64.toUInt64 &&& Int64.toUInt64 63)).toInt64) &&& 3689348814741910323)).toUInt64 >>> ((4 : Int32).toInt64.toUInt64 &&& Int64.toUInt64 63)).toInt64)) &&& 1085102592571150095) + (((((((a1 - (((a1.toUInt64 >>> ((1 : Int32).toInt64.toUInt64 &&& Int64.toUInt64 63)).toInt64) &&& 6148914691236517205)) &&& 3689348814741910323) + ((((a1 - (((a1.toUInt64 >>> ((1 : Int32).toInt64.toUInt64 &&& Int64.toUInt64 63)).toInt64) &&& 6148914691236517205)).toUInt64 >>> ((2 : Int32).toInt64.toUInt64 &&& Int64.toUInt64 63)).toInt64) &&& 3689348814741910323)) + (((((a1 - (((a1.toUInt64 >>> ((1 : Int32).toInt64.toUInt64 &&& Int64.toUInt64 63)).toInt64) &&& 6148914691236517205)) &&& 3689348814741910323) + ((((a1 - (((a1.toUInt64 >>> ((1 : Int32).toInt64.toUInt64 &&& Int64.toUInt64 63)).toInt64) &&& 6148914691236517205)).toUInt64 >>> ((2 : Int32).toInt64.toUInt64 &&& Int64.toUInt64 63)).toInt64) &&& 3689348814741910323)).toUInt64 >>> ((4 : Int32).toInt64.toUInt64 &&& Int64.toUInt64 63)).toInt64)) &&& 1085102592571150095).toUInt64 >>> ((8 : Int32).toInt64.toUInt64 &&& Int64.toUInt64 63)).toInt64)).toUInt64 >>> ((16 : Int32).toInt64.toUInt64 &&& Int64.toUInt64 63)).toInt64)).toUInt64 >>> ((32 : Int32).toInt64.toUInt64 &&& Int64.toUInt64 63)).toInt64)).toInt32 &&& 127)
theorem ok_jd_bitCount_95d88 (a1 : Int64) (M : dM) {o : Int32} (hf : f_jd_bitCount_95d88 a1 = o) : mO mJ13_bitCount_95d88 1 [.long a1] M (some (.int o)) M := by
  refine y_ok (by decide +kernel) (by decide) (L0 := [some (.long a1), none]) rfl ?_
  have hk := mR_mQ (some (.int o)) M
  generalize mQ _ _ = Q at hk ⊢
  unfold f_jd_bitCount_95d88 at hf
  refine y_lload_n (i := 0) (n := 1) ⟨dJ13_bitCount_95d88_0, rfl⟩ rfl ?_
  refine y_lload_n (i := 0) (n := 2) ⟨dJ13_bitCount_95d88_1, rfl⟩ rfl ?_
  refine y_iconst (n := 3) (v := 1) ⟨dJ13_bitCount_95d88_2, rfl⟩ ki_1 ?_
  refine y_lushr (n := 4) ⟨dJ13_bitCount_95d88_3, rfl⟩ ?_
  refine y_ldc2 (n := 7) ⟨dJ13_bitCount_95d88_4, rfl⟩ kcJ13_314 ?_
  refine y_land (n := 8) ⟨dJ13_bitCount_95d88_7, rfl⟩ ?_
  refine y_lsub (n := 9) ⟨dJ13_bitCount_95d88_8, rfl⟩ ?_
  refine y_lstore_n (i := 0) (n := 10) (L2 := [some (.long (a1 - (((a1.toUInt64 >>> ((1 : Int32).toInt64.toUInt64 &&& Int64.toUInt64 63)).toInt64) &&& 6148914691236517205))), none]) ⟨dJ13_bitCount_95d88_9, rfl⟩ (by decide) rfl rfl ?_
  refine y_lload_n (i := 0) (n := 11) ⟨dJ13_bitCount_95d88_10, rfl⟩ rfl ?_
  refine y_ldc2 (n := 14) ⟨dJ13_bitCount_95d88_11, rfl⟩ kcJ13_316 ?_
  refine y_land (n := 15) ⟨dJ13_bitCount_95d88_14, rfl⟩ ?_
  refine y_lload_n (i := 0) (n := 16) ⟨dJ13_bitCount_95d88_15, rfl⟩ rfl ?_
  refine y_iconst (n := 17) (v := 2) ⟨dJ13_bitCount_95d88_16, rfl⟩ ki_2 ?_
  refine y_lushr (n := 18) ⟨dJ13_bitCount_95d88_17, rfl⟩ ?_
  refine y_ldc2 (n := 21) ⟨dJ13_bitCount_95d88_18, rfl⟩ kcJ13_316 ?_
  refine y_land (n := 22) ⟨dJ13_bitCount_95d88_21, rfl⟩ ?_
  refine y_ladd (n := 23) ⟨dJ13_bitCount_95d88_22, rfl⟩ ?_
  refine y_lstore_n (i := 0) (n := 24) (L2 := [some (.long (((a1 - (((a1.toUInt64 >>> ((1 : Int32).toInt64.toUInt64 &&& Int64.toUInt64 63)).toInt64) &&& 6148914691236517205)) &&& 3689348814741910323) + ((((a1 - (((a1.toUInt64 >>> ((1 : Int32).toInt64.toUInt64 &&& Int64.toUInt64 63)).toInt64) &&& 6148914691236517205)).toUInt64 >>> ((2 : Int32).toInt64.toUInt64 &&& Int64.toUInt64 63)).toInt64) &&& 3689348814741910323))), none]) ⟨dJ13_bitCount_95d88_23, rfl⟩ (by decide) rfl rfl ?_
  refine y_lload_n (i := 0) (n := 25) ⟨dJ13_bitCount_95d88_24, rfl⟩ rfl ?_
  refine y_lload_n (i := 0) (n := 26) ⟨dJ13_bitCount_95d88_25, rfl⟩ rfl ?_
  refine y_iconst (n := 27) (v := 4) ⟨dJ13_bitCount_95d88_26, rfl⟩ ki_4 ?_
  refine y_lushr (n := 28) ⟨dJ13_bitCount_95d88_27, rfl⟩ ?_
  refine y_ladd (n := 29) ⟨dJ13_bitCount_95d88_28, rfl⟩ ?_
  refine y_ldc2 (n := 32) ⟨dJ13_bitCount_95d88_29, rfl⟩ kcJ13_318 ?_
  refine y_land (n := 33) ⟨dJ13_bitCount_95d88_32, rfl⟩ ?_
  refine y_lstore_n (i := 0) (n := 34) (L2 := [some (.long (((((a1 - (((a1.toUInt64 >>> ((1 : Int32).toInt64.toUInt64 &&& Int64.toUInt64 63)).toInt64) &&& 6148914691236517205)) &&& 3689348814741910323) + ((((a1 - (((a1.toUInt64 >>> ((1 : Int32).toInt64.toUInt64 &&& Int64.toUInt64 63)).toInt64) &&& 6148914691236517205)).toUInt64 >>> ((2 : Int32).toInt64.toUInt64 &&& Int64.toUInt64 63)).toInt64) &&& 3689348814741910323)) + (((((a1 - (((a1.toUInt64 >>> ((1 : Int32).toInt64.toUInt64 &&& Int64.toUInt64 63)).toInt64) &&& 6148914691236517205)) &&& 3689348814741910323) + ((((a1 - (((a1.toUInt64 >>> ((1 : Int32).toInt64.toUInt64 &&& Int64.toUInt64 63)).toInt64) &&& 6148914691236517205)).toUInt64 >>> ((2 : Int32).toInt64.toUInt64 &&& Int64.toUInt64 63)).toInt64) &&& 3689348814741910323)).toUInt64 >>> ((4 : Int32).toInt64.toUInt64 &&& Int64.toUInt64 63)).toInt64)) &&& 1085102592571150095)), none]) ⟨dJ13_bitCount_95d88_33, rfl⟩ (by decide) rfl rfl ?_
  refine y_lload_n (i := 0) (n := 35) ⟨dJ13_bitCount_95d88_34, rfl⟩ rfl ?_
  refine y_lload_n (i := 0) (n := 36) ⟨dJ13_bitCount_95d88_35, rfl⟩ rfl ?_
  refine y_bipush (n := 38) (v := 8) ⟨dJ13_bitCount_95d88_36, rfl⟩ kb_8 ?_
  refine y_lushr (n := 39) ⟨dJ13_bitCount_95d88_38, rfl⟩ ?_
  refine y_ladd (n := 40) ⟨dJ13_bitCount_95d88_39, rfl⟩ ?_
  refine y_lstore_n (i := 0) (n := 41) (L2 := [some (.long ((((((a1 - (((a1.toUInt64 >>> ((1 : Int32).toInt64.toUInt64 &&& Int64.toUInt64 63)).toInt64) &&& 6148914691236517205)) &&& 3689348814741910323) + ((((a1 - (((a1.toUInt64 >>> ((1 : Int32).toInt64.toUInt64 &&& Int64.toUInt64 63)).toInt64) &&& 6148914691236517205)).toUInt64 >>> ((2 : Int32).toInt64.toUInt64 &&& Int64.toUInt64 63)).toInt64) &&& 3689348814741910323)) + (((((a1 - (((a1.toUInt64 >>> ((1 : Int32).toInt64.toUInt64 &&& Int64.toUInt64 63)).toInt64) &&& 6148914691236517205)) &&& 3689348814741910323) + ((((a1 - (((a1.toUInt64 >>> ((1 : Int32).toInt64.toUInt64 &&& Int64.toUInt64 63)).toInt64) &&& 6148914691236517205)).toUInt64 >>> ((2 : Int32).toInt64.toUInt64 &&& Int64.toUInt64 63)).toInt64) &&& 3689348814741910323)).toUInt64 >>> ((4 : Int32).toInt64.toUInt64 &&& Int64.toUInt64 63)).toInt64)) &&& 1085102592571150095) + (((((((a1 - (((a1.toUInt64 >>> ((1 : Int32).toInt64.toUInt64 &&& Int64.toUInt64 63)).toInt64) &&& 6148914691236517205)) &&& 3689348814741910323) + ((((a1 - (((a1.toUInt64 >>> ((1 : Int32).toInt64.toUInt64 &&& Int64.toUInt64 63)).toInt64) &&& 6148914691236517205)).toUInt64 >>> ((2 : Int32).toInt64.toUInt64 &&& Int64.toUInt64 63)).toInt64) &&& 3689348814741910323)) + (((((a1 - (((a1.toUInt64 >>> ((1 : Int32).toInt64.toUInt64 &&& Int64.toUInt64 63)).toInt64) &&& 6148914691236517205)) &&& 3689348814741910323) + ((((a1 - (((a1.toUInt64 >>> ((1 : Int32).toInt64.toUInt64 &&& Int64.toUInt64 63)).toInt64) &&& 6148914691236517205)).toUInt64 >>> ((2 : Int32).toInt64.toUInt64 &&& Int64.toUInt64 63)).toInt64) &&& 3689348814741910323)).toUInt64 >>> ((4 : Int32).toInt64.toUInt64 &&& Int64.toUInt64 63)).toInt64)) &&& 1085102592571150095).toUInt64 >>> ((8 : Int32).toInt64.toUInt64 &&& Int64.toUInt64 63)).toInt64))), none]) ⟨dJ13_bitCount_95d88_40, rfl⟩ (by decide) rfl rfl ?_
  refine y_lload_n (i := 0) (n := 42) ⟨dJ13_bitCount_95d88_41, rfl⟩ rfl ?_
  refine y_lload_n (i := 0) (n := 43) ⟨dJ13_bitCount_95d88_42, rfl⟩ rfl ?_
  refine y_bipush (n := 45) (v := 16) ⟨dJ13_bitCount_95d88_43, rfl⟩ kb_16 ?_
  refine y_lushr (n := 46) ⟨dJ13_bitCount_95d88_45, rfl⟩ ?_
  refine y_ladd (n := 47) ⟨dJ13_bitCount_95d88_46, rfl⟩ ?_
  refine y_lstore_n (i := 0) (n := 48) (L2 := [some (.long (((((((a1 - (((a1.toUInt64 >>> ((1 : Int32).toInt64.toUInt64 &&& Int64.toUInt64 63)).toInt64) &&& 6148914691236517205)) &&& 3689348814741910323) + ((((a1 - (((a1.toUInt64 >>> ((1 : Int32).toInt64.toUInt64 &&& Int64.toUInt64 63)).toInt64) &&& 6148914691236517205)).toUInt64 >>> ((2 : Int32).toInt64.toUInt64 &&& Int64.toUInt64 63)).toInt64) &&& 3689348814741910323)) + (((((a1 - (((a1.toUInt64 >>> ((1 : Int32).toInt64.toUInt64 &&& Int64.toUInt64 63)).toInt64) &&& 6148914691236517205)) &&& 3689348814741910323) + ((((a1 - (((a1.toUInt64 >>> ((1 : Int32).toInt64.toUInt64 &&& Int64.toUInt64 63)).toInt64) &&& 6148914691236517205)).toUInt64 >>> ((2 : Int32).toInt64.toUInt64 &&& Int64.toUInt64 63)).toInt64) &&& 3689348814741910323)).toUInt64 >>> ((4 : Int32).toInt64.toUInt64 &&& Int64.toUInt64 63)).toInt64)) &&& 1085102592571150095) + (((((((a1 - (((a1.toUInt64 >>> ((1 : Int32).toInt64.toUInt64 &&& Int64.toUInt64 63)).toInt64) &&& 6148914691236517205)) &&& 3689348814741910323) + ((((a1 - (((a1.toUInt64 >>> ((1 : Int32).toInt64.toUInt64 &&& Int64.toUInt64 63)).toInt64) &&& 6148914691236517205)).toUInt64 >>> ((2 : Int32).toInt64.toUInt64 &&& Int64.toUInt64 63)).toInt64) &&& 3689348814741910323)) + (((((a1 - (((a1.toUInt64 >>> ((1 : Int32).toInt64.toUInt64 &&& Int64.toUInt64 63)).toInt64) &&& 6148914691236517205)) &&& 3689348814741910323) + ((((a1 - (((a1.toUInt64 >>> ((1 : Int32).toInt64.toUInt64 &&& Int64.toUInt64 63)).toInt64) &&& 6148914691236517205)).toUInt64 >>> ((2 : Int32).toInt64.toUInt64 &&& Int64.toUInt64 63)).toInt64) &&& 3689348814741910323)).toUInt64 >>> ((4 : Int32).toInt64.toUInt64 &&& Int64.toUInt64 63)).toInt64)) &&& 1085102592571150095).toUInt64 >>> ((8 : Int32).toInt64.toUInt64 &&& Int64.toUInt64 63)).toInt64)) + ((((((((a1 - (((a1.toUInt64 >>> ((1 : Int32).toInt64.toUInt64 &&& Int64.toUInt64 63)).toInt64) &&& 6148914691236517205)) &&& 3689348814741910323) + ((((a1 - (((a1.toUInt64 >>> ((1 : Int32).toInt64.toUInt64 &&& Int64.toUInt64 63)).toInt64) &&& 6148914691236517205)).toUInt64 >>> ((2 : Int32).toInt64.toUInt64 &&& Int64.toUInt64 63)).toInt64) &&& 3689348814741910323)) + (((((a1 - (((a1.toUInt64 >>> ((1 : Int32).toInt64.toUInt64 &&& Int64.toUInt64 63)).toInt64) &&& 6148914691236517205)) &&& 3689348814741910323) + ((((a1 - (((a1.toUInt64 >>> ((1 : Int32).toInt64.toUInt64 &&& Int64.toUInt64 63)).toInt64) &&& 6148914691236517205)).toUInt64 >>> ((2 : Int32).toInt64.toUInt64 &&& Int64.toUInt64 63)).toInt64) &&& 3689348814741910323)).toUInt64 >>> ((4 : Int32).toInt64.toUInt64 &&& Int64.toUInt64 63)).toInt64)) &&& 1085102592571150095) + (((((((a1 - (((a1.toUInt64 >>> ((1 : Int32).toInt64.toUInt64 &&& Int64.toUInt64 63)).toInt64) &&& 6148914691236517205)) &&& 3689348814741910323) + ((((a1 - (((a1.toUInt64 >>> ((1 : Int32).toInt64.toUInt64 &&& Int64.toUInt64 63)).toInt64) &&& 6148914691236517205)).toUInt64 >>> ((2 : Int32).toInt64.toUInt64 &&& Int64.toUInt64 63)).toInt64) &&& 3689348814741910323)) + (((((a1 - (((a1.toUInt64 >>> ((1 : Int32).toInt64.toUInt64 &&& Int64.toUInt64 63)).toInt64) &&& 6148914691236517205)) &&& 3689348814741910323) + ((((a1 - (((a1.toUInt64 >>> ((1 : Int32).toInt64.toUInt64 &&& Int64.toUInt64 63)).toInt64) &&& 6148914691236517205)).toUInt64 >>> ((2 : Int32).toInt64.toUInt64 &&& Int64.toUInt64 63)).toInt64) &&& 3689348814741910323)).toUInt64 >>> ((4 : Int32).toInt64.toUInt64 &&& Int64.toUInt64 63)).toInt64)) &&& 1085102592571150095).toUInt64 >>> ((8 : Int32).toInt64.toUInt64 &&& Int64.toUInt64 63)).toInt64)).toUInt64 >>> ((16 : Int32).toInt64.toUInt64 &&& Int64.toUInt64 63)).toInt64))), none]) ⟨dJ13_bitCount_95d88_47, rfl⟩ (by decide) rfl rfl ?_
  refine y_lload_n (i := 0) (n := 49) ⟨dJ13_bitCount_95d88_48, rfl⟩ rfl ?_
  refine y_lload_n (i := 0) (n := 50) ⟨dJ13_bitCount_95d88_49, rfl⟩ rfl ?_
  refine y_bipush (n := 52) (v := 32) ⟨dJ13_bitCount_95d88_50, rfl⟩ kb_32 ?_
  refine y_lushr (n := 53) ⟨dJ13_bitCount_95d88_52, rfl⟩ ?_
  refine y_ladd (n := 54) ⟨dJ13_bitCount_95d88_53, rfl⟩ ?_
  refine y_lstore_n (i := 0) (n := 55) (L2 := [some (.long ((((((((a1 - (((a1.toUInt64 >>> ((1 : Int32).toInt64.toUInt64 &&& Int64.toUInt64 63)).toInt64) &&& 6148914691236517205)) &&& 3689348814741910323) + ((((a1 - (((a1.toUInt64 >>> ((1 : Int32).toInt64.toUInt64 &&& Int64.toUInt64 63)).toInt64) &&& 6148914691236517205)).toUInt64 >>> ((2 : Int32).toInt64.toUInt64 &&& Int64.toUInt64 63)).toInt64) &&& 3689348814741910323)) + (((((a1 - (((a1.toUInt64 >>> ((1 : Int32).toInt64.toUInt64 &&& Int64.toUInt64 63)).toInt64) &&& 6148914691236517205)) &&& 3689348814741910323) + ((((a1 - (((a1.toUInt64 >>> ((1 : Int32).toInt64.toUInt64 &&& Int64.toUInt64 63)).toInt64) &&& 6148914691236517205)).toUInt64 >>> ((2 : Int32).toInt64.toUInt64 &&& Int64.toUInt64 63)).toInt64) &&& 3689348814741910323)).toUInt64 >>> ((4 : Int32).toInt64.toUInt64 &&& Int64.toUInt64 63)).toInt64)) &&& 1085102592571150095) + (((((((a1 - (((a1.toUInt64 >>> ((1 : Int32).toInt64.toUInt64 &&& Int64.toUInt64 63)).toInt64) &&& 6148914691236517205)) &&& 3689348814741910323) + ((((a1 - (((a1.toUInt64 >>> ((1 : Int32).toInt64.toUInt64 &&& Int64.toUInt64 63)).toInt64) &&& 6148914691236517205)).toUInt64 >>> ((2 : Int32).toInt64.toUInt64 &&& Int64.toUInt64 63)).toInt64) &&& 3689348814741910323)) + (((((a1 - (((a1.toUInt64 >>> ((1 : Int32).toInt64.toUInt64 &&& Int64.toUInt64 63)).toInt64) &&& 6148914691236517205)) &&& 3689348814741910323) + ((((a1 - (((a1.toUInt64 >>> ((1 : Int32).toInt64.toUInt64 &&& Int64.toUInt64 63)).toInt64) &&& 6148914691236517205)).toUInt64 >>> ((2 : Int32).toInt64.toUInt64 &&& Int64.toUInt64 63)).toInt64) &&& 3689348814741910323)).toUInt64 >>> ((4 : Int32).toInt64.toUInt64 &&& Int64.toUInt64 63)).toInt64)) &&& 1085102592571150095).toUInt64 >>> ((8 : Int32).toInt64.toUInt64 &&& Int64.toUInt64 63)).toInt64)) + ((((((((a1 - (((a1.toUInt64 >>> ((1 : Int32).toInt64.toUInt64 &&& Int64.toUInt64 63)).toInt64) &&& 6148914691236517205)) &&& 3689348814741910323) + ((((a1 - (((a1.toUInt64 >>> ((1 : Int32).toInt64.toUInt64 &&& Int64.toUInt64 63)).toInt64) &&& 6148914691236517205)).toUInt64 >>> ((2 : Int32).toInt64.toUInt64 &&& Int64.toUInt64 63)).toInt64) &&& 3689348814741910323)) + (((((a1 - (((a1.toUInt64 >>> ((1 : Int32).toInt64.toUInt64 &&& Int64.toUInt64 63)).toInt64) &&& 6148914691236517205)) &&& 3689348814741910323) + ((((a1 - (((a1.toUInt64 >>> ((1 : Int32).toInt64.toUInt64 &&& Int64.toUInt64 63)).toInt64) &&& 6148914691236517205)).toUInt64 >>> ((2 : Int32).toInt64.toUInt64 &&& Int64.toUInt64 63)).toInt64) &&& 3689348814741910323)).toUInt64 >>> ((4 : Int32).toInt64.toUInt64 &&& Int64.toUInt64 63)).toInt64)) &&& 1085102592571150095) + (((((((a1 - (((a1.toUInt64 >>> ((1 : Int32).toInt64.toUInt64 &&& Int64.toUInt64 63)).toInt64) &&& 6148914691236517205)) &&& 3689348814741910323) + ((((a1 - (((a1.toUInt64 >>> ((1 : Int32).toInt64.toUInt64 &&& Int64.toUInt64 63)).toInt64) &&& 6148914691236517205)).toUInt64 >>> ((2 : Int32).toInt64.toUInt64 &&& Int64.toUInt64 63)).toInt64) &&& 3689348814741910323)) + (((((a1 - (((a1.toUInt64 >>> ((1 : Int32).toInt64.toUInt64 &&& Int64.toUInt64 63)).toInt64) &&& 6148914691236517205)) &&& 3689348814741910323) + ((((a1 - (((a1.toUInt64 >>> ((1 : Int32).toInt64.toUInt64 &&& Int64.toUInt64 63)).toInt64) &&& 6148914691236517205)).toUInt64 >>> ((2 : Int32).toInt64.toUInt64 &&& Int64.toUInt64 63)).toInt64) &&& 3689348814741910323)).toUInt64 >>> ((4 : Int32).toInt64.toUInt64 &&& Int64.toUInt64 63)).toInt64)) &&& 1085102592571150095).toUInt64 >>> ((8 : Int32).toInt64.toUInt64 &&& Int64.toUInt64 63)).toInt64)).toUInt64 >>> ((16 : Int32).toInt64.toUInt64 &&& Int64.toUInt64 63)).toInt64)) + (((((((((a1 - (((a1.toUInt64 >>> ((1 : Int32).toInt64.toUInt64 &&& Int64.toUInt64 63)).toInt64) &&& 6148914691236517205)) &&& 3689348814741910323) + ((((a1 - (((a1.toUInt64 >>> ((1 : Int32).toInt64.toUInt64 &&& Int64.toUInt64 63)).toInt64) &&& 6148914691236517205)).toUInt64 >>> ((2 : Int32).toInt64.toUInt64 &&& Int64.toUInt64 63)).toInt64) &&& 3689348814741910323)) + (((((a1 - (((a1.toUInt64 >>> ((1 : Int32).toInt64.toUInt64 &&& Int64.toUInt64 63)).toInt64) &&& 6148914691236517205)) &&& 3689348814741910323) + ((((a1 - (((a1.toUInt64 >>> ((1 : Int32).toInt64.toUInt64 &&& Int64.toUInt64 63)).toInt64) &&& 6148914691236517205)).toUInt64 >>> ((2 : Int32).toInt64.toUInt64 &&& Int64.toUInt64 63)).toInt64) &&& 3689348814741910323)).toUInt64 >>> ((4 : Int32).toInt64.toUInt64 &&& Int64.toUInt64 63)).toInt64)) &&& 1085102592571150095) + (((((((a1 - (((a1.toUInt64 >>> ((1 : Int32).toInt64.toUInt64 &&& Int64.toUInt64 63)).toInt64) &&& 6148914691236517205)) &&& 3689348814741910323) + ((((a1 - (((a1.toUInt64 >>> ((1 : Int32).toInt64.toUInt64 &&& Int64.toUInt64 63)).toInt64) &&& 6148914691236517205)).toUInt64 >>> ((2 : Int32).toInt64.toUInt64 &&& Int64.toUInt64 63)).toInt64) &&& 3689348814741910323)) + (((((a1 - (((a1.toUInt64 >>> ((1 : Int32).toInt64.toUInt64 &&& Int64.toUInt64 63)).toInt64) &&& 6148914691236517205)) &&& 3689348814741910323) + ((((a1 - (((a1.toUInt64 >>> ((1 : Int32).toInt64.toUInt64 &&& Int64.toUInt64 63)).toInt64) &&& 6148914691236517205)).toUInt64 >>> ((2 : Int32).toInt64.toUInt64 &&& Int64.toUInt64 63)).toInt64) &&& 3689348814741910323)).toUInt64 >>> ((4 : Int32).toInt64.toUInt64 &&& Int64.toUInt64 63)).toInt64)) &&& 1085102592571150095).toUInt64 >>> ((8 : Int32).toInt64.toUInt64 &&& Int64.toUInt64 63)).toInt64)) + ((((((((a1 - (((a1.toUInt64 >>> ((1 : Int32).toInt64.toUInt64 &&& Int64.toUInt64 63)).toInt64) &&& 6148914691236517205)) &&& 3689348814741910323) + ((((a1 - (((a1.toUInt64 >>> ((1 : Int32).toInt64.toUInt64 &&& Int64.toUInt64 63)).toInt64) &&& 6148914691236517205)).toUInt64 >>> ((2 : Int32).toInt64.toUInt64 &&& Int64.toUInt64 63)).toInt64) &&& 3689348814741910323)) + (((((a1 - (((a1.toUInt64 >>> ((1 : Int32).toInt64.toUInt64 &&& Int64.toUInt64 63)).toInt64) &&& 6148914691236517205)) &&& 3689348814741910323) + ((((a1 - (((a1.toUInt64 >>> ((1 : Int32).toInt64.toUInt64 &&& Int64.toUInt64 63)).toInt64) &&& 6148914691236517205)).toUInt64 >>> ((2 : Int32).toInt64.toUInt64 &&& Int64.toUInt64 63)).toInt64) &&& 3689348814741910323)).toUInt64 >>> ((4 : Int32).toInt64.toUInt64 &&& Int64.toUInt64 63)).toInt64)) &&& 1085102592571150095) + (((((((a1 - (((a1.toUInt64 >>> ((1 : Int32).toInt64.toUInt64 &&& Int64.toUInt64 63)).toInt64) &&& 6148914691236517205)) &&& 3689348814741910323) + ((((a1 - (((a1.toUInt64 >>> ((1 : Int32).toInt64.toUInt64 &&& Int64.toUInt64 63)).toInt64) &&& 6148914691236517205)).toUInt64 >>> ((2 : Int32).toInt64.toUInt64 &&& Int64.toUInt64 63)).toInt64) &&& 3689348814741910323)) + (((((a1 - (((a1.toUInt64 >>> ((1 : Int32).toInt64.toUInt64 &&& Int64.toUInt64 63)).toInt64) &&& 6148914691236517205)) &&& 3689348814741910323) + ((((a1 - (((a1.toUInt64 >>> ((1 : Int32).toInt64.toUInt64 &&& Int64.toUInt64 63)).toInt64) &&& 6148914691236517205)).toUInt64 >>> ((2 : Int32).toInt64.toUInt64 &&& Int64.toUInt64 63)).toInt64) &&& 3689348814741910323)).toUInt64 >>> ((4 : Int32).toInt64.toUInt64 &&& Int64.toUInt64 63)).toInt64)) &&& 1085102592571150095).toUInt64 >>> ((8 : Int32).toInt64.toUInt64 &&& Int64.toUInt64 63)).toInt64)).toUInt64 >>> ((16 : Int32).toInt64.toUInt64 &&& Int64.toUInt64 63)).toInt64)).toUInt64 >>> ((32 : Int32).toInt64.toUInt64 &&& Int64.toUInt64 63)).toInt64))), none]) ⟨dJ13_bitCount_95d88_54, rfl⟩ (by decide) rfl rfl ?_
  refine y_lload_n (i := 0) (n := 56) ⟨dJ13_bitCount_95d88_55, rfl⟩ rfl ?_
  refine y_l2i (n := 57) ⟨dJ13_bitCount_95d88_56, rfl⟩ ?_
  refine y_bipush (n := 59) (v := 127) ⟨dJ13_bitCount_95d88_57, rfl⟩ kb_127 ?_
  refine y_iand (n := 60) ⟨dJ13_bitCount_95d88_59, rfl⟩ ?_
  cases hf
  exact y_ireturn (n := 61) ⟨dJ13_bitCount_95d88_60, rfl⟩ rfl rfl hk
theorem c_jd_bitCount_95d88 (a1 : Int64) (M : dM) {o : Int32} {y : mz_M} {d : Nat} {Q : mz_P} {pc n i : Nat} {L : List (Option Value)} {st : List Value} (h : mz_d y.2.1 pc n 3 (.invokestatic i)) (hl : mz_ml y.1.cls i yJ13_bitCount_95d88) (hf : f_jd_bitCount_95d88 a1 = o) (hd : 1 + 1 ≤ d) (hsm : (st.map (fun v => v.category)).sum ≤ 8) (hLr : mz_rL 133 L = true) (hSr : mz_rS 133 st = true) (kk : mW y d Q n L (.int o :: st) M) : mW y d Q pc L (.long a1 :: st) M :=
  y_callS kmJ13_bitCount_95d88 ksJ13_bitCount_95d88 h hl (ok_jd_bitCount_95d88 a1 M hf) (vs := [.long a1]) rfl rfl hd hsm hLr hSr kk
noncomputable def f_la_join (a1 : Int32) (a2 : Int32) (a3 : Int32) : Int32 :=
  if a1 = 20001 then
    if a2 = 0 then
      0
    else
      if a3 = 0 then
        0
      else
        1
  else
  if a1 = 20002 then
    if a2 = 0 then
      if a3 = 0 then
        0
      else
        1
    else
      1
  else
  if a1 = 20003 then
    if a3 ≤ a2 then
      0
    else
      1
  else
  if a1 = 20004 then
    if a2 = a3 then
      1
    else
      0
  else
  if a1 = 20005 then
    (a2 + a3)
  else
  if a1 = 20006 then
    (a2 - a3)
  else
  (a2 * a3)
theorem ok_la_join (a1 : Int32) (a2 : Int32) (a3 : Int32) (M : dM) {o : Int32} (hf : f_la_join a1 a2 a3 = o) : mO mX3_join 1 [.int a1, .int a2, .int a3] M (some (.int o)) M := by
  refine y_ok (by decide +kernel) (by decide) (L0 := [some (.int a1), some (.int a2), some (.int a3)]) rfl ?_
  have hk := mR_mQ (some (.int o)) M
  generalize mQ _ _ = Q at hk ⊢
  unfold f_la_join at hf
  refine y_iload_n (i := 0) (n := 1) ⟨dX3_join_0, rfl⟩ rfl ?_
  by_cases hc0 : a1 = 20001
  · replace hf := i_t hc0 hf
    refine y_tabIn (t := 40) (off := 39) dX3_join_1 (sw_lo hc0 (by decide)) (sw_hi hc0 (by decide)) (sw_at hc0 (by decide)) rfl ?_
    refine y_iload_n (i := 1) (n := 41) ⟨dX3_join_40, rfl⟩ rfl ?_
    refine y_if_eq (t := 52) (n := 44) ⟨dX3_join_41, rfl, rfl⟩ (fun (hc : a2 = 0) => ?_) (fun (hc : ¬ (a2 = 0)) => ?_)
    · replace hf := i_t hc hf
      refine y_iconst (n := 53) (v := 0) ⟨dX3_join_52, rfl⟩ ki_0 ?_
      cases hf
      exact y_ireturn (n := 54) ⟨dX3_join_53, rfl⟩ rfl rfl hk
    · replace hf := i_f hc hf
      refine y_iload_n (i := 2) (n := 45) ⟨dX3_join_44, rfl⟩ rfl ?_
      refine y_if_eq (t := 52) (n := 48) ⟨dX3_join_45, rfl, rfl⟩ (fun (hc : a3 = 0) => ?_) (fun (hc : ¬ (a3 = 0)) => ?_)
      · replace hf := i_t hc hf
        refine y_iconst (n := 53) (v := 0) ⟨dX3_join_52, rfl⟩ ki_0 ?_
        cases hf
        exact y_ireturn (n := 54) ⟨dX3_join_53, rfl⟩ rfl rfl hk
      · replace hf := i_f hc hf
        refine y_iconst (n := 49) (v := 1) ⟨dX3_join_48, rfl⟩ ki_1 ?_
        refine y_goto (t := 53) ⟨dX3_join_49, rfl, rfl⟩ ?_
        cases hf
        exact y_ireturn (n := 54) ⟨dX3_join_53, rfl⟩ rfl rfl hk
  replace hf := i_f hc0 hf
  by_cases hc1 : a1 = 20002
  · replace hf := i_t hc1 hf
    refine y_tabIn (t := 54) (off := 53) dX3_join_1 (sw_lo hc1 (by decide)) (sw_hi hc1 (by decide)) (sw_at hc1 (by decide)) rfl ?_
    refine y_iload_n (i := 1) (n := 55) ⟨dX3_join_54, rfl⟩ rfl ?_
    refine y_if_ne (t := 62) (n := 58) ⟨dX3_join_55, rfl, rfl⟩ (fun (hc : ¬ (a2 = 0)) => ?_) (fun (hc : a2 = 0) => ?_)
    · replace hf := i_f hc hf
      refine y_iconst (n := 63) (v := 1) ⟨dX3_join_62, rfl⟩ ki_1 ?_
      refine y_goto (t := 67) ⟨dX3_join_63, rfl, rfl⟩ ?_
      cases hf
      exact y_ireturn (n := 68) ⟨dX3_join_67, rfl⟩ rfl rfl hk
    · replace hf := i_t hc hf
      refine y_iload_n (i := 2) (n := 59) ⟨dX3_join_58, rfl⟩ rfl ?_
      refine y_if_eq (t := 66) (n := 62) ⟨dX3_join_59, rfl, rfl⟩ (fun (hc : a3 = 0) => ?_) (fun (hc : ¬ (a3 = 0)) => ?_)
      · replace hf := i_t hc hf
        refine y_iconst (n := 67) (v := 0) ⟨dX3_join_66, rfl⟩ ki_0 ?_
        cases hf
        exact y_ireturn (n := 68) ⟨dX3_join_67, rfl⟩ rfl rfl hk
      · replace hf := i_f hc hf
        refine y_iconst (n := 63) (v := 1) ⟨dX3_join_62, rfl⟩ ki_1 ?_
        refine y_goto (t := 67) ⟨dX3_join_63, rfl, rfl⟩ ?_
        cases hf
        exact y_ireturn (n := 68) ⟨dX3_join_67, rfl⟩ rfl rfl hk
  replace hf := i_f hc1 hf
  by_cases hc2 : a1 = 20003
  · replace hf := i_t hc2 hf
    refine y_tabIn (t := 68) (off := 67) dX3_join_1 (sw_lo hc2 (by decide)) (sw_hi hc2 (by decide)) (sw_at hc2 (by decide)) rfl ?_
    refine y_iload_n (i := 1) (n := 69) ⟨dX3_join_68, rfl⟩ rfl ?_
    refine y_iload_n (i := 2) (n := 70) ⟨dX3_join_69, rfl⟩ rfl ?_
    refine y_icmp_ge (t := 77) (n := 73) ⟨dX3_join_70, rfl, rfl⟩ (fun (hc : a3 ≤ a2) => ?_) (fun (hc : ¬ (a3 ≤ a2)) => ?_)
    · replace hf := i_t hc hf
      refine y_iconst (n := 78) (v := 0) ⟨dX3_join_77, rfl⟩ ki_0 ?_
      cases hf
      exact y_ireturn (n := 79) ⟨dX3_join_78, rfl⟩ rfl rfl hk
    · replace hf := i_f hc hf
      refine y_iconst (n := 74) (v := 1) ⟨dX3_join_73, rfl⟩ ki_1 ?_
      refine y_goto (t := 78) ⟨dX3_join_74, rfl, rfl⟩ ?_
      cases hf
      exact y_ireturn (n := 79) ⟨dX3_join_78, rfl⟩ rfl rfl hk
  replace hf := i_f hc2 hf
  by_cases hc3 : a1 = 20004
  · replace hf := i_t hc3 hf
    refine y_tabIn (t := 79) (off := 78) dX3_join_1 (sw_lo hc3 (by decide)) (sw_hi hc3 (by decide)) (sw_at hc3 (by decide)) rfl ?_
    refine y_iload_n (i := 1) (n := 80) ⟨dX3_join_79, rfl⟩ rfl ?_
    refine y_iload_n (i := 2) (n := 81) ⟨dX3_join_80, rfl⟩ rfl ?_
    refine y_icmp_ne (t := 88) (n := 84) ⟨dX3_join_81, rfl, rfl⟩ (fun (hc : ¬ (a2 = a3)) => ?_) (fun (hc : a2 = a3) => ?_)
    · replace hf := i_f hc hf
      refine y_iconst (n := 89) (v := 0) ⟨dX3_join_88, rfl⟩ ki_0 ?_
      cases hf
      exact y_ireturn (n := 90) ⟨dX3_join_89, rfl⟩ rfl rfl hk
    · replace hf := i_t hc hf
      refine y_iconst (n := 85) (v := 1) ⟨dX3_join_84, rfl⟩ ki_1 ?_
      refine y_goto (t := 89) ⟨dX3_join_85, rfl, rfl⟩ ?_
      cases hf
      exact y_ireturn (n := 90) ⟨dX3_join_89, rfl⟩ rfl rfl hk
  replace hf := i_f hc3 hf
  by_cases hc4 : a1 = 20005
  · replace hf := i_t hc4 hf
    refine y_tabIn (t := 90) (off := 89) dX3_join_1 (sw_lo hc4 (by decide)) (sw_hi hc4 (by decide)) (sw_at hc4 (by decide)) rfl ?_
    refine y_iload_n (i := 1) (n := 91) ⟨dX3_join_90, rfl⟩ rfl ?_
    refine y_iload_n (i := 2) (n := 92) ⟨dX3_join_91, rfl⟩ rfl ?_
    refine y_iadd (n := 93) ⟨dX3_join_92, rfl⟩ ?_
    cases hf
    exact y_ireturn (n := 94) ⟨dX3_join_93, rfl⟩ rfl rfl hk
  replace hf := i_f hc4 hf
  by_cases hc5 : a1 = 20006
  · replace hf := i_t hc5 hf
    refine y_tabIn (t := 94) (off := 93) dX3_join_1 (sw_lo hc5 (by decide)) (sw_hi hc5 (by decide)) (sw_at hc5 (by decide)) rfl ?_
    refine y_iload_n (i := 1) (n := 95) ⟨dX3_join_94, rfl⟩ rfl ?_
    refine y_iload_n (i := 2) (n := 96) ⟨dX3_join_95, rfl⟩ rfl ?_
    refine y_isub (n := 97) ⟨dX3_join_96, rfl⟩ ?_
    cases hf
    exact y_ireturn (n := 98) ⟨dX3_join_97, rfl⟩ rfl rfl hk
  replace hf := i_f hc5 hf
  refine y_tabOut (t := 98) dX3_join_1 (sw_out (lo := 20001) (cs := [20001, 20002, 20003, 20004, 20005, 20006]) (by decide) (by decide) ⟨hc0, hc1, hc2, hc3, hc4, hc5, trivial⟩) rfl ?_
  refine y_iload_n (i := 1) (n := 99) ⟨dX3_join_98, rfl⟩ rfl ?_
  refine y_iload_n (i := 2) (n := 100) ⟨dX3_join_99, rfl⟩ rfl ?_
  refine y_imul (n := 101) ⟨dX3_join_100, rfl⟩ ?_
  cases hf
  exact y_ireturn (n := 102) ⟨dX3_join_101, rfl⟩ rfl rfl hk
theorem c_la_join (a1 : Int32) (a2 : Int32) (a3 : Int32) (M : dM) {o : Int32} {y : mz_M} {d : Nat} {Q : mz_P} {pc n i : Nat} {L : List (Option Value)} {st : List Value} (h : mz_d y.2.1 pc n 3 (.invokestatic i)) (hl : mz_ml y.1.cls i yX3_join) (hf : f_la_join a1 a2 a3 = o) (hd : 1 + 1 ≤ d) (hsm : (st.map (fun v => v.category)).sum ≤ 8) (hLr : mz_rL 133 L = true) (hSr : mz_rS 133 st = true) (kk : mW y d Q n L (.int o :: st) M) : mW y d Q pc L (.int a3 :: .int a2 :: .int a1 :: st) M :=
  y_callS kmX3_join ksX3_join h hl (ok_la_join a1 a2 a3 M hf) (vs := [.int a1, .int a2, .int a3]) rfl rfl hd hsm hLr hSr kk
def K_la_valueOf_27_40_11 (Q : mz_P) (x1 : Int32) (x3 : Int32) (M : dM) : ((Int32 × Int32 × dM) ⊕ (Int32 × dM)) → Prop
  | .inl s => mW mX3_valueOf 2 Q 11 [some (.ref 27), some (.int x1), some (.ref 40), some (.int x3), some (.int s.1), some (.int s.2.1), none] [] s.2.2
  | .inr t => mW mX3_valueOf 2 Q 169 [some (.ref 27), none, none, none, some (.int t.1), none, none] [] t.2
noncomputable def b_la_valueOf_27_40_11_120 (x1 : Int32) (x3 : Int32) (x4 : Int32) (x5 : Int32) (y1 : Int32) (y2 : Int32) (M : dM) : Option ((Int32 × Int32 × dM) ⊕ (Int32 × dM)) :=
  gd (vp_in y1 32) <|
  some (.inl (x4, (x5 + 1), (sI M 31 y1.toNatClampNeg y2)))
noncomputable def b_la_valueOf_27_40_11_75 (x1 : Int32) (x3 : Int32) (x4 : Int32) (x5 : Int32) (y1 : Int32) (y2 : Int32) (M : dM) : Option ((Int32 × Int32 × dM) ⊕ (Int32 × dM)) :=
  gd (vp_in y1 32) <|
  some (.inl ((x4 + 1), (x5 + 1), (sI M 31 y1.toNatClampNeg y2)))
noncomputable def b_la_valueOf_27_40_11_11 (x1 : Int32) (x3 : Int32) (x4 : Int32) (x5 : Int32) (M : dM) : Option ((Int32 × Int32 × dM) ⊕ (Int32 × dM)) :=
  gd (vp_in x1 21) <|
  if (gI M 30 x1.toNatClampNeg) ≤ x5 then
    some (.inr (x4, M))
  else
    gd (vp_in x5 1000) <|
    if 20000 ≤ (gI M 28 x5.toNatClampNeg) then
      if (gI M 28 x5.toNatClampNeg) = 20000 then
        if x4 ≤ 0 then
          some (.inl (x4, (x5 + 1), M))
        else
          gd (vp_in (x4 - 1) 32) <|
          if (gI M 31 (x4 - 1).toNatClampNeg) = 0 then
            b_la_valueOf_27_40_11_120 x1 x3 x4 x5 (x4 - 1) 1 M
          else
            b_la_valueOf_27_40_11_120 x1 x3 x4 x5 (x4 - 1) 0 M
      else
        if x4 ≤ 1 then
          some (.inl (x4, (x5 + 1), M))
        else
          gd (vp_in ((x4 + (-1)) - 1) 32) <|
          gd (vp_in (x4 + (-1)) 32) <|
          some (.inl ((x4 + (-1)), (x5 + 1), (sI M 31 ((x4 + (-1)) - 1).toNatClampNeg (f_la_join (gI M 28 x5.toNatClampNeg) (gI M 31 ((x4 + (-1)) - 1).toNatClampNeg) (gI M 31 (x4 + (-1)).toNatClampNeg)))))
    else
      if 32 ≤ x4 then
        some (.inl (x4, (x5 + 1), M))
      else
        if 10000 ≤ (gI M 28 x5.toNatClampNeg) then
          gd (vp_in ((x3 + (gI M 28 x5.toNatClampNeg)) - 10000) 697) <|
          b_la_valueOf_27_40_11_75 x1 x3 x4 x5 x4 (gI M 40 ((x3 + (gI M 28 x5.toNatClampNeg)) - 10000).toNatClampNeg) M
        else
          b_la_valueOf_27_40_11_75 x1 x3 x4 x5 x4 (gI M 28 x5.toNatClampNeg) M
noncomputable def l_la_valueOf_27_40_11 (x1 : Int32) (x3 : Int32) (x4 : Int32) (x5 : Int32) (M : dM) : Option (Int32 × dM) := lpc (fun s => b_la_valueOf_27_40_11_11 x1 x3 s.1 s.2.1 s.2.2) (x4, x5, M)
noncomputable def f_la_valueOf_27_40 (a1 : Int32) (a3 : Int32) (M : dM) : Option (Int32 × dM) :=
  gd (vp_in a1 21) <|
  (l_la_valueOf_27_40_11 a1 a3 0 (gI M 29 a1.toNatClampNeg) M).bind fun t10 =>
    if t10.1 ≤ 0 then
      some (0, t10.2)
    else
      some ((gI t10.2 31 0), t10.2)
theorem w_b_la_valueOf_27_40_11_120 (x1 : Int32) (x3 : Int32) (x4 : Int32) (x5 : Int32) (y1 : Int32) (y2 : Int32) (M : dM) {Q : mz_P} {o : ((Int32 × Int32 × dM) ⊕ (Int32 × dM))} (hf : b_la_valueOf_27_40_11_120 x1 x3 x4 x5 y1 y2 M = some o) (hk : K_la_valueOf_27_40_11 Q x1 x3 M o) : mW mX3_valueOf 2 Q 120 [some (.ref 27), some (.int x1), some (.ref 40), some (.int x3), some (.int x4), some (.int x5), none] [.ref 31, .int y1, .int y2] M := by
  unfold b_la_valueOf_27_40_11_120 at hf
  obtain ⟨hg7, hf⟩ := g_s hf
  refine y_iastore (n := 121) ⟨dX3_valueOf_120, rfl⟩ l_31 hg7 ?_
  refine y_goto (t := 163) ⟨dX3_valueOf_121, rfl, rfl⟩ ?_
  refine y_iinc (i := 5) (n := 166) (b := (x5 + 1)) (L2 := [some (.ref 27), some (.int x1), some (.ref 40), some (.int x3), some (.int x4), some (.int (x5 + 1)), none]) ⟨dX3_valueOf_163, rfl⟩ rfl (by rw [ki_1]) (by decide) rfl rfl ?_
  refine y_goto (t := 11) ⟨dX3_valueOf_166, rfl, rfl⟩ ?_
  cases hf
  exact y_wk ⟨Or.inr rfl, Or.inr rfl, Or.inr rfl, Or.inr rfl, Or.inr rfl, Or.inr rfl, Or.inr rfl, trivial⟩ hk
theorem w_b_la_valueOf_27_40_11_75 (x1 : Int32) (x3 : Int32) (x4 : Int32) (x5 : Int32) (y1 : Int32) (y2 : Int32) (M : dM) {Q : mz_P} {o : ((Int32 × Int32 × dM) ⊕ (Int32 × dM))} (hf : b_la_valueOf_27_40_11_75 x1 x3 x4 x5 y1 y2 M = some o) (hk : K_la_valueOf_27_40_11 Q x1 x3 M o) : mW mX3_valueOf 2 Q 75 [some (.ref 27), some (.int x1), some (.ref 40), some (.int x3), some (.int x4), some (.int x5), none] [.ref 31, .int y1, .int y2] M := by
  unfold b_la_valueOf_27_40_11_75 at hf
  obtain ⟨hg9, hf⟩ := g_s hf
  refine y_iastore (n := 76) ⟨dX3_valueOf_75, rfl⟩ l_31 hg9 ?_
  refine y_iinc (i := 4) (n := 79) (b := (x4 + 1)) (L2 := [some (.ref 27), some (.int x1), some (.ref 40), some (.int x3), some (.int (x4 + 1)), some (.int x5), none]) ⟨dX3_valueOf_76, rfl⟩ rfl (by rw [ki_1]) (by decide) rfl rfl ?_
  refine y_goto (t := 163) ⟨dX3_valueOf_79, rfl, rfl⟩ ?_
  refine y_iinc (i := 5) (n := 166) (b := (x5 + 1)) (L2 := [some (.ref 27), some (.int x1), some (.ref 40), some (.int x3), some (.int (x4 + 1)), some (.int (x5 + 1)), none]) ⟨dX3_valueOf_163, rfl⟩ rfl (by rw [ki_1]) (by decide) rfl rfl ?_
  refine y_goto (t := 11) ⟨dX3_valueOf_166, rfl, rfl⟩ ?_
  cases hf
  exact y_wk ⟨Or.inr rfl, Or.inr rfl, Or.inr rfl, Or.inr rfl, Or.inr rfl, Or.inr rfl, Or.inr rfl, trivial⟩ hk
theorem w_b_la_valueOf_27_40_11_11 (x1 : Int32) (x3 : Int32) (x4 : Int32) (x5 : Int32) (M : dM) {Q : mz_P} {o : ((Int32 × Int32 × dM) ⊕ (Int32 × dM))} (hf : b_la_valueOf_27_40_11_11 x1 x3 x4 x5 M = some o) (hk : K_la_valueOf_27_40_11 Q x1 x3 M o) : mW mX3_valueOf 2 Q 11 [some (.ref 27), some (.int x1), some (.ref 40), some (.int x3), some (.int x4), some (.int x5), none] [] M := by
  unfold b_la_valueOf_27_40_11_11 at hf
  refine y_iload (i := 5) (n := 13) ⟨dX3_valueOf_11, rfl⟩ rfl ?_
  refine y_aload_n (i := 0) (n := 14) ⟨dX3_valueOf_13, rfl⟩ rfl ?_
  refine y_getR (n := 17) ⟨dX3_valueOf_14, rfl⟩ kfX3_18 l_27 rfl r_27_3 ?_
  refine y_iload_n (i := 1) (n := 18) ⟨dX3_valueOf_17, rfl⟩ rfl ?_
  obtain ⟨hg2, hf⟩ := g_s hf
  refine y_iaload (n := 19) ⟨dX3_valueOf_18, rfl⟩ l_30 hg2 ?_
  refine y_icmp_ge (t := 169) (n := 22) ⟨dX3_valueOf_19, rfl, rfl⟩ (fun (hc : (gI M 30 x1.toNatClampNeg) ≤ x5) => ?_) (fun (hc : ¬ ((gI M 30 x1.toNatClampNeg) ≤ x5)) => ?_)
  · replace hf := i_t hc hf
    cases hf
    exact y_wk ⟨Or.inr rfl, Or.inl rfl, Or.inl rfl, Or.inl rfl, Or.inr rfl, Or.inl rfl, Or.inr rfl, trivial⟩ hk
  · replace hf := i_f hc hf
    refine y_aload_n (i := 0) (n := 23) ⟨dX3_valueOf_22, rfl⟩ rfl ?_
    refine y_getR (n := 26) ⟨dX3_valueOf_23, rfl⟩ kfX3_11 l_27 rfl r_27_0 ?_
    refine y_iload (i := 5) (n := 28) ⟨dX3_valueOf_26, rfl⟩ rfl ?_
    obtain ⟨hg3, hf⟩ := g_s hf
    refine y_iaload (n := 29) ⟨dX3_valueOf_28, rfl⟩ l_28 hg3 ?_
    refine y_istore (i := 6) (n := 31) (L2 := [some (.ref 27), some (.int x1), some (.ref 40), some (.int x3), some (.int x4), some (.int x5), some (.int (gI M 28 x5.toNatClampNeg))]) ⟨dX3_valueOf_29, rfl⟩ (by decide) rfl rfl ?_
    refine y_iload (i := 6) (n := 33) ⟨dX3_valueOf_31, rfl⟩ rfl ?_
    refine y_sipush (n := 36) (v := 20000) ⟨dX3_valueOf_33, rfl⟩ ks_20000 ?_
    refine y_icmp_ge (t := 82) (n := 39) ⟨dX3_valueOf_36, rfl, rfl⟩ (fun (hc : 20000 ≤ (gI M 28 x5.toNatClampNeg)) => ?_) (fun (hc : ¬ (20000 ≤ (gI M 28 x5.toNatClampNeg))) => ?_)
    · replace hf := i_t hc hf
      refine y_iload (i := 6) (n := 84) ⟨dX3_valueOf_82, rfl⟩ rfl ?_
      refine y_sipush (n := 87) (v := 20000) ⟨dX3_valueOf_84, rfl⟩ ks_20000 ?_
      refine y_icmp_ne (t := 124) (n := 90) ⟨dX3_valueOf_87, rfl, rfl⟩ (fun (hc : ¬ ((gI M 28 x5.toNatClampNeg) = 20000)) => ?_) (fun (hc : (gI M 28 x5.toNatClampNeg) = 20000) => ?_)
      · replace hf := i_f hc hf
        refine y_iload (i := 4) (n := 126) ⟨dX3_valueOf_124, rfl⟩ rfl ?_
        refine y_iconst (n := 127) (v := 1) ⟨dX3_valueOf_126, rfl⟩ ki_1 ?_
        refine y_icmp_le (t := 163) (n := 130) ⟨dX3_valueOf_127, rfl, rfl⟩ (fun (hc : x4 ≤ 1) => ?_) (fun (hc : ¬ (x4 ≤ 1)) => ?_)
        · replace hf := i_t hc hf
          refine y_iinc (i := 5) (n := 166) (b := (x5 + 1)) (L2 := [some (.ref 27), some (.int x1), some (.ref 40), some (.int x3), some (.int x4), some (.int (x5 + 1)), some (.int (gI M 28 x5.toNatClampNeg))]) ⟨dX3_valueOf_163, rfl⟩ rfl (by rw [ki_1]) (by decide) rfl rfl ?_
          refine y_goto (t := 11) ⟨dX3_valueOf_166, rfl, rfl⟩ ?_
          cases hf
          exact y_wk ⟨Or.inr rfl, Or.inr rfl, Or.inr rfl, Or.inr rfl, Or.inr rfl, Or.inr rfl, Or.inl rfl, trivial⟩ hk
        · replace hf := i_f hc hf
          refine y_iinc (i := 4) (n := 133) (b := (x4 + (-1))) (L2 := [some (.ref 27), some (.int x1), some (.ref 40), some (.int x3), some (.int (x4 + (-1))), some (.int x5), some (.int (gI M 28 x5.toNatClampNeg))]) ⟨dX3_valueOf_130, rfl⟩ rfl (by rw [ki_m1]) (by decide) rfl rfl ?_
          refine y_aload_n (i := 0) (n := 134) ⟨dX3_valueOf_133, rfl⟩ rfl ?_
          refine y_getR (n := 137) ⟨dX3_valueOf_134, rfl⟩ kfX3_28 l_27 rfl r_27_8 ?_
          refine y_iload (i := 4) (n := 139) ⟨dX3_valueOf_137, rfl⟩ rfl ?_
          refine y_iconst (n := 140) (v := 1) ⟨dX3_valueOf_139, rfl⟩ ki_1 ?_
          refine y_isub (n := 141) ⟨dX3_valueOf_140, rfl⟩ ?_
          refine y_iload (i := 6) (n := 143) ⟨dX3_valueOf_141, rfl⟩ rfl ?_
          refine y_aload_n (i := 0) (n := 144) ⟨dX3_valueOf_143, rfl⟩ rfl ?_
          refine y_getR (n := 147) ⟨dX3_valueOf_144, rfl⟩ kfX3_28 l_27 rfl r_27_8 ?_
          refine y_iload (i := 4) (n := 149) ⟨dX3_valueOf_147, rfl⟩ rfl ?_
          refine y_iconst (n := 150) (v := 1) ⟨dX3_valueOf_149, rfl⟩ ki_1 ?_
          refine y_isub (n := 151) ⟨dX3_valueOf_150, rfl⟩ ?_
          obtain ⟨hg4, hf⟩ := g_s hf
          refine y_iaload (n := 152) ⟨dX3_valueOf_151, rfl⟩ l_31 hg4 ?_
          refine y_aload_n (i := 0) (n := 153) ⟨dX3_valueOf_152, rfl⟩ rfl ?_
          refine y_getR (n := 156) ⟨dX3_valueOf_153, rfl⟩ kfX3_28 l_27 rfl r_27_8 ?_
          refine y_iload (i := 4) (n := 158) ⟨dX3_valueOf_156, rfl⟩ rfl ?_
          obtain ⟨hg5, hf⟩ := g_s hf
          refine y_iaload (n := 159) ⟨dX3_valueOf_158, rfl⟩ l_31 hg5 ?_
          refine c_la_join (gI M 28 x5.toNatClampNeg) (gI M 31 ((x4 + (-1)) - 1).toNatClampNeg) (gI M 31 (x4 + (-1)).toNatClampNeg) M (n := 162) ⟨dX3_valueOf_159, rfl⟩ klX3_60 rfl (by decide) (Nat.le_of_ble_eq_true rfl) rfl rfl ?_
          refine y_iastore (n := 163) ⟨dX3_valueOf_162, rfl⟩ l_31 hg4 ?_
          refine y_iinc (i := 5) (n := 166) (b := (x5 + 1)) (L2 := [some (.ref 27), some (.int x1), some (.ref 40), some (.int x3), some (.int (x4 + (-1))), some (.int (x5 + 1)), some (.int (gI M 28 x5.toNatClampNeg))]) ⟨dX3_valueOf_163, rfl⟩ rfl (by rw [ki_1]) (by decide) rfl rfl ?_
          refine y_goto (t := 11) ⟨dX3_valueOf_166, rfl, rfl⟩ ?_
          cases hf
          exact y_wk ⟨Or.inr rfl, Or.inr rfl, Or.inr rfl, Or.inr rfl, Or.inr rfl, Or.inr rfl, Or.inl rfl, trivial⟩ hk
      · replace hf := i_t hc hf
        refine y_iload (i := 4) (n := 92) ⟨dX3_valueOf_90, rfl⟩ rfl ?_
        refine y_if_le (t := 163) (n := 95) ⟨dX3_valueOf_92, rfl, rfl⟩ (fun (hc : x4 ≤ 0) => ?_) (fun (hc : ¬ (x4 ≤ 0)) => ?_)
        · replace hf := i_t hc hf
          refine y_iinc (i := 5) (n := 166) (b := (x5 + 1)) (L2 := [some (.ref 27), some (.int x1), some (.ref 40), some (.int x3), some (.int x4), some (.int (x5 + 1)), some (.int (gI M 28 x5.toNatClampNeg))]) ⟨dX3_valueOf_163, rfl⟩ rfl (by rw [ki_1]) (by decide) rfl rfl ?_
          refine y_goto (t := 11) ⟨dX3_valueOf_166, rfl, rfl⟩ ?_
          cases hf
          exact y_wk ⟨Or.inr rfl, Or.inr rfl, Or.inr rfl, Or.inr rfl, Or.inr rfl, Or.inr rfl, Or.inl rfl, trivial⟩ hk
        · replace hf := i_f hc hf
          refine y_aload_n (i := 0) (n := 96) ⟨dX3_valueOf_95, rfl⟩ rfl ?_
          refine y_getR (n := 99) ⟨dX3_valueOf_96, rfl⟩ kfX3_28 l_27 rfl r_27_8 ?_
          refine y_iload (i := 4) (n := 101) ⟨dX3_valueOf_99, rfl⟩ rfl ?_
          refine y_iconst (n := 102) (v := 1) ⟨dX3_valueOf_101, rfl⟩ ki_1 ?_
          refine y_isub (n := 103) ⟨dX3_valueOf_102, rfl⟩ ?_
          refine y_aload_n (i := 0) (n := 104) ⟨dX3_valueOf_103, rfl⟩ rfl ?_
          refine y_getR (n := 107) ⟨dX3_valueOf_104, rfl⟩ kfX3_28 l_27 rfl r_27_8 ?_
          refine y_iload (i := 4) (n := 109) ⟨dX3_valueOf_107, rfl⟩ rfl ?_
          refine y_iconst (n := 110) (v := 1) ⟨dX3_valueOf_109, rfl⟩ ki_1 ?_
          refine y_isub (n := 111) ⟨dX3_valueOf_110, rfl⟩ ?_
          obtain ⟨hg6, hf⟩ := g_s hf
          refine y_iaload (n := 112) ⟨dX3_valueOf_111, rfl⟩ l_31 hg6 ?_
          refine y_if_ne (t := 119) (n := 115) ⟨dX3_valueOf_112, rfl, rfl⟩ (fun (hc : ¬ ((gI M 31 (x4 - 1).toNatClampNeg) = 0)) => ?_) (fun (hc : (gI M 31 (x4 - 1).toNatClampNeg) = 0) => ?_)
          · replace hf := i_f hc hf
            refine y_iconst (n := 120) (v := 0) ⟨dX3_valueOf_119, rfl⟩ ki_0 ?_
            exact y_wk ⟨Or.inr rfl, Or.inr rfl, Or.inr rfl, Or.inr rfl, Or.inr rfl, Or.inr rfl, Or.inl rfl, trivial⟩ (w_b_la_valueOf_27_40_11_120 x1 x3 x4 x5 (x4 - 1) 0 M hf hk)
          · replace hf := i_t hc hf
            refine y_iconst (n := 116) (v := 1) ⟨dX3_valueOf_115, rfl⟩ ki_1 ?_
            refine y_goto (t := 120) ⟨dX3_valueOf_116, rfl, rfl⟩ ?_
            exact y_wk ⟨Or.inr rfl, Or.inr rfl, Or.inr rfl, Or.inr rfl, Or.inr rfl, Or.inr rfl, Or.inl rfl, trivial⟩ (w_b_la_valueOf_27_40_11_120 x1 x3 x4 x5 (x4 - 1) 1 M hf hk)
    · replace hf := i_f hc hf
      refine y_iload (i := 4) (n := 41) ⟨dX3_valueOf_39, rfl⟩ rfl ?_
      refine y_bipush (n := 43) (v := 32) ⟨dX3_valueOf_41, rfl⟩ kb_32 ?_
      refine y_icmp_ge (t := 163) (n := 46) ⟨dX3_valueOf_43, rfl, rfl⟩ (fun (hc : 32 ≤ x4) => ?_) (fun (hc : ¬ (32 ≤ x4)) => ?_)
      · replace hf := i_t hc hf
        refine y_iinc (i := 5) (n := 166) (b := (x5 + 1)) (L2 := [some (.ref 27), some (.int x1), some (.ref 40), some (.int x3), some (.int x4), some (.int (x5 + 1)), some (.int (gI M 28 x5.toNatClampNeg))]) ⟨dX3_valueOf_163, rfl⟩ rfl (by rw [ki_1]) (by decide) rfl rfl ?_
        refine y_goto (t := 11) ⟨dX3_valueOf_166, rfl, rfl⟩ ?_
        cases hf
        exact y_wk ⟨Or.inr rfl, Or.inr rfl, Or.inr rfl, Or.inr rfl, Or.inr rfl, Or.inr rfl, Or.inl rfl, trivial⟩ hk
      · replace hf := i_f hc hf
        refine y_aload_n (i := 0) (n := 47) ⟨dX3_valueOf_46, rfl⟩ rfl ?_
        refine y_getR (n := 50) ⟨dX3_valueOf_47, rfl⟩ kfX3_28 l_27 rfl r_27_8 ?_
        refine y_iload (i := 4) (n := 52) ⟨dX3_valueOf_50, rfl⟩ rfl ?_
        refine y_iload (i := 6) (n := 54) ⟨dX3_valueOf_52, rfl⟩ rfl ?_
        refine y_sipush (n := 57) (v := 10000) ⟨dX3_valueOf_54, rfl⟩ ks_10000 ?_
        refine y_icmp_ge (t := 65) (n := 60) ⟨dX3_valueOf_57, rfl, rfl⟩ (fun (hc : 10000 ≤ (gI M 28 x5.toNatClampNeg)) => ?_) (fun (hc : ¬ (10000 ≤ (gI M 28 x5.toNatClampNeg))) => ?_)
        · replace hf := i_t hc hf
          refine y_aload_n (i := 2) (n := 66) ⟨dX3_valueOf_65, rfl⟩ rfl ?_
          refine y_iload_n (i := 3) (n := 67) ⟨dX3_valueOf_66, rfl⟩ rfl ?_
          refine y_iload (i := 6) (n := 69) ⟨dX3_valueOf_67, rfl⟩ rfl ?_
          refine y_iadd (n := 70) ⟨dX3_valueOf_69, rfl⟩ ?_
          refine y_sipush (n := 73) (v := 10000) ⟨dX3_valueOf_70, rfl⟩ ks_10000 ?_
          refine y_isub (n := 74) ⟨dX3_valueOf_73, rfl⟩ ?_
          obtain ⟨hg8, hf⟩ := g_s hf
          refine y_iaload (n := 75) ⟨dX3_valueOf_74, rfl⟩ l_40 hg8 ?_
          exact y_wk ⟨Or.inr rfl, Or.inr rfl, Or.inr rfl, Or.inr rfl, Or.inr rfl, Or.inr rfl, Or.inl rfl, trivial⟩ (w_b_la_valueOf_27_40_11_75 x1 x3 x4 x5 x4 (gI M 40 ((x3 + (gI M 28 x5.toNatClampNeg)) - 10000).toNatClampNeg) M hf hk)
        · replace hf := i_f hc hf
          refine y_iload (i := 6) (n := 62) ⟨dX3_valueOf_60, rfl⟩ rfl ?_
          refine y_goto (t := 75) ⟨dX3_valueOf_62, rfl, rfl⟩ ?_
          exact y_wk ⟨Or.inr rfl, Or.inr rfl, Or.inr rfl, Or.inr rfl, Or.inr rfl, Or.inr rfl, Or.inl rfl, trivial⟩ (w_b_la_valueOf_27_40_11_75 x1 x3 x4 x5 x4 (gI M 28 x5.toNatClampNeg) M hf hk)
theorem wl_la_valueOf_27_40_11 (x1 : Int32) (x3 : Int32) (x4 : Int32) (x5 : Int32) (M : dM) {Q : mz_P} {x : (Int32 × dM)} (hf : l_la_valueOf_27_40_11 x1 x3 x4 x5 M = some x) (hk : K_la_valueOf_27_40_11 Q x1 x3 M (.inr x)) : mW mX3_valueOf 2 Q 11 [some (.ref 27), some (.int x1), some (.ref 40), some (.int x3), some (.int x4), some (.int x5), none] [] M :=
  lpc_wp (Wh := fun s => mW mX3_valueOf 2 Q 11 [some (.ref 27), some (.int x1), some (.ref 40), some (.int x3), some (.int s.1), some (.int s.2.1), none] [] s.2.2) (K := K_la_valueOf_27_40_11 Q x1 x3 M) (fun _ h => h) (fun s o hb hk => w_b_la_valueOf_27_40_11_11 x1 x3 s.1 s.2.1 s.2.2 hb hk) hf hk
theorem ok_la_valueOf_27_40 (a1 : Int32) (a3 : Int32) (M : dM) {o : (Int32 × dM)} (hf : f_la_valueOf_27_40 a1 a3 M = some o) : mO mX3_valueOf 2 [.ref 27, .int a1, .ref 40, .int a3] M (some (.int o.1)) o.2 := by
  refine y_ok (by decide +kernel) (by decide) (L0 := [some (.ref 27), some (.int a1), some (.ref 40), some (.int a3), none, none, none]) rfl ?_
  have hk := mR_mQ (some (.int o.1)) o.2
  generalize mQ _ _ = Q at hk ⊢
  unfold f_la_valueOf_27_40 at hf
  refine y_iconst (n := 1) (v := 0) ⟨dX3_valueOf_0, rfl⟩ ki_0 ?_
  refine y_istore (i := 4) (n := 3) (L2 := [some (.ref 27), some (.int a1), some (.ref 40), some (.int a3), some (.int 0), none, none]) ⟨dX3_valueOf_1, rfl⟩ (by decide) rfl rfl ?_
  refine y_aload_n (i := 0) (n := 4) ⟨dX3_valueOf_3, rfl⟩ rfl ?_
  refine y_getR (n := 7) ⟨dX3_valueOf_4, rfl⟩ kfX3_15 l_27 rfl r_27_2 ?_
  refine y_iload_n (i := 1) (n := 8) ⟨dX3_valueOf_7, rfl⟩ rfl ?_
  obtain ⟨hg1, hf⟩ := g_s hf
  refine y_iaload (n := 9) ⟨dX3_valueOf_8, rfl⟩ l_29 hg1 ?_
  refine y_istore (i := 5) (n := 11) (L2 := [some (.ref 27), some (.int a1), some (.ref 40), some (.int a3), some (.int 0), some (.int (gI M 29 a1.toNatClampNeg)), none]) ⟨dX3_valueOf_9, rfl⟩ (by decide) rfl rfl ?_
  obtain ⟨t10, hl11, hf⟩ := b_s hf
  refine y_wk ⟨Or.inr rfl, Or.inr rfl, Or.inr rfl, Or.inr rfl, Or.inr rfl, Or.inr rfl, Or.inr rfl, trivial⟩ (wl_la_valueOf_27_40_11 a1 a3 0 (gI M 29 a1.toNatClampNeg) M hl11 ?_)
  show mW mX3_valueOf 2 Q 169 [some (.ref 27), none, none, none, some (.int t10.1), none, none] [] t10.2
  refine y_iload (i := 4) (n := 171) ⟨dX3_valueOf_169, rfl⟩ rfl ?_
  refine y_if_le (t := 183) (n := 174) ⟨dX3_valueOf_171, rfl, rfl⟩ (fun (hc : t10.1 ≤ 0) => ?_) (fun (hc : ¬ (t10.1 ≤ 0)) => ?_)
  · replace hf := i_t hc hf
    refine y_iconst (n := 184) (v := 0) ⟨dX3_valueOf_183, rfl⟩ ki_0 ?_
    cases hf
    exact y_ireturn (n := 185) ⟨dX3_valueOf_184, rfl⟩ rfl rfl hk
  · replace hf := i_f hc hf
    refine y_aload_n (i := 0) (n := 175) ⟨dX3_valueOf_174, rfl⟩ rfl ?_
    refine y_getR (n := 178) ⟨dX3_valueOf_175, rfl⟩ kfX3_28 l_27 rfl r_27_8 ?_
    refine y_iconst (n := 179) (v := 0) ⟨dX3_valueOf_178, rfl⟩ ki_0 ?_
    refine y_iaload (n := 180) ⟨dX3_valueOf_179, rfl⟩ l_31 (by unfold vp_in; decide) ?_
    refine y_goto (t := 184) ⟨dX3_valueOf_180, rfl, rfl⟩ ?_
    cases hf
    exact y_ireturn (n := 185) ⟨dX3_valueOf_184, rfl⟩ rfl rfl hk
theorem c_la_valueOf_27_40 (a1 : Int32) (a3 : Int32) (M : dM) {o : (Int32 × dM)} {y : mz_M} {d : Nat} {Q : mz_P} {pc n i : Nat} {L : List (Option Value)} {st : List Value} (h : mz_d y.2.1 pc n 3 (.invokevirtual i)) (hl : mz_ml y.1.cls i yX3_valueOf) (hf : f_la_valueOf_27_40 a1 a3 M = some o) (hd : 2 + 1 ≤ d) (hsm : (st.map (fun v => v.category)).sum ≤ 8) (hLr : mz_rL 133 L = true) (hSr : mz_rS 133 st = true) (kk : mW y d Q n L (.int o.1 :: st) o.2) : mW y d Q pc L (.int a3 :: .ref 40 :: .int a1 :: .ref 27 :: st) M :=
  y_callV kmX3_valueOf kvX3_valueOf l_27 (by decide +kernel) (by decide +kernel) h hl (ok_la_valueOf_27_40 a1 a3 M hf) (vs := [.int a1, .ref 40, .int a3]) rfl rfl hd hsm hLr hSr kk
def K_la_judgeBy_2 (Q : mz_P) (x2 : Int32) (M : dM) : ((Int32 × dM) ⊕ (dM ⊕ (Int32 × dM))) → Prop
  | .inl s => mW mX3_judgeBy 3 Q 2 [some (.ref 27), some (.ref 40), some (.int x2), some (.int s.1)] [] s.2
  | .inr (.inl t) => mW mX3_judgeBy 3 Q 30 [some (.ref 27), some (.ref 40), some (.int x2), none] [] t
  | .inr (.inr r) => mR Q (some (.int r.1)) r.2
noncomputable def b_la_judgeBy_2_2 (x2 : Int32) (x3 : Int32) (M : dM) : Option ((Int32 × dM) ⊕ (dM ⊕ (Int32 × dM))) :=
  if (gI M 27 4) ≤ x3 then
    some (.inr (.inl M))
  else
    (f_la_valueOf_27_40 (0 + x3) x2 M).bind fun q1 =>
    if q1.1 = 0 then
      some (.inl ((x3 + 1), q1.2))
    else
      some (.inr (.inr (2, q1.2)))
noncomputable def l_la_judgeBy_2 (x2 : Int32) (x3 : Int32) (M : dM) : Option (dM ⊕ (Int32 × dM)) := lpc (fun s => b_la_judgeBy_2_2 x2 s.1 s.2) (x3, M)
def K_la_judgeBy_32 (Q : mz_P) (x2 : Int32) (M : dM) : ((Int32 × dM) ⊕ (Int32 × dM)) → Prop
  | .inl s => mW mX3_judgeBy 3 Q 32 [some (.ref 27), some (.ref 40), some (.int x2), some (.int s.1)] [] s.2
  | .inr r => mR Q (some (.int r.1)) r.2
noncomputable def b_la_judgeBy_32_32 (x2 : Int32) (x3 : Int32) (M : dM) : Option ((Int32 × dM) ⊕ (Int32 × dM)) :=
  if (gI M 27 5) ≤ x3 then
    some (.inr (0, M))
  else
    (f_la_valueOf_27_40 (6 + x3) x2 M).bind fun q6 =>
    if q6.1 = 0 then
      some (.inl ((x3 + 1), q6.2))
    else
      some (.inr (1, q6.2))
noncomputable def l_la_judgeBy_32 (x2 : Int32) (x3 : Int32) (M : dM) : Option (Int32 × dM) := lpc (fun s => b_la_judgeBy_32_32 x2 s.1 s.2) (x3, M)
noncomputable def f_la_judgeBy (a2 : Int32) (M : dM) : Option (Int32 × dM) :=
  (l_la_judgeBy_2 a2 0 M).bind (Sum.elim (fun t3 =>
      (l_la_judgeBy_32 a2 0 t3).bind fun r10 => some r10
    ) (fun r5 => some r5))
theorem w_b_la_judgeBy_2_2 (x2 : Int32) (x3 : Int32) (M : dM) {Q : mz_P} {o : ((Int32 × dM) ⊕ (dM ⊕ (Int32 × dM)))} (hf : b_la_judgeBy_2_2 x2 x3 M = some o) (hk : K_la_judgeBy_2 Q x2 M o) : mW mX3_judgeBy 3 Q 2 [some (.ref 27), some (.ref 40), some (.int x2), some (.int x3)] [] M := by
  unfold b_la_judgeBy_2_2 at hf
  refine y_iload_n (i := 3) (n := 3) ⟨dX3_judgeBy_2, rfl⟩ rfl ?_
  refine y_aload_n (i := 0) (n := 4) ⟨dX3_judgeBy_3, rfl⟩ rfl ?_
  refine y_getI (n := 7) ⟨dX3_judgeBy_4, rfl⟩ kfX3_40 l_27 rfl ?_
  refine y_icmp_ge (t := 30) (n := 10) ⟨dX3_judgeBy_7, rfl, rfl⟩ (fun (hc : (gI M 27 4) ≤ x3) => ?_) (fun (hc : ¬ ((gI M 27 4) ≤ x3)) => ?_)
  · replace hf := i_t hc hf
    cases hf
    exact y_wk ⟨Or.inr rfl, Or.inr rfl, Or.inr rfl, Or.inl rfl, trivial⟩ hk
  · replace hf := i_f hc hf
    refine y_aload_n (i := 0) (n := 11) ⟨dX3_judgeBy_10, rfl⟩ rfl ?_
    refine y_iconst (n := 12) (v := 0) ⟨dX3_judgeBy_11, rfl⟩ ki_0 ?_
    refine y_iload_n (i := 3) (n := 13) ⟨dX3_judgeBy_12, rfl⟩ rfl ?_
    refine y_iadd (n := 14) ⟨dX3_judgeBy_13, rfl⟩ ?_
    refine y_aload_n (i := 1) (n := 15) ⟨dX3_judgeBy_14, rfl⟩ rfl ?_
    refine y_iload_n (i := 2) (n := 16) ⟨dX3_judgeBy_15, rfl⟩ rfl ?_
    obtain ⟨q1, hv2, hf⟩ := b_s hf
    refine c_la_valueOf_27_40 (0 + x3) x2 M (n := 19) ⟨dX3_judgeBy_16, rfl⟩ klX3_56 hv2 (by decide) (Nat.le_of_ble_eq_true rfl) rfl rfl ?_
    refine y_if_eq (t := 24) (n := 22) ⟨dX3_judgeBy_19, rfl, rfl⟩ (fun (hc : q1.1 = 0) => ?_) (fun (hc : ¬ (q1.1 = 0)) => ?_)
    · replace hf := i_t hc hf
      refine y_iinc (i := 3) (n := 27) (b := (x3 + 1)) (L2 := [some (.ref 27), some (.ref 40), some (.int x2), some (.int (x3 + 1))]) ⟨dX3_judgeBy_24, rfl⟩ rfl (by rw [ki_1]) (by decide) rfl rfl ?_
      refine y_goto (t := 2) ⟨dX3_judgeBy_27, rfl, rfl⟩ ?_
      cases hf
      exact y_wk ⟨Or.inr rfl, Or.inr rfl, Or.inr rfl, Or.inr rfl, trivial⟩ hk
    · replace hf := i_f hc hf
      refine y_iconst (n := 23) (v := 2) ⟨dX3_judgeBy_22, rfl⟩ ki_2 ?_
      cases hf
      exact y_ireturn (n := 24) ⟨dX3_judgeBy_23, rfl⟩ rfl rfl hk
theorem wl_la_judgeBy_2 (x2 : Int32) (x3 : Int32) (M : dM) {Q : mz_P} {x : (dM ⊕ (Int32 × dM))} (hf : l_la_judgeBy_2 x2 x3 M = some x) (hk : K_la_judgeBy_2 Q x2 M (.inr x)) : mW mX3_judgeBy 3 Q 2 [some (.ref 27), some (.ref 40), some (.int x2), some (.int x3)] [] M :=
  lpc_wp (Wh := fun s => mW mX3_judgeBy 3 Q 2 [some (.ref 27), some (.ref 40), some (.int x2), some (.int s.1)] [] s.2) (K := K_la_judgeBy_2 Q x2 M) (fun _ h => h) (fun s o hb hk => w_b_la_judgeBy_2_2 x2 s.1 s.2 hb hk) hf hk
theorem w_b_la_judgeBy_32_32 (x2 : Int32) (x3 : Int32) (M : dM) {Q : mz_P} {o : ((Int32 × dM) ⊕ (Int32 × dM))} (hf : b_la_judgeBy_32_32 x2 x3 M = some o) (hk : K_la_judgeBy_32 Q x2 M o) : mW mX3_judgeBy 3 Q 32 [some (.ref 27), some (.ref 40), some (.int x2), some (.int x3)] [] M := by
  unfold b_la_judgeBy_32_32 at hf
  refine y_iload_n (i := 3) (n := 33) ⟨dX3_judgeBy_32, rfl⟩ rfl ?_
  refine y_aload_n (i := 0) (n := 34) ⟨dX3_judgeBy_33, rfl⟩ rfl ?_
  refine y_getI (n := 37) ⟨dX3_judgeBy_34, rfl⟩ kfX3_43 l_27 rfl ?_
  refine y_icmp_ge (t := 61) (n := 40) ⟨dX3_judgeBy_37, rfl, rfl⟩ (fun (hc : (gI M 27 5) ≤ x3) => ?_) (fun (hc : ¬ ((gI M 27 5) ≤ x3)) => ?_)
  · replace hf := i_t hc hf
    refine y_iconst (n := 62) (v := 0) ⟨dX3_judgeBy_61, rfl⟩ ki_0 ?_
    cases hf
    exact y_ireturn (n := 63) ⟨dX3_judgeBy_62, rfl⟩ rfl rfl hk
  · replace hf := i_f hc hf
    refine y_aload_n (i := 0) (n := 41) ⟨dX3_judgeBy_40, rfl⟩ rfl ?_
    refine y_bipush (n := 43) (v := 6) ⟨dX3_judgeBy_41, rfl⟩ kb_6 ?_
    refine y_iload_n (i := 3) (n := 44) ⟨dX3_judgeBy_43, rfl⟩ rfl ?_
    refine y_iadd (n := 45) ⟨dX3_judgeBy_44, rfl⟩ ?_
    refine y_aload_n (i := 1) (n := 46) ⟨dX3_judgeBy_45, rfl⟩ rfl ?_
    refine y_iload_n (i := 2) (n := 47) ⟨dX3_judgeBy_46, rfl⟩ rfl ?_
    obtain ⟨q6, hv7, hf⟩ := b_s hf
    refine c_la_valueOf_27_40 (6 + x3) x2 M (n := 50) ⟨dX3_judgeBy_47, rfl⟩ klX3_56 hv7 (by decide) (Nat.le_of_ble_eq_true rfl) rfl rfl ?_
    refine y_if_eq (t := 55) (n := 53) ⟨dX3_judgeBy_50, rfl, rfl⟩ (fun (hc : q6.1 = 0) => ?_) (fun (hc : ¬ (q6.1 = 0)) => ?_)
    · replace hf := i_t hc hf
      refine y_iinc (i := 3) (n := 58) (b := (x3 + 1)) (L2 := [some (.ref 27), some (.ref 40), some (.int x2), some (.int (x3 + 1))]) ⟨dX3_judgeBy_55, rfl⟩ rfl (by rw [ki_1]) (by decide) rfl rfl ?_
      refine y_goto (t := 32) ⟨dX3_judgeBy_58, rfl, rfl⟩ ?_
      cases hf
      exact y_wk ⟨Or.inr rfl, Or.inr rfl, Or.inr rfl, Or.inr rfl, trivial⟩ hk
    · replace hf := i_f hc hf
      refine y_iconst (n := 54) (v := 1) ⟨dX3_judgeBy_53, rfl⟩ ki_1 ?_
      cases hf
      exact y_ireturn (n := 55) ⟨dX3_judgeBy_54, rfl⟩ rfl rfl hk
theorem wl_la_judgeBy_32 (x2 : Int32) (x3 : Int32) (M : dM) {Q : mz_P} {x : (Int32 × dM)} (hf : l_la_judgeBy_32 x2 x3 M = some x) (hk : K_la_judgeBy_32 Q x2 M (.inr x)) : mW mX3_judgeBy 3 Q 32 [some (.ref 27), some (.ref 40), some (.int x2), some (.int x3)] [] M :=
  lpc_wp (Wh := fun s => mW mX3_judgeBy 3 Q 32 [some (.ref 27), some (.ref 40), some (.int x2), some (.int s.1)] [] s.2) (K := K_la_judgeBy_32 Q x2 M) (fun _ h => h) (fun s o hb hk => w_b_la_judgeBy_32_32 x2 s.1 s.2 hb hk) hf hk
theorem ok_la_judgeBy (a2 : Int32) (M : dM) {o : (Int32 × dM)} (hf : f_la_judgeBy a2 M = some o) : mO mX3_judgeBy 3 [.ref 27, .ref 40, .int a2] M (some (.int o.1)) o.2 := by
  refine y_ok (by decide +kernel) (by decide) (L0 := [some (.ref 27), some (.ref 40), some (.int a2), none]) rfl ?_
  have hk := mR_mQ (some (.int o.1)) o.2
  generalize mQ _ _ = Q at hk ⊢
  unfold f_la_judgeBy at hf
  refine y_iconst (n := 1) (v := 0) ⟨dX3_judgeBy_0, rfl⟩ ki_0 ?_
  refine y_istore_n (i := 3) (n := 2) (L2 := [some (.ref 27), some (.ref 40), some (.int a2), some (.int 0)]) ⟨dX3_judgeBy_1, rfl⟩ (by decide) rfl rfl ?_
  obtain ⟨z11, hl4, hf⟩ := b_s hf
  refine y_wk ⟨Or.inr rfl, Or.inr rfl, Or.inr rfl, Or.inr rfl, trivial⟩ (wl_la_judgeBy_2 a2 0 M hl4 ?_)
  rcases z11 with t3 | r5
  · show mW mX3_judgeBy 3 Q 30 [some (.ref 27), some (.ref 40), some (.int a2), none] [] t3
    refine y_iconst (n := 31) (v := 0) ⟨dX3_judgeBy_30, rfl⟩ ki_0 ?_
    refine y_istore_n (i := 3) (n := 32) (L2 := [some (.ref 27), some (.ref 40), some (.int a2), some (.int 0)]) ⟨dX3_judgeBy_31, rfl⟩ (by decide) rfl rfl ?_
    obtain ⟨r10, hl9, hf⟩ := b_s hf
    cases hf
    exact y_wk ⟨Or.inr rfl, Or.inr rfl, Or.inr rfl, Or.inr rfl, trivial⟩ (wl_la_judgeBy_32 a2 0 t3 hl9 hk)
  · cases hf
    exact hk
theorem c_la_judgeBy (a2 : Int32) (M : dM) {o : (Int32 × dM)} {y : mz_M} {d : Nat} {Q : mz_P} {pc n i : Nat} {L : List (Option Value)} {st : List Value} (h : mz_d y.2.1 pc n 3 (.invokevirtual i)) (hl : mz_ml y.1.cls i yX3_judgeBy) (hf : f_la_judgeBy a2 M = some o) (hd : 3 + 1 ≤ d) (hsm : (st.map (fun v => v.category)).sum ≤ 8) (hLr : mz_rL 133 L = true) (hSr : mz_rS 133 st = true) (kk : mW y d Q n L (.int o.1 :: st) o.2) : mW y d Q pc L (.int a2 :: .ref 40 :: .ref 27 :: st) M :=
  y_callV kmX3_judgeBy kvX3_judgeBy l_27 (by decide +kernel) (by decide +kernel) h hl (ok_la_judgeBy a2 M hf) (vs := [.ref 40, .int a2]) rfl rfl hd hsm hLr hSr kk
def K_ju_judgeAll_8 (Q : mz_P)  (M : dM) : ((Int32 × Int32 × dM) ⊕ dM) → Prop
  | .inl s => mW mX2_judgeAll 4 Q 8 [some (.ref 39), some (.int s.1), some (.int s.2.1), none] [] s.2.2
  | .inr r => mR Q none r
noncomputable def b_ju_judgeAll_8_8 (x1 : Int32) (x2 : Int32) (M : dM) : Option ((Int32 × Int32 × dM) ⊕ dM) :=
  if (gI M 12 7) ≤ x2 then
    some (.inr M)
  else
    gd (vp_in x2 40) <|
    (f_ju_placeFacts (x2 * 17) (gI M 13 x2.toNatClampNeg) (gI M 15 x2.toNatClampNeg) (gI M 16 x2.toNatClampNeg) (gI M 17 x2.toNatClampNeg) M).bind fun q4 =>
    (f_ju_thingFacts (x2 * 17) (gI q4 13 x2.toNatClampNeg) (gI q4 14 x2.toNatClampNeg) (gI q4 18 x2.toNatClampNeg) x1 q4).bind fun q6 =>
    gd (vp_in ((x2 * 17) + 11) 697) <|
    gd (vp_in ((x2 * 17) + 16) 697) <|
    (f_la_judgeBy (x2 * 17) (sI (sI q6.2 40 ((x2 * 17) + 11).toNatClampNeg (gI q6.2 19 x2.toNatClampNeg)) 40 ((x2 * 17) + 16).toNatClampNeg (f_jd_bitCount_95d88 (gJ (sI q6.2 40 ((x2 * 17) + 11).toNatClampNeg (gI q6.2 19 x2.toNatClampNeg)) 42 x2.toNatClampNeg)))).bind fun q10 =>
    some (.inl (q6.1, (x2 + 1), (sI q10.2 41 x2.toNatClampNeg q10.1)))
noncomputable def l_ju_judgeAll_8 (x1 : Int32) (x2 : Int32) (M : dM) : Option dM := lpc (fun s => b_ju_judgeAll_8_8 s.1 s.2.1 s.2.2) (x1, x2, M)
noncomputable def f_ju_judgeAll (M : dM) : Option dM :=
  (f_ju_pairTwins M).bind fun q1 =>
  (l_ju_judgeAll_8 (-1) 0 q1).bind fun r14 => some r14
theorem w_b_ju_judgeAll_8_8 (x1 : Int32) (x2 : Int32) (M : dM) {Q : mz_P} {o : ((Int32 × Int32 × dM) ⊕ dM)} (hf : b_ju_judgeAll_8_8 x1 x2 M = some o) (hk : K_ju_judgeAll_8 Q  M o) : mW mX2_judgeAll 4 Q 8 [some (.ref 39), some (.int x1), some (.int x2), none] [] M := by
  unfold b_ju_judgeAll_8_8 at hf
  refine y_iload_n (i := 2) (n := 9) ⟨dX2_judgeAll_8, rfl⟩ rfl ?_
  refine y_aload_n (i := 0) (n := 10) ⟨dX2_judgeAll_9, rfl⟩ rfl ?_
  refine y_getR (n := 13) ⟨dX2_judgeAll_10, rfl⟩ kfX2_40 l_39 rfl r_39_2 ?_
  refine y_getI (n := 16) ⟨dX2_judgeAll_13, rfl⟩ kfX2_51 l_12 rfl ?_
  refine y_icmp_ge (t := 159) (n := 19) ⟨dX2_judgeAll_16, rfl, rfl⟩ (fun (hc : (gI M 12 7) ≤ x2) => ?_) (fun (hc : ¬ ((gI M 12 7) ≤ x2)) => ?_)
  · replace hf := i_t hc hf
    cases hf
    exact y_return (n := 160) ⟨dX2_judgeAll_159, rfl⟩ rfl hk
  · replace hf := i_f hc hf
    refine y_iload_n (i := 2) (n := 20) ⟨dX2_judgeAll_19, rfl⟩ rfl ?_
    refine y_bipush (n := 22) (v := 17) ⟨dX2_judgeAll_20, rfl⟩ kb_17 ?_
    refine y_imul (n := 23) ⟨dX2_judgeAll_22, rfl⟩ ?_
    refine y_istore_n (i := 3) (n := 24) (L2 := [some (.ref 39), some (.int x1), some (.int x2), some (.int (x2 * 17))]) ⟨dX2_judgeAll_23, rfl⟩ (by decide) rfl rfl ?_
    refine y_aload_n (i := 0) (n := 25) ⟨dX2_judgeAll_24, rfl⟩ rfl ?_
    refine y_iload_n (i := 3) (n := 26) ⟨dX2_judgeAll_25, rfl⟩ rfl ?_
    refine y_aload_n (i := 0) (n := 27) ⟨dX2_judgeAll_26, rfl⟩ rfl ?_
    refine y_getR (n := 30) ⟨dX2_judgeAll_27, rfl⟩ kfX2_40 l_39 rfl r_39_2 ?_
    refine y_getR (n := 33) ⟨dX2_judgeAll_30, rfl⟩ kfX2_56 l_12 rfl r_12_0 ?_
    refine y_iload_n (i := 2) (n := 34) ⟨dX2_judgeAll_33, rfl⟩ rfl ?_
    obtain ⟨hg3, hf⟩ := g_s hf
    refine y_iaload (n := 35) ⟨dX2_judgeAll_34, rfl⟩ l_13 hg3 ?_
    refine y_aload_n (i := 0) (n := 36) ⟨dX2_judgeAll_35, rfl⟩ rfl ?_
    refine y_getR (n := 39) ⟨dX2_judgeAll_36, rfl⟩ kfX2_40 l_39 rfl r_39_2 ?_
    refine y_getR (n := 42) ⟨dX2_judgeAll_39, rfl⟩ kfX2_59 l_12 rfl r_12_2 ?_
    refine y_iload_n (i := 2) (n := 43) ⟨dX2_judgeAll_42, rfl⟩ rfl ?_
    refine y_iaload (n := 44) ⟨dX2_judgeAll_43, rfl⟩ l_15 hg3 ?_
    refine y_aload_n (i := 0) (n := 45) ⟨dX2_judgeAll_44, rfl⟩ rfl ?_
    refine y_getR (n := 48) ⟨dX2_judgeAll_45, rfl⟩ kfX2_40 l_39 rfl r_39_2 ?_
    refine y_getR (n := 51) ⟨dX2_judgeAll_48, rfl⟩ kfX2_62 l_12 rfl r_12_3 ?_
    refine y_iload_n (i := 2) (n := 52) ⟨dX2_judgeAll_51, rfl⟩ rfl ?_
    refine y_iaload (n := 53) ⟨dX2_judgeAll_52, rfl⟩ l_16 hg3 ?_
    refine y_aload_n (i := 0) (n := 54) ⟨dX2_judgeAll_53, rfl⟩ rfl ?_
    refine y_getR (n := 57) ⟨dX2_judgeAll_54, rfl⟩ kfX2_40 l_39 rfl r_39_2 ?_
    refine y_getR (n := 60) ⟨dX2_judgeAll_57, rfl⟩ kfX2_65 l_12 rfl r_12_4 ?_
    refine y_iload_n (i := 2) (n := 61) ⟨dX2_judgeAll_60, rfl⟩ rfl ?_
    refine y_iaload (n := 62) ⟨dX2_judgeAll_61, rfl⟩ l_17 hg3 ?_
    obtain ⟨q4, hv5, hf⟩ := b_s hf
    refine c_ju_placeFacts (x2 * 17) (gI M 13 x2.toNatClampNeg) (gI M 15 x2.toNatClampNeg) (gI M 16 x2.toNatClampNeg) (gI M 17 x2.toNatClampNeg) M (n := 65) ⟨dX2_judgeAll_62, rfl⟩ klX2_68 hv5 (by decide) (Nat.le_of_ble_eq_true rfl) rfl rfl ?_
    refine y_aload_n (i := 0) (n := 66) ⟨dX2_judgeAll_65, rfl⟩ rfl ?_
    refine y_iload_n (i := 3) (n := 67) ⟨dX2_judgeAll_66, rfl⟩ rfl ?_
    refine y_aload_n (i := 0) (n := 68) ⟨dX2_judgeAll_67, rfl⟩ rfl ?_
    refine y_getR (n := 71) ⟨dX2_judgeAll_68, rfl⟩ kfX2_40 l_39 rfl r_39_2 ?_
    refine y_getR (n := 74) ⟨dX2_judgeAll_71, rfl⟩ kfX2_56 l_12 rfl r_12_0 ?_
    refine y_iload_n (i := 2) (n := 75) ⟨dX2_judgeAll_74, rfl⟩ rfl ?_
    refine y_iaload (n := 76) ⟨dX2_judgeAll_75, rfl⟩ l_13 hg3 ?_
    refine y_aload_n (i := 0) (n := 77) ⟨dX2_judgeAll_76, rfl⟩ rfl ?_
    refine y_getR (n := 80) ⟨dX2_judgeAll_77, rfl⟩ kfX2_40 l_39 rfl r_39_2 ?_
    refine y_getR (n := 83) ⟨dX2_judgeAll_80, rfl⟩ kfX2_72 l_12 rfl r_12_1 ?_
    refine y_iload_n (i := 2) (n := 84) ⟨dX2_judgeAll_83, rfl⟩ rfl ?_
    refine y_iaload (n := 85) ⟨dX2_judgeAll_84, rfl⟩ l_14 hg3 ?_
    refine y_aload_n (i := 0) (n := 86) ⟨dX2_judgeAll_85, rfl⟩ rfl ?_
    refine y_getR (n := 89) ⟨dX2_judgeAll_86, rfl⟩ kfX2_40 l_39 rfl r_39_2 ?_
    refine y_getR (n := 92) ⟨dX2_judgeAll_89, rfl⟩ kfX2_75 l_12 rfl r_12_5 ?_
    refine y_iload_n (i := 2) (n := 93) ⟨dX2_judgeAll_92, rfl⟩ rfl ?_
    refine y_iaload (n := 94) ⟨dX2_judgeAll_93, rfl⟩ l_18 hg3 ?_
    refine y_iload_n (i := 1) (n := 95) ⟨dX2_judgeAll_94, rfl⟩ rfl ?_
    obtain ⟨q6, hv7, hf⟩ := b_s hf
    refine c_ju_thingFacts (x2 * 17) (gI q4 13 x2.toNatClampNeg) (gI q4 14 x2.toNatClampNeg) (gI q4 18 x2.toNatClampNeg) x1 q4 (n := 98) ⟨dX2_judgeAll_95, rfl⟩ klX2_78 hv7 (by decide) (Nat.le_of_ble_eq_true rfl) rfl rfl ?_
    refine y_istore_n (i := 1) (n := 99) (L2 := [some (.ref 39), some (.int q6.1), some (.int x2), some (.int (x2 * 17))]) ⟨dX2_judgeAll_98, rfl⟩ (by decide) rfl rfl ?_
    refine y_aload_n (i := 0) (n := 100) ⟨dX2_judgeAll_99, rfl⟩ rfl ?_
    refine y_getR (n := 103) ⟨dX2_judgeAll_100, rfl⟩ kfX2_9 l_39 rfl r_39_4 ?_
    refine y_iload_n (i := 3) (n := 104) ⟨dX2_judgeAll_103, rfl⟩ rfl ?_
    refine y_bipush (n := 106) (v := 11) ⟨dX2_judgeAll_104, rfl⟩ kb_11 ?_
    refine y_iadd (n := 107) ⟨dX2_judgeAll_106, rfl⟩ ?_
    refine y_aload_n (i := 0) (n := 108) ⟨dX2_judgeAll_107, rfl⟩ rfl ?_
    refine y_getR (n := 111) ⟨dX2_judgeAll_108, rfl⟩ kfX2_40 l_39 rfl r_39_2 ?_
    refine y_getR (n := 114) ⟨dX2_judgeAll_111, rfl⟩ kfX2_82 l_12 rfl r_12_6 ?_
    refine y_iload_n (i := 2) (n := 115) ⟨dX2_judgeAll_114, rfl⟩ rfl ?_
    refine y_iaload (n := 116) ⟨dX2_judgeAll_115, rfl⟩ l_19 hg3 ?_
    obtain ⟨hg8, hf⟩ := g_s hf
    refine y_iastore (n := 117) ⟨dX2_judgeAll_116, rfl⟩ l_40 hg8 ?_
    refine y_aload_n (i := 0) (n := 118) ⟨dX2_judgeAll_117, rfl⟩ rfl ?_
    refine y_getR (n := 121) ⟨dX2_judgeAll_118, rfl⟩ kfX2_9 l_39 rfl r_39_4 ?_
    refine y_iload_n (i := 3) (n := 122) ⟨dX2_judgeAll_121, rfl⟩ rfl ?_
    refine y_bipush (n := 124) (v := 16) ⟨dX2_judgeAll_122, rfl⟩ kb_16 ?_
    refine y_iadd (n := 125) ⟨dX2_judgeAll_124, rfl⟩ ?_
    refine y_aload_n (i := 0) (n := 126) ⟨dX2_judgeAll_125, rfl⟩ rfl ?_
    refine y_getR (n := 129) ⟨dX2_judgeAll_126, rfl⟩ kfX2_18 l_39 rfl r_39_6 ?_
    refine y_iload_n (i := 2) (n := 130) ⟨dX2_judgeAll_129, rfl⟩ rfl ?_
    refine y_laload (n := 131) ⟨dX2_judgeAll_130, rfl⟩ l_42 hg3 ?_
    refine c_jd_bitCount_95d88 (gJ (sI q6.2 40 ((x2 * 17) + 11).toNatClampNeg (gI q6.2 19 x2.toNatClampNeg)) 42 x2.toNatClampNeg) (sI q6.2 40 ((x2 * 17) + 11).toNatClampNeg (gI q6.2 19 x2.toNatClampNeg)) (n := 134) ⟨dX2_judgeAll_131, rfl⟩ klX2_85 rfl (by decide) (Nat.le_of_ble_eq_true rfl) rfl rfl ?_
    obtain ⟨hg9, hf⟩ := g_s hf
    refine y_iastore (n := 135) ⟨dX2_judgeAll_134, rfl⟩ l_40 hg9 ?_
    refine y_aload_n (i := 0) (n := 136) ⟨dX2_judgeAll_135, rfl⟩ rfl ?_
    refine y_getR (n := 139) ⟨dX2_judgeAll_136, rfl⟩ kfX2_15 l_39 rfl r_39_5 ?_
    refine y_iload_n (i := 2) (n := 140) ⟨dX2_judgeAll_139, rfl⟩ rfl ?_
    refine y_aload_n (i := 0) (n := 141) ⟨dX2_judgeAll_140, rfl⟩ rfl ?_
    refine y_getR (n := 144) ⟨dX2_judgeAll_141, rfl⟩ kfX2_44 l_39 rfl r_39_3 ?_
    refine y_aload_n (i := 0) (n := 145) ⟨dX2_judgeAll_144, rfl⟩ rfl ?_
    refine y_getR (n := 148) ⟨dX2_judgeAll_145, rfl⟩ kfX2_9 l_39 rfl r_39_4 ?_
    refine y_iload_n (i := 3) (n := 149) ⟨dX2_judgeAll_148, rfl⟩ rfl ?_
    obtain ⟨q10, hv11, hf⟩ := b_s hf
    refine c_la_judgeBy (x2 * 17) (sI (sI q6.2 40 ((x2 * 17) + 11).toNatClampNeg (gI q6.2 19 x2.toNatClampNeg)) 40 ((x2 * 17) + 16).toNatClampNeg (f_jd_bitCount_95d88 (gJ (sI q6.2 40 ((x2 * 17) + 11).toNatClampNeg (gI q6.2 19 x2.toNatClampNeg)) 42 x2.toNatClampNeg))) (n := 152) ⟨dX2_judgeAll_149, rfl⟩ klX2_91 hv11 (by decide) (Nat.le_of_ble_eq_true rfl) rfl rfl ?_
    refine y_iastore (n := 153) ⟨dX2_judgeAll_152, rfl⟩ l_41 hg3 ?_
    refine y_iinc (i := 2) (n := 156) (b := (x2 + 1)) (L2 := [some (.ref 39), some (.int q6.1), some (.int (x2 + 1)), some (.int (x2 * 17))]) ⟨dX2_judgeAll_153, rfl⟩ rfl (by rw [ki_1]) (by decide) rfl rfl ?_
    refine y_goto (t := 8) ⟨dX2_judgeAll_156, rfl, rfl⟩ ?_
    cases hf
    exact y_wk ⟨Or.inr rfl, Or.inr rfl, Or.inr rfl, Or.inl rfl, trivial⟩ hk
theorem wl_ju_judgeAll_8 (x1 : Int32) (x2 : Int32) (M : dM) {Q : mz_P} {x : dM} (hf : l_ju_judgeAll_8 x1 x2 M = some x) (hk : K_ju_judgeAll_8 Q  M (.inr x)) : mW mX2_judgeAll 4 Q 8 [some (.ref 39), some (.int x1), some (.int x2), none] [] M :=
  lpc_wp (Wh := fun s => mW mX2_judgeAll 4 Q 8 [some (.ref 39), some (.int s.1), some (.int s.2.1), none] [] s.2.2) (K := K_ju_judgeAll_8 Q  M) (fun _ h => h) (fun s o hb hk => w_b_ju_judgeAll_8_8 s.1 s.2.1 s.2.2 hb hk) hf hk
theorem ok_ju_judgeAll  (M : dM) {o : dM} (hf : f_ju_judgeAll M = some o) : mO mX2_judgeAll 4 [.ref 39] M none o := by
  refine y_ok (by decide +kernel) (by decide) (L0 := [some (.ref 39), none, none, none]) rfl ?_
  have hk := mR_mQ none o
  generalize mQ _ _ = Q at hk ⊢
  unfold f_ju_judgeAll at hf
  refine y_aload_n (i := 0) (n := 1) ⟨dX2_judgeAll_0, rfl⟩ rfl ?_
  obtain ⟨q1, hv2, hf⟩ := b_s hf
  refine c_ju_pairTwins M (n := 4) ⟨dX2_judgeAll_1, rfl⟩ klX2_48 hv2 (by decide) (Nat.le_of_ble_eq_true rfl) rfl rfl ?_
  refine y_iconst (n := 5) (v := (-1)) ⟨dX2_judgeAll_4, rfl⟩ ki_m1 ?_
  refine y_istore_n (i := 1) (n := 6) (L2 := [some (.ref 39), some (.int (-1)), none, none]) ⟨dX2_judgeAll_5, rfl⟩ (by decide) rfl rfl ?_
  refine y_iconst (n := 7) (v := 0) ⟨dX2_judgeAll_6, rfl⟩ ki_0 ?_
  refine y_istore_n (i := 2) (n := 8) (L2 := [some (.ref 39), some (.int (-1)), some (.int 0), none]) ⟨dX2_judgeAll_7, rfl⟩ (by decide) rfl rfl ?_
  obtain ⟨r14, hl13, hf⟩ := b_s hf
  cases hf
  exact y_wk ⟨Or.inr rfl, Or.inr rfl, Or.inr rfl, Or.inr rfl, trivial⟩ (wl_ju_judgeAll_8 (-1) 0 q1 hl13 hk)
theorem c_ju_judgeAll  (M : dM) {o : dM} {y : mz_M} {d : Nat} {Q : mz_P} {pc n i : Nat} {L : List (Option Value)} {st : List Value} (h : mz_d y.2.1 pc n 3 (.invokevirtual i)) (hl : mz_ml y.1.cls i yX2_judgeAll) (hf : f_ju_judgeAll M = some o) (hd : 4 + 1 ≤ d) (hsm : (st.map (fun v => v.category)).sum ≤ 8) (hLr : mz_rL 133 L = true) (hSr : mz_rS 133 st = true) (kk : mW y d Q n L st o) : mW y d Q pc L (.ref 39 :: st) M :=
  y_callV kmX2_judgeAll kvX2_judgeAll l_39 (by decide +kernel) (by decide +kernel) h hl (ok_ju_judgeAll  M hf) (vs := []) rfl rfl hd hsm hLr hSr kk
def K_sy_whoCan_4 (Q : mz_P) (x1 : Int32) (M : dM) : ((Int32 × Int32) ⊕ Int32) → Prop
  | .inl s => mW mX8_whoCan 2 Q 4 [some (.ref 45), some (.int x1), some (.int s.1), some (.int s.2), none, none] [] M
  | .inr r => mR Q (some (.int r)) M
noncomputable def b_sy_whoCan_4_102 (x1 : Int32) (x2 : Int32) (x3 : Int32) (y0 : Int32) (M : dM) : Option ((Int32 × Int32) ⊕ Int32) :=
  gd (vp_in x3 80) <|
  if ((gI M 11 x3.toNatClampNeg) &&& y0) = 0 then
    some (.inl (x2, (x3 + 1)))
  else
    some (.inl ((x2 ||| ((1 : Int32) <<< ((gI M 7 x3.toNatClampNeg) &&& 31))), (x3 + 1)))
noncomputable def b_sy_whoCan_4_4 (x1 : Int32) (x2 : Int32) (x3 : Int32) (M : dM) : Option ((Int32 × Int32) ⊕ Int32) :=
  if (gI M 6 5) ≤ x3 then
    some (.inr x2)
  else
    gd (vp_in x1 40) <|
    gd (vp_in x3 80) <|
    if (gI M 8 x3.toNatClampNeg) = (gI M 13 x1.toNatClampNeg) then
      if ((gI M 15 x1.toNatClampNeg) - (gI M 9 x3.toNatClampNeg)) < 0 then
        some (.inl (x2, (x3 + 1)))
      else
        if ((gI M 15 x1.toNatClampNeg) - (gI M 9 x3.toNatClampNeg)) ≤ (gI M 27 6) then
          if ((gI M 15 x1.toNatClampNeg) - (gI M 9 x3.toNatClampNeg)) = 0 then
            b_sy_whoCan_4_102 x1 x2 x3 (f_ax_hoursAhead (gI M 16 x1.toNatClampNeg)) M
          else
            b_sy_whoCan_4_102 x1 x2 x3 (f_ax_hoursAhead 24) M
        else
          some (.inl (x2, (x3 + 1)))
    else
      some (.inl (x2, (x3 + 1)))
noncomputable def l_sy_whoCan_4 (x1 : Int32) (x2 : Int32) (x3 : Int32) (M : dM) : Option Int32 := lpc (fun s => b_sy_whoCan_4_4 x1 s.1 s.2 M) (x2, x3)
noncomputable def f_sy_whoCan (a1 : Int32) (M : dM) : Option Int32 :=
  (l_sy_whoCan_4 a1 0 0 M).bind fun r6 => some r6
theorem w_b_sy_whoCan_4_102 (x1 : Int32) (x2 : Int32) (x3 : Int32) (y0 : Int32) (M : dM) {Q : mz_P} {o : ((Int32 × Int32) ⊕ Int32)} (hf : b_sy_whoCan_4_102 x1 x2 x3 y0 M = some o) (hk : K_sy_whoCan_4 Q x1 M o) : mW mX8_whoCan 2 Q 102 [some (.ref 45), some (.int x1), some (.int x2), some (.int x3), none, none] [.int y0] M := by
  unfold b_sy_whoCan_4_102 at hf
  refine y_istore (i := 5) (n := 104) (L2 := [some (.ref 45), some (.int x1), some (.int x2), some (.int x3), none, some (.int y0)]) ⟨dX8_whoCan_102, rfl⟩ (by decide) rfl rfl ?_
  refine y_aload_n (i := 0) (n := 105) ⟨dX8_whoCan_104, rfl⟩ rfl ?_
  refine y_getR (n := 108) ⟨dX8_whoCan_105, rfl⟩ kfX8_25 l_45 rfl r_45_0 ?_
  refine y_getR (n := 111) ⟨dX8_whoCan_108, rfl⟩ kfX8_96 l_6 rfl r_6_4 ?_
  refine y_iload_n (i := 3) (n := 112) ⟨dX8_whoCan_111, rfl⟩ rfl ?_
  obtain ⟨hg3, hf⟩ := g_s hf
  refine y_iaload (n := 113) ⟨dX8_whoCan_112, rfl⟩ l_11 hg3 ?_
  refine y_iload (i := 5) (n := 115) ⟨dX8_whoCan_113, rfl⟩ rfl ?_
  refine y_iand (n := 116) ⟨dX8_whoCan_115, rfl⟩ ?_
  refine y_if_eq (t := 133) (n := 119) ⟨dX8_whoCan_116, rfl, rfl⟩ (fun (hc : ((gI M 11 x3.toNatClampNeg) &&& y0) = 0) => ?_) (fun (hc : ¬ (((gI M 11 x3.toNatClampNeg) &&& y0) = 0)) => ?_)
  · replace hf := i_t hc hf
    refine y_iinc (i := 3) (n := 136) (b := (x3 + 1)) (L2 := [some (.ref 45), some (.int x1), some (.int x2), some (.int (x3 + 1)), none, some (.int y0)]) ⟨dX8_whoCan_133, rfl⟩ rfl (by rw [ki_1]) (by decide) rfl rfl ?_
    refine y_goto (t := 4) ⟨dX8_whoCan_136, rfl, rfl⟩ ?_
    cases hf
    exact y_wk ⟨Or.inr rfl, Or.inr rfl, Or.inr rfl, Or.inr rfl, Or.inr rfl, Or.inl rfl, trivial⟩ hk
  · replace hf := i_f hc hf
    refine y_iload_n (i := 2) (n := 120) ⟨dX8_whoCan_119, rfl⟩ rfl ?_
    refine y_iconst (n := 121) (v := 1) ⟨dX8_whoCan_120, rfl⟩ ki_1 ?_
    refine y_aload_n (i := 0) (n := 122) ⟨dX8_whoCan_121, rfl⟩ rfl ?_
    refine y_getR (n := 125) ⟨dX8_whoCan_122, rfl⟩ kfX8_25 l_45 rfl r_45_0 ?_
    refine y_getR (n := 128) ⟨dX8_whoCan_125, rfl⟩ kfX8_99 l_6 rfl r_6_0 ?_
    refine y_iload_n (i := 3) (n := 129) ⟨dX8_whoCan_128, rfl⟩ rfl ?_
    refine y_iaload (n := 130) ⟨dX8_whoCan_129, rfl⟩ l_7 hg3 ?_
    refine y_ishl (n := 131) ⟨dX8_whoCan_130, rfl⟩ ?_
    refine y_ior (n := 132) ⟨dX8_whoCan_131, rfl⟩ ?_
    refine y_istore_n (i := 2) (n := 133) (L2 := [some (.ref 45), some (.int x1), some (.int (x2 ||| ((1 : Int32) <<< ((gI M 7 x3.toNatClampNeg) &&& 31)))), some (.int x3), none, some (.int y0)]) ⟨dX8_whoCan_132, rfl⟩ (by decide) rfl rfl ?_
    refine y_iinc (i := 3) (n := 136) (b := (x3 + 1)) (L2 := [some (.ref 45), some (.int x1), some (.int (x2 ||| ((1 : Int32) <<< ((gI M 7 x3.toNatClampNeg) &&& 31)))), some (.int (x3 + 1)), none, some (.int y0)]) ⟨dX8_whoCan_133, rfl⟩ rfl (by rw [ki_1]) (by decide) rfl rfl ?_
    refine y_goto (t := 4) ⟨dX8_whoCan_136, rfl, rfl⟩ ?_
    cases hf
    exact y_wk ⟨Or.inr rfl, Or.inr rfl, Or.inr rfl, Or.inr rfl, Or.inr rfl, Or.inl rfl, trivial⟩ hk
theorem w_b_sy_whoCan_4_4 (x1 : Int32) (x2 : Int32) (x3 : Int32) (M : dM) {Q : mz_P} {o : ((Int32 × Int32) ⊕ Int32)} (hf : b_sy_whoCan_4_4 x1 x2 x3 M = some o) (hk : K_sy_whoCan_4 Q x1 M o) : mW mX8_whoCan 2 Q 4 [some (.ref 45), some (.int x1), some (.int x2), some (.int x3), none, none] [] M := by
  unfold b_sy_whoCan_4_4 at hf
  refine y_iload_n (i := 3) (n := 5) ⟨dX8_whoCan_4, rfl⟩ rfl ?_
  refine y_aload_n (i := 0) (n := 6) ⟨dX8_whoCan_5, rfl⟩ rfl ?_
  refine y_getR (n := 9) ⟨dX8_whoCan_6, rfl⟩ kfX8_25 l_45 rfl r_45_0 ?_
  refine y_getI (n := 12) ⟨dX8_whoCan_9, rfl⟩ kfX8_72 l_6 rfl ?_
  refine y_icmp_ge (t := 139) (n := 15) ⟨dX8_whoCan_12, rfl, rfl⟩ (fun (hc : (gI M 6 5) ≤ x3) => ?_) (fun (hc : ¬ ((gI M 6 5) ≤ x3)) => ?_)
  · replace hf := i_t hc hf
    refine y_iload_n (i := 2) (n := 140) ⟨dX8_whoCan_139, rfl⟩ rfl ?_
    cases hf
    exact y_ireturn (n := 141) ⟨dX8_whoCan_140, rfl⟩ rfl rfl hk
  · replace hf := i_f hc hf
    refine y_aload_n (i := 0) (n := 16) ⟨dX8_whoCan_15, rfl⟩ rfl ?_
    refine y_getR (n := 19) ⟨dX8_whoCan_16, rfl⟩ kfX8_29 l_45 rfl r_45_1 ?_
    refine y_getR (n := 22) ⟨dX8_whoCan_19, rfl⟩ kfX8_77 l_12 rfl r_12_2 ?_
    refine y_iload_n (i := 1) (n := 23) ⟨dX8_whoCan_22, rfl⟩ rfl ?_
    obtain ⟨hg1, hf⟩ := g_s hf
    refine y_iaload (n := 24) ⟨dX8_whoCan_23, rfl⟩ l_15 hg1 ?_
    refine y_aload_n (i := 0) (n := 25) ⟨dX8_whoCan_24, rfl⟩ rfl ?_
    refine y_getR (n := 28) ⟨dX8_whoCan_25, rfl⟩ kfX8_25 l_45 rfl r_45_0 ?_
    refine y_getR (n := 31) ⟨dX8_whoCan_28, rfl⟩ kfX8_80 l_6 rfl r_6_2 ?_
    refine y_iload_n (i := 3) (n := 32) ⟨dX8_whoCan_31, rfl⟩ rfl ?_
    obtain ⟨hg2, hf⟩ := g_s hf
    refine y_iaload (n := 33) ⟨dX8_whoCan_32, rfl⟩ l_9 hg2 ?_
    refine y_isub (n := 34) ⟨dX8_whoCan_33, rfl⟩ ?_
    refine y_istore (i := 4) (n := 36) (L2 := [some (.ref 45), some (.int x1), some (.int x2), some (.int x3), some (.int ((gI M 15 x1.toNatClampNeg) - (gI M 9 x3.toNatClampNeg))), none]) ⟨dX8_whoCan_34, rfl⟩ (by decide) rfl rfl ?_
    refine y_aload_n (i := 0) (n := 37) ⟨dX8_whoCan_36, rfl⟩ rfl ?_
    refine y_getR (n := 40) ⟨dX8_whoCan_37, rfl⟩ kfX8_25 l_45 rfl r_45_0 ?_
    refine y_getR (n := 43) ⟨dX8_whoCan_40, rfl⟩ kfX8_81 l_6 rfl r_6_1 ?_
    refine y_iload_n (i := 3) (n := 44) ⟨dX8_whoCan_43, rfl⟩ rfl ?_
    refine y_iaload (n := 45) ⟨dX8_whoCan_44, rfl⟩ l_8 hg2 ?_
    refine y_aload_n (i := 0) (n := 46) ⟨dX8_whoCan_45, rfl⟩ rfl ?_
    refine y_getR (n := 49) ⟨dX8_whoCan_46, rfl⟩ kfX8_29 l_45 rfl r_45_1 ?_
    refine y_getR (n := 52) ⟨dX8_whoCan_49, rfl⟩ kfX8_84 l_12 rfl r_12_0 ?_
    refine y_iload_n (i := 1) (n := 53) ⟨dX8_whoCan_52, rfl⟩ rfl ?_
    refine y_iaload (n := 54) ⟨dX8_whoCan_53, rfl⟩ l_13 hg1 ?_
    refine y_icmp_ne (t := 133) (n := 57) ⟨dX8_whoCan_54, rfl, rfl⟩ (fun (hc : ¬ ((gI M 8 x3.toNatClampNeg) = (gI M 13 x1.toNatClampNeg))) => ?_) (fun (hc : (gI M 8 x3.toNatClampNeg) = (gI M 13 x1.toNatClampNeg)) => ?_)
    · replace hf := i_f hc hf
      refine y_iinc (i := 3) (n := 136) (b := (x3 + 1)) (L2 := [some (.ref 45), some (.int x1), some (.int x2), some (.int (x3 + 1)), some (.int ((gI M 15 x1.toNatClampNeg) - (gI M 9 x3.toNatClampNeg))), none]) ⟨dX8_whoCan_133, rfl⟩ rfl (by rw [ki_1]) (by decide) rfl rfl ?_
      refine y_goto (t := 4) ⟨dX8_whoCan_136, rfl, rfl⟩ ?_
      cases hf
      exact y_wk ⟨Or.inr rfl, Or.inr rfl, Or.inr rfl, Or.inr rfl, Or.inl rfl, Or.inr rfl, trivial⟩ hk
    · replace hf := i_t hc hf
      refine y_iload (i := 4) (n := 59) ⟨dX8_whoCan_57, rfl⟩ rfl ?_
      refine y_if_lt (t := 133) (n := 62) ⟨dX8_whoCan_59, rfl, rfl⟩ (fun (hc : ((gI M 15 x1.toNatClampNeg) - (gI M 9 x3.toNatClampNeg)) < 0) => ?_) (fun (hc : ¬ (((gI M 15 x1.toNatClampNeg) - (gI M 9 x3.toNatClampNeg)) < 0)) => ?_)
      · replace hf := i_t hc hf
        refine y_iinc (i := 3) (n := 136) (b := (x3 + 1)) (L2 := [some (.ref 45), some (.int x1), some (.int x2), some (.int (x3 + 1)), some (.int ((gI M 15 x1.toNatClampNeg) - (gI M 9 x3.toNatClampNeg))), none]) ⟨dX8_whoCan_133, rfl⟩ rfl (by rw [ki_1]) (by decide) rfl rfl ?_
        refine y_goto (t := 4) ⟨dX8_whoCan_136, rfl, rfl⟩ ?_
        cases hf
        exact y_wk ⟨Or.inr rfl, Or.inr rfl, Or.inr rfl, Or.inr rfl, Or.inl rfl, Or.inr rfl, trivial⟩ hk
      · replace hf := i_f hc hf
        refine y_iload (i := 4) (n := 64) ⟨dX8_whoCan_62, rfl⟩ rfl ?_
        refine y_aload_n (i := 0) (n := 65) ⟨dX8_whoCan_64, rfl⟩ rfl ?_
        refine y_getR (n := 68) ⟨dX8_whoCan_65, rfl⟩ kfX8_33 l_45 rfl r_45_2 ?_
        refine y_getI (n := 71) ⟨dX8_whoCan_68, rfl⟩ kfX8_85 l_27 rfl ?_
        refine y_icmp_le (t := 77) (n := 74) ⟨dX8_whoCan_71, rfl, rfl⟩ (fun (hc : ((gI M 15 x1.toNatClampNeg) - (gI M 9 x3.toNatClampNeg)) ≤ (gI M 27 6)) => ?_) (fun (hc : ¬ (((gI M 15 x1.toNatClampNeg) - (gI M 9 x3.toNatClampNeg)) ≤ (gI M 27 6))) => ?_)
        · replace hf := i_t hc hf
          refine y_iload (i := 4) (n := 79) ⟨dX8_whoCan_77, rfl⟩ rfl ?_
          refine y_if_ne (t := 97) (n := 82) ⟨dX8_whoCan_79, rfl, rfl⟩ (fun (hc : ¬ (((gI M 15 x1.toNatClampNeg) - (gI M 9 x3.toNatClampNeg)) = 0)) => ?_) (fun (hc : ((gI M 15 x1.toNatClampNeg) - (gI M 9 x3.toNatClampNeg)) = 0) => ?_)
          · replace hf := i_f hc hf
            refine y_bipush (n := 99) (v := 24) ⟨dX8_whoCan_97, rfl⟩ kb_24 ?_
            refine c_ax_hoursAhead 24 M (n := 102) ⟨dX8_whoCan_99, rfl⟩ klX8_93 rfl (by decide) (Nat.le_of_ble_eq_true rfl) rfl rfl ?_
            exact y_wk ⟨Or.inr rfl, Or.inr rfl, Or.inr rfl, Or.inr rfl, Or.inl rfl, Or.inr rfl, trivial⟩ (w_b_sy_whoCan_4_102 x1 x2 x3 (f_ax_hoursAhead 24) M hf hk)
          · replace hf := i_t hc hf
            refine y_aload_n (i := 0) (n := 83) ⟨dX8_whoCan_82, rfl⟩ rfl ?_
            refine y_getR (n := 86) ⟨dX8_whoCan_83, rfl⟩ kfX8_29 l_45 rfl r_45_1 ?_
            refine y_getR (n := 89) ⟨dX8_whoCan_86, rfl⟩ kfX8_90 l_12 rfl r_12_3 ?_
            refine y_iload_n (i := 1) (n := 90) ⟨dX8_whoCan_89, rfl⟩ rfl ?_
            refine y_iaload (n := 91) ⟨dX8_whoCan_90, rfl⟩ l_16 hg1 ?_
            refine c_ax_hoursAhead (gI M 16 x1.toNatClampNeg) M (n := 94) ⟨dX8_whoCan_91, rfl⟩ klX8_93 rfl (by decide) (Nat.le_of_ble_eq_true rfl) rfl rfl ?_
            refine y_goto (t := 102) ⟨dX8_whoCan_94, rfl, rfl⟩ ?_
            exact y_wk ⟨Or.inr rfl, Or.inr rfl, Or.inr rfl, Or.inr rfl, Or.inl rfl, Or.inr rfl, trivial⟩ (w_b_sy_whoCan_4_102 x1 x2 x3 (f_ax_hoursAhead (gI M 16 x1.toNatClampNeg)) M hf hk)
        · replace hf := i_f hc hf
          refine y_goto (t := 133) ⟨dX8_whoCan_74, rfl, rfl⟩ ?_
          refine y_iinc (i := 3) (n := 136) (b := (x3 + 1)) (L2 := [some (.ref 45), some (.int x1), some (.int x2), some (.int (x3 + 1)), some (.int ((gI M 15 x1.toNatClampNeg) - (gI M 9 x3.toNatClampNeg))), none]) ⟨dX8_whoCan_133, rfl⟩ rfl (by rw [ki_1]) (by decide) rfl rfl ?_
          refine y_goto (t := 4) ⟨dX8_whoCan_136, rfl, rfl⟩ ?_
          cases hf
          exact y_wk ⟨Or.inr rfl, Or.inr rfl, Or.inr rfl, Or.inr rfl, Or.inl rfl, Or.inr rfl, trivial⟩ hk
theorem wl_sy_whoCan_4 (x1 : Int32) (x2 : Int32) (x3 : Int32) (M : dM) {Q : mz_P} {x : Int32} (hf : l_sy_whoCan_4 x1 x2 x3 M = some x) (hk : K_sy_whoCan_4 Q x1 M (.inr x)) : mW mX8_whoCan 2 Q 4 [some (.ref 45), some (.int x1), some (.int x2), some (.int x3), none, none] [] M :=
  lpc_wp (Wh := fun s => mW mX8_whoCan 2 Q 4 [some (.ref 45), some (.int x1), some (.int s.1), some (.int s.2), none, none] [] M) (K := K_sy_whoCan_4 Q x1 M) (fun _ h => h) (fun s o hb hk => w_b_sy_whoCan_4_4 x1 s.1 s.2 M hb hk) hf hk
theorem ok_sy_whoCan (a1 : Int32) (M : dM) {o : Int32} (hf : f_sy_whoCan a1 M = some o) : mO mX8_whoCan 2 [.ref 45, .int a1] M (some (.int o)) M := by
  refine y_ok (by decide +kernel) (by decide) (L0 := [some (.ref 45), some (.int a1), none, none, none, none]) rfl ?_
  have hk := mR_mQ (some (.int o)) M
  generalize mQ _ _ = Q at hk ⊢
  unfold f_sy_whoCan at hf
  refine y_iconst (n := 1) (v := 0) ⟨dX8_whoCan_0, rfl⟩ ki_0 ?_
  refine y_istore_n (i := 2) (n := 2) (L2 := [some (.ref 45), some (.int a1), some (.int 0), none, none, none]) ⟨dX8_whoCan_1, rfl⟩ (by decide) rfl rfl ?_
  refine y_iconst (n := 3) (v := 0) ⟨dX8_whoCan_2, rfl⟩ ki_0 ?_
  refine y_istore_n (i := 3) (n := 4) (L2 := [some (.ref 45), some (.int a1), some (.int 0), some (.int 0), none, none]) ⟨dX8_whoCan_3, rfl⟩ (by decide) rfl rfl ?_
  obtain ⟨r6, hl5, hf⟩ := b_s hf
  cases hf
  exact y_wk ⟨Or.inr rfl, Or.inr rfl, Or.inr rfl, Or.inr rfl, Or.inr rfl, Or.inr rfl, trivial⟩ (wl_sy_whoCan_4 a1 0 0 M hl5 hk)
theorem c_sy_whoCan (a1 : Int32) (M : dM) {o : Int32} {y : mz_M} {d : Nat} {Q : mz_P} {pc n i : Nat} {L : List (Option Value)} {st : List Value} (h : mz_d y.2.1 pc n 3 (.invokevirtual i)) (hl : mz_ml y.1.cls i yX8_whoCan) (hf : f_sy_whoCan a1 M = some o) (hd : 2 + 1 ≤ d) (hsm : (st.map (fun v => v.category)).sum ≤ 8) (hLr : mz_rL 133 L = true) (hSr : mz_rS 133 st = true) (kk : mW y d Q n L (.int o :: st) M) : mW y d Q pc L (.int a1 :: .ref 45 :: st) M :=
  y_callV kmX8_whoCan kvX8_whoCan l_45 (by decide +kernel) (by decide +kernel) h hl (ok_sy_whoCan a1 M hf) (vs := [.int a1]) rfl rfl hd hsm hLr hSr kk
def K_sy_whoWasSeen_4 (Q : mz_P) (x1 : Int32) (M : dM) : ((Int32 × Int32) ⊕ Int32) → Prop
  | .inl s => mW mX8_whoWasSeen 1 Q 4 [some (.ref 45), some (.int x1), some (.int s.1), some (.int s.2), none] [] M
  | .inr r => mR Q (some (.int r)) M
noncomputable def b_sy_whoWasSeen_4_4 (x1 : Int32) (x2 : Int32) (x3 : Int32) (M : dM) : Option ((Int32 × Int32) ⊕ Int32) :=
  if (gI M 12 11) ≤ x3 then
    some (.inr x2)
  else
    gd (vp_in x1 40) <|
    gd (vp_in x3 20) <|
    if (gI M 21 x3.toNatClampNeg) = (gI M 13 x1.toNatClampNeg) then
      if ((gI M 15 x1.toNatClampNeg) - (gI M 22 x3.toNatClampNeg)) < 0 then
        some (.inl (x2, (x3 + 1)))
      else
        if (gI M 27 6) < ((gI M 15 x1.toNatClampNeg) - (gI M 22 x3.toNatClampNeg)) then
          some (.inl (x2, (x3 + 1)))
        else
          some (.inl ((x2 ||| ((1 : Int32) <<< ((gI M 20 x3.toNatClampNeg) &&& 31))), (x3 + 1)))
    else
      some (.inl (x2, (x3 + 1)))
noncomputable def l_sy_whoWasSeen_4 (x1 : Int32) (x2 : Int32) (x3 : Int32) (M : dM) : Option Int32 := lpc (fun s => b_sy_whoWasSeen_4_4 x1 s.1 s.2 M) (x2, x3)
noncomputable def f_sy_whoWasSeen (a1 : Int32) (M : dM) : Option Int32 :=
  (l_sy_whoWasSeen_4 a1 0 0 M).bind fun r5 => some r5
theorem w_b_sy_whoWasSeen_4_4 (x1 : Int32) (x2 : Int32) (x3 : Int32) (M : dM) {Q : mz_P} {o : ((Int32 × Int32) ⊕ Int32)} (hf : b_sy_whoWasSeen_4_4 x1 x2 x3 M = some o) (hk : K_sy_whoWasSeen_4 Q x1 M o) : mW mX8_whoWasSeen 1 Q 4 [some (.ref 45), some (.int x1), some (.int x2), some (.int x3), none] [] M := by
  unfold b_sy_whoWasSeen_4_4 at hf
  refine y_iload_n (i := 3) (n := 5) ⟨dX8_whoWasSeen_4, rfl⟩ rfl ?_
  refine y_aload_n (i := 0) (n := 6) ⟨dX8_whoWasSeen_5, rfl⟩ rfl ?_
  refine y_getR (n := 9) ⟨dX8_whoWasSeen_6, rfl⟩ kfX8_29 l_45 rfl r_45_1 ?_
  refine y_getI (n := 12) ⟨dX8_whoWasSeen_9, rfl⟩ kfX8_102 l_12 rfl ?_
  refine y_icmp_ge (t := 94) (n := 15) ⟨dX8_whoWasSeen_12, rfl, rfl⟩ (fun (hc : (gI M 12 11) ≤ x3) => ?_) (fun (hc : ¬ ((gI M 12 11) ≤ x3)) => ?_)
  · replace hf := i_t hc hf
    refine y_iload_n (i := 2) (n := 95) ⟨dX8_whoWasSeen_94, rfl⟩ rfl ?_
    cases hf
    exact y_ireturn (n := 96) ⟨dX8_whoWasSeen_95, rfl⟩ rfl rfl hk
  · replace hf := i_f hc hf
    refine y_aload_n (i := 0) (n := 16) ⟨dX8_whoWasSeen_15, rfl⟩ rfl ?_
    refine y_getR (n := 19) ⟨dX8_whoWasSeen_16, rfl⟩ kfX8_29 l_45 rfl r_45_1 ?_
    refine y_getR (n := 22) ⟨dX8_whoWasSeen_19, rfl⟩ kfX8_77 l_12 rfl r_12_2 ?_
    refine y_iload_n (i := 1) (n := 23) ⟨dX8_whoWasSeen_22, rfl⟩ rfl ?_
    obtain ⟨hg1, hf⟩ := g_s hf
    refine y_iaload (n := 24) ⟨dX8_whoWasSeen_23, rfl⟩ l_15 hg1 ?_
    refine y_aload_n (i := 0) (n := 25) ⟨dX8_whoWasSeen_24, rfl⟩ rfl ?_
    refine y_getR (n := 28) ⟨dX8_whoWasSeen_25, rfl⟩ kfX8_29 l_45 rfl r_45_1 ?_
    refine y_getR (n := 31) ⟨dX8_whoWasSeen_28, rfl⟩ kfX8_105 l_12 rfl r_12_10 ?_
    refine y_iload_n (i := 3) (n := 32) ⟨dX8_whoWasSeen_31, rfl⟩ rfl ?_
    obtain ⟨hg2, hf⟩ := g_s hf
    refine y_iaload (n := 33) ⟨dX8_whoWasSeen_32, rfl⟩ l_22 hg2 ?_
    refine y_isub (n := 34) ⟨dX8_whoWasSeen_33, rfl⟩ ?_
    refine y_istore (i := 4) (n := 36) (L2 := [some (.ref 45), some (.int x1), some (.int x2), some (.int x3), some (.int ((gI M 15 x1.toNatClampNeg) - (gI M 22 x3.toNatClampNeg)))]) ⟨dX8_whoWasSeen_34, rfl⟩ (by decide) rfl rfl ?_
    refine y_aload_n (i := 0) (n := 37) ⟨dX8_whoWasSeen_36, rfl⟩ rfl ?_
    refine y_getR (n := 40) ⟨dX8_whoWasSeen_37, rfl⟩ kfX8_29 l_45 rfl r_45_1 ?_
    refine y_getR (n := 43) ⟨dX8_whoWasSeen_40, rfl⟩ kfX8_108 l_12 rfl r_12_9 ?_
    refine y_iload_n (i := 3) (n := 44) ⟨dX8_whoWasSeen_43, rfl⟩ rfl ?_
    refine y_iaload (n := 45) ⟨dX8_whoWasSeen_44, rfl⟩ l_21 hg2 ?_
    refine y_aload_n (i := 0) (n := 46) ⟨dX8_whoWasSeen_45, rfl⟩ rfl ?_
    refine y_getR (n := 49) ⟨dX8_whoWasSeen_46, rfl⟩ kfX8_29 l_45 rfl r_45_1 ?_
    refine y_getR (n := 52) ⟨dX8_whoWasSeen_49, rfl⟩ kfX8_84 l_12 rfl r_12_0 ?_
    refine y_iload_n (i := 1) (n := 53) ⟨dX8_whoWasSeen_52, rfl⟩ rfl ?_
    refine y_iaload (n := 54) ⟨dX8_whoWasSeen_53, rfl⟩ l_13 hg1 ?_
    refine y_icmp_ne (t := 88) (n := 57) ⟨dX8_whoWasSeen_54, rfl, rfl⟩ (fun (hc : ¬ ((gI M 21 x3.toNatClampNeg) = (gI M 13 x1.toNatClampNeg))) => ?_) (fun (hc : (gI M 21 x3.toNatClampNeg) = (gI M 13 x1.toNatClampNeg)) => ?_)
    · replace hf := i_f hc hf
      refine y_iinc (i := 3) (n := 91) (b := (x3 + 1)) (L2 := [some (.ref 45), some (.int x1), some (.int x2), some (.int (x3 + 1)), some (.int ((gI M 15 x1.toNatClampNeg) - (gI M 22 x3.toNatClampNeg)))]) ⟨dX8_whoWasSeen_88, rfl⟩ rfl (by rw [ki_1]) (by decide) rfl rfl ?_
      refine y_goto (t := 4) ⟨dX8_whoWasSeen_91, rfl, rfl⟩ ?_
      cases hf
      exact y_wk ⟨Or.inr rfl, Or.inr rfl, Or.inr rfl, Or.inr rfl, Or.inl rfl, trivial⟩ hk
    · replace hf := i_t hc hf
      refine y_iload (i := 4) (n := 59) ⟨dX8_whoWasSeen_57, rfl⟩ rfl ?_
      refine y_if_lt (t := 88) (n := 62) ⟨dX8_whoWasSeen_59, rfl, rfl⟩ (fun (hc : ((gI M 15 x1.toNatClampNeg) - (gI M 22 x3.toNatClampNeg)) < 0) => ?_) (fun (hc : ¬ (((gI M 15 x1.toNatClampNeg) - (gI M 22 x3.toNatClampNeg)) < 0)) => ?_)
      · replace hf := i_t hc hf
        refine y_iinc (i := 3) (n := 91) (b := (x3 + 1)) (L2 := [some (.ref 45), some (.int x1), some (.int x2), some (.int (x3 + 1)), some (.int ((gI M 15 x1.toNatClampNeg) - (gI M 22 x3.toNatClampNeg)))]) ⟨dX8_whoWasSeen_88, rfl⟩ rfl (by rw [ki_1]) (by decide) rfl rfl ?_
        refine y_goto (t := 4) ⟨dX8_whoWasSeen_91, rfl, rfl⟩ ?_
        cases hf
        exact y_wk ⟨Or.inr rfl, Or.inr rfl, Or.inr rfl, Or.inr rfl, Or.inl rfl, trivial⟩ hk
      · replace hf := i_f hc hf
        refine y_iload (i := 4) (n := 64) ⟨dX8_whoWasSeen_62, rfl⟩ rfl ?_
        refine y_aload_n (i := 0) (n := 65) ⟨dX8_whoWasSeen_64, rfl⟩ rfl ?_
        refine y_getR (n := 68) ⟨dX8_whoWasSeen_65, rfl⟩ kfX8_33 l_45 rfl r_45_2 ?_
        refine y_getI (n := 71) ⟨dX8_whoWasSeen_68, rfl⟩ kfX8_85 l_27 rfl ?_
        refine y_icmp_gt (t := 88) (n := 74) ⟨dX8_whoWasSeen_71, rfl, rfl⟩ (fun (hc : (gI M 27 6) < ((gI M 15 x1.toNatClampNeg) - (gI M 22 x3.toNatClampNeg))) => ?_) (fun (hc : ¬ ((gI M 27 6) < ((gI M 15 x1.toNatClampNeg) - (gI M 22 x3.toNatClampNeg)))) => ?_)
        · replace hf := i_t hc hf
          refine y_iinc (i := 3) (n := 91) (b := (x3 + 1)) (L2 := [some (.ref 45), some (.int x1), some (.int x2), some (.int (x3 + 1)), some (.int ((gI M 15 x1.toNatClampNeg) - (gI M 22 x3.toNatClampNeg)))]) ⟨dX8_whoWasSeen_88, rfl⟩ rfl (by rw [ki_1]) (by decide) rfl rfl ?_
          refine y_goto (t := 4) ⟨dX8_whoWasSeen_91, rfl, rfl⟩ ?_
          cases hf
          exact y_wk ⟨Or.inr rfl, Or.inr rfl, Or.inr rfl, Or.inr rfl, Or.inl rfl, trivial⟩ hk
        · replace hf := i_f hc hf
          refine y_iload_n (i := 2) (n := 75) ⟨dX8_whoWasSeen_74, rfl⟩ rfl ?_
          refine y_iconst (n := 76) (v := 1) ⟨dX8_whoWasSeen_75, rfl⟩ ki_1 ?_
          refine y_aload_n (i := 0) (n := 77) ⟨dX8_whoWasSeen_76, rfl⟩ rfl ?_
          refine y_getR (n := 80) ⟨dX8_whoWasSeen_77, rfl⟩ kfX8_29 l_45 rfl r_45_1 ?_
          refine y_getR (n := 83) ⟨dX8_whoWasSeen_80, rfl⟩ kfX8_111 l_12 rfl r_12_8 ?_
          refine y_iload_n (i := 3) (n := 84) ⟨dX8_whoWasSeen_83, rfl⟩ rfl ?_
          refine y_iaload (n := 85) ⟨dX8_whoWasSeen_84, rfl⟩ l_20 hg2 ?_
          refine y_ishl (n := 86) ⟨dX8_whoWasSeen_85, rfl⟩ ?_
          refine y_ior (n := 87) ⟨dX8_whoWasSeen_86, rfl⟩ ?_
          refine y_istore_n (i := 2) (n := 88) (L2 := [some (.ref 45), some (.int x1), some (.int (x2 ||| ((1 : Int32) <<< ((gI M 20 x3.toNatClampNeg) &&& 31)))), some (.int x3), some (.int ((gI M 15 x1.toNatClampNeg) - (gI M 22 x3.toNatClampNeg)))]) ⟨dX8_whoWasSeen_87, rfl⟩ (by decide) rfl rfl ?_
          refine y_iinc (i := 3) (n := 91) (b := (x3 + 1)) (L2 := [some (.ref 45), some (.int x1), some (.int (x2 ||| ((1 : Int32) <<< ((gI M 20 x3.toNatClampNeg) &&& 31)))), some (.int (x3 + 1)), some (.int ((gI M 15 x1.toNatClampNeg) - (gI M 22 x3.toNatClampNeg)))]) ⟨dX8_whoWasSeen_88, rfl⟩ rfl (by rw [ki_1]) (by decide) rfl rfl ?_
          refine y_goto (t := 4) ⟨dX8_whoWasSeen_91, rfl, rfl⟩ ?_
          cases hf
          exact y_wk ⟨Or.inr rfl, Or.inr rfl, Or.inr rfl, Or.inr rfl, Or.inl rfl, trivial⟩ hk
theorem wl_sy_whoWasSeen_4 (x1 : Int32) (x2 : Int32) (x3 : Int32) (M : dM) {Q : mz_P} {x : Int32} (hf : l_sy_whoWasSeen_4 x1 x2 x3 M = some x) (hk : K_sy_whoWasSeen_4 Q x1 M (.inr x)) : mW mX8_whoWasSeen 1 Q 4 [some (.ref 45), some (.int x1), some (.int x2), some (.int x3), none] [] M :=
  lpc_wp (Wh := fun s => mW mX8_whoWasSeen 1 Q 4 [some (.ref 45), some (.int x1), some (.int s.1), some (.int s.2), none] [] M) (K := K_sy_whoWasSeen_4 Q x1 M) (fun _ h => h) (fun s o hb hk => w_b_sy_whoWasSeen_4_4 x1 s.1 s.2 M hb hk) hf hk
theorem ok_sy_whoWasSeen (a1 : Int32) (M : dM) {o : Int32} (hf : f_sy_whoWasSeen a1 M = some o) : mO mX8_whoWasSeen 1 [.ref 45, .int a1] M (some (.int o)) M := by
  refine y_ok (by decide +kernel) (by decide) (L0 := [some (.ref 45), some (.int a1), none, none, none]) rfl ?_
  have hk := mR_mQ (some (.int o)) M
  generalize mQ _ _ = Q at hk ⊢
  unfold f_sy_whoWasSeen at hf
  refine y_iconst (n := 1) (v := 0) ⟨dX8_whoWasSeen_0, rfl⟩ ki_0 ?_
  refine y_istore_n (i := 2) (n := 2) (L2 := [some (.ref 45), some (.int a1), some (.int 0), none, none]) ⟨dX8_whoWasSeen_1, rfl⟩ (by decide) rfl rfl ?_
  refine y_iconst (n := 3) (v := 0) ⟨dX8_whoWasSeen_2, rfl⟩ ki_0 ?_
  refine y_istore_n (i := 3) (n := 4) (L2 := [some (.ref 45), some (.int a1), some (.int 0), some (.int 0), none]) ⟨dX8_whoWasSeen_3, rfl⟩ (by decide) rfl rfl ?_
  obtain ⟨r5, hl4, hf⟩ := b_s hf
  cases hf
  exact y_wk ⟨Or.inr rfl, Or.inr rfl, Or.inr rfl, Or.inr rfl, Or.inr rfl, trivial⟩ (wl_sy_whoWasSeen_4 a1 0 0 M hl4 hk)
theorem c_sy_whoWasSeen (a1 : Int32) (M : dM) {o : Int32} {y : mz_M} {d : Nat} {Q : mz_P} {pc n i : Nat} {L : List (Option Value)} {st : List Value} (h : mz_d y.2.1 pc n 3 (.invokevirtual i)) (hl : mz_ml y.1.cls i yX8_whoWasSeen) (hf : f_sy_whoWasSeen a1 M = some o) (hd : 1 + 1 ≤ d) (hsm : (st.map (fun v => v.category)).sum ≤ 8) (hLr : mz_rL 133 L = true) (hSr : mz_rS 133 st = true) (kk : mW y d Q n L (.int o :: st) M) : mW y d Q pc L (.int a1 :: .ref 45 :: st) M :=
  y_callV kmX8_whoWasSeen kvX8_whoWasSeen l_45 (by decide +kernel) (by decide +kernel) h hl (ok_sy_whoWasSeen a1 M hf) (vs := [.int a1]) rfl rfl hd hsm hLr hSr kk
noncomputable def f_sy_refuteWithout (a1 : Int32) (M : dM) : Option dM :=
  gd (vp_in (1023 &&& (a1 ^^^ (-1))) 1024) <|
  some (sI M 48 (1023 &&& (a1 ^^^ (-1))).toNatClampNeg 1)
theorem ok_sy_refuteWithout (a1 : Int32) (M : dM) {o : dM} (hf : f_sy_refuteWithout a1 M = some o) : mO mX8_refuteWithout 1 [.ref 45, .int a1] M none o := by
  refine y_ok (by decide +kernel) (by decide) (L0 := [some (.ref 45), some (.int a1)]) rfl ?_
  have hk := mR_mQ none o
  generalize mQ _ _ = Q at hk ⊢
  unfold f_sy_refuteWithout at hf
  refine y_aload_n (i := 0) (n := 1) ⟨dX8_refuteWithout_0, rfl⟩ rfl ?_
  refine y_getR (n := 4) ⟨dX8_refuteWithout_1, rfl⟩ kfX8_18 l_45 rfl r_45_8 ?_
  refine y_sipush (n := 7) (v := 1023) ⟨dX8_refuteWithout_4, rfl⟩ ks_1023 ?_
  refine y_iload_n (i := 1) (n := 8) ⟨dX8_refuteWithout_7, rfl⟩ rfl ?_
  refine y_iconst (n := 9) (v := (-1)) ⟨dX8_refuteWithout_8, rfl⟩ ki_m1 ?_
  refine y_ixor (n := 10) ⟨dX8_refuteWithout_9, rfl⟩ ?_
  refine y_iand (n := 11) ⟨dX8_refuteWithout_10, rfl⟩ ?_
  refine y_iconst (n := 12) (v := 1) ⟨dX8_refuteWithout_11, rfl⟩ ki_1 ?_
  obtain ⟨hg1, hf⟩ := g_s hf
  refine y_bastore (x' := 1) (n := 13) ⟨dX8_refuteWithout_12, rfl⟩ l_48 hg1 rfl ?_
  cases hf
  exact y_return (n := 14) ⟨dX8_refuteWithout_13, rfl⟩ rfl hk
theorem c_sy_refuteWithout (a1 : Int32) (M : dM) {o : dM} {y : mz_M} {d : Nat} {Q : mz_P} {pc n i : Nat} {L : List (Option Value)} {st : List Value} (h : mz_d y.2.1 pc n 3 (.invokevirtual i)) (hl : mz_ml y.1.cls i yX8_refuteWithout) (hf : f_sy_refuteWithout a1 M = some o) (hd : 1 + 1 ≤ d) (hsm : (st.map (fun v => v.category)).sum ≤ 8) (hLr : mz_rL 133 L = true) (hSr : mz_rS 133 st = true) (kk : mW y d Q n L st o) : mW y d Q pc L (.int a1 :: .ref 45 :: st) M :=
  y_callV kmX8_refuteWithout kvX8_refuteWithout l_45 (by decide +kernel) (by decide +kernel) h hl (ok_sy_refuteWithout a1 M hf) (vs := [.int a1]) rfl rfl hd hsm hLr hSr kk
def K_sy_spreadToSmaller_2 (Q : mz_P)  (M : dM) : ((Int32 × dM) ⊕ dM) → Prop
  | .inl s => mW mX8_spreadToSmaller 1 Q 2 [some (.ref 45), some (.int s.1), none] [] s.2
  | .inr r => mR Q none r
def K_sy_spreadToSmaller_10 (Q : mz_P) (x1 : Int32) (M : dM) : ((Int32 × dM) ⊕ dM) → Prop
  | .inl s => mW mX8_spreadToSmaller 1 Q 10 [some (.ref 45), some (.int x1), some (.int s.1)] [] s.2
  | .inr t => mW mX8_spreadToSmaller 1 Q 43 [some (.ref 45), some (.int x1), none] [] t
noncomputable def b_sy_spreadToSmaller_10_10 (x1 : Int32) (x2 : Int32) (M : dM) : Option ((Int32 × dM) ⊕ dM) :=
  if 1024 ≤ x2 then
    some (.inr M)
  else
    gd (vp_in (x2 ||| ((1 : Int32) <<< (x1 &&& 31))) 1024) <|
    if (gI M 48 (x2 ||| ((1 : Int32) <<< (x1 &&& 31))).toNatClampNeg) = 0 then
      some (.inl ((x2 + 1), M))
    else
      gd (vp_in x2 1024) <|
      some (.inl ((x2 + 1), (sI M 48 x2.toNatClampNeg 1)))
noncomputable def l_sy_spreadToSmaller_10 (x1 : Int32) (x2 : Int32) (M : dM) : Option dM := lpc (fun s => b_sy_spreadToSmaller_10_10 x1 s.1 s.2) (x2, M)
noncomputable def b_sy_spreadToSmaller_2_2 (x1 : Int32) (M : dM) : Option ((Int32 × dM) ⊕ dM) :=
  if 10 ≤ x1 then
    some (.inr M)
  else
    (l_sy_spreadToSmaller_10 x1 0 M).bind fun t3 =>
      some (.inl ((x1 + 1), t3))
noncomputable def l_sy_spreadToSmaller_2 (x1 : Int32) (M : dM) : Option dM := lpc (fun s => b_sy_spreadToSmaller_2_2 s.1 s.2) (x1, M)
noncomputable def f_sy_spreadToSmaller (M : dM) : Option dM :=
  (l_sy_spreadToSmaller_2 0 M).bind fun r8 => some r8
theorem w_b_sy_spreadToSmaller_10_10 (x1 : Int32) (x2 : Int32) (M : dM) {Q : mz_P} {o : ((Int32 × dM) ⊕ dM)} (hf : b_sy_spreadToSmaller_10_10 x1 x2 M = some o) (hk : K_sy_spreadToSmaller_10 Q x1 M o) : mW mX8_spreadToSmaller 1 Q 10 [some (.ref 45), some (.int x1), some (.int x2)] [] M := by
  unfold b_sy_spreadToSmaller_10_10 at hf
  refine y_iload_n (i := 2) (n := 11) ⟨dX8_spreadToSmaller_10, rfl⟩ rfl ?_
  refine y_sipush (n := 14) (v := 1024) ⟨dX8_spreadToSmaller_11, rfl⟩ ks_1024 ?_
  refine y_icmp_ge (t := 43) (n := 17) ⟨dX8_spreadToSmaller_14, rfl, rfl⟩ (fun (hc : 1024 ≤ x2) => ?_) (fun (hc : ¬ (1024 ≤ x2)) => ?_)
  · replace hf := i_t hc hf
    cases hf
    exact y_wk ⟨Or.inr rfl, Or.inr rfl, Or.inl rfl, trivial⟩ hk
  · replace hf := i_f hc hf
    refine y_aload_n (i := 0) (n := 18) ⟨dX8_spreadToSmaller_17, rfl⟩ rfl ?_
    refine y_getR (n := 21) ⟨dX8_spreadToSmaller_18, rfl⟩ kfX8_18 l_45 rfl r_45_8 ?_
    refine y_iload_n (i := 2) (n := 22) ⟨dX8_spreadToSmaller_21, rfl⟩ rfl ?_
    refine y_iconst (n := 23) (v := 1) ⟨dX8_spreadToSmaller_22, rfl⟩ ki_1 ?_
    refine y_iload_n (i := 1) (n := 24) ⟨dX8_spreadToSmaller_23, rfl⟩ rfl ?_
    refine y_ishl (n := 25) ⟨dX8_spreadToSmaller_24, rfl⟩ ?_
    refine y_ior (n := 26) ⟨dX8_spreadToSmaller_25, rfl⟩ ?_
    obtain ⟨hg1, hf⟩ := g_s hf
    refine y_baload (n := 27) ⟨dX8_spreadToSmaller_26, rfl⟩ l_48 hg1 ?_
    refine y_if_eq (t := 37) (n := 30) ⟨dX8_spreadToSmaller_27, rfl, rfl⟩ (fun (hc : (gI M 48 (x2 ||| ((1 : Int32) <<< (x1 &&& 31))).toNatClampNeg) = 0) => ?_) (fun (hc : ¬ ((gI M 48 (x2 ||| ((1 : Int32) <<< (x1 &&& 31))).toNatClampNeg) = 0)) => ?_)
    · replace hf := i_t hc hf
      refine y_iinc (i := 2) (n := 40) (b := (x2 + 1)) (L2 := [some (.ref 45), some (.int x1), some (.int (x2 + 1))]) ⟨dX8_spreadToSmaller_37, rfl⟩ rfl (by rw [ki_1]) (by decide) rfl rfl ?_
      refine y_goto (t := 10) ⟨dX8_spreadToSmaller_40, rfl, rfl⟩ ?_
      cases hf
      exact y_wk ⟨Or.inr rfl, Or.inr rfl, Or.inr rfl, trivial⟩ hk
    · replace hf := i_f hc hf
      refine y_aload_n (i := 0) (n := 31) ⟨dX8_spreadToSmaller_30, rfl⟩ rfl ?_
      refine y_getR (n := 34) ⟨dX8_spreadToSmaller_31, rfl⟩ kfX8_18 l_45 rfl r_45_8 ?_
      refine y_iload_n (i := 2) (n := 35) ⟨dX8_spreadToSmaller_34, rfl⟩ rfl ?_
      refine y_iconst (n := 36) (v := 1) ⟨dX8_spreadToSmaller_35, rfl⟩ ki_1 ?_
      obtain ⟨hg2, hf⟩ := g_s hf
      refine y_bastore (x' := 1) (n := 37) ⟨dX8_spreadToSmaller_36, rfl⟩ l_48 hg2 rfl ?_
      refine y_iinc (i := 2) (n := 40) (b := (x2 + 1)) (L2 := [some (.ref 45), some (.int x1), some (.int (x2 + 1))]) ⟨dX8_spreadToSmaller_37, rfl⟩ rfl (by rw [ki_1]) (by decide) rfl rfl ?_
      refine y_goto (t := 10) ⟨dX8_spreadToSmaller_40, rfl, rfl⟩ ?_
      cases hf
      exact y_wk ⟨Or.inr rfl, Or.inr rfl, Or.inr rfl, trivial⟩ hk
theorem wl_sy_spreadToSmaller_10 (x1 : Int32) (x2 : Int32) (M : dM) {Q : mz_P} {x : dM} (hf : l_sy_spreadToSmaller_10 x1 x2 M = some x) (hk : K_sy_spreadToSmaller_10 Q x1 M (.inr x)) : mW mX8_spreadToSmaller 1 Q 10 [some (.ref 45), some (.int x1), some (.int x2)] [] M :=
  lpc_wp (Wh := fun s => mW mX8_spreadToSmaller 1 Q 10 [some (.ref 45), some (.int x1), some (.int s.1)] [] s.2) (K := K_sy_spreadToSmaller_10 Q x1 M) (fun _ h => h) (fun s o hb hk => w_b_sy_spreadToSmaller_10_10 x1 s.1 s.2 hb hk) hf hk
theorem w_b_sy_spreadToSmaller_2_2 (x1 : Int32) (M : dM) {Q : mz_P} {o : ((Int32 × dM) ⊕ dM)} (hf : b_sy_spreadToSmaller_2_2 x1 M = some o) (hk : K_sy_spreadToSmaller_2 Q  M o) : mW mX8_spreadToSmaller 1 Q 2 [some (.ref 45), some (.int x1), none] [] M := by
  unfold b_sy_spreadToSmaller_2_2 at hf
  refine y_iload_n (i := 1) (n := 3) ⟨dX8_spreadToSmaller_2, rfl⟩ rfl ?_
  refine y_bipush (n := 5) (v := 10) ⟨dX8_spreadToSmaller_3, rfl⟩ kb_10 ?_
  refine y_icmp_ge (t := 49) (n := 8) ⟨dX8_spreadToSmaller_5, rfl, rfl⟩ (fun (hc : 10 ≤ x1) => ?_) (fun (hc : ¬ (10 ≤ x1)) => ?_)
  · replace hf := i_t hc hf
    cases hf
    exact y_return (n := 50) ⟨dX8_spreadToSmaller_49, rfl⟩ rfl hk
  · replace hf := i_f hc hf
    refine y_iconst (n := 9) (v := 0) ⟨dX8_spreadToSmaller_8, rfl⟩ ki_0 ?_
    refine y_istore_n (i := 2) (n := 10) (L2 := [some (.ref 45), some (.int x1), some (.int 0)]) ⟨dX8_spreadToSmaller_9, rfl⟩ (by decide) rfl rfl ?_
    obtain ⟨t3, hl4, hf⟩ := b_s hf
    refine y_wk ⟨Or.inr rfl, Or.inr rfl, Or.inr rfl, trivial⟩ (wl_sy_spreadToSmaller_10 x1 0 M hl4 ?_)
    show mW mX8_spreadToSmaller 1 Q 43 [some (.ref 45), some (.int x1), none] [] t3
    refine y_iinc (i := 1) (n := 46) (b := (x1 + 1)) (L2 := [some (.ref 45), some (.int (x1 + 1)), none]) ⟨dX8_spreadToSmaller_43, rfl⟩ rfl (by rw [ki_1]) (by decide) rfl rfl ?_
    refine y_goto (t := 2) ⟨dX8_spreadToSmaller_46, rfl, rfl⟩ ?_
    cases hf
    exact y_wk ⟨Or.inr rfl, Or.inr rfl, Or.inr rfl, trivial⟩ hk
theorem wl_sy_spreadToSmaller_2 (x1 : Int32) (M : dM) {Q : mz_P} {x : dM} (hf : l_sy_spreadToSmaller_2 x1 M = some x) (hk : K_sy_spreadToSmaller_2 Q  M (.inr x)) : mW mX8_spreadToSmaller 1 Q 2 [some (.ref 45), some (.int x1), none] [] M :=
  lpc_wp (Wh := fun s => mW mX8_spreadToSmaller 1 Q 2 [some (.ref 45), some (.int s.1), none] [] s.2) (K := K_sy_spreadToSmaller_2 Q  M) (fun _ h => h) (fun s o hb hk => w_b_sy_spreadToSmaller_2_2 s.1 s.2 hb hk) hf hk
theorem ok_sy_spreadToSmaller  (M : dM) {o : dM} (hf : f_sy_spreadToSmaller M = some o) : mO mX8_spreadToSmaller 1 [.ref 45] M none o := by
  refine y_ok (by decide +kernel) (by decide) (L0 := [some (.ref 45), none, none]) rfl ?_
  have hk := mR_mQ none o
  generalize mQ _ _ = Q at hk ⊢
  unfold f_sy_spreadToSmaller at hf
  refine y_iconst (n := 1) (v := 0) ⟨dX8_spreadToSmaller_0, rfl⟩ ki_0 ?_
  refine y_istore_n (i := 1) (n := 2) (L2 := [some (.ref 45), some (.int 0), none]) ⟨dX8_spreadToSmaller_1, rfl⟩ (by decide) rfl rfl ?_
  obtain ⟨r8, hl7, hf⟩ := b_s hf
  cases hf
  exact y_wk ⟨Or.inr rfl, Or.inr rfl, Or.inr rfl, trivial⟩ (wl_sy_spreadToSmaller_2 0 M hl7 hk)
theorem c_sy_spreadToSmaller  (M : dM) {o : dM} {y : mz_M} {d : Nat} {Q : mz_P} {pc n i : Nat} {L : List (Option Value)} {st : List Value} (h : mz_d y.2.1 pc n 3 (.invokevirtual i)) (hl : mz_ml y.1.cls i yX8_spreadToSmaller) (hf : f_sy_spreadToSmaller M = some o) (hd : 1 + 1 ≤ d) (hsm : (st.map (fun v => v.category)).sum ≤ 8) (hLr : mz_rL 133 L = true) (hSr : mz_rS 133 st = true) (kk : mW y d Q n L st o) : mW y d Q pc L (.ref 45 :: st) M :=
  y_callV kmX8_spreadToSmaller kvX8_spreadToSmaller l_45 (by decide +kernel) (by decide +kernel) h hl (ok_sy_spreadToSmaller  M hf) (vs := []) rfl rfl hd hsm hLr hSr kk
def K_sy_refuteAll_2 (Q : mz_P)  (M : dM) : ((Int32 × dM) ⊕ dM) → Prop
  | .inl s => mW mX8_refuteAll 2 Q 2 [some (.ref 45), some (.int s.1), none] [] s.2
  | .inr t => mW mX8_refuteAll 2 Q 22 [some (.ref 45), none, none] [] t
noncomputable def b_sy_refuteAll_2_2 (x1 : Int32) (M : dM) : Option ((Int32 × dM) ⊕ dM) :=
  if 1024 ≤ x1 then
    some (.inr M)
  else
    gd (vp_in x1 1024) <|
    some (.inl ((x1 + 1), (sI M 48 x1.toNatClampNeg 0)))
noncomputable def l_sy_refuteAll_2 (x1 : Int32) (M : dM) : Option dM := lpc (fun s => b_sy_refuteAll_2_2 s.1 s.2) (x1, M)
def K_sy_refuteAll_24 (Q : mz_P)  (M : dM) : ((Int32 × dM) ⊕ dM) → Prop
  | .inl s => mW mX8_refuteAll 2 Q 24 [some (.ref 45), some (.int s.1), none] [] s.2
  | .inr r => mR Q none r
def K_sy_refuteAll_58 (Q : mz_P) (x1 : Int32) (M : dM) : ((Int32 × dM) ⊕ dM) → Prop
  | .inl s => mW mX8_refuteAll 2 Q 58 [some (.ref 45), some (.int x1), some (.int s.1)] [] s.2
  | .inr t => mW mX8_refuteAll 2 Q 102 [some (.ref 45), some (.int x1), none] [] t
noncomputable def b_sy_refuteAll_58_58 (x1 : Int32) (x2 : Int32) (M : dM) : Option ((Int32 × dM) ⊕ dM) :=
  if x1 ≤ x2 then
    some (.inr M)
  else
    gd (vp_in x1 40) <|
    if (f_ax_hasBit (gJ M 42 x1.toNatClampNeg) x2) = true then
      gd (vp_in x2 40) <|
      (f_sy_refuteWithout ((gI M 47 x1.toNatClampNeg) ||| (gI M 47 x2.toNatClampNeg)) M).bind fun q9 =>
      some (.inl ((x2 + 1), q9))
    else
      some (.inl ((x2 + 1), M))
noncomputable def l_sy_refuteAll_58 (x1 : Int32) (x2 : Int32) (M : dM) : Option dM := lpc (fun s => b_sy_refuteAll_58_58 x1 s.1 s.2) (x2, M)
noncomputable def b_sy_refuteAll_24_56 (x1 : Int32) (M : dM) : Option ((Int32 × dM) ⊕ dM) :=
  (l_sy_refuteAll_58 x1 0 M).bind fun t11 =>
    some (.inl ((x1 + 1), t11))
noncomputable def b_sy_refuteAll_24_24 (x1 : Int32) (M : dM) : Option ((Int32 × dM) ⊕ dM) :=
  if (gI M 12 7) ≤ x1 then
    (f_sy_spreadToSmaller M).bind fun q5 =>
    some (.inr q5)
  else
    if (f_ax_hasBit (gJ M 45 6) x1) = true then
      gd (vp_in x1 40) <|
      (f_sy_refuteWithout (gI M 47 x1.toNatClampNeg) M).bind fun q15 =>
      b_sy_refuteAll_24_56 x1 q15
    else
      b_sy_refuteAll_24_56 x1 M
noncomputable def l_sy_refuteAll_24 (x1 : Int32) (M : dM) : Option dM := lpc (fun s => b_sy_refuteAll_24_24 s.1 s.2) (x1, M)
noncomputable def f_sy_refuteAll (M : dM) : Option dM :=
  (l_sy_refuteAll_2 0 M).bind fun t2 =>
    (l_sy_refuteAll_24 0 t2).bind fun r19 => some r19
theorem w_b_sy_refuteAll_2_2 (x1 : Int32) (M : dM) {Q : mz_P} {o : ((Int32 × dM) ⊕ dM)} (hf : b_sy_refuteAll_2_2 x1 M = some o) (hk : K_sy_refuteAll_2 Q  M o) : mW mX8_refuteAll 2 Q 2 [some (.ref 45), some (.int x1), none] [] M := by
  unfold b_sy_refuteAll_2_2 at hf
  refine y_iload_n (i := 1) (n := 3) ⟨dX8_refuteAll_2, rfl⟩ rfl ?_
  refine y_sipush (n := 6) (v := 1024) ⟨dX8_refuteAll_3, rfl⟩ ks_1024 ?_
  refine y_icmp_ge (t := 22) (n := 9) ⟨dX8_refuteAll_6, rfl, rfl⟩ (fun (hc : 1024 ≤ x1) => ?_) (fun (hc : ¬ (1024 ≤ x1)) => ?_)
  · replace hf := i_t hc hf
    cases hf
    exact y_wk ⟨Or.inr rfl, Or.inl rfl, Or.inr rfl, trivial⟩ hk
  · replace hf := i_f hc hf
    refine y_aload_n (i := 0) (n := 10) ⟨dX8_refuteAll_9, rfl⟩ rfl ?_
    refine y_getR (n := 13) ⟨dX8_refuteAll_10, rfl⟩ kfX8_18 l_45 rfl r_45_8 ?_
    refine y_iload_n (i := 1) (n := 14) ⟨dX8_refuteAll_13, rfl⟩ rfl ?_
    refine y_iconst (n := 15) (v := 0) ⟨dX8_refuteAll_14, rfl⟩ ki_0 ?_
    obtain ⟨hg1, hf⟩ := g_s hf
    refine y_bastore (x' := 0) (n := 16) ⟨dX8_refuteAll_15, rfl⟩ l_48 hg1 rfl ?_
    refine y_iinc (i := 1) (n := 19) (b := (x1 + 1)) (L2 := [some (.ref 45), some (.int (x1 + 1)), none]) ⟨dX8_refuteAll_16, rfl⟩ rfl (by rw [ki_1]) (by decide) rfl rfl ?_
    refine y_goto (t := 2) ⟨dX8_refuteAll_19, rfl, rfl⟩ ?_
    cases hf
    exact y_wk ⟨Or.inr rfl, Or.inr rfl, Or.inr rfl, trivial⟩ hk
theorem wl_sy_refuteAll_2 (x1 : Int32) (M : dM) {Q : mz_P} {x : dM} (hf : l_sy_refuteAll_2 x1 M = some x) (hk : K_sy_refuteAll_2 Q  M (.inr x)) : mW mX8_refuteAll 2 Q 2 [some (.ref 45), some (.int x1), none] [] M :=
  lpc_wp (Wh := fun s => mW mX8_refuteAll 2 Q 2 [some (.ref 45), some (.int s.1), none] [] s.2) (K := K_sy_refuteAll_2 Q  M) (fun _ h => h) (fun s o hb hk => w_b_sy_refuteAll_2_2 s.1 s.2 hb hk) hf hk
theorem w_b_sy_refuteAll_58_58 (x1 : Int32) (x2 : Int32) (M : dM) {Q : mz_P} {o : ((Int32 × dM) ⊕ dM)} (hf : b_sy_refuteAll_58_58 x1 x2 M = some o) (hk : K_sy_refuteAll_58 Q x1 M o) : mW mX8_refuteAll 2 Q 58 [some (.ref 45), some (.int x1), some (.int x2)] [] M := by
  unfold b_sy_refuteAll_58_58 at hf
  refine y_iload_n (i := 2) (n := 59) ⟨dX8_refuteAll_58, rfl⟩ rfl ?_
  refine y_iload_n (i := 1) (n := 60) ⟨dX8_refuteAll_59, rfl⟩ rfl ?_
  refine y_icmp_ge (t := 102) (n := 63) ⟨dX8_refuteAll_60, rfl, rfl⟩ (fun (hc : x1 ≤ x2) => ?_) (fun (hc : ¬ (x1 ≤ x2)) => ?_)
  · replace hf := i_t hc hf
    cases hf
    exact y_wk ⟨Or.inr rfl, Or.inr rfl, Or.inl rfl, trivial⟩ hk
  · replace hf := i_f hc hf
    refine y_aload_n (i := 0) (n := 64) ⟨dX8_refuteAll_63, rfl⟩ rfl ?_
    refine y_getR (n := 67) ⟨dX8_refuteAll_64, rfl⟩ kfX8_37 l_45 rfl r_45_3 ?_
    refine y_getR (n := 70) ⟨dX8_refuteAll_67, rfl⟩ kfX8_122 l_39 rfl r_39_6 ?_
    refine y_iload_n (i := 1) (n := 71) ⟨dX8_refuteAll_70, rfl⟩ rfl ?_
    obtain ⟨hg7, hf⟩ := g_s hf
    refine y_laload (n := 72) ⟨dX8_refuteAll_71, rfl⟩ l_42 hg7 ?_
    refine y_iload_n (i := 2) (n := 73) ⟨dX8_refuteAll_72, rfl⟩ rfl ?_
    refine c_ax_hasBit (gJ M 42 x1.toNatClampNeg) x2 M (n := 76) ⟨dX8_refuteAll_73, rfl⟩ klX8_114 rfl (by decide) (Nat.le_of_ble_eq_true rfl) rfl rfl ?_
    refine y_if_eq (t := 96) (n := 79) ⟨dX8_refuteAll_76, rfl, rfl⟩ (fun h0 => ?_) (fun h0 => ?_)
    · have hc := bI_0 h0
      replace hf := i_f hc hf
      refine y_iinc (i := 2) (n := 99) (b := (x2 + 1)) (L2 := [some (.ref 45), some (.int x1), some (.int (x2 + 1))]) ⟨dX8_refuteAll_96, rfl⟩ rfl (by rw [ki_1]) (by decide) rfl rfl ?_
      refine y_goto (t := 58) ⟨dX8_refuteAll_99, rfl, rfl⟩ ?_
      cases hf
      exact y_wk ⟨Or.inr rfl, Or.inr rfl, Or.inr rfl, trivial⟩ hk
    · have hc := bI_1 h0
      replace hf := i_t hc hf
      refine y_aload_n (i := 0) (n := 80) ⟨dX8_refuteAll_79, rfl⟩ rfl ?_
      refine y_aload_n (i := 0) (n := 81) ⟨dX8_refuteAll_80, rfl⟩ rfl ?_
      refine y_getR (n := 84) ⟨dX8_refuteAll_81, rfl⟩ kfX8_15 l_45 rfl r_45_5 ?_
      refine y_iload_n (i := 1) (n := 85) ⟨dX8_refuteAll_84, rfl⟩ rfl ?_
      refine y_iaload (n := 86) ⟨dX8_refuteAll_85, rfl⟩ l_47 hg7 ?_
      refine y_aload_n (i := 0) (n := 87) ⟨dX8_refuteAll_86, rfl⟩ rfl ?_
      refine y_getR (n := 90) ⟨dX8_refuteAll_87, rfl⟩ kfX8_15 l_45 rfl r_45_5 ?_
      refine y_iload_n (i := 2) (n := 91) ⟨dX8_refuteAll_90, rfl⟩ rfl ?_
      obtain ⟨hg8, hf⟩ := g_s hf
      refine y_iaload (n := 92) ⟨dX8_refuteAll_91, rfl⟩ l_47 hg8 ?_
      refine y_ior (n := 93) ⟨dX8_refuteAll_92, rfl⟩ ?_
      obtain ⟨q9, hv10, hf⟩ := b_s hf
      refine c_sy_refuteWithout ((gI M 47 x1.toNatClampNeg) ||| (gI M 47 x2.toNatClampNeg)) M (n := 96) ⟨dX8_refuteAll_93, rfl⟩ klX8_118 hv10 (by decide) (Nat.le_of_ble_eq_true rfl) rfl rfl ?_
      refine y_iinc (i := 2) (n := 99) (b := (x2 + 1)) (L2 := [some (.ref 45), some (.int x1), some (.int (x2 + 1))]) ⟨dX8_refuteAll_96, rfl⟩ rfl (by rw [ki_1]) (by decide) rfl rfl ?_
      refine y_goto (t := 58) ⟨dX8_refuteAll_99, rfl, rfl⟩ ?_
      cases hf
      exact y_wk ⟨Or.inr rfl, Or.inr rfl, Or.inr rfl, trivial⟩ hk
theorem wl_sy_refuteAll_58 (x1 : Int32) (x2 : Int32) (M : dM) {Q : mz_P} {x : dM} (hf : l_sy_refuteAll_58 x1 x2 M = some x) (hk : K_sy_refuteAll_58 Q x1 M (.inr x)) : mW mX8_refuteAll 2 Q 58 [some (.ref 45), some (.int x1), some (.int x2)] [] M :=
  lpc_wp (Wh := fun s => mW mX8_refuteAll 2 Q 58 [some (.ref 45), some (.int x1), some (.int s.1)] [] s.2) (K := K_sy_refuteAll_58 Q x1 M) (fun _ h => h) (fun s o hb hk => w_b_sy_refuteAll_58_58 x1 s.1 s.2 hb hk) hf hk
theorem w_b_sy_refuteAll_24_56 (x1 : Int32) (M : dM) {Q : mz_P} {o : ((Int32 × dM) ⊕ dM)} (hf : b_sy_refuteAll_24_56 x1 M = some o) (hk : K_sy_refuteAll_24 Q  M o) : mW mX8_refuteAll 2 Q 56 [some (.ref 45), some (.int x1), none] [] M := by
  unfold b_sy_refuteAll_24_56 at hf
  refine y_iconst (n := 57) (v := 0) ⟨dX8_refuteAll_56, rfl⟩ ki_0 ?_
  refine y_istore_n (i := 2) (n := 58) (L2 := [some (.ref 45), some (.int x1), some (.int 0)]) ⟨dX8_refuteAll_57, rfl⟩ (by decide) rfl rfl ?_
  obtain ⟨t11, hl12, hf⟩ := b_s hf
  refine y_wk ⟨Or.inr rfl, Or.inr rfl, Or.inr rfl, trivial⟩ (wl_sy_refuteAll_58 x1 0 M hl12 ?_)
  show mW mX8_refuteAll 2 Q 102 [some (.ref 45), some (.int x1), none] [] t11
  refine y_iinc (i := 1) (n := 105) (b := (x1 + 1)) (L2 := [some (.ref 45), some (.int (x1 + 1)), none]) ⟨dX8_refuteAll_102, rfl⟩ rfl (by rw [ki_1]) (by decide) rfl rfl ?_
  refine y_goto (t := 24) ⟨dX8_refuteAll_105, rfl, rfl⟩ ?_
  cases hf
  exact y_wk ⟨Or.inr rfl, Or.inr rfl, Or.inr rfl, trivial⟩ hk
theorem w_b_sy_refuteAll_24_24 (x1 : Int32) (M : dM) {Q : mz_P} {o : ((Int32 × dM) ⊕ dM)} (hf : b_sy_refuteAll_24_24 x1 M = some o) (hk : K_sy_refuteAll_24 Q  M o) : mW mX8_refuteAll 2 Q 24 [some (.ref 45), some (.int x1), none] [] M := by
  unfold b_sy_refuteAll_24_24 at hf
  refine y_iload_n (i := 1) (n := 25) ⟨dX8_refuteAll_24, rfl⟩ rfl ?_
  refine y_aload_n (i := 0) (n := 26) ⟨dX8_refuteAll_25, rfl⟩ rfl ?_
  refine y_getR (n := 29) ⟨dX8_refuteAll_26, rfl⟩ kfX8_29 l_45 rfl r_45_1 ?_
  refine y_getI (n := 32) ⟨dX8_refuteAll_29, rfl⟩ kfX8_45 l_12 rfl ?_
  refine y_icmp_ge (t := 108) (n := 35) ⟨dX8_refuteAll_32, rfl, rfl⟩ (fun (hc : (gI M 12 7) ≤ x1) => ?_) (fun (hc : ¬ ((gI M 12 7) ≤ x1)) => ?_)
  · replace hf := i_t hc hf
    refine y_aload_n (i := 0) (n := 109) ⟨dX8_refuteAll_108, rfl⟩ rfl ?_
    obtain ⟨q5, hv6, hf⟩ := b_s hf
    refine c_sy_spreadToSmaller M (n := 112) ⟨dX8_refuteAll_109, rfl⟩ klX8_126 hv6 (by decide) (Nat.le_of_ble_eq_true rfl) rfl rfl ?_
    cases hf
    exact y_return (n := 113) ⟨dX8_refuteAll_112, rfl⟩ rfl hk
  · replace hf := i_f hc hf
    refine y_aload_n (i := 0) (n := 36) ⟨dX8_refuteAll_35, rfl⟩ rfl ?_
    refine y_getJ (n := 39) ⟨dX8_refuteAll_36, rfl⟩ kfX8_41 l_45 rfl ?_
    refine y_iload_n (i := 1) (n := 40) ⟨dX8_refuteAll_39, rfl⟩ rfl ?_
    refine c_ax_hasBit (gJ M 45 6) x1 M (n := 43) ⟨dX8_refuteAll_40, rfl⟩ klX8_114 rfl (by decide) (Nat.le_of_ble_eq_true rfl) rfl rfl ?_
    refine y_if_eq (t := 56) (n := 46) ⟨dX8_refuteAll_43, rfl, rfl⟩ (fun h0 => ?_) (fun h0 => ?_)
    · have hc := bI_0 h0
      replace hf := i_f hc hf
      exact y_wk ⟨Or.inr rfl, Or.inr rfl, Or.inr rfl, trivial⟩ (w_b_sy_refuteAll_24_56 x1 M hf hk)
    · have hc := bI_1 h0
      replace hf := i_t hc hf
      refine y_aload_n (i := 0) (n := 47) ⟨dX8_refuteAll_46, rfl⟩ rfl ?_
      refine y_aload_n (i := 0) (n := 48) ⟨dX8_refuteAll_47, rfl⟩ rfl ?_
      refine y_getR (n := 51) ⟨dX8_refuteAll_48, rfl⟩ kfX8_15 l_45 rfl r_45_5 ?_
      refine y_iload_n (i := 1) (n := 52) ⟨dX8_refuteAll_51, rfl⟩ rfl ?_
      obtain ⟨hg14, hf⟩ := g_s hf
      refine y_iaload (n := 53) ⟨dX8_refuteAll_52, rfl⟩ l_47 hg14 ?_
      obtain ⟨q15, hv16, hf⟩ := b_s hf
      refine c_sy_refuteWithout (gI M 47 x1.toNatClampNeg) M (n := 56) ⟨dX8_refuteAll_53, rfl⟩ klX8_118 hv16 (by decide) (Nat.le_of_ble_eq_true rfl) rfl rfl ?_
      exact y_wk ⟨Or.inr rfl, Or.inr rfl, Or.inr rfl, trivial⟩ (w_b_sy_refuteAll_24_56 x1 q15 hf hk)
theorem wl_sy_refuteAll_24 (x1 : Int32) (M : dM) {Q : mz_P} {x : dM} (hf : l_sy_refuteAll_24 x1 M = some x) (hk : K_sy_refuteAll_24 Q  M (.inr x)) : mW mX8_refuteAll 2 Q 24 [some (.ref 45), some (.int x1), none] [] M :=
  lpc_wp (Wh := fun s => mW mX8_refuteAll 2 Q 24 [some (.ref 45), some (.int s.1), none] [] s.2) (K := K_sy_refuteAll_24 Q  M) (fun _ h => h) (fun s o hb hk => w_b_sy_refuteAll_24_24 s.1 s.2 hb hk) hf hk
theorem ok_sy_refuteAll  (M : dM) {o : dM} (hf : f_sy_refuteAll M = some o) : mO mX8_refuteAll 2 [.ref 45] M none o := by
  refine y_ok (by decide +kernel) (by decide) (L0 := [some (.ref 45), none, none]) rfl ?_
  have hk := mR_mQ none o
  generalize mQ _ _ = Q at hk ⊢
  unfold f_sy_refuteAll at hf
  refine y_iconst (n := 1) (v := 0) ⟨dX8_refuteAll_0, rfl⟩ ki_0 ?_
  refine y_istore_n (i := 1) (n := 2) (L2 := [some (.ref 45), some (.int 0), none]) ⟨dX8_refuteAll_1, rfl⟩ (by decide) rfl rfl ?_
  obtain ⟨t2, hl3, hf⟩ := b_s hf
  refine y_wk ⟨Or.inr rfl, Or.inr rfl, Or.inr rfl, trivial⟩ (wl_sy_refuteAll_2 0 M hl3 ?_)
  show mW mX8_refuteAll 2 Q 22 [some (.ref 45), none, none] [] t2
  refine y_iconst (n := 23) (v := 0) ⟨dX8_refuteAll_22, rfl⟩ ki_0 ?_
  refine y_istore_n (i := 1) (n := 24) (L2 := [some (.ref 45), some (.int 0), none]) ⟨dX8_refuteAll_23, rfl⟩ (by decide) rfl rfl ?_
  obtain ⟨r19, hl18, hf⟩ := b_s hf
  cases hf
  exact y_wk ⟨Or.inr rfl, Or.inr rfl, Or.inr rfl, trivial⟩ (wl_sy_refuteAll_24 0 t2 hl18 hk)
theorem c_sy_refuteAll  (M : dM) {o : dM} {y : mz_M} {d : Nat} {Q : mz_P} {pc n i : Nat} {L : List (Option Value)} {st : List Value} (h : mz_d y.2.1 pc n 3 (.invokevirtual i)) (hl : mz_ml y.1.cls i yX8_refuteAll) (hf : f_sy_refuteAll M = some o) (hd : 2 + 1 ≤ d) (hsm : (st.map (fun v => v.category)).sum ≤ 8) (hLr : mz_rL 133 L = true) (hSr : mz_rS 133 st = true) (kk : mW y d Q n L st o) : mW y d Q pc L (.ref 45 :: st) M :=
  y_callV kmX8_refuteAll kvX8_refuteAll l_45 (by decide +kernel) (by decide +kernel) h hl (ok_sy_refuteAll  M hf) (vs := []) rfl rfl hd hsm hLr hSr kk
def K_sy_countStories_28 (Q : mz_P)  (M : dM) : ((Int32 × dM) ⊕ dM) → Prop
  | .inl s => mW mX8_countStories 2 Q 28 [some (.ref 45), some (.int s.1), none] [] s.2
  | .inr r => mR Q none r
noncomputable def b_sy_countStories_28_28 (x1 : Int32) (M : dM) : Option ((Int32 × dM) ⊕ dM) :=
  if 1024 ≤ x1 then
    some (.inr M)
  else
    gd (vp_in x1 1024) <|
    if (gI M 48 x1.toNatClampNeg) = 0 then
      if (gI (sI M 45 9 ((gI M 45 9) + 1)) 45 10) ≤ (f_jd_bitCount_0f7a4 x1) then
        if (f_jd_bitCount_0f7a4 x1) = (gI (sI M 45 9 ((gI M 45 9) + 1)) 45 10) then
          some (.inl ((x1 + 1), (sI (sI (sI M 45 9 ((gI M 45 9) + 1)) 45 12 ((gI (sI M 45 9 ((gI M 45 9) + 1)) 45 12) &&& x1)) 45 13 ((gI (sI (sI M 45 9 ((gI M 45 9) + 1)) 45 12 ((gI (sI M 45 9 ((gI M 45 9) + 1)) 45 12) &&& x1)) 45 13) ||| x1))))
        else
          some (.inl ((x1 + 1), (sI M 45 9 ((gI M 45 9) + 1))))
      else
        some (.inl ((x1 + 1), (sI (sI (sI (sI (sI M 45 9 ((gI M 45 9) + 1)) 45 10 (f_jd_bitCount_0f7a4 x1)) 45 11 x1) 45 12 x1) 45 13 x1)))
    else
      some (.inl ((x1 + 1), M))
noncomputable def l_sy_countStories_28 (x1 : Int32) (M : dM) : Option dM := lpc (fun s => b_sy_countStories_28_28 s.1 s.2) (x1, M)
noncomputable def f_sy_countStories (M : dM) : Option dM :=
  (l_sy_countStories_28 0 (sI (sI (sI (sI (sI M 45 9 0) 45 10 11) 45 11 0) 45 12 0) 45 13 0)).bind fun r4 => some r4
theorem w_b_sy_countStories_28_28 (x1 : Int32) (M : dM) {Q : mz_P} {o : ((Int32 × dM) ⊕ dM)} (hf : b_sy_countStories_28_28 x1 M = some o) (hk : K_sy_countStories_28 Q  M o) : mW mX8_countStories 2 Q 28 [some (.ref 45), some (.int x1), none] [] M := by
  unfold b_sy_countStories_28_28 at hf
  refine y_iload_n (i := 1) (n := 29) ⟨dX8_countStories_28, rfl⟩ rfl ?_
  refine y_sipush (n := 32) (v := 1024) ⟨dX8_countStories_29, rfl⟩ ks_1024 ?_
  refine y_icmp_ge (t := 127) (n := 35) ⟨dX8_countStories_32, rfl, rfl⟩ (fun (hc : 1024 ≤ x1) => ?_) (fun (hc : ¬ (1024 ≤ x1)) => ?_)
  · replace hf := i_t hc hf
    cases hf
    exact y_return (n := 128) ⟨dX8_countStories_127, rfl⟩ rfl hk
  · replace hf := i_f hc hf
    refine y_aload_n (i := 0) (n := 36) ⟨dX8_countStories_35, rfl⟩ rfl ?_
    refine y_getR (n := 39) ⟨dX8_countStories_36, rfl⟩ kfX8_18 l_45 rfl r_45_8 ?_
    refine y_iload_n (i := 1) (n := 40) ⟨dX8_countStories_39, rfl⟩ rfl ?_
    obtain ⟨hg1, hf⟩ := g_s hf
    refine y_baload (n := 41) ⟨dX8_countStories_40, rfl⟩ l_48 hg1 ?_
    refine y_if_eq (t := 47) (n := 44) ⟨dX8_countStories_41, rfl, rfl⟩ (fun (hc : (gI M 48 x1.toNatClampNeg) = 0) => ?_) (fun (hc : ¬ ((gI M 48 x1.toNatClampNeg) = 0)) => ?_)
    · replace hf := i_t hc hf
      refine y_aload_n (i := 0) (n := 48) ⟨dX8_countStories_47, rfl⟩ rfl ?_
      refine y_dup_r (n := 49) ⟨dX8_countStories_48, rfl⟩ ?_
      refine y_getI (n := 52) ⟨dX8_countStories_49, rfl⟩ kfX8_129 l_45 rfl ?_
      refine y_iconst (n := 53) (v := 1) ⟨dX8_countStories_52, rfl⟩ ki_1 ?_
      refine y_iadd (n := 54) ⟨dX8_countStories_53, rfl⟩ ?_
      refine y_putI (n := 57) ⟨dX8_countStories_54, rfl⟩ kfX8_129 l_45 (by decide +kernel) rfl ?_
      refine y_iload_n (i := 1) (n := 58) ⟨dX8_countStories_57, rfl⟩ rfl ?_
      refine c_jd_bitCount_0f7a4 x1 (sI M 45 9 ((gI M 45 9) + 1)) (n := 61) ⟨dX8_countStories_58, rfl⟩ klX8_144 rfl (by decide) (Nat.le_of_ble_eq_true rfl) rfl rfl ?_
      refine y_istore_n (i := 2) (n := 62) (L2 := [some (.ref 45), some (.int x1), some (.int (f_jd_bitCount_0f7a4 x1))]) ⟨dX8_countStories_61, rfl⟩ (by decide) rfl rfl ?_
      refine y_iload_n (i := 2) (n := 63) ⟨dX8_countStories_62, rfl⟩ rfl ?_
      refine y_aload_n (i := 0) (n := 64) ⟨dX8_countStories_63, rfl⟩ rfl ?_
      refine y_getI (n := 67) ⟨dX8_countStories_64, rfl⟩ kfX8_132 l_45 rfl ?_
      refine y_icmp_ge (t := 93) (n := 70) ⟨dX8_countStories_67, rfl, rfl⟩ (fun (hc : (gI (sI M 45 9 ((gI M 45 9) + 1)) 45 10) ≤ (f_jd_bitCount_0f7a4 x1)) => ?_) (fun (hc : ¬ ((gI (sI M 45 9 ((gI M 45 9) + 1)) 45 10) ≤ (f_jd_bitCount_0f7a4 x1))) => ?_)
      · replace hf := i_t hc hf
        refine y_iload_n (i := 2) (n := 94) ⟨dX8_countStories_93, rfl⟩ rfl ?_
        refine y_aload_n (i := 0) (n := 95) ⟨dX8_countStories_94, rfl⟩ rfl ?_
        refine y_getI (n := 98) ⟨dX8_countStories_95, rfl⟩ kfX8_132 l_45 rfl ?_
        refine y_icmp_ne (t := 121) (n := 101) ⟨dX8_countStories_98, rfl, rfl⟩ (fun (hc : ¬ ((f_jd_bitCount_0f7a4 x1) = (gI (sI M 45 9 ((gI M 45 9) + 1)) 45 10))) => ?_) (fun (hc : (f_jd_bitCount_0f7a4 x1) = (gI (sI M 45 9 ((gI M 45 9) + 1)) 45 10)) => ?_)
        · replace hf := i_f hc hf
          refine y_iinc (i := 1) (n := 124) (b := (x1 + 1)) (L2 := [some (.ref 45), some (.int (x1 + 1)), some (.int (f_jd_bitCount_0f7a4 x1))]) ⟨dX8_countStories_121, rfl⟩ rfl (by rw [ki_1]) (by decide) rfl rfl ?_
          refine y_goto (t := 28) ⟨dX8_countStories_124, rfl, rfl⟩ ?_
          cases hf
          exact y_wk ⟨Or.inr rfl, Or.inr rfl, Or.inl rfl, trivial⟩ hk
        · replace hf := i_t hc hf
          refine y_aload_n (i := 0) (n := 102) ⟨dX8_countStories_101, rfl⟩ rfl ?_
          refine y_dup_r (n := 103) ⟨dX8_countStories_102, rfl⟩ ?_
          refine y_getI (n := 106) ⟨dX8_countStories_103, rfl⟩ kfX8_138 l_45 rfl ?_
          refine y_iload_n (i := 1) (n := 107) ⟨dX8_countStories_106, rfl⟩ rfl ?_
          refine y_iand (n := 108) ⟨dX8_countStories_107, rfl⟩ ?_
          refine y_putI (n := 111) ⟨dX8_countStories_108, rfl⟩ kfX8_138 l_45 (by decide +kernel) rfl ?_
          refine y_aload_n (i := 0) (n := 112) ⟨dX8_countStories_111, rfl⟩ rfl ?_
          refine y_dup_r (n := 113) ⟨dX8_countStories_112, rfl⟩ ?_
          refine y_getI (n := 116) ⟨dX8_countStories_113, rfl⟩ kfX8_141 l_45 rfl ?_
          refine y_iload_n (i := 1) (n := 117) ⟨dX8_countStories_116, rfl⟩ rfl ?_
          refine y_ior (n := 118) ⟨dX8_countStories_117, rfl⟩ ?_
          refine y_putI (n := 121) ⟨dX8_countStories_118, rfl⟩ kfX8_141 l_45 (by decide +kernel) rfl ?_
          refine y_iinc (i := 1) (n := 124) (b := (x1 + 1)) (L2 := [some (.ref 45), some (.int (x1 + 1)), some (.int (f_jd_bitCount_0f7a4 x1))]) ⟨dX8_countStories_121, rfl⟩ rfl (by rw [ki_1]) (by decide) rfl rfl ?_
          refine y_goto (t := 28) ⟨dX8_countStories_124, rfl, rfl⟩ ?_
          cases hf
          exact y_wk ⟨Or.inr rfl, Or.inr rfl, Or.inl rfl, trivial⟩ hk
      · replace hf := i_f hc hf
        refine y_aload_n (i := 0) (n := 71) ⟨dX8_countStories_70, rfl⟩ rfl ?_
        refine y_iload_n (i := 2) (n := 72) ⟨dX8_countStories_71, rfl⟩ rfl ?_
        refine y_putI (n := 75) ⟨dX8_countStories_72, rfl⟩ kfX8_132 l_45 (by decide +kernel) rfl ?_
        refine y_aload_n (i := 0) (n := 76) ⟨dX8_countStories_75, rfl⟩ rfl ?_
        refine y_iload_n (i := 1) (n := 77) ⟨dX8_countStories_76, rfl⟩ rfl ?_
        refine y_putI (n := 80) ⟨dX8_countStories_77, rfl⟩ kfX8_135 l_45 (by decide +kernel) rfl ?_
        refine y_aload_n (i := 0) (n := 81) ⟨dX8_countStories_80, rfl⟩ rfl ?_
        refine y_iload_n (i := 1) (n := 82) ⟨dX8_countStories_81, rfl⟩ rfl ?_
        refine y_putI (n := 85) ⟨dX8_countStories_82, rfl⟩ kfX8_138 l_45 (by decide +kernel) rfl ?_
        refine y_aload_n (i := 0) (n := 86) ⟨dX8_countStories_85, rfl⟩ rfl ?_
        refine y_iload_n (i := 1) (n := 87) ⟨dX8_countStories_86, rfl⟩ rfl ?_
        refine y_putI (n := 90) ⟨dX8_countStories_87, rfl⟩ kfX8_141 l_45 (by decide +kernel) rfl ?_
        refine y_goto (t := 121) ⟨dX8_countStories_90, rfl, rfl⟩ ?_
        refine y_iinc (i := 1) (n := 124) (b := (x1 + 1)) (L2 := [some (.ref 45), some (.int (x1 + 1)), some (.int (f_jd_bitCount_0f7a4 x1))]) ⟨dX8_countStories_121, rfl⟩ rfl (by rw [ki_1]) (by decide) rfl rfl ?_
        refine y_goto (t := 28) ⟨dX8_countStories_124, rfl, rfl⟩ ?_
        cases hf
        exact y_wk ⟨Or.inr rfl, Or.inr rfl, Or.inl rfl, trivial⟩ hk
    · replace hf := i_f hc hf
      refine y_goto (t := 121) ⟨dX8_countStories_44, rfl, rfl⟩ ?_
      refine y_iinc (i := 1) (n := 124) (b := (x1 + 1)) (L2 := [some (.ref 45), some (.int (x1 + 1)), none]) ⟨dX8_countStories_121, rfl⟩ rfl (by rw [ki_1]) (by decide) rfl rfl ?_
      refine y_goto (t := 28) ⟨dX8_countStories_124, rfl, rfl⟩ ?_
      cases hf
      exact y_wk ⟨Or.inr rfl, Or.inr rfl, Or.inr rfl, trivial⟩ hk
theorem wl_sy_countStories_28 (x1 : Int32) (M : dM) {Q : mz_P} {x : dM} (hf : l_sy_countStories_28 x1 M = some x) (hk : K_sy_countStories_28 Q  M (.inr x)) : mW mX8_countStories 2 Q 28 [some (.ref 45), some (.int x1), none] [] M :=
  lpc_wp (Wh := fun s => mW mX8_countStories 2 Q 28 [some (.ref 45), some (.int s.1), none] [] s.2) (K := K_sy_countStories_28 Q  M) (fun _ h => h) (fun s o hb hk => w_b_sy_countStories_28_28 s.1 s.2 hb hk) hf hk
theorem ok_sy_countStories  (M : dM) {o : dM} (hf : f_sy_countStories M = some o) : mO mX8_countStories 2 [.ref 45] M none o := by
  refine y_ok (by decide +kernel) (by decide) (L0 := [some (.ref 45), none, none]) rfl ?_
  have hk := mR_mQ none o
  generalize mQ _ _ = Q at hk ⊢
  unfold f_sy_countStories at hf
  refine y_aload_n (i := 0) (n := 1) ⟨dX8_countStories_0, rfl⟩ rfl ?_
  refine y_iconst (n := 2) (v := 0) ⟨dX8_countStories_1, rfl⟩ ki_0 ?_
  refine y_putI (n := 5) ⟨dX8_countStories_2, rfl⟩ kfX8_129 l_45 (by decide +kernel) rfl ?_
  refine y_aload_n (i := 0) (n := 6) ⟨dX8_countStories_5, rfl⟩ rfl ?_
  refine y_bipush (n := 8) (v := 11) ⟨dX8_countStories_6, rfl⟩ kb_11 ?_
  refine y_putI (n := 11) ⟨dX8_countStories_8, rfl⟩ kfX8_132 l_45 (by decide +kernel) rfl ?_
  refine y_aload_n (i := 0) (n := 12) ⟨dX8_countStories_11, rfl⟩ rfl ?_
  refine y_iconst (n := 13) (v := 0) ⟨dX8_countStories_12, rfl⟩ ki_0 ?_
  refine y_putI (n := 16) ⟨dX8_countStories_13, rfl⟩ kfX8_135 l_45 (by decide +kernel) rfl ?_
  refine y_aload_n (i := 0) (n := 17) ⟨dX8_countStories_16, rfl⟩ rfl ?_
  refine y_iconst (n := 18) (v := 0) ⟨dX8_countStories_17, rfl⟩ ki_0 ?_
  refine y_putI (n := 21) ⟨dX8_countStories_18, rfl⟩ kfX8_138 l_45 (by decide +kernel) rfl ?_
  refine y_aload_n (i := 0) (n := 22) ⟨dX8_countStories_21, rfl⟩ rfl ?_
  refine y_iconst (n := 23) (v := 0) ⟨dX8_countStories_22, rfl⟩ ki_0 ?_
  refine y_putI (n := 26) ⟨dX8_countStories_23, rfl⟩ kfX8_141 l_45 (by decide +kernel) rfl ?_
  refine y_iconst (n := 27) (v := 0) ⟨dX8_countStories_26, rfl⟩ ki_0 ?_
  refine y_istore_n (i := 1) (n := 28) (L2 := [some (.ref 45), some (.int 0), none]) ⟨dX8_countStories_27, rfl⟩ (by decide) rfl rfl ?_
  obtain ⟨r4, hl3, hf⟩ := b_s hf
  cases hf
  exact y_wk ⟨Or.inr rfl, Or.inr rfl, Or.inr rfl, trivial⟩ (wl_sy_countStories_28 0 (sI (sI (sI (sI (sI M 45 9 0) 45 10 11) 45 11 0) 45 12 0) 45 13 0) hl3 hk)
theorem c_sy_countStories  (M : dM) {o : dM} {y : mz_M} {d : Nat} {Q : mz_P} {pc n i : Nat} {L : List (Option Value)} {st : List Value} (h : mz_d y.2.1 pc n 3 (.invokevirtual i)) (hl : mz_ml y.1.cls i yX8_countStories) (hf : f_sy_countStories M = some o) (hd : 2 + 1 ≤ d) (hsm : (st.map (fun v => v.category)).sum ≤ 8) (hLr : mz_rL 133 L = true) (hSr : mz_rS 133 st = true) (kk : mW y d Q n L st o) : mW y d Q pc L (.ref 45 :: st) M :=
  y_callV kmX8_countStories kvX8_countStories l_45 (by decide +kernel) (by decide +kernel) h hl (ok_sy_countStories  M hf) (vs := []) rfl rfl hd hsm hLr hSr kk
def K_sy_doubt_7 (Q : mz_P)  (M : dM) : ((Int32 × dM) ⊕ dM) → Prop
  | .inl s => mW mX8_doubt 2 Q 7 [some (.ref 45), some (.int s.1)] [] s.2
  | .inr r => mR Q none r
noncomputable def b_sy_doubt_7_50 (x1 : Int32) (M : dM) : Option ((Int32 × dM) ⊕ dM) :=
  some (.inl ((x1 + 1), (sJ M 45 7 ((gJ M 45 7) ||| ((1 : Int64) <<< (x1.toInt64 &&& 63))))))
noncomputable def b_sy_doubt_7_7 (x1 : Int32) (M : dM) : Option ((Int32 × dM) ⊕ dM) :=
  if (gI M 12 7) ≤ x1 then
    some (.inr M)
  else
    gd (vp_in x1 40) <|
    if (gI M 41 x1.toNatClampNeg) = 0 then
      if (f_ax_hasBit ((gI M 45 13).toInt64) (gI M 17 x1.toNatClampNeg)) = true then
        b_sy_doubt_7_50 x1 M
      else
        some (.inl ((x1 + 1), M))
    else
      b_sy_doubt_7_50 x1 M
noncomputable def l_sy_doubt_7 (x1 : Int32) (M : dM) : Option dM := lpc (fun s => b_sy_doubt_7_7 s.1 s.2) (x1, M)
noncomputable def f_sy_doubt (M : dM) : Option dM :=
  (l_sy_doubt_7 0 (sJ M 45 7 0)).bind fun r4 => some r4
theorem w_b_sy_doubt_7_50 (x1 : Int32) (M : dM) {Q : mz_P} {o : ((Int32 × dM) ⊕ dM)} (hf : b_sy_doubt_7_50 x1 M = some o) (hk : K_sy_doubt_7 Q  M o) : mW mX8_doubt 2 Q 50 [some (.ref 45), some (.int x1)] [] M := by
  unfold b_sy_doubt_7_50 at hf
  refine y_aload_n (i := 0) (n := 51) ⟨dX8_doubt_50, rfl⟩ rfl ?_
  refine y_dup_r (n := 52) ⟨dX8_doubt_51, rfl⟩ ?_
  refine y_getJ (n := 55) ⟨dX8_doubt_52, rfl⟩ kfX8_149 l_45 rfl ?_
  refine y_lconst (n := 56) (v := 1) ⟨dX8_doubt_55, rfl⟩ kl_1 ?_
  refine y_iload_n (i := 1) (n := 57) ⟨dX8_doubt_56, rfl⟩ rfl ?_
  refine y_lshl (n := 58) ⟨dX8_doubt_57, rfl⟩ ?_
  refine y_lor (n := 59) ⟨dX8_doubt_58, rfl⟩ ?_
  refine y_putJ (n := 62) ⟨dX8_doubt_59, rfl⟩ kfX8_149 l_45 (by decide +kernel) rfl ?_
  refine y_iinc (i := 1) (n := 65) (b := (x1 + 1)) (L2 := [some (.ref 45), some (.int (x1 + 1))]) ⟨dX8_doubt_62, rfl⟩ rfl (by rw [ki_1]) (by decide) rfl rfl ?_
  refine y_goto (t := 7) ⟨dX8_doubt_65, rfl, rfl⟩ ?_
  cases hf
  exact y_wk ⟨Or.inr rfl, Or.inr rfl, trivial⟩ hk
theorem w_b_sy_doubt_7_7 (x1 : Int32) (M : dM) {Q : mz_P} {o : ((Int32 × dM) ⊕ dM)} (hf : b_sy_doubt_7_7 x1 M = some o) (hk : K_sy_doubt_7 Q  M o) : mW mX8_doubt 2 Q 7 [some (.ref 45), some (.int x1)] [] M := by
  unfold b_sy_doubt_7_7 at hf
  refine y_iload_n (i := 1) (n := 8) ⟨dX8_doubt_7, rfl⟩ rfl ?_
  refine y_aload_n (i := 0) (n := 9) ⟨dX8_doubt_8, rfl⟩ rfl ?_
  refine y_getR (n := 12) ⟨dX8_doubt_9, rfl⟩ kfX8_29 l_45 rfl r_45_1 ?_
  refine y_getI (n := 15) ⟨dX8_doubt_12, rfl⟩ kfX8_45 l_12 rfl ?_
  refine y_icmp_ge (t := 68) (n := 18) ⟨dX8_doubt_15, rfl, rfl⟩ (fun (hc : (gI M 12 7) ≤ x1) => ?_) (fun (hc : ¬ ((gI M 12 7) ≤ x1)) => ?_)
  · replace hf := i_t hc hf
    cases hf
    exact y_return (n := 69) ⟨dX8_doubt_68, rfl⟩ rfl hk
  · replace hf := i_f hc hf
    refine y_aload_n (i := 0) (n := 19) ⟨dX8_doubt_18, rfl⟩ rfl ?_
    refine y_getR (n := 22) ⟨dX8_doubt_19, rfl⟩ kfX8_37 l_45 rfl r_45_3 ?_
    refine y_getR (n := 25) ⟨dX8_doubt_22, rfl⟩ kfX8_58 l_39 rfl r_39_5 ?_
    refine y_iload_n (i := 1) (n := 26) ⟨dX8_doubt_25, rfl⟩ rfl ?_
    obtain ⟨hg1, hf⟩ := g_s hf
    refine y_iaload (n := 27) ⟨dX8_doubt_26, rfl⟩ l_41 hg1 ?_
    refine y_if_ne (t := 50) (n := 30) ⟨dX8_doubt_27, rfl, rfl⟩ (fun (hc : ¬ ((gI M 41 x1.toNatClampNeg) = 0)) => ?_) (fun (hc : (gI M 41 x1.toNatClampNeg) = 0) => ?_)
    · replace hf := i_f hc hf
      exact y_wk ⟨Or.inr rfl, Or.inr rfl, trivial⟩ (w_b_sy_doubt_7_50 x1 M hf hk)
    · replace hf := i_t hc hf
      refine y_aload_n (i := 0) (n := 31) ⟨dX8_doubt_30, rfl⟩ rfl ?_
      refine y_getI (n := 34) ⟨dX8_doubt_31, rfl⟩ kfX8_141 l_45 rfl ?_
      refine y_i2l (n := 35) ⟨dX8_doubt_34, rfl⟩ ?_
      refine y_aload_n (i := 0) (n := 36) ⟨dX8_doubt_35, rfl⟩ rfl ?_
      refine y_getR (n := 39) ⟨dX8_doubt_36, rfl⟩ kfX8_29 l_45 rfl r_45_1 ?_
      refine y_getR (n := 42) ⟨dX8_doubt_39, rfl⟩ kfX8_152 l_12 rfl r_12_4 ?_
      refine y_iload_n (i := 1) (n := 43) ⟨dX8_doubt_42, rfl⟩ rfl ?_
      refine y_iaload (n := 44) ⟨dX8_doubt_43, rfl⟩ l_17 hg1 ?_
      refine c_ax_hasBit ((gI M 45 13).toInt64) (gI M 17 x1.toNatClampNeg) M (n := 47) ⟨dX8_doubt_44, rfl⟩ klX8_114 rfl (by decide) (Nat.le_of_ble_eq_true rfl) rfl rfl ?_
      refine y_if_eq (t := 62) (n := 50) ⟨dX8_doubt_47, rfl, rfl⟩ (fun h0 => ?_) (fun h0 => ?_)
      · have hc := bI_0 h0
        replace hf := i_f hc hf
        refine y_iinc (i := 1) (n := 65) (b := (x1 + 1)) (L2 := [some (.ref 45), some (.int (x1 + 1))]) ⟨dX8_doubt_62, rfl⟩ rfl (by rw [ki_1]) (by decide) rfl rfl ?_
        refine y_goto (t := 7) ⟨dX8_doubt_65, rfl, rfl⟩ ?_
        cases hf
        exact y_wk ⟨Or.inr rfl, Or.inr rfl, trivial⟩ hk
      · have hc := bI_1 h0
        replace hf := i_t hc hf
        exact y_wk ⟨Or.inr rfl, Or.inr rfl, trivial⟩ (w_b_sy_doubt_7_50 x1 M hf hk)
theorem wl_sy_doubt_7 (x1 : Int32) (M : dM) {Q : mz_P} {x : dM} (hf : l_sy_doubt_7 x1 M = some x) (hk : K_sy_doubt_7 Q  M (.inr x)) : mW mX8_doubt 2 Q 7 [some (.ref 45), some (.int x1)] [] M :=
  lpc_wp (Wh := fun s => mW mX8_doubt 2 Q 7 [some (.ref 45), some (.int s.1)] [] s.2) (K := K_sy_doubt_7 Q  M) (fun _ h => h) (fun s o hb hk => w_b_sy_doubt_7_7 s.1 s.2 hb hk) hf hk
theorem ok_sy_doubt  (M : dM) {o : dM} (hf : f_sy_doubt M = some o) : mO mX8_doubt 2 [.ref 45] M none o := by
  refine y_ok (by decide +kernel) (by decide) (L0 := [some (.ref 45), none]) rfl ?_
  have hk := mR_mQ none o
  generalize mQ _ _ = Q at hk ⊢
  unfold f_sy_doubt at hf
  refine y_aload_n (i := 0) (n := 1) ⟨dX8_doubt_0, rfl⟩ rfl ?_
  refine y_lconst (n := 2) (v := 0) ⟨dX8_doubt_1, rfl⟩ kl_0 ?_
  refine y_putJ (n := 5) ⟨dX8_doubt_2, rfl⟩ kfX8_149 l_45 (by decide +kernel) rfl ?_
  refine y_iconst (n := 6) (v := 0) ⟨dX8_doubt_5, rfl⟩ ki_0 ?_
  refine y_istore_n (i := 1) (n := 7) (L2 := [some (.ref 45), some (.int 0)]) ⟨dX8_doubt_6, rfl⟩ (by decide) rfl rfl ?_
  obtain ⟨r4, hl3, hf⟩ := b_s hf
  cases hf
  exact y_wk ⟨Or.inr rfl, Or.inr rfl, trivial⟩ (wl_sy_doubt_7 0 (sJ M 45 7 0) hl3 hk)
theorem c_sy_doubt  (M : dM) {o : dM} {y : mz_M} {d : Nat} {Q : mz_P} {pc n i : Nat} {L : List (Option Value)} {st : List Value} (h : mz_d y.2.1 pc n 3 (.invokevirtual i)) (hl : mz_ml y.1.cls i yX8_doubt) (hf : f_sy_doubt M = some o) (hd : 2 + 1 ≤ d) (hsm : (st.map (fun v => v.category)).sum ≤ 8) (hLr : mz_rL 133 L = true) (hSr : mz_rS 133 st = true) (kk : mW y d Q n L st o) : mW y d Q pc L (.ref 45 :: st) M :=
  y_callV kmX8_doubt kvX8_doubt l_45 (by decide +kernel) (by decide +kernel) h hl (ok_sy_doubt  M hf) (vs := []) rfl rfl hd hsm hLr hSr kk
def K_sy_tell_7 (Q : mz_P)  (M : dM) : ((Int32 × dM) ⊕ dM) → Prop
  | .inl s => mW mX8_tell 3 Q 7 [some (.ref 45), some (.int s.1), none] [] s.2
  | .inr r => mR Q none r
noncomputable def b_sy_tell_7_79 (x1 : Int32) (M : dM) : Option ((Int32 × dM) ⊕ dM) :=
  some (.inl ((x1 + 1), (sJ M 45 6 ((gJ M 45 6) ||| ((1 : Int64) <<< (x1.toInt64 &&& 63))))))
noncomputable def b_sy_tell_7_61 (x1 : Int32) (x2 : Int32) (y1 : Int32) (y2 : Int32) (M : dM) : Option ((Int32 × dM) ⊕ dM) :=
  gd (vp_in y1 40) <|
  if x2 = 0 then
    gd (vp_in x1 40) <|
    if (gI (sI M 47 y1.toNatClampNeg y2) 41 x1.toNatClampNeg) = 2 then
      b_sy_tell_7_79 x1 (sI M 47 y1.toNatClampNeg y2)
    else
      some (.inl ((x1 + 1), (sI M 47 y1.toNatClampNeg y2)))
  else
    b_sy_tell_7_79 x1 (sI M 47 y1.toNatClampNeg y2)
noncomputable def b_sy_tell_7_7 (x1 : Int32) (M : dM) : Option ((Int32 × dM) ⊕ dM) :=
  if (gI M 12 7) ≤ x1 then
    (f_sy_refuteAll M).bind fun q1 =>
    (f_sy_countStories q1).bind fun q3 =>
    (f_sy_doubt q3).bind fun q5 =>
    some (.inr q5)
  else
    (f_sy_whoCan x1 M).bind fun v7 =>
    gd (vp_in x1 40) <|
    (f_sy_whoWasSeen x1 (sI M 46 x1.toNatClampNeg v7)).bind fun v10 =>
    if (v10 &&& (gI (sI M 46 x1.toNatClampNeg v7) 46 x1.toNatClampNeg)) = 0 then
      b_sy_tell_7_61 x1 (v10 &&& (gI (sI M 46 x1.toNatClampNeg v7) 46 x1.toNatClampNeg)) x1 (gI (sI M 46 x1.toNatClampNeg v7) 46 x1.toNatClampNeg) (sI M 46 x1.toNatClampNeg v7)
    else
      b_sy_tell_7_61 x1 (v10 &&& (gI (sI M 46 x1.toNatClampNeg v7) 46 x1.toNatClampNeg)) x1 (v10 &&& (gI (sI M 46 x1.toNatClampNeg v7) 46 x1.toNatClampNeg)) (sI M 46 x1.toNatClampNeg v7)
noncomputable def l_sy_tell_7 (x1 : Int32) (M : dM) : Option dM := lpc (fun s => b_sy_tell_7_7 s.1 s.2) (x1, M)
noncomputable def f_sy_tell (M : dM) : Option dM :=
  (l_sy_tell_7 0 (sJ M 45 6 0)).bind fun r16 => some r16
theorem w_b_sy_tell_7_79 (x1 : Int32) (M : dM) {Q : mz_P} {o : ((Int32 × dM) ⊕ dM)} (hf : b_sy_tell_7_79 x1 M = some o) (hk : K_sy_tell_7 Q  M o) : mW mX8_tell 3 Q 79 [some (.ref 45), some (.int x1), none] [] M := by
  unfold b_sy_tell_7_79 at hf
  refine y_aload_n (i := 0) (n := 80) ⟨dX8_tell_79, rfl⟩ rfl ?_
  refine y_dup_r (n := 81) ⟨dX8_tell_80, rfl⟩ ?_
  refine y_getJ (n := 84) ⟨dX8_tell_81, rfl⟩ kfX8_41 l_45 rfl ?_
  refine y_lconst (n := 85) (v := 1) ⟨dX8_tell_84, rfl⟩ kl_1 ?_
  refine y_iload_n (i := 1) (n := 86) ⟨dX8_tell_85, rfl⟩ rfl ?_
  refine y_lshl (n := 87) ⟨dX8_tell_86, rfl⟩ ?_
  refine y_lor (n := 88) ⟨dX8_tell_87, rfl⟩ ?_
  refine y_putJ (n := 91) ⟨dX8_tell_88, rfl⟩ kfX8_41 l_45 (by decide +kernel) rfl ?_
  refine y_iinc (i := 1) (n := 94) (b := (x1 + 1)) (L2 := [some (.ref 45), some (.int (x1 + 1)), none]) ⟨dX8_tell_91, rfl⟩ rfl (by rw [ki_1]) (by decide) rfl rfl ?_
  refine y_goto (t := 7) ⟨dX8_tell_94, rfl, rfl⟩ ?_
  cases hf
  exact y_wk ⟨Or.inr rfl, Or.inr rfl, Or.inr rfl, trivial⟩ hk
theorem w_b_sy_tell_7_61 (x1 : Int32) (x2 : Int32) (y1 : Int32) (y2 : Int32) (M : dM) {Q : mz_P} {o : ((Int32 × dM) ⊕ dM)} (hf : b_sy_tell_7_61 x1 x2 y1 y2 M = some o) (hk : K_sy_tell_7 Q  M o) : mW mX8_tell 3 Q 61 [some (.ref 45), some (.int x1), some (.int x2)] [.ref 47, .int y1, .int y2] M := by
  unfold b_sy_tell_7_61 at hf
  obtain ⟨hg12, hf⟩ := g_s hf
  refine y_iastore (n := 62) ⟨dX8_tell_61, rfl⟩ l_47 hg12 ?_
  refine y_iload_n (i := 2) (n := 63) ⟨dX8_tell_62, rfl⟩ rfl ?_
  refine y_if_ne (t := 79) (n := 66) ⟨dX8_tell_63, rfl, rfl⟩ (fun (hc : ¬ (x2 = 0)) => ?_) (fun (hc : x2 = 0) => ?_)
  · replace hf := i_f hc hf
    exact y_wk ⟨Or.inr rfl, Or.inr rfl, Or.inl rfl, trivial⟩ (w_b_sy_tell_7_79 x1 (sI M 47 y1.toNatClampNeg y2) hf hk)
  · replace hf := i_t hc hf
    refine y_aload_n (i := 0) (n := 67) ⟨dX8_tell_66, rfl⟩ rfl ?_
    refine y_getR (n := 70) ⟨dX8_tell_67, rfl⟩ kfX8_37 l_45 rfl r_45_3 ?_
    refine y_getR (n := 73) ⟨dX8_tell_70, rfl⟩ kfX8_58 l_39 rfl r_39_5 ?_
    refine y_iload_n (i := 1) (n := 74) ⟨dX8_tell_73, rfl⟩ rfl ?_
    obtain ⟨hg13, hf⟩ := g_s hf
    refine y_iaload (n := 75) ⟨dX8_tell_74, rfl⟩ l_41 hg13 ?_
    refine y_iconst (n := 76) (v := 2) ⟨dX8_tell_75, rfl⟩ ki_2 ?_
    refine y_icmp_ne (t := 91) (n := 79) ⟨dX8_tell_76, rfl, rfl⟩ (fun (hc : ¬ ((gI (sI M 47 y1.toNatClampNeg y2) 41 x1.toNatClampNeg) = 2)) => ?_) (fun (hc : (gI (sI M 47 y1.toNatClampNeg y2) 41 x1.toNatClampNeg) = 2) => ?_)
    · replace hf := i_f hc hf
      refine y_iinc (i := 1) (n := 94) (b := (x1 + 1)) (L2 := [some (.ref 45), some (.int (x1 + 1)), some (.int x2)]) ⟨dX8_tell_91, rfl⟩ rfl (by rw [ki_1]) (by decide) rfl rfl ?_
      refine y_goto (t := 7) ⟨dX8_tell_94, rfl, rfl⟩ ?_
      cases hf
      exact y_wk ⟨Or.inr rfl, Or.inr rfl, Or.inl rfl, trivial⟩ hk
    · replace hf := i_t hc hf
      exact y_wk ⟨Or.inr rfl, Or.inr rfl, Or.inl rfl, trivial⟩ (w_b_sy_tell_7_79 x1 (sI M 47 y1.toNatClampNeg y2) hf hk)
theorem w_b_sy_tell_7_7 (x1 : Int32) (M : dM) {Q : mz_P} {o : ((Int32 × dM) ⊕ dM)} (hf : b_sy_tell_7_7 x1 M = some o) (hk : K_sy_tell_7 Q  M o) : mW mX8_tell 3 Q 7 [some (.ref 45), some (.int x1), none] [] M := by
  unfold b_sy_tell_7_7 at hf
  refine y_iload_n (i := 1) (n := 8) ⟨dX8_tell_7, rfl⟩ rfl ?_
  refine y_aload_n (i := 0) (n := 9) ⟨dX8_tell_8, rfl⟩ rfl ?_
  refine y_getR (n := 12) ⟨dX8_tell_9, rfl⟩ kfX8_29 l_45 rfl r_45_1 ?_
  refine y_getI (n := 15) ⟨dX8_tell_12, rfl⟩ kfX8_45 l_12 rfl ?_
  refine y_icmp_ge (t := 97) (n := 18) ⟨dX8_tell_15, rfl, rfl⟩ (fun (hc : (gI M 12 7) ≤ x1) => ?_) (fun (hc : ¬ ((gI M 12 7) ≤ x1)) => ?_)
  · replace hf := i_t hc hf
    refine y_aload_n (i := 0) (n := 98) ⟨dX8_tell_97, rfl⟩ rfl ?_
    obtain ⟨q1, hv2, hf⟩ := b_s hf
    refine c_sy_refuteAll M (n := 101) ⟨dX8_tell_98, rfl⟩ klX8_63 hv2 (by decide) (Nat.le_of_ble_eq_true rfl) rfl rfl ?_
    refine y_aload_n (i := 0) (n := 102) ⟨dX8_tell_101, rfl⟩ rfl ?_
    obtain ⟨q3, hv4, hf⟩ := b_s hf
    refine c_sy_countStories q1 (n := 105) ⟨dX8_tell_102, rfl⟩ klX8_66 hv4 (by decide) (Nat.le_of_ble_eq_true rfl) rfl rfl ?_
    refine y_aload_n (i := 0) (n := 106) ⟨dX8_tell_105, rfl⟩ rfl ?_
    obtain ⟨q5, hv6, hf⟩ := b_s hf
    refine c_sy_doubt q3 (n := 109) ⟨dX8_tell_106, rfl⟩ klX8_69 hv6 (by decide) (Nat.le_of_ble_eq_true rfl) rfl rfl ?_
    cases hf
    exact y_return (n := 110) ⟨dX8_tell_109, rfl⟩ rfl hk
  · replace hf := i_f hc hf
    refine y_aload_n (i := 0) (n := 19) ⟨dX8_tell_18, rfl⟩ rfl ?_
    refine y_getR (n := 22) ⟨dX8_tell_19, rfl⟩ kfX8_9 l_45 rfl r_45_4 ?_
    refine y_iload_n (i := 1) (n := 23) ⟨dX8_tell_22, rfl⟩ rfl ?_
    refine y_aload_n (i := 0) (n := 24) ⟨dX8_tell_23, rfl⟩ rfl ?_
    refine y_iload_n (i := 1) (n := 25) ⟨dX8_tell_24, rfl⟩ rfl ?_
    obtain ⟨v7, hv8, hf⟩ := b_s hf
    refine c_sy_whoCan x1 M (n := 28) ⟨dX8_tell_25, rfl⟩ klX8_51 hv8 (by decide) (Nat.le_of_ble_eq_true rfl) rfl rfl ?_
    obtain ⟨hg9, hf⟩ := g_s hf
    refine y_iastore (n := 29) ⟨dX8_tell_28, rfl⟩ l_46 hg9 ?_
    refine y_aload_n (i := 0) (n := 30) ⟨dX8_tell_29, rfl⟩ rfl ?_
    refine y_iload_n (i := 1) (n := 31) ⟨dX8_tell_30, rfl⟩ rfl ?_
    obtain ⟨v10, hv11, hf⟩ := b_s hf
    refine c_sy_whoWasSeen x1 (sI M 46 x1.toNatClampNeg v7) (n := 34) ⟨dX8_tell_31, rfl⟩ klX8_55 hv11 (by decide) (Nat.le_of_ble_eq_true rfl) rfl rfl ?_
    refine y_aload_n (i := 0) (n := 35) ⟨dX8_tell_34, rfl⟩ rfl ?_
    refine y_getR (n := 38) ⟨dX8_tell_35, rfl⟩ kfX8_9 l_45 rfl r_45_4 ?_
    refine y_iload_n (i := 1) (n := 39) ⟨dX8_tell_38, rfl⟩ rfl ?_
    refine y_iaload (n := 40) ⟨dX8_tell_39, rfl⟩ l_46 hg9 ?_
    refine y_iand (n := 41) ⟨dX8_tell_40, rfl⟩ ?_
    refine y_istore_n (i := 2) (n := 42) (L2 := [some (.ref 45), some (.int x1), some (.int (v10 &&& (gI (sI M 46 x1.toNatClampNeg v7) 46 x1.toNatClampNeg)))]) ⟨dX8_tell_41, rfl⟩ (by decide) rfl rfl ?_
    refine y_aload_n (i := 0) (n := 43) ⟨dX8_tell_42, rfl⟩ rfl ?_
    refine y_getR (n := 46) ⟨dX8_tell_43, rfl⟩ kfX8_15 l_45 rfl r_45_5 ?_
    refine y_iload_n (i := 1) (n := 47) ⟨dX8_tell_46, rfl⟩ rfl ?_
    refine y_iload_n (i := 2) (n := 48) ⟨dX8_tell_47, rfl⟩ rfl ?_
    refine y_if_eq (t := 55) (n := 51) ⟨dX8_tell_48, rfl, rfl⟩ (fun (hc : (v10 &&& (gI (sI M 46 x1.toNatClampNeg v7) 46 x1.toNatClampNeg)) = 0) => ?_) (fun (hc : ¬ ((v10 &&& (gI (sI M 46 x1.toNatClampNeg v7) 46 x1.toNatClampNeg)) = 0)) => ?_)
    · replace hf := i_t hc hf
      refine y_aload_n (i := 0) (n := 56) ⟨dX8_tell_55, rfl⟩ rfl ?_
      refine y_getR (n := 59) ⟨dX8_tell_56, rfl⟩ kfX8_9 l_45 rfl r_45_4 ?_
      refine y_iload_n (i := 1) (n := 60) ⟨dX8_tell_59, rfl⟩ rfl ?_
      refine y_iaload (n := 61) ⟨dX8_tell_60, rfl⟩ l_46 hg9 ?_
      exact y_wk ⟨Or.inr rfl, Or.inr rfl, Or.inr rfl, trivial⟩ (w_b_sy_tell_7_61 x1 (v10 &&& (gI (sI M 46 x1.toNatClampNeg v7) 46 x1.toNatClampNeg)) x1 (gI (sI M 46 x1.toNatClampNeg v7) 46 x1.toNatClampNeg) (sI M 46 x1.toNatClampNeg v7) hf hk)
    · replace hf := i_f hc hf
      refine y_iload_n (i := 2) (n := 52) ⟨dX8_tell_51, rfl⟩ rfl ?_
      refine y_goto (t := 61) ⟨dX8_tell_52, rfl, rfl⟩ ?_
      exact y_wk ⟨Or.inr rfl, Or.inr rfl, Or.inr rfl, trivial⟩ (w_b_sy_tell_7_61 x1 (v10 &&& (gI (sI M 46 x1.toNatClampNeg v7) 46 x1.toNatClampNeg)) x1 (v10 &&& (gI (sI M 46 x1.toNatClampNeg v7) 46 x1.toNatClampNeg)) (sI M 46 x1.toNatClampNeg v7) hf hk)
theorem wl_sy_tell_7 (x1 : Int32) (M : dM) {Q : mz_P} {x : dM} (hf : l_sy_tell_7 x1 M = some x) (hk : K_sy_tell_7 Q  M (.inr x)) : mW mX8_tell 3 Q 7 [some (.ref 45), some (.int x1), none] [] M :=
  lpc_wp (Wh := fun s => mW mX8_tell 3 Q 7 [some (.ref 45), some (.int s.1), none] [] s.2) (K := K_sy_tell_7 Q  M) (fun _ h => h) (fun s o hb hk => w_b_sy_tell_7_7 s.1 s.2 hb hk) hf hk
theorem ok_sy_tell  (M : dM) {o : dM} (hf : f_sy_tell M = some o) : mO mX8_tell 3 [.ref 45] M none o := by
  refine y_ok (by decide +kernel) (by decide) (L0 := [some (.ref 45), none, none]) rfl ?_
  have hk := mR_mQ none o
  generalize mQ _ _ = Q at hk ⊢
  unfold f_sy_tell at hf
  refine y_aload_n (i := 0) (n := 1) ⟨dX8_tell_0, rfl⟩ rfl ?_
  refine y_lconst (n := 2) (v := 0) ⟨dX8_tell_1, rfl⟩ kl_0 ?_
  refine y_putJ (n := 5) ⟨dX8_tell_2, rfl⟩ kfX8_41 l_45 (by decide +kernel) rfl ?_
  refine y_iconst (n := 6) (v := 0) ⟨dX8_tell_5, rfl⟩ ki_0 ?_
  refine y_istore_n (i := 1) (n := 7) (L2 := [some (.ref 45), some (.int 0), none]) ⟨dX8_tell_6, rfl⟩ (by decide) rfl rfl ?_
  obtain ⟨r16, hl15, hf⟩ := b_s hf
  cases hf
  exact y_wk ⟨Or.inr rfl, Or.inr rfl, Or.inr rfl, trivial⟩ (wl_sy_tell_7 0 (sJ M 45 6 0) hl15 hk)
theorem c_sy_tell  (M : dM) {o : dM} {y : mz_M} {d : Nat} {Q : mz_P} {pc n i : Nat} {L : List (Option Value)} {st : List Value} (h : mz_d y.2.1 pc n 3 (.invokevirtual i)) (hl : mz_ml y.1.cls i yX8_tell) (hf : f_sy_tell M = some o) (hd : 3 + 1 ≤ d) (hsm : (st.map (fun v => v.category)).sum ≤ 8) (hLr : mz_rL 133 L = true) (hSr : mz_rS 133 st = true) (kk : mW y d Q n L st o) : mW y d Q pc L (.ref 45 :: st) M :=
  y_callV kmX8_tell kvX8_tell l_45 (by decide +kernel) (by decide +kernel) h hl (ok_sy_tell  M hf) (vs := []) rfl rfl hd hsm hLr hSr kk
noncomputable def t_ax_study_27 (x1 : Int32) (M : dM) : Option dM :=
  if x1 < 2 then
    some M
  else
    if (2 : Int32) ≤ (gI M 0 10) then
      some M
    else
      (f_sy_tell M).bind fun q1 =>
      some (sI q1 0 10 2)
noncomputable def f_ax_study (a1 : Int32) (M : dM) : Option dM :=
  if (1 : Int32) ≤ (gI M 0 10) then
    t_ax_study_27 a1 M
  else
    (f_li_weigh M).bind fun q3 =>
    (f_ju_judgeAll q3).bind fun q5 =>
    t_ax_study_27 a1 (sI q5 0 10 1)
theorem w_t_ax_study_27 (x1 : Int32) (M : dM) {Q : mz_P} {o : dM} (hf : t_ax_study_27 x1 M = some o) (hk : mR Q none o) : mW mX11_study 5 Q 27 [some (.ref 0), some (.int x1)] [] M := by
  unfold t_ax_study_27 at hf
  refine y_iload_n (i := 1) (n := 28) ⟨dX11_study_27, rfl⟩ rfl ?_
  refine y_iconst (n := 29) (v := 2) ⟨dX11_study_28, rfl⟩ ki_2 ?_
  refine y_icmp_lt (t := 52) (n := 32) ⟨dX11_study_29, rfl, rfl⟩ (fun (hc : x1 < 2) => ?_) (fun (hc : ¬ (x1 < 2)) => ?_)
  · replace hf := i_t hc hf
    cases hf
    exact y_return (n := 53) ⟨dX11_study_52, rfl⟩ rfl hk
  · replace hf := i_f hc hf
    refine y_aload_n (i := 0) (n := 33) ⟨dX11_study_32, rfl⟩ rfl ?_
    refine y_getI (n := 36) ⟨dX11_study_33, rfl⟩ kfX11_87 l_0 rfl ?_
    refine y_iconst (n := 37) (v := 2) ⟨dX11_study_36, rfl⟩ ki_2 ?_
    refine y_icmp_ge (t := 52) (n := 40) ⟨dX11_study_37, rfl, rfl⟩ (fun (hc : (2 : Int32) ≤ (gI M 0 10)) => ?_) (fun (hc : ¬ ((2 : Int32) ≤ (gI M 0 10))) => ?_)
    · replace hf := i_t hc hf
      cases hf
      exact y_return (n := 53) ⟨dX11_study_52, rfl⟩ rfl hk
    · replace hf := i_f hc hf
      refine y_aload_n (i := 0) (n := 41) ⟨dX11_study_40, rfl⟩ rfl ?_
      refine y_getR (n := 44) ⟨dX11_study_41, rfl⟩ kfX11_65 l_0 rfl r_0_7 ?_
      obtain ⟨q1, hv2, hf⟩ := b_s hf
      refine c_sy_tell M (n := 47) ⟨dX11_study_44, rfl⟩ klX11_368 hv2 (by decide) (Nat.le_of_ble_eq_true rfl) rfl rfl ?_
      refine y_aload_n (i := 0) (n := 48) ⟨dX11_study_47, rfl⟩ rfl ?_
      refine y_iconst (n := 49) (v := 2) ⟨dX11_study_48, rfl⟩ ki_2 ?_
      refine y_putI (n := 52) ⟨dX11_study_49, rfl⟩ kfX11_87 l_0 (by decide +kernel) rfl ?_
      cases hf
      exact y_return (n := 53) ⟨dX11_study_52, rfl⟩ rfl hk
theorem ok_ax_study (a1 : Int32) (M : dM) {o : dM} (hf : f_ax_study a1 M = some o) : mO mX11_study 5 [.ref 0, .int a1] M none o := by
  refine y_ok (by decide +kernel) (by decide) (L0 := [some (.ref 0), some (.int a1)]) rfl ?_
  have hk := mR_mQ none o
  generalize mQ _ _ = Q at hk ⊢
  unfold f_ax_study at hf
  refine y_aload_n (i := 0) (n := 1) ⟨dX11_study_0, rfl⟩ rfl ?_
  refine y_getI (n := 4) ⟨dX11_study_1, rfl⟩ kfX11_87 l_0 rfl ?_
  refine y_iconst (n := 5) (v := 1) ⟨dX11_study_4, rfl⟩ ki_1 ?_
  refine y_icmp_ge (t := 27) (n := 8) ⟨dX11_study_5, rfl, rfl⟩ (fun (hc : (1 : Int32) ≤ (gI M 0 10)) => ?_) (fun (hc : ¬ ((1 : Int32) ≤ (gI M 0 10))) => ?_)
  · replace hf := i_t hc hf
    exact y_wk ⟨Or.inr rfl, Or.inr rfl, trivial⟩ (w_t_ax_study_27 a1 M hf hk)
  · replace hf := i_f hc hf
    refine y_aload_n (i := 0) (n := 9) ⟨dX11_study_8, rfl⟩ rfl ?_
    refine y_getR (n := 12) ⟨dX11_study_9, rfl⟩ kfX11_19 l_0 rfl r_0_1 ?_
    obtain ⟨q3, hv4, hf⟩ := b_s hf
    refine c_li_weigh M (n := 15) ⟨dX11_study_12, rfl⟩ klX11_362 hv4 (by decide) (Nat.le_of_ble_eq_true rfl) rfl rfl ?_
    refine y_aload_n (i := 0) (n := 16) ⟨dX11_study_15, rfl⟩ rfl ?_
    refine y_getR (n := 19) ⟨dX11_study_16, rfl⟩ kfX11_56 l_0 rfl r_0_6 ?_
    obtain ⟨q5, hv6, hf⟩ := b_s hf
    refine c_ju_judgeAll q3 (n := 22) ⟨dX11_study_19, rfl⟩ klX11_365 hv6 (by decide) (Nat.le_of_ble_eq_true rfl) rfl rfl ?_
    refine y_aload_n (i := 0) (n := 23) ⟨dX11_study_22, rfl⟩ rfl ?_
    refine y_iconst (n := 24) (v := 1) ⟨dX11_study_23, rfl⟩ ki_1 ?_
    refine y_putI (n := 27) ⟨dX11_study_24, rfl⟩ kfX11_87 l_0 (by decide +kernel) rfl ?_
    exact y_wk ⟨Or.inr rfl, Or.inr rfl, trivial⟩ (w_t_ax_study_27 a1 (sI q5 0 10 1) hf hk)
theorem c_ax_study (a1 : Int32) (M : dM) {o : dM} {y : mz_M} {d : Nat} {Q : mz_P} {pc n i : Nat} {L : List (Option Value)} {st : List Value} (h : mz_d y.2.1 pc n 3 (.invokevirtual i)) (hl : mz_ml y.1.cls i yX11_study) (hf : f_ax_study a1 M = some o) (hd : 5 + 1 ≤ d) (hsm : (st.map (fun v => v.category)).sum ≤ 8) (hLr : mz_rL 133 L = true) (hSr : mz_rS 133 st = true) (kk : mW y d Q n L st o) : mW y d Q pc L (.int a1 :: .ref 0 :: st) M :=
  y_callV kmX11_study kvX11_study l_0 (by decide +kernel) (by decide +kernel) h hl (ok_ax_study a1 M hf) (vs := [.int a1]) rfl rfl hd hsm hLr hSr kk
noncomputable def f_ax_fact (a1 : Int32) (a2 : Int32) (M : dM) : Option (Int32 × dM) :=
  if (f_ax_within a1 (gI M 12 7)) = true then
    if (f_ax_within a2 20) = true then
      if 17 ≤ a2 then
        if a2 = 17 then
          gd (vp_in a1 40) <|
          some ((gI M 13 a1.toNatClampNeg), M)
        else
          if a2 = 18 then
            gd (vp_in a1 40) <|
            some ((gI M 15 a1.toNatClampNeg), M)
          else
            gd (vp_in a1 40) <|
            some ((gI M 17 a1.toNatClampNeg), M)
      else
        (f_ax_study 1 M).bind fun q4 =>
        gd (vp_in ((a1 * 17) + a2) 697) <|
        some ((gI q4 40 ((a1 * 17) + a2).toNatClampNeg), q4)
    else
      none
  else
    none
theorem ok_ax_fact (a1 : Int32) (a2 : Int32) (M : dM) {o : (Int32 × dM)} (hf : f_ax_fact a1 a2 M = some o) : mO mX11_fact 6 [.ref 0, .int a1, .int a2] M (some (.int o.1)) o.2 := by
  refine y_ok (by decide +kernel) (by decide) (L0 := [some (.ref 0), some (.int a1), some (.int a2)]) rfl ?_
  have hk := mR_mQ (some (.int o.1)) o.2
  generalize mQ _ _ = Q at hk ⊢
  unfold f_ax_fact at hf
  refine y_iload_n (i := 1) (n := 1) ⟨dX11_fact_0, rfl⟩ rfl ?_
  refine y_aload_n (i := 0) (n := 2) ⟨dX11_fact_1, rfl⟩ rfl ?_
  refine y_getR (n := 5) ⟨dX11_fact_2, rfl⟩ kfX11_26 l_0 rfl r_0_2 ?_
  refine y_getI (n := 8) ⟨dX11_fact_5, rfl⟩ kfX11_146 l_12 rfl ?_
  refine c_ax_within a1 (gI M 12 7) M (n := 11) ⟨dX11_fact_8, rfl⟩ klX11_91 rfl (by decide) (Nat.le_of_ble_eq_true rfl) rfl rfl ?_
  refine y_if_eq (t := 23) (n := 14) ⟨dX11_fact_11, rfl, rfl⟩ (fun h0 => ?_) (fun h0 => ?_)
  · have hc := bI_0 h0
    replace hf := i_f hc hf
    cases hf
  · have hc := bI_1 h0
    replace hf := i_t hc hf
    refine y_iload_n (i := 2) (n := 15) ⟨dX11_fact_14, rfl⟩ rfl ?_
    refine y_bipush (n := 17) (v := 20) ⟨dX11_fact_15, rfl⟩ kb_20 ?_
    refine c_ax_within a2 20 M (n := 20) ⟨dX11_fact_17, rfl⟩ klX11_91 rfl (by decide) (Nat.le_of_ble_eq_true rfl) rfl rfl ?_
    refine y_if_ne (t := 33) (n := 23) ⟨dX11_fact_20, rfl, rfl⟩ (fun h0 => ?_) (fun h0 => ?_)
    · have hc := bI_1 h0
      replace hf := i_t hc hf
      refine y_iload_n (i := 2) (n := 34) ⟨dX11_fact_33, rfl⟩ rfl ?_
      refine y_bipush (n := 36) (v := 17) ⟨dX11_fact_34, rfl⟩ kb_17 ?_
      refine y_icmp_ge (t := 59) (n := 39) ⟨dX11_fact_36, rfl, rfl⟩ (fun (hc : 17 ≤ a2) => ?_) (fun (hc : ¬ (17 ≤ a2)) => ?_)
      · replace hf := i_t hc hf
        refine y_iload_n (i := 2) (n := 60) ⟨dX11_fact_59, rfl⟩ rfl ?_
        refine y_bipush (n := 62) (v := 17) ⟨dX11_fact_60, rfl⟩ kb_17 ?_
        refine y_icmp_ne (t := 75) (n := 65) ⟨dX11_fact_62, rfl, rfl⟩ (fun (hc : ¬ (a2 = 17)) => ?_) (fun (hc : a2 = 17) => ?_)
        · replace hf := i_f hc hf
          refine y_iload_n (i := 2) (n := 76) ⟨dX11_fact_75, rfl⟩ rfl ?_
          refine y_bipush (n := 78) (v := 18) ⟨dX11_fact_76, rfl⟩ kb_18 ?_
          refine y_icmp_ne (t := 93) (n := 81) ⟨dX11_fact_78, rfl, rfl⟩ (fun (hc : ¬ (a2 = 18)) => ?_) (fun (hc : a2 = 18) => ?_)
          · replace hf := i_f hc hf
            refine y_aload_n (i := 0) (n := 94) ⟨dX11_fact_93, rfl⟩ rfl ?_
            refine y_getR (n := 97) ⟨dX11_fact_94, rfl⟩ kfX11_26 l_0 rfl r_0_2 ?_
            refine y_getR (n := 100) ⟨dX11_fact_97, rfl⟩ kfX11_170 l_12 rfl r_12_4 ?_
            refine y_iload_n (i := 1) (n := 101) ⟨dX11_fact_100, rfl⟩ rfl ?_
            obtain ⟨hg1, hf⟩ := g_s hf
            refine y_iaload (n := 102) ⟨dX11_fact_101, rfl⟩ l_17 hg1 ?_
            cases hf
            exact y_ireturn (n := 103) ⟨dX11_fact_102, rfl⟩ rfl rfl hk
          · replace hf := i_t hc hf
            refine y_aload_n (i := 0) (n := 82) ⟨dX11_fact_81, rfl⟩ rfl ?_
            refine y_getR (n := 85) ⟨dX11_fact_82, rfl⟩ kfX11_26 l_0 rfl r_0_2 ?_
            refine y_getR (n := 88) ⟨dX11_fact_85, rfl⟩ kfX11_167 l_12 rfl r_12_2 ?_
            refine y_iload_n (i := 1) (n := 89) ⟨dX11_fact_88, rfl⟩ rfl ?_
            obtain ⟨hg2, hf⟩ := g_s hf
            refine y_iaload (n := 90) ⟨dX11_fact_89, rfl⟩ l_15 hg2 ?_
            refine y_goto (t := 102) ⟨dX11_fact_90, rfl, rfl⟩ ?_
            cases hf
            exact y_ireturn (n := 103) ⟨dX11_fact_102, rfl⟩ rfl rfl hk
        · replace hf := i_t hc hf
          refine y_aload_n (i := 0) (n := 66) ⟨dX11_fact_65, rfl⟩ rfl ?_
          refine y_getR (n := 69) ⟨dX11_fact_66, rfl⟩ kfX11_26 l_0 rfl r_0_2 ?_
          refine y_getR (n := 72) ⟨dX11_fact_69, rfl⟩ kfX11_164 l_12 rfl r_12_0 ?_
          refine y_iload_n (i := 1) (n := 73) ⟨dX11_fact_72, rfl⟩ rfl ?_
          obtain ⟨hg3, hf⟩ := g_s hf
          refine y_iaload (n := 74) ⟨dX11_fact_73, rfl⟩ l_13 hg3 ?_
          cases hf
          exact y_ireturn (n := 75) ⟨dX11_fact_74, rfl⟩ rfl rfl hk
      · replace hf := i_f hc hf
        refine y_aload_n (i := 0) (n := 40) ⟨dX11_fact_39, rfl⟩ rfl ?_
        refine y_iconst (n := 41) (v := 1) ⟨dX11_fact_40, rfl⟩ ki_1 ?_
        obtain ⟨q4, hv5, hf⟩ := b_s hf
        refine c_ax_study 1 M (n := 44) ⟨dX11_fact_41, rfl⟩ klX11_156 hv5 (by decide) (Nat.le_of_ble_eq_true rfl) rfl rfl ?_
        refine y_aload_n (i := 0) (n := 45) ⟨dX11_fact_44, rfl⟩ rfl ?_
        refine y_getR (n := 48) ⟨dX11_fact_45, rfl⟩ kfX11_56 l_0 rfl r_0_6 ?_
        refine y_getR (n := 51) ⟨dX11_fact_48, rfl⟩ kfX11_160 l_39 rfl r_39_4 ?_
        refine y_iload_n (i := 1) (n := 52) ⟨dX11_fact_51, rfl⟩ rfl ?_
        refine y_bipush (n := 54) (v := 17) ⟨dX11_fact_52, rfl⟩ kb_17 ?_
        refine y_imul (n := 55) ⟨dX11_fact_54, rfl⟩ ?_
        refine y_iload_n (i := 2) (n := 56) ⟨dX11_fact_55, rfl⟩ rfl ?_
        refine y_iadd (n := 57) ⟨dX11_fact_56, rfl⟩ ?_
        obtain ⟨hg6, hf⟩ := g_s hf
        refine y_iaload (n := 58) ⟨dX11_fact_57, rfl⟩ l_40 hg6 ?_
        cases hf
        exact y_ireturn (n := 59) ⟨dX11_fact_58, rfl⟩ rfl rfl hk
    · have hc := bI_0 h0
      replace hf := i_f hc hf
      cases hf
theorem c_ax_fact (a1 : Int32) (a2 : Int32) (M : dM) {o : (Int32 × dM)} {y : mz_M} {d : Nat} {Q : mz_P} {pc n i : Nat} {L : List (Option Value)} {st : List Value} (h : mz_d y.2.1 pc n 3 (.invokevirtual i)) (hl : mz_ml y.1.cls i yX11_fact) (hf : f_ax_fact a1 a2 M = some o) (hd : 6 + 1 ≤ d) (hsm : (st.map (fun v => v.category)).sum ≤ 8) (hLr : mz_rL 133 L = true) (hSr : mz_rS 133 st = true) (kk : mW y d Q n L (.int o.1 :: st) o.2) : mW y d Q pc L (.int a2 :: .int a1 :: .ref 0 :: st) M :=
  y_callV kmX11_fact kvX11_fact l_0 (by decide +kernel) (by decide +kernel) h hl (ok_ax_fact a1 a2 M hf) (vs := [.int a1, .int a2]) rfl rfl hd hsm hLr hSr kk
noncomputable def f_ax_each (a1 : Int32) (M : dM) : Option (Int32 × dM) :=
  if (f_ax_within a1 (gI M 12 7)) = true then
    (f_ax_study 1 M).bind fun q1 =>
    gd (vp_in a1 40) <|
    some ((gI q1 41 a1.toNatClampNeg), q1)
  else
    some ((-1), M)
theorem ok_ax_each (a1 : Int32) (M : dM) {o : (Int32 × dM)} (hf : f_ax_each a1 M = some o) : mO mX11_each 6 [.ref 0, .int a1] M (some (.int o.1)) o.2 := by
  refine y_ok (by decide +kernel) (by decide) (L0 := [some (.ref 0), some (.int a1)]) rfl ?_
  have hk := mR_mQ (some (.int o.1)) o.2
  generalize mQ _ _ = Q at hk ⊢
  unfold f_ax_each at hf
  refine y_iload_n (i := 1) (n := 1) ⟨dX11_each_0, rfl⟩ rfl ?_
  refine y_aload_n (i := 0) (n := 2) ⟨dX11_each_1, rfl⟩ rfl ?_
  refine y_getR (n := 5) ⟨dX11_each_2, rfl⟩ kfX11_26 l_0 rfl r_0_2 ?_
  refine y_getI (n := 8) ⟨dX11_each_5, rfl⟩ kfX11_146 l_12 rfl ?_
  refine c_ax_within a1 (gI M 12 7) M (n := 11) ⟨dX11_each_8, rfl⟩ klX11_91 rfl (by decide) (Nat.le_of_ble_eq_true rfl) rfl rfl ?_
  refine y_if_ne (t := 16) (n := 14) ⟨dX11_each_11, rfl, rfl⟩ (fun h0 => ?_) (fun h0 => ?_)
  · have hc := bI_1 h0
    replace hf := i_t hc hf
    refine y_aload_n (i := 0) (n := 17) ⟨dX11_each_16, rfl⟩ rfl ?_
    refine y_iconst (n := 18) (v := 1) ⟨dX11_each_17, rfl⟩ ki_1 ?_
    obtain ⟨q1, hv2, hf⟩ := b_s hf
    refine c_ax_study 1 M (n := 21) ⟨dX11_each_18, rfl⟩ klX11_156 hv2 (by decide) (Nat.le_of_ble_eq_true rfl) rfl rfl ?_
    refine y_aload_n (i := 0) (n := 22) ⟨dX11_each_21, rfl⟩ rfl ?_
    refine y_getR (n := 25) ⟨dX11_each_22, rfl⟩ kfX11_56 l_0 rfl r_0_6 ?_
    refine y_getR (n := 28) ⟨dX11_each_25, rfl⟩ kfX11_173 l_39 rfl r_39_5 ?_
    refine y_iload_n (i := 1) (n := 29) ⟨dX11_each_28, rfl⟩ rfl ?_
    obtain ⟨hg3, hf⟩ := g_s hf
    refine y_iaload (n := 30) ⟨dX11_each_29, rfl⟩ l_41 hg3 ?_
    cases hf
    exact y_ireturn (n := 31) ⟨dX11_each_30, rfl⟩ rfl rfl hk
  · have hc := bI_0 h0
    replace hf := i_f hc hf
    refine y_iconst (n := 15) (v := (-1)) ⟨dX11_each_14, rfl⟩ ki_m1 ?_
    cases hf
    exact y_ireturn (n := 16) ⟨dX11_each_15, rfl⟩ rfl rfl hk
theorem c_ax_each (a1 : Int32) (M : dM) {o : (Int32 × dM)} {y : mz_M} {d : Nat} {Q : mz_P} {pc n i : Nat} {L : List (Option Value)} {st : List Value} (h : mz_d y.2.1 pc n 3 (.invokevirtual i)) (hl : mz_ml y.1.cls i yX11_each) (hf : f_ax_each a1 M = some o) (hd : 6 + 1 ≤ d) (hsm : (st.map (fun v => v.category)).sum ≤ 8) (hLr : mz_rL 133 L = true) (hSr : mz_rS 133 st = true) (kk : mW y d Q n L (.int o.1 :: st) o.2) : mW y d Q pc L (.int a1 :: .ref 0 :: st) M :=
  y_callV kmX11_each kvX11_each l_0 (by decide +kernel) (by decide +kernel) h hl (ok_ax_each a1 M hf) (vs := [.int a1]) rfl rfl hd hsm hLr hSr kk
noncomputable def f_la_isTold_27 (a1 : Int32) (M : dM) : Option Bool :=
  gd (vp_in a1 21) <|
  if (gI M 30 a1.toNatClampNeg) ≤ (gI M 29 a1.toNatClampNeg) then
    some false
  else
    some true
theorem ok_la_isTold_27 (a1 : Int32) (M : dM) {o : Bool} (hf : f_la_isTold_27 a1 M = some o) : mO mX3_isTold 1 [.ref 27, .int a1] M (some (.int (bI o))) M := by
  refine y_ok (by decide +kernel) (by decide) (L0 := [some (.ref 27), some (.int a1)]) rfl ?_
  have hk := mR_mQ (some (.int (bI o))) M
  generalize mQ _ _ = Q at hk ⊢
  unfold f_la_isTold_27 at hf
  refine y_aload_n (i := 0) (n := 1) ⟨dX3_isTold_0, rfl⟩ rfl ?_
  refine y_getR (n := 4) ⟨dX3_isTold_1, rfl⟩ kfX3_18 l_27 rfl r_27_3 ?_
  refine y_iload_n (i := 1) (n := 5) ⟨dX3_isTold_4, rfl⟩ rfl ?_
  obtain ⟨hg1, hf⟩ := g_s hf
  refine y_iaload (n := 6) ⟨dX3_isTold_5, rfl⟩ l_30 hg1 ?_
  refine y_aload_n (i := 0) (n := 7) ⟨dX3_isTold_6, rfl⟩ rfl ?_
  refine y_getR (n := 10) ⟨dX3_isTold_7, rfl⟩ kfX3_15 l_27 rfl r_27_2 ?_
  refine y_iload_n (i := 1) (n := 11) ⟨dX3_isTold_10, rfl⟩ rfl ?_
  refine y_iaload (n := 12) ⟨dX3_isTold_11, rfl⟩ l_29 hg1 ?_
  refine y_icmp_le (t := 19) (n := 15) ⟨dX3_isTold_12, rfl, rfl⟩ (fun (hc : (gI M 30 a1.toNatClampNeg) ≤ (gI M 29 a1.toNatClampNeg)) => ?_) (fun (hc : ¬ ((gI M 30 a1.toNatClampNeg) ≤ (gI M 29 a1.toNatClampNeg))) => ?_)
  · replace hf := i_t hc hf
    refine y_iconst (n := 20) (v := 0) ⟨dX3_isTold_19, rfl⟩ ki_0 ?_
    cases hf
    exact y_ireturn (n := 21) ⟨dX3_isTold_20, rfl⟩ rfl rfl hk
  · replace hf := i_f hc hf
    refine y_iconst (n := 16) (v := 1) ⟨dX3_isTold_15, rfl⟩ ki_1 ?_
    refine y_goto (t := 20) ⟨dX3_isTold_16, rfl, rfl⟩ ?_
    cases hf
    exact y_ireturn (n := 21) ⟨dX3_isTold_20, rfl⟩ rfl rfl hk
theorem c_la_isTold_27 (a1 : Int32) (M : dM) {o : Bool} {y : mz_M} {d : Nat} {Q : mz_P} {pc n i : Nat} {L : List (Option Value)} {st : List Value} (h : mz_d y.2.1 pc n 3 (.invokevirtual i)) (hl : mz_ml y.1.cls i yX3_isTold) (hf : f_la_isTold_27 a1 M = some o) (hd : 1 + 1 ≤ d) (hsm : (st.map (fun v => v.category)).sum ≤ 8) (hLr : mz_rL 133 L = true) (hSr : mz_rS 133 st = true) (kk : mW y d Q n L (.int (bI o) :: st) M) : mW y d Q pc L (.int a1 :: .ref 27 :: st) M :=
  y_callV kmX3_isTold kvX3_isTold l_27 (by decide +kernel) (by decide +kernel) h hl (ok_la_isTold_27 a1 M hf) (vs := [.int a1]) rfl rfl hd hsm hLr hSr kk
noncomputable def f_ju_isStopped (a1 : Int32) (a2 : Int32) (M : dM) : Option (Bool × dM) :=
  (f_la_valueOf_27_40 (12 + a1) (a2 * 17) M).bind fun q1 =>
  if q1.1 = 0 then
    some (false, q1.2)
  else
    some (true, q1.2)
theorem ok_ju_isStopped (a1 : Int32) (a2 : Int32) (M : dM) {o : (Bool × dM)} (hf : f_ju_isStopped a1 a2 M = some o) : mO mX2_isStopped 3 [.ref 39, .int a1, .int a2] M (some (.int (bI o.1))) o.2 := by
  refine y_ok (by decide +kernel) (by decide) (L0 := [some (.ref 39), some (.int a1), some (.int a2)]) rfl ?_
  have hk := mR_mQ (some (.int (bI o.1))) o.2
  generalize mQ _ _ = Q at hk ⊢
  unfold f_ju_isStopped at hf
  refine y_aload_n (i := 0) (n := 1) ⟨dX2_isStopped_0, rfl⟩ rfl ?_
  refine y_getR (n := 4) ⟨dX2_isStopped_1, rfl⟩ kfX2_44 l_39 rfl r_39_3 ?_
  refine y_bipush (n := 6) (v := 12) ⟨dX2_isStopped_4, rfl⟩ kb_12 ?_
  refine y_iload_n (i := 1) (n := 7) ⟨dX2_isStopped_6, rfl⟩ rfl ?_
  refine y_iadd (n := 8) ⟨dX2_isStopped_7, rfl⟩ ?_
  refine y_aload_n (i := 0) (n := 9) ⟨dX2_isStopped_8, rfl⟩ rfl ?_
  refine y_getR (n := 12) ⟨dX2_isStopped_9, rfl⟩ kfX2_9 l_39 rfl r_39_4 ?_
  refine y_iload_n (i := 2) (n := 13) ⟨dX2_isStopped_12, rfl⟩ rfl ?_
  refine y_bipush (n := 15) (v := 17) ⟨dX2_isStopped_13, rfl⟩ kb_17 ?_
  refine y_imul (n := 16) ⟨dX2_isStopped_15, rfl⟩ ?_
  obtain ⟨q1, hv2, hf⟩ := b_s hf
  refine c_la_valueOf_27_40 (12 + a1) (a2 * 17) M (n := 19) ⟨dX2_isStopped_16, rfl⟩ klX2_138 hv2 (by decide) (Nat.le_of_ble_eq_true rfl) rfl rfl ?_
  refine y_if_eq (t := 26) (n := 22) ⟨dX2_isStopped_19, rfl, rfl⟩ (fun (hc : q1.1 = 0) => ?_) (fun (hc : ¬ (q1.1 = 0)) => ?_)
  · replace hf := i_t hc hf
    refine y_iconst (n := 27) (v := 0) ⟨dX2_isStopped_26, rfl⟩ ki_0 ?_
    cases hf
    exact y_ireturn (n := 28) ⟨dX2_isStopped_27, rfl⟩ rfl rfl hk
  · replace hf := i_f hc hf
    refine y_iconst (n := 23) (v := 1) ⟨dX2_isStopped_22, rfl⟩ ki_1 ?_
    refine y_goto (t := 27) ⟨dX2_isStopped_23, rfl, rfl⟩ ?_
    cases hf
    exact y_ireturn (n := 28) ⟨dX2_isStopped_27, rfl⟩ rfl rfl hk
theorem c_ju_isStopped (a1 : Int32) (a2 : Int32) (M : dM) {o : (Bool × dM)} {y : mz_M} {d : Nat} {Q : mz_P} {pc n i : Nat} {L : List (Option Value)} {st : List Value} (h : mz_d y.2.1 pc n 3 (.invokevirtual i)) (hl : mz_ml y.1.cls i yX2_isStopped) (hf : f_ju_isStopped a1 a2 M = some o) (hd : 3 + 1 ≤ d) (hsm : (st.map (fun v => v.category)).sum ≤ 8) (hLr : mz_rL 133 L = true) (hSr : mz_rS 133 st = true) (kk : mW y d Q n L (.int (bI o.1) :: st) o.2) : mW y d Q pc L (.int a2 :: .int a1 :: .ref 39 :: st) M :=
  y_callV kmX2_isStopped kvX2_isStopped l_39 (by decide +kernel) (by decide +kernel) h hl (ok_ju_isStopped a1 a2 M hf) (vs := [.int a1, .int a2]) rfl rfl hd hsm hLr hSr kk
noncomputable def f_ax_stops (a1 : Int32) (a2 : Int32) (M : dM) : Option (Int32 × dM) :=
  if (f_ax_within a1 8) = true then
    if (f_ax_within a2 (gI M 12 7)) = true then
      (f_la_isTold_27 (12 + a1) M).bind fun v1 =>
      if v1 = true then
        (f_ax_study 1 M).bind fun q3 =>
        (f_ju_isStopped a1 a2 q3).bind fun q5 =>
        if q5.1 = true then
          some (1, q5.2)
        else
          some (0, q5.2)
      else
        some ((-1), M)
    else
      some ((-1), M)
  else
    some ((-1), M)
theorem ok_ax_stops (a1 : Int32) (a2 : Int32) (M : dM) {o : (Int32 × dM)} (hf : f_ax_stops a1 a2 M = some o) : mO mX11_stops 6 [.ref 0, .int a1, .int a2] M (some (.int o.1)) o.2 := by
  refine y_ok (by decide +kernel) (by decide) (L0 := [some (.ref 0), some (.int a1), some (.int a2)]) rfl ?_
  have hk := mR_mQ (some (.int o.1)) o.2
  generalize mQ _ _ = Q at hk ⊢
  unfold f_ax_stops at hf
  refine y_iload_n (i := 1) (n := 1) ⟨dX11_stops_0, rfl⟩ rfl ?_
  refine y_bipush (n := 3) (v := 8) ⟨dX11_stops_1, rfl⟩ kb_8 ?_
  refine c_ax_within a1 8 M (n := 6) ⟨dX11_stops_3, rfl⟩ klX11_91 rfl (by decide) (Nat.le_of_ble_eq_true rfl) rfl rfl ?_
  refine y_if_eq (t := 37) (n := 9) ⟨dX11_stops_6, rfl, rfl⟩ (fun h0 => ?_) (fun h0 => ?_)
  · have hc := bI_0 h0
    replace hf := i_f hc hf
    refine y_iconst (n := 38) (v := (-1)) ⟨dX11_stops_37, rfl⟩ ki_m1 ?_
    cases hf
    exact y_ireturn (n := 39) ⟨dX11_stops_38, rfl⟩ rfl rfl hk
  · have hc := bI_1 h0
    replace hf := i_t hc hf
    refine y_iload_n (i := 2) (n := 10) ⟨dX11_stops_9, rfl⟩ rfl ?_
    refine y_aload_n (i := 0) (n := 11) ⟨dX11_stops_10, rfl⟩ rfl ?_
    refine y_getR (n := 14) ⟨dX11_stops_11, rfl⟩ kfX11_26 l_0 rfl r_0_2 ?_
    refine y_getI (n := 17) ⟨dX11_stops_14, rfl⟩ kfX11_146 l_12 rfl ?_
    refine c_ax_within a2 (gI M 12 7) M (n := 20) ⟨dX11_stops_17, rfl⟩ klX11_91 rfl (by decide) (Nat.le_of_ble_eq_true rfl) rfl rfl ?_
    refine y_if_eq (t := 37) (n := 23) ⟨dX11_stops_20, rfl, rfl⟩ (fun h0 => ?_) (fun h0 => ?_)
    · have hc := bI_0 h0
      replace hf := i_f hc hf
      refine y_iconst (n := 38) (v := (-1)) ⟨dX11_stops_37, rfl⟩ ki_m1 ?_
      cases hf
      exact y_ireturn (n := 39) ⟨dX11_stops_38, rfl⟩ rfl rfl hk
    · have hc := bI_1 h0
      replace hf := i_t hc hf
      refine y_aload_n (i := 0) (n := 24) ⟨dX11_stops_23, rfl⟩ rfl ?_
      refine y_getR (n := 27) ⟨dX11_stops_24, rfl⟩ kfX11_40 l_0 rfl r_0_4 ?_
      refine y_bipush (n := 29) (v := 12) ⟨dX11_stops_27, rfl⟩ kb_12 ?_
      refine y_iload_n (i := 1) (n := 30) ⟨dX11_stops_29, rfl⟩ rfl ?_
      refine y_iadd (n := 31) ⟨dX11_stops_30, rfl⟩ ?_
      obtain ⟨v1, hv2, hf⟩ := b_s hf
      refine c_la_isTold_27 (12 + a1) M (n := 34) ⟨dX11_stops_31, rfl⟩ klX11_176 hv2 (by decide) (Nat.le_of_ble_eq_true rfl) rfl rfl ?_
      refine y_if_ne (t := 39) (n := 37) ⟨dX11_stops_34, rfl, rfl⟩ (fun h0 => ?_) (fun h0 => ?_)
      · have hc := bI_1 h0
        replace hf := i_t hc hf
        refine y_aload_n (i := 0) (n := 40) ⟨dX11_stops_39, rfl⟩ rfl ?_
        refine y_iconst (n := 41) (v := 1) ⟨dX11_stops_40, rfl⟩ ki_1 ?_
        obtain ⟨q3, hv4, hf⟩ := b_s hf
        refine c_ax_study 1 M (n := 44) ⟨dX11_stops_41, rfl⟩ klX11_156 hv4 (by decide) (Nat.le_of_ble_eq_true rfl) rfl rfl ?_
        refine y_aload_n (i := 0) (n := 45) ⟨dX11_stops_44, rfl⟩ rfl ?_
        refine y_getR (n := 48) ⟨dX11_stops_45, rfl⟩ kfX11_56 l_0 rfl r_0_6 ?_
        refine y_iload_n (i := 1) (n := 49) ⟨dX11_stops_48, rfl⟩ rfl ?_
        refine y_iload_n (i := 2) (n := 50) ⟨dX11_stops_49, rfl⟩ rfl ?_
        obtain ⟨q5, hv6, hf⟩ := b_s hf
        refine c_ju_isStopped a1 a2 q3 (n := 53) ⟨dX11_stops_50, rfl⟩ klX11_179 hv6 (by decide) (Nat.le_of_ble_eq_true rfl) rfl rfl ?_
        refine y_if_eq (t := 60) (n := 56) ⟨dX11_stops_53, rfl, rfl⟩ (fun h0 => ?_) (fun h0 => ?_)
        · have hc := bI_0 h0
          replace hf := i_f hc hf
          refine y_iconst (n := 61) (v := 0) ⟨dX11_stops_60, rfl⟩ ki_0 ?_
          cases hf
          exact y_ireturn (n := 62) ⟨dX11_stops_61, rfl⟩ rfl rfl hk
        · have hc := bI_1 h0
          replace hf := i_t hc hf
          refine y_iconst (n := 57) (v := 1) ⟨dX11_stops_56, rfl⟩ ki_1 ?_
          refine y_goto (t := 61) ⟨dX11_stops_57, rfl, rfl⟩ ?_
          cases hf
          exact y_ireturn (n := 62) ⟨dX11_stops_61, rfl⟩ rfl rfl hk
      · have hc := bI_0 h0
        replace hf := i_f hc hf
        refine y_iconst (n := 38) (v := (-1)) ⟨dX11_stops_37, rfl⟩ ki_m1 ?_
        cases hf
        exact y_ireturn (n := 39) ⟨dX11_stops_38, rfl⟩ rfl rfl hk
theorem c_ax_stops (a1 : Int32) (a2 : Int32) (M : dM) {o : (Int32 × dM)} {y : mz_M} {d : Nat} {Q : mz_P} {pc n i : Nat} {L : List (Option Value)} {st : List Value} (h : mz_d y.2.1 pc n 3 (.invokevirtual i)) (hl : mz_ml y.1.cls i yX11_stops) (hf : f_ax_stops a1 a2 M = some o) (hd : 6 + 1 ≤ d) (hsm : (st.map (fun v => v.category)).sum ≤ 8) (hLr : mz_rL 133 L = true) (hSr : mz_rS 133 st = true) (kk : mW y d Q n L (.int o.1 :: st) o.2) : mW y d Q pc L (.int a2 :: .int a1 :: .ref 0 :: st) M :=
  y_callV kmX11_stops kvX11_stops l_0 (by decide +kernel) (by decide +kernel) h hl (ok_ax_stops a1 a2 M hf) (vs := [.int a1, .int a2]) rfl rfl hd hsm hLr hSr kk
def K_ju_findsOf_4 (Q : mz_P) (x1 : Int32) (M : dM) : ((Int32 × Int32) ⊕ Int32) → Prop
  | .inl s => mW mX2_findsOf 1 Q 4 [some (.ref 39), some (.int x1), some (.int s.1), some (.int s.2)] [] M
  | .inr r => mR Q (some (.int r)) M
noncomputable def b_ju_findsOf_4_4 (x1 : Int32) (x2 : Int32) (x3 : Int32) (M : dM) : Option ((Int32 × Int32) ⊕ Int32) :=
  if (gI M 12 7) ≤ x3 then
    some (.inr x2)
  else
    if x1 = (-1) then
      some (.inl ((x2 + 1), (x3 + 1)))
    else
      gd (vp_in x3 40) <|
      if (gI M 17 x3.toNatClampNeg) = x1 then
        some (.inl ((x2 + 1), (x3 + 1)))
      else
        some (.inl (x2, (x3 + 1)))
noncomputable def l_ju_findsOf_4 (x1 : Int32) (x2 : Int32) (x3 : Int32) (M : dM) : Option Int32 := lpc (fun s => b_ju_findsOf_4_4 x1 s.1 s.2 M) (x2, x3)
noncomputable def f_ju_findsOf (a1 : Int32) (M : dM) : Option Int32 :=
  (l_ju_findsOf_4 a1 0 0 M).bind fun r4 => some r4
theorem w_b_ju_findsOf_4_4 (x1 : Int32) (x2 : Int32) (x3 : Int32) (M : dM) {Q : mz_P} {o : ((Int32 × Int32) ⊕ Int32)} (hf : b_ju_findsOf_4_4 x1 x2 x3 M = some o) (hk : K_ju_findsOf_4 Q x1 M o) : mW mX2_findsOf 1 Q 4 [some (.ref 39), some (.int x1), some (.int x2), some (.int x3)] [] M := by
  unfold b_ju_findsOf_4_4 at hf
  refine y_iload_n (i := 3) (n := 5) ⟨dX2_findsOf_4, rfl⟩ rfl ?_
  refine y_aload_n (i := 0) (n := 6) ⟨dX2_findsOf_5, rfl⟩ rfl ?_
  refine y_getR (n := 9) ⟨dX2_findsOf_6, rfl⟩ kfX2_40 l_39 rfl r_39_2 ?_
  refine y_getI (n := 12) ⟨dX2_findsOf_9, rfl⟩ kfX2_51 l_12 rfl ?_
  refine y_icmp_ge (t := 42) (n := 15) ⟨dX2_findsOf_12, rfl, rfl⟩ (fun (hc : (gI M 12 7) ≤ x3) => ?_) (fun (hc : ¬ ((gI M 12 7) ≤ x3)) => ?_)
  · replace hf := i_t hc hf
    refine y_iload_n (i := 2) (n := 43) ⟨dX2_findsOf_42, rfl⟩ rfl ?_
    cases hf
    exact y_ireturn (n := 44) ⟨dX2_findsOf_43, rfl⟩ rfl rfl hk
  · replace hf := i_f hc hf
    refine y_iload_n (i := 1) (n := 16) ⟨dX2_findsOf_15, rfl⟩ rfl ?_
    refine y_iconst (n := 17) (v := (-1)) ⟨dX2_findsOf_16, rfl⟩ ki_m1 ?_
    refine y_icmp_eq (t := 33) (n := 20) ⟨dX2_findsOf_17, rfl, rfl⟩ (fun (hc : x1 = (-1)) => ?_) (fun (hc : ¬ (x1 = (-1))) => ?_)
    · replace hf := i_t hc hf
      refine y_iinc (i := 2) (n := 36) (b := (x2 + 1)) (L2 := [some (.ref 39), some (.int x1), some (.int (x2 + 1)), some (.int x3)]) ⟨dX2_findsOf_33, rfl⟩ rfl (by rw [ki_1]) (by decide) rfl rfl ?_
      refine y_iinc (i := 3) (n := 39) (b := (x3 + 1)) (L2 := [some (.ref 39), some (.int x1), some (.int (x2 + 1)), some (.int (x3 + 1))]) ⟨dX2_findsOf_36, rfl⟩ rfl (by rw [ki_1]) (by decide) rfl rfl ?_
      refine y_goto (t := 4) ⟨dX2_findsOf_39, rfl, rfl⟩ ?_
      cases hf
      exact y_wk ⟨Or.inr rfl, Or.inr rfl, Or.inr rfl, Or.inr rfl, trivial⟩ hk
    · replace hf := i_f hc hf
      refine y_aload_n (i := 0) (n := 21) ⟨dX2_findsOf_20, rfl⟩ rfl ?_
      refine y_getR (n := 24) ⟨dX2_findsOf_21, rfl⟩ kfX2_40 l_39 rfl r_39_2 ?_
      refine y_getR (n := 27) ⟨dX2_findsOf_24, rfl⟩ kfX2_65 l_12 rfl r_12_4 ?_
      refine y_iload_n (i := 3) (n := 28) ⟨dX2_findsOf_27, rfl⟩ rfl ?_
      obtain ⟨hg1, hf⟩ := g_s hf
      refine y_iaload (n := 29) ⟨dX2_findsOf_28, rfl⟩ l_17 hg1 ?_
      refine y_iload_n (i := 1) (n := 30) ⟨dX2_findsOf_29, rfl⟩ rfl ?_
      refine y_icmp_ne (t := 36) (n := 33) ⟨dX2_findsOf_30, rfl, rfl⟩ (fun (hc : ¬ ((gI M 17 x3.toNatClampNeg) = x1)) => ?_) (fun (hc : (gI M 17 x3.toNatClampNeg) = x1) => ?_)
      · replace hf := i_f hc hf
        refine y_iinc (i := 3) (n := 39) (b := (x3 + 1)) (L2 := [some (.ref 39), some (.int x1), some (.int x2), some (.int (x3 + 1))]) ⟨dX2_findsOf_36, rfl⟩ rfl (by rw [ki_1]) (by decide) rfl rfl ?_
        refine y_goto (t := 4) ⟨dX2_findsOf_39, rfl, rfl⟩ ?_
        cases hf
        exact y_wk ⟨Or.inr rfl, Or.inr rfl, Or.inr rfl, Or.inr rfl, trivial⟩ hk
      · replace hf := i_t hc hf
        refine y_iinc (i := 2) (n := 36) (b := (x2 + 1)) (L2 := [some (.ref 39), some (.int x1), some (.int (x2 + 1)), some (.int x3)]) ⟨dX2_findsOf_33, rfl⟩ rfl (by rw [ki_1]) (by decide) rfl rfl ?_
        refine y_iinc (i := 3) (n := 39) (b := (x3 + 1)) (L2 := [some (.ref 39), some (.int x1), some (.int (x2 + 1)), some (.int (x3 + 1))]) ⟨dX2_findsOf_36, rfl⟩ rfl (by rw [ki_1]) (by decide) rfl rfl ?_
        refine y_goto (t := 4) ⟨dX2_findsOf_39, rfl, rfl⟩ ?_
        cases hf
        exact y_wk ⟨Or.inr rfl, Or.inr rfl, Or.inr rfl, Or.inr rfl, trivial⟩ hk
theorem wl_ju_findsOf_4 (x1 : Int32) (x2 : Int32) (x3 : Int32) (M : dM) {Q : mz_P} {x : Int32} (hf : l_ju_findsOf_4 x1 x2 x3 M = some x) (hk : K_ju_findsOf_4 Q x1 M (.inr x)) : mW mX2_findsOf 1 Q 4 [some (.ref 39), some (.int x1), some (.int x2), some (.int x3)] [] M :=
  lpc_wp (Wh := fun s => mW mX2_findsOf 1 Q 4 [some (.ref 39), some (.int x1), some (.int s.1), some (.int s.2)] [] M) (K := K_ju_findsOf_4 Q x1 M) (fun _ h => h) (fun s o hb hk => w_b_ju_findsOf_4_4 x1 s.1 s.2 M hb hk) hf hk
theorem ok_ju_findsOf (a1 : Int32) (M : dM) {o : Int32} (hf : f_ju_findsOf a1 M = some o) : mO mX2_findsOf 1 [.ref 39, .int a1] M (some (.int o)) M := by
  refine y_ok (by decide +kernel) (by decide) (L0 := [some (.ref 39), some (.int a1), none, none]) rfl ?_
  have hk := mR_mQ (some (.int o)) M
  generalize mQ _ _ = Q at hk ⊢
  unfold f_ju_findsOf at hf
  refine y_iconst (n := 1) (v := 0) ⟨dX2_findsOf_0, rfl⟩ ki_0 ?_
  refine y_istore_n (i := 2) (n := 2) (L2 := [some (.ref 39), some (.int a1), some (.int 0), none]) ⟨dX2_findsOf_1, rfl⟩ (by decide) rfl rfl ?_
  refine y_iconst (n := 3) (v := 0) ⟨dX2_findsOf_2, rfl⟩ ki_0 ?_
  refine y_istore_n (i := 3) (n := 4) (L2 := [some (.ref 39), some (.int a1), some (.int 0), some (.int 0)]) ⟨dX2_findsOf_3, rfl⟩ (by decide) rfl rfl ?_
  obtain ⟨r4, hl3, hf⟩ := b_s hf
  cases hf
  exact y_wk ⟨Or.inr rfl, Or.inr rfl, Or.inr rfl, Or.inr rfl, trivial⟩ (wl_ju_findsOf_4 a1 0 0 M hl3 hk)
theorem c_ju_findsOf (a1 : Int32) (M : dM) {o : Int32} {y : mz_M} {d : Nat} {Q : mz_P} {pc n i : Nat} {L : List (Option Value)} {st : List Value} (h : mz_d y.2.1 pc n 3 (.invokevirtual i)) (hl : mz_ml y.1.cls i yX2_findsOf) (hf : f_ju_findsOf a1 M = some o) (hd : 1 + 1 ≤ d) (hsm : (st.map (fun v => v.category)).sum ≤ 8) (hLr : mz_rL 133 L = true) (hSr : mz_rS 133 st = true) (kk : mW y d Q n L (.int o :: st) M) : mW y d Q pc L (.int a1 :: .ref 39 :: st) M :=
  y_callV kmX2_findsOf kvX2_findsOf l_39 (by decide +kernel) (by decide +kernel) h hl (ok_ju_findsOf a1 M hf) (vs := [.int a1]) rfl rfl hd hsm hLr hSr kk
noncomputable def t_ju_isOfSort_39 (y1 : Int32) (y2 : Int32) (M : dM) : Option Bool :=
  gd (vp_in (y1 + y2) 697) <|
  if (gI M 40 (y1 + y2).toNatClampNeg) ≤ 0 then
    some false
  else
    some true
noncomputable def f_ju_isOfSort (a1 : Int32) (a2 : Int32) (M : dM) : Option Bool :=
  if a2 = 2 then
    gd (vp_in a1 40) <|
    if (gI M 41 a1.toNatClampNeg) = 0 then
      some false
    else
      some true
  else
    if a2 = 0 then
      t_ju_isOfSort_39 (a1 * 17) 14 M
    else
      t_ju_isOfSort_39 (a1 * 17) 12 M
theorem w_t_ju_isOfSort_39 (y1 : Int32) (y2 : Int32) (M : dM) {Q : mz_P} {o : Bool} (hf : t_ju_isOfSort_39 y1 y2 M = some o) (hk : mR Q (some (.int (bI o))) M) : mW mX2_isOfSort 1 Q 39 [none, none, none] [.ref 40, .int y1, .int y2] M := by
  unfold t_ju_isOfSort_39 at hf
  refine y_iadd (n := 40) ⟨dX2_isOfSort_39, rfl⟩ ?_
  obtain ⟨hg1, hf⟩ := g_s hf
  refine y_iaload (n := 41) ⟨dX2_isOfSort_40, rfl⟩ l_40 hg1 ?_
  refine y_if_le (t := 48) (n := 44) ⟨dX2_isOfSort_41, rfl, rfl⟩ (fun (hc : (gI M 40 (y1 + y2).toNatClampNeg) ≤ 0) => ?_) (fun (hc : ¬ ((gI M 40 (y1 + y2).toNatClampNeg) ≤ 0)) => ?_)
  · replace hf := i_t hc hf
    refine y_iconst (n := 49) (v := 0) ⟨dX2_isOfSort_48, rfl⟩ ki_0 ?_
    cases hf
    exact y_ireturn (n := 50) ⟨dX2_isOfSort_49, rfl⟩ rfl rfl hk
  · replace hf := i_f hc hf
    refine y_iconst (n := 45) (v := 1) ⟨dX2_isOfSort_44, rfl⟩ ki_1 ?_
    refine y_goto (t := 49) ⟨dX2_isOfSort_45, rfl, rfl⟩ ?_
    cases hf
    exact y_ireturn (n := 50) ⟨dX2_isOfSort_49, rfl⟩ rfl rfl hk
theorem ok_ju_isOfSort (a1 : Int32) (a2 : Int32) (M : dM) {o : Bool} (hf : f_ju_isOfSort a1 a2 M = some o) : mO mX2_isOfSort 1 [.ref 39, .int a1, .int a2] M (some (.int (bI o))) M := by
  refine y_ok (by decide +kernel) (by decide) (L0 := [some (.ref 39), some (.int a1), some (.int a2)]) rfl ?_
  have hk := mR_mQ (some (.int (bI o))) M
  generalize mQ _ _ = Q at hk ⊢
  unfold f_ju_isOfSort at hf
  refine y_iload_n (i := 2) (n := 1) ⟨dX2_isOfSort_0, rfl⟩ rfl ?_
  refine y_iconst (n := 2) (v := 2) ⟨dX2_isOfSort_1, rfl⟩ ki_2 ?_
  refine y_icmp_ne (t := 20) (n := 5) ⟨dX2_isOfSort_2, rfl, rfl⟩ (fun (hc : ¬ (a2 = 2)) => ?_) (fun (hc : a2 = 2) => ?_)
  · replace hf := i_f hc hf
    refine y_aload_n (i := 0) (n := 21) ⟨dX2_isOfSort_20, rfl⟩ rfl ?_
    refine y_getR (n := 24) ⟨dX2_isOfSort_21, rfl⟩ kfX2_9 l_39 rfl r_39_4 ?_
    refine y_iload_n (i := 1) (n := 25) ⟨dX2_isOfSort_24, rfl⟩ rfl ?_
    refine y_bipush (n := 27) (v := 17) ⟨dX2_isOfSort_25, rfl⟩ kb_17 ?_
    refine y_imul (n := 28) ⟨dX2_isOfSort_27, rfl⟩ ?_
    refine y_iload_n (i := 2) (n := 29) ⟨dX2_isOfSort_28, rfl⟩ rfl ?_
    refine y_if_ne (t := 37) (n := 32) ⟨dX2_isOfSort_29, rfl, rfl⟩ (fun (hc : ¬ (a2 = 0)) => ?_) (fun (hc : a2 = 0) => ?_)
    · replace hf := i_f hc hf
      refine y_bipush (n := 39) (v := 12) ⟨dX2_isOfSort_37, rfl⟩ kb_12 ?_
      exact y_wk ⟨Or.inl rfl, Or.inl rfl, Or.inl rfl, trivial⟩ (w_t_ju_isOfSort_39 (a1 * 17) 12 M hf hk)
    · replace hf := i_t hc hf
      refine y_bipush (n := 34) (v := 14) ⟨dX2_isOfSort_32, rfl⟩ kb_14 ?_
      refine y_goto (t := 39) ⟨dX2_isOfSort_34, rfl, rfl⟩ ?_
      exact y_wk ⟨Or.inl rfl, Or.inl rfl, Or.inl rfl, trivial⟩ (w_t_ju_isOfSort_39 (a1 * 17) 14 M hf hk)
  · replace hf := i_t hc hf
    refine y_aload_n (i := 0) (n := 6) ⟨dX2_isOfSort_5, rfl⟩ rfl ?_
    refine y_getR (n := 9) ⟨dX2_isOfSort_6, rfl⟩ kfX2_15 l_39 rfl r_39_5 ?_
    refine y_iload_n (i := 1) (n := 10) ⟨dX2_isOfSort_9, rfl⟩ rfl ?_
    obtain ⟨hg2, hf⟩ := g_s hf
    refine y_iaload (n := 11) ⟨dX2_isOfSort_10, rfl⟩ l_41 hg2 ?_
    refine y_if_eq (t := 18) (n := 14) ⟨dX2_isOfSort_11, rfl, rfl⟩ (fun (hc : (gI M 41 a1.toNatClampNeg) = 0) => ?_) (fun (hc : ¬ ((gI M 41 a1.toNatClampNeg) = 0)) => ?_)
    · replace hf := i_t hc hf
      refine y_iconst (n := 19) (v := 0) ⟨dX2_isOfSort_18, rfl⟩ ki_0 ?_
      cases hf
      exact y_ireturn (n := 20) ⟨dX2_isOfSort_19, rfl⟩ rfl rfl hk
    · replace hf := i_f hc hf
      refine y_iconst (n := 15) (v := 1) ⟨dX2_isOfSort_14, rfl⟩ ki_1 ?_
      refine y_goto (t := 19) ⟨dX2_isOfSort_15, rfl, rfl⟩ ?_
      cases hf
      exact y_ireturn (n := 20) ⟨dX2_isOfSort_19, rfl⟩ rfl rfl hk
theorem c_ju_isOfSort (a1 : Int32) (a2 : Int32) (M : dM) {o : Bool} {y : mz_M} {d : Nat} {Q : mz_P} {pc n i : Nat} {L : List (Option Value)} {st : List Value} (h : mz_d y.2.1 pc n 3 (.invokevirtual i)) (hl : mz_ml y.1.cls i yX2_isOfSort) (hf : f_ju_isOfSort a1 a2 M = some o) (hd : 1 + 1 ≤ d) (hsm : (st.map (fun v => v.category)).sum ≤ 8) (hLr : mz_rL 133 L = true) (hSr : mz_rS 133 st = true) (kk : mW y d Q n L (.int (bI o) :: st) M) : mW y d Q pc L (.int a2 :: .int a1 :: .ref 39 :: st) M :=
  y_callV kmX2_isOfSort kvX2_isOfSort l_39 (by decide +kernel) (by decide +kernel) h hl (ok_ju_isOfSort a1 a2 M hf) (vs := [.int a1, .int a2]) rfl rfl hd hsm hLr hSr kk
def K_ju_findsOfSort_5 (Q : mz_P) (x1 : Int32) (x2 : Int32) (M : dM) : ((Int32 × Int32) ⊕ Int32) → Prop
  | .inl s => mW mX2_findsOfSort 2 Q 5 [some (.ref 39), some (.int x1), some (.int x2), some (.int s.1), some (.int s.2)] [] M
  | .inr r => mR Q (some (.int r)) M
noncomputable def b_ju_findsOfSort_5_36 (x1 : Int32) (x2 : Int32) (x3 : Int32) (x4 : Int32) (M : dM) : Option ((Int32 × Int32) ⊕ Int32) :=
  (f_ju_isOfSort x4 x2 M).bind fun v1 =>
  if v1 = true then
    some (.inl ((x3 + 1), (x4 + 1)))
  else
    some (.inl (x3, (x4 + 1)))
noncomputable def b_ju_findsOfSort_5_5 (x1 : Int32) (x2 : Int32) (x3 : Int32) (x4 : Int32) (M : dM) : Option ((Int32 × Int32) ⊕ Int32) :=
  if (gI M 12 7) ≤ x4 then
    some (.inr x3)
  else
    if x1 = (-1) then
      b_ju_findsOfSort_5_36 x1 x2 x3 x4 M
    else
      gd (vp_in x4 40) <|
      if (gI M 17 x4.toNatClampNeg) = x1 then
        b_ju_findsOfSort_5_36 x1 x2 x3 x4 M
      else
        some (.inl (x3, (x4 + 1)))
noncomputable def l_ju_findsOfSort_5 (x1 : Int32) (x2 : Int32) (x3 : Int32) (x4 : Int32) (M : dM) : Option Int32 := lpc (fun s => b_ju_findsOfSort_5_5 x1 x2 s.1 s.2 M) (x3, x4)
noncomputable def f_ju_findsOfSort (a1 : Int32) (a2 : Int32) (M : dM) : Option Int32 :=
  (l_ju_findsOfSort_5 a1 a2 0 0 M).bind fun r6 => some r6
theorem w_b_ju_findsOfSort_5_36 (x1 : Int32) (x2 : Int32) (x3 : Int32) (x4 : Int32) (M : dM) {Q : mz_P} {o : ((Int32 × Int32) ⊕ Int32)} (hf : b_ju_findsOfSort_5_36 x1 x2 x3 x4 M = some o) (hk : K_ju_findsOfSort_5 Q x1 x2 M o) : mW mX2_findsOfSort 2 Q 36 [some (.ref 39), some (.int x1), some (.int x2), some (.int x3), some (.int x4)] [] M := by
  unfold b_ju_findsOfSort_5_36 at hf
  refine y_aload_n (i := 0) (n := 37) ⟨dX2_findsOfSort_36, rfl⟩ rfl ?_
  refine y_iload (i := 4) (n := 39) ⟨dX2_findsOfSort_37, rfl⟩ rfl ?_
  refine y_iload_n (i := 2) (n := 40) ⟨dX2_findsOfSort_39, rfl⟩ rfl ?_
  obtain ⟨v1, hv2, hf⟩ := b_s hf
  refine c_ju_isOfSort x4 x2 M (n := 43) ⟨dX2_findsOfSort_40, rfl⟩ klX2_142 hv2 (by decide) (Nat.le_of_ble_eq_true rfl) rfl rfl ?_
  refine y_if_eq (t := 49) (n := 46) ⟨dX2_findsOfSort_43, rfl, rfl⟩ (fun h0 => ?_) (fun h0 => ?_)
  · have hc := bI_0 h0
    replace hf := i_f hc hf
    refine y_iinc (i := 4) (n := 52) (b := (x4 + 1)) (L2 := [some (.ref 39), some (.int x1), some (.int x2), some (.int x3), some (.int (x4 + 1))]) ⟨dX2_findsOfSort_49, rfl⟩ rfl (by rw [ki_1]) (by decide) rfl rfl ?_
    refine y_goto (t := 5) ⟨dX2_findsOfSort_52, rfl, rfl⟩ ?_
    cases hf
    exact y_wk ⟨Or.inr rfl, Or.inr rfl, Or.inr rfl, Or.inr rfl, Or.inr rfl, trivial⟩ hk
  · have hc := bI_1 h0
    replace hf := i_t hc hf
    refine y_iinc (i := 3) (n := 49) (b := (x3 + 1)) (L2 := [some (.ref 39), some (.int x1), some (.int x2), some (.int (x3 + 1)), some (.int x4)]) ⟨dX2_findsOfSort_46, rfl⟩ rfl (by rw [ki_1]) (by decide) rfl rfl ?_
    refine y_iinc (i := 4) (n := 52) (b := (x4 + 1)) (L2 := [some (.ref 39), some (.int x1), some (.int x2), some (.int (x3 + 1)), some (.int (x4 + 1))]) ⟨dX2_findsOfSort_49, rfl⟩ rfl (by rw [ki_1]) (by decide) rfl rfl ?_
    refine y_goto (t := 5) ⟨dX2_findsOfSort_52, rfl, rfl⟩ ?_
    cases hf
    exact y_wk ⟨Or.inr rfl, Or.inr rfl, Or.inr rfl, Or.inr rfl, Or.inr rfl, trivial⟩ hk
theorem w_b_ju_findsOfSort_5_5 (x1 : Int32) (x2 : Int32) (x3 : Int32) (x4 : Int32) (M : dM) {Q : mz_P} {o : ((Int32 × Int32) ⊕ Int32)} (hf : b_ju_findsOfSort_5_5 x1 x2 x3 x4 M = some o) (hk : K_ju_findsOfSort_5 Q x1 x2 M o) : mW mX2_findsOfSort 2 Q 5 [some (.ref 39), some (.int x1), some (.int x2), some (.int x3), some (.int x4)] [] M := by
  unfold b_ju_findsOfSort_5_5 at hf
  refine y_iload (i := 4) (n := 7) ⟨dX2_findsOfSort_5, rfl⟩ rfl ?_
  refine y_aload_n (i := 0) (n := 8) ⟨dX2_findsOfSort_7, rfl⟩ rfl ?_
  refine y_getR (n := 11) ⟨dX2_findsOfSort_8, rfl⟩ kfX2_40 l_39 rfl r_39_2 ?_
  refine y_getI (n := 14) ⟨dX2_findsOfSort_11, rfl⟩ kfX2_51 l_12 rfl ?_
  refine y_icmp_ge (t := 55) (n := 17) ⟨dX2_findsOfSort_14, rfl, rfl⟩ (fun (hc : (gI M 12 7) ≤ x4) => ?_) (fun (hc : ¬ ((gI M 12 7) ≤ x4)) => ?_)
  · replace hf := i_t hc hf
    refine y_iload_n (i := 3) (n := 56) ⟨dX2_findsOfSort_55, rfl⟩ rfl ?_
    cases hf
    exact y_ireturn (n := 57) ⟨dX2_findsOfSort_56, rfl⟩ rfl rfl hk
  · replace hf := i_f hc hf
    refine y_iload_n (i := 1) (n := 18) ⟨dX2_findsOfSort_17, rfl⟩ rfl ?_
    refine y_iconst (n := 19) (v := (-1)) ⟨dX2_findsOfSort_18, rfl⟩ ki_m1 ?_
    refine y_icmp_eq (t := 36) (n := 22) ⟨dX2_findsOfSort_19, rfl, rfl⟩ (fun (hc : x1 = (-1)) => ?_) (fun (hc : ¬ (x1 = (-1))) => ?_)
    · replace hf := i_t hc hf
      exact y_wk ⟨Or.inr rfl, Or.inr rfl, Or.inr rfl, Or.inr rfl, Or.inr rfl, trivial⟩ (w_b_ju_findsOfSort_5_36 x1 x2 x3 x4 M hf hk)
    · replace hf := i_f hc hf
      refine y_aload_n (i := 0) (n := 23) ⟨dX2_findsOfSort_22, rfl⟩ rfl ?_
      refine y_getR (n := 26) ⟨dX2_findsOfSort_23, rfl⟩ kfX2_40 l_39 rfl r_39_2 ?_
      refine y_getR (n := 29) ⟨dX2_findsOfSort_26, rfl⟩ kfX2_65 l_12 rfl r_12_4 ?_
      refine y_iload (i := 4) (n := 31) ⟨dX2_findsOfSort_29, rfl⟩ rfl ?_
      obtain ⟨hg3, hf⟩ := g_s hf
      refine y_iaload (n := 32) ⟨dX2_findsOfSort_31, rfl⟩ l_17 hg3 ?_
      refine y_iload_n (i := 1) (n := 33) ⟨dX2_findsOfSort_32, rfl⟩ rfl ?_
      refine y_icmp_ne (t := 49) (n := 36) ⟨dX2_findsOfSort_33, rfl, rfl⟩ (fun (hc : ¬ ((gI M 17 x4.toNatClampNeg) = x1)) => ?_) (fun (hc : (gI M 17 x4.toNatClampNeg) = x1) => ?_)
      · replace hf := i_f hc hf
        refine y_iinc (i := 4) (n := 52) (b := (x4 + 1)) (L2 := [some (.ref 39), some (.int x1), some (.int x2), some (.int x3), some (.int (x4 + 1))]) ⟨dX2_findsOfSort_49, rfl⟩ rfl (by rw [ki_1]) (by decide) rfl rfl ?_
        refine y_goto (t := 5) ⟨dX2_findsOfSort_52, rfl, rfl⟩ ?_
        cases hf
        exact y_wk ⟨Or.inr rfl, Or.inr rfl, Or.inr rfl, Or.inr rfl, Or.inr rfl, trivial⟩ hk
      · replace hf := i_t hc hf
        exact y_wk ⟨Or.inr rfl, Or.inr rfl, Or.inr rfl, Or.inr rfl, Or.inr rfl, trivial⟩ (w_b_ju_findsOfSort_5_36 x1 x2 x3 x4 M hf hk)
theorem wl_ju_findsOfSort_5 (x1 : Int32) (x2 : Int32) (x3 : Int32) (x4 : Int32) (M : dM) {Q : mz_P} {x : Int32} (hf : l_ju_findsOfSort_5 x1 x2 x3 x4 M = some x) (hk : K_ju_findsOfSort_5 Q x1 x2 M (.inr x)) : mW mX2_findsOfSort 2 Q 5 [some (.ref 39), some (.int x1), some (.int x2), some (.int x3), some (.int x4)] [] M :=
  lpc_wp (Wh := fun s => mW mX2_findsOfSort 2 Q 5 [some (.ref 39), some (.int x1), some (.int x2), some (.int s.1), some (.int s.2)] [] M) (K := K_ju_findsOfSort_5 Q x1 x2 M) (fun _ h => h) (fun s o hb hk => w_b_ju_findsOfSort_5_5 x1 x2 s.1 s.2 M hb hk) hf hk
theorem ok_ju_findsOfSort (a1 : Int32) (a2 : Int32) (M : dM) {o : Int32} (hf : f_ju_findsOfSort a1 a2 M = some o) : mO mX2_findsOfSort 2 [.ref 39, .int a1, .int a2] M (some (.int o)) M := by
  refine y_ok (by decide +kernel) (by decide) (L0 := [some (.ref 39), some (.int a1), some (.int a2), none, none]) rfl ?_
  have hk := mR_mQ (some (.int o)) M
  generalize mQ _ _ = Q at hk ⊢
  unfold f_ju_findsOfSort at hf
  refine y_iconst (n := 1) (v := 0) ⟨dX2_findsOfSort_0, rfl⟩ ki_0 ?_
  refine y_istore_n (i := 3) (n := 2) (L2 := [some (.ref 39), some (.int a1), some (.int a2), some (.int 0), none]) ⟨dX2_findsOfSort_1, rfl⟩ (by decide) rfl rfl ?_
  refine y_iconst (n := 3) (v := 0) ⟨dX2_findsOfSort_2, rfl⟩ ki_0 ?_
  refine y_istore (i := 4) (n := 5) (L2 := [some (.ref 39), some (.int a1), some (.int a2), some (.int 0), some (.int 0)]) ⟨dX2_findsOfSort_3, rfl⟩ (by decide) rfl rfl ?_
  obtain ⟨r6, hl5, hf⟩ := b_s hf
  cases hf
  exact y_wk ⟨Or.inr rfl, Or.inr rfl, Or.inr rfl, Or.inr rfl, Or.inr rfl, trivial⟩ (wl_ju_findsOfSort_5 a1 a2 0 0 M hl5 hk)
theorem c_ju_findsOfSort (a1 : Int32) (a2 : Int32) (M : dM) {o : Int32} {y : mz_M} {d : Nat} {Q : mz_P} {pc n i : Nat} {L : List (Option Value)} {st : List Value} (h : mz_d y.2.1 pc n 3 (.invokevirtual i)) (hl : mz_ml y.1.cls i yX2_findsOfSort) (hf : f_ju_findsOfSort a1 a2 M = some o) (hd : 2 + 1 ≤ d) (hsm : (st.map (fun v => v.category)).sum ≤ 8) (hLr : mz_rL 133 L = true) (hSr : mz_rS 133 st = true) (kk : mW y d Q n L (.int o :: st) M) : mW y d Q pc L (.int a2 :: .int a1 :: .ref 39 :: st) M :=
  y_callV kmX2_findsOfSort kvX2_findsOfSort l_39 (by decide +kernel) (by decide +kernel) h hl (ok_ju_findsOfSort a1 a2 M hf) (vs := [.int a1, .int a2]) rfl rfl hd hsm hLr hSr kk
noncomputable def t_ax_row_42 (x2 : Int32) (x3 : Int32) (y0 : Int32) (M : dM) : Option (Int32 × dM) :=
  if (x3 - x3 / 2 * 2) = 0 then
    (f_ju_findsOf y0 M).bind fun v5 =>
    some (v5, M)
  else
    (f_ju_findsOfSort y0 x2 M).bind fun v3 =>
    some (v3, M)
noncomputable def f_ax_row (a1 : Int32) (a2 : Int32) (a3 : Int32) (M : dM) : Option (Int32 × dM) :=
  if (f_ax_within a1 10) = true then
    if (f_ax_within a2 3) = true then
      if (f_ax_within a3 4) = true then
        (f_ax_study 1 M).bind fun q1 =>
        if 2 ≤ a3 then
          t_ax_row_42 a2 a3 (-1) q1
        else
          t_ax_row_42 a2 a3 a1 q1
      else
        some ((-1), M)
    else
      some ((-1), M)
  else
    some ((-1), M)
theorem w_t_ax_row_42 (x2 : Int32) (x3 : Int32) (y0 : Int32) (M : dM) {Q : mz_P} {o : (Int32 × dM)} (hf : t_ax_row_42 x2 x3 y0 M = some o) (hk : mR Q (some (.int o.1)) o.2) : mW mX11_row 6 Q 42 [some (.ref 0), none, some (.int x2), some (.int x3), none] [.int y0] M := by
  unfold t_ax_row_42 at hf
  refine y_istore (i := 4) (n := 44) (L2 := [some (.ref 0), none, some (.int x2), some (.int x3), some (.int y0)]) ⟨dX11_row_42, rfl⟩ (by decide) rfl rfl ?_
  refine y_iload_n (i := 3) (n := 45) ⟨dX11_row_44, rfl⟩ rfl ?_
  refine y_iconst (n := 46) (v := 2) ⟨dX11_row_45, rfl⟩ ki_2 ?_
  refine y_irem (n := 47) ⟨dX11_row_46, rfl⟩ (by decide) ?_
  refine y_if_ne (t := 62) (n := 50) ⟨dX11_row_47, rfl, rfl⟩ (fun (hc : ¬ ((x3 - x3 / 2 * 2) = 0)) => ?_) (fun (hc : (x3 - x3 / 2 * 2) = 0) => ?_)
  · replace hf := i_f hc hf
    refine y_aload_n (i := 0) (n := 63) ⟨dX11_row_62, rfl⟩ rfl ?_
    refine y_getR (n := 66) ⟨dX11_row_63, rfl⟩ kfX11_56 l_0 rfl r_0_6 ?_
    refine y_iload (i := 4) (n := 68) ⟨dX11_row_66, rfl⟩ rfl ?_
    refine y_iload_n (i := 2) (n := 69) ⟨dX11_row_68, rfl⟩ rfl ?_
    obtain ⟨v3, hv4, hf⟩ := b_s hf
    refine c_ju_findsOfSort y0 x2 M (n := 72) ⟨dX11_row_69, rfl⟩ klX11_186 hv4 (by decide) (Nat.le_of_ble_eq_true rfl) rfl rfl ?_
    cases hf
    exact y_ireturn (n := 73) ⟨dX11_row_72, rfl⟩ rfl rfl hk
  · replace hf := i_t hc hf
    refine y_aload_n (i := 0) (n := 51) ⟨dX11_row_50, rfl⟩ rfl ?_
    refine y_getR (n := 54) ⟨dX11_row_51, rfl⟩ kfX11_56 l_0 rfl r_0_6 ?_
    refine y_iload (i := 4) (n := 56) ⟨dX11_row_54, rfl⟩ rfl ?_
    obtain ⟨v5, hv6, hf⟩ := b_s hf
    refine c_ju_findsOf y0 M (n := 59) ⟨dX11_row_56, rfl⟩ klX11_182 hv6 (by decide) (Nat.le_of_ble_eq_true rfl) rfl rfl ?_
    refine y_goto (t := 72) ⟨dX11_row_59, rfl, rfl⟩ ?_
    cases hf
    exact y_ireturn (n := 73) ⟨dX11_row_72, rfl⟩ rfl rfl hk
theorem ok_ax_row (a1 : Int32) (a2 : Int32) (a3 : Int32) (M : dM) {o : (Int32 × dM)} (hf : f_ax_row a1 a2 a3 M = some o) : mO mX11_row 6 [.ref 0, .int a1, .int a2, .int a3] M (some (.int o.1)) o.2 := by
  refine y_ok (by decide +kernel) (by decide) (L0 := [some (.ref 0), some (.int a1), some (.int a2), some (.int a3), none]) rfl ?_
  have hk := mR_mQ (some (.int o.1)) o.2
  generalize mQ _ _ = Q at hk ⊢
  unfold f_ax_row at hf
  refine y_iload_n (i := 1) (n := 1) ⟨dX11_row_0, rfl⟩ rfl ?_
  refine y_bipush (n := 3) (v := 10) ⟨dX11_row_1, rfl⟩ kb_10 ?_
  refine c_ax_within a1 10 M (n := 6) ⟨dX11_row_3, rfl⟩ klX11_91 rfl (by decide) (Nat.le_of_ble_eq_true rfl) rfl rfl ?_
  refine y_if_eq (t := 25) (n := 9) ⟨dX11_row_6, rfl, rfl⟩ (fun h0 => ?_) (fun h0 => ?_)
  · have hc := bI_0 h0
    replace hf := i_f hc hf
    refine y_iconst (n := 26) (v := (-1)) ⟨dX11_row_25, rfl⟩ ki_m1 ?_
    cases hf
    exact y_ireturn (n := 27) ⟨dX11_row_26, rfl⟩ rfl rfl hk
  · have hc := bI_1 h0
    replace hf := i_t hc hf
    refine y_iload_n (i := 2) (n := 10) ⟨dX11_row_9, rfl⟩ rfl ?_
    refine y_iconst (n := 11) (v := 3) ⟨dX11_row_10, rfl⟩ ki_3 ?_
    refine c_ax_within a2 3 M (n := 14) ⟨dX11_row_11, rfl⟩ klX11_91 rfl (by decide) (Nat.le_of_ble_eq_true rfl) rfl rfl ?_
    refine y_if_eq (t := 25) (n := 17) ⟨dX11_row_14, rfl, rfl⟩ (fun h0 => ?_) (fun h0 => ?_)
    · have hc := bI_0 h0
      replace hf := i_f hc hf
      refine y_iconst (n := 26) (v := (-1)) ⟨dX11_row_25, rfl⟩ ki_m1 ?_
      cases hf
      exact y_ireturn (n := 27) ⟨dX11_row_26, rfl⟩ rfl rfl hk
    · have hc := bI_1 h0
      replace hf := i_t hc hf
      refine y_iload_n (i := 3) (n := 18) ⟨dX11_row_17, rfl⟩ rfl ?_
      refine y_iconst (n := 19) (v := 4) ⟨dX11_row_18, rfl⟩ ki_4 ?_
      refine c_ax_within a3 4 M (n := 22) ⟨dX11_row_19, rfl⟩ klX11_91 rfl (by decide) (Nat.le_of_ble_eq_true rfl) rfl rfl ?_
      refine y_if_ne (t := 27) (n := 25) ⟨dX11_row_22, rfl, rfl⟩ (fun h0 => ?_) (fun h0 => ?_)
      · have hc := bI_1 h0
        replace hf := i_t hc hf
        refine y_aload_n (i := 0) (n := 28) ⟨dX11_row_27, rfl⟩ rfl ?_
        refine y_iconst (n := 29) (v := 1) ⟨dX11_row_28, rfl⟩ ki_1 ?_
        obtain ⟨q1, hv2, hf⟩ := b_s hf
        refine c_ax_study 1 M (n := 32) ⟨dX11_row_29, rfl⟩ klX11_156 hv2 (by decide) (Nat.le_of_ble_eq_true rfl) rfl rfl ?_
        refine y_iload_n (i := 3) (n := 33) ⟨dX11_row_32, rfl⟩ rfl ?_
        refine y_iconst (n := 34) (v := 2) ⟨dX11_row_33, rfl⟩ ki_2 ?_
        refine y_icmp_ge (t := 41) (n := 37) ⟨dX11_row_34, rfl, rfl⟩ (fun (hc : 2 ≤ a3) => ?_) (fun (hc : ¬ (2 ≤ a3)) => ?_)
        · replace hf := i_t hc hf
          refine y_iconst (n := 42) (v := (-1)) ⟨dX11_row_41, rfl⟩ ki_m1 ?_
          exact y_wk ⟨Or.inr rfl, Or.inl rfl, Or.inr rfl, Or.inr rfl, Or.inr rfl, trivial⟩ (w_t_ax_row_42 a2 a3 (-1) q1 hf hk)
        · replace hf := i_f hc hf
          refine y_iload_n (i := 1) (n := 38) ⟨dX11_row_37, rfl⟩ rfl ?_
          refine y_goto (t := 42) ⟨dX11_row_38, rfl, rfl⟩ ?_
          exact y_wk ⟨Or.inr rfl, Or.inl rfl, Or.inr rfl, Or.inr rfl, Or.inr rfl, trivial⟩ (w_t_ax_row_42 a2 a3 a1 q1 hf hk)
      · have hc := bI_0 h0
        replace hf := i_f hc hf
        refine y_iconst (n := 26) (v := (-1)) ⟨dX11_row_25, rfl⟩ ki_m1 ?_
        cases hf
        exact y_ireturn (n := 27) ⟨dX11_row_26, rfl⟩ rfl rfl hk
theorem c_ax_row (a1 : Int32) (a2 : Int32) (a3 : Int32) (M : dM) {o : (Int32 × dM)} {y : mz_M} {d : Nat} {Q : mz_P} {pc n i : Nat} {L : List (Option Value)} {st : List Value} (h : mz_d y.2.1 pc n 3 (.invokevirtual i)) (hl : mz_ml y.1.cls i yX11_row) (hf : f_ax_row a1 a2 a3 M = some o) (hd : 6 + 1 ≤ d) (hsm : (st.map (fun v => v.category)).sum ≤ 8) (hLr : mz_rL 133 L = true) (hSr : mz_rS 133 st = true) (kk : mW y d Q n L (.int o.1 :: st) o.2) : mW y d Q pc L (.int a3 :: .int a2 :: .int a1 :: .ref 0 :: st) M :=
  y_callV kmX11_row kvX11_row l_0 (by decide +kernel) (by decide +kernel) h hl (ok_ax_row a1 a2 a3 M hf) (vs := [.int a1, .int a2, .int a3]) rfl rfl hd hsm hLr hSr kk
def K_ch_choose_5 (Q : mz_P) (x0 : Int32) (x1 : Int32) (M : dM) : ((Int64 × Int32) ⊕ Int64) → Prop
  | .inl s => mW mX0_choose 1 Q 5 [some (.int x0), some (.int x1), some (.long s.1), none, some (.int s.2)] [] M
  | .inr t => mW mX0_choose 1 Q 31 [some (.int x0), some (.int x1), some (.long t), none, none] [] M
noncomputable def b_ch_choose_5_5 (x0 : Int32) (x1 : Int32) (x2 : Int64) (x4 : Int32) : Option ((Int64 × Int32) ⊕ Int64) :=
  if x1 < x4 then
    some (.inr x2)
  else
    gd (¬ x4.toInt64 = 0) <|
    some (.inl (((x2 * ((x0 - x1) + x4).toInt64) / x4.toInt64), (x4 + 1)))
noncomputable def l_ch_choose_5 (x0 : Int32) (x1 : Int32) (x2 : Int64) (x4 : Int32) : Option Int64 := lpc (fun s => b_ch_choose_5_5 x0 x1 s.1 s.2) (x2, x4)
noncomputable def f_ch_choose (a1 : Int32) (a2 : Int32) : Option Int64 :=
  (l_ch_choose_5 a1 a2 1 1).bind fun t2 =>
    if a2 < 0 then
      some 0
    else
      if a2 ≤ a1 then
        some t2
      else
        some 0
theorem w_b_ch_choose_5_5 (x0 : Int32) (x1 : Int32) (x2 : Int64) (x4 : Int32) (M : dM) {Q : mz_P} {o : ((Int64 × Int32) ⊕ Int64)} (hf : b_ch_choose_5_5 x0 x1 x2 x4 = some o) (hk : K_ch_choose_5 Q x0 x1 M o) : mW mX0_choose 1 Q 5 [some (.int x0), some (.int x1), some (.long x2), none, some (.int x4)] [] M := by
  unfold b_ch_choose_5_5 at hf
  refine y_iload (i := 4) (n := 7) ⟨dX0_choose_5, rfl⟩ rfl ?_
  refine y_iload_n (i := 1) (n := 8) ⟨dX0_choose_7, rfl⟩ rfl ?_
  refine y_icmp_gt (t := 31) (n := 11) ⟨dX0_choose_8, rfl, rfl⟩ (fun (hc : x1 < x4) => ?_) (fun (hc : ¬ (x1 < x4)) => ?_)
  · replace hf := i_t hc hf
    cases hf
    exact y_wk ⟨Or.inr rfl, Or.inr rfl, Or.inr rfl, Or.inr rfl, Or.inl rfl, trivial⟩ hk
  · replace hf := i_f hc hf
    refine y_lload_n (i := 2) (n := 12) ⟨dX0_choose_11, rfl⟩ rfl ?_
    refine y_iload_n (i := 0) (n := 13) ⟨dX0_choose_12, rfl⟩ rfl ?_
    refine y_iload_n (i := 1) (n := 14) ⟨dX0_choose_13, rfl⟩ rfl ?_
    refine y_isub (n := 15) ⟨dX0_choose_14, rfl⟩ ?_
    refine y_iload (i := 4) (n := 17) ⟨dX0_choose_15, rfl⟩ rfl ?_
    refine y_iadd (n := 18) ⟨dX0_choose_17, rfl⟩ ?_
    refine y_i2l (n := 19) ⟨dX0_choose_18, rfl⟩ ?_
    refine y_lmul (n := 20) ⟨dX0_choose_19, rfl⟩ ?_
    refine y_iload (i := 4) (n := 22) ⟨dX0_choose_20, rfl⟩ rfl ?_
    refine y_i2l (n := 23) ⟨dX0_choose_22, rfl⟩ ?_
    obtain ⟨hg1, hf⟩ := g_s hf
    refine y_ldiv (n := 24) ⟨dX0_choose_23, rfl⟩ hg1 ?_
    refine y_lstore_n (i := 2) (n := 25) (L2 := [some (.int x0), some (.int x1), some (.long ((x2 * ((x0 - x1) + x4).toInt64) / x4.toInt64)), none, some (.int x4)]) ⟨dX0_choose_24, rfl⟩ (by decide) rfl rfl ?_
    refine y_iinc (i := 4) (n := 28) (b := (x4 + 1)) (L2 := [some (.int x0), some (.int x1), some (.long ((x2 * ((x0 - x1) + x4).toInt64) / x4.toInt64)), none, some (.int (x4 + 1))]) ⟨dX0_choose_25, rfl⟩ rfl (by rw [ki_1]) (by decide) rfl rfl ?_
    refine y_goto (t := 5) ⟨dX0_choose_28, rfl, rfl⟩ ?_
    cases hf
    exact y_wk ⟨Or.inr rfl, Or.inr rfl, Or.inr rfl, Or.inr rfl, Or.inr rfl, trivial⟩ hk
theorem wl_ch_choose_5 (x0 : Int32) (x1 : Int32) (x2 : Int64) (x4 : Int32) (M : dM) {Q : mz_P} {x : Int64} (hf : l_ch_choose_5 x0 x1 x2 x4 = some x) (hk : K_ch_choose_5 Q x0 x1 M (.inr x)) : mW mX0_choose 1 Q 5 [some (.int x0), some (.int x1), some (.long x2), none, some (.int x4)] [] M :=
  lpc_wp (Wh := fun s => mW mX0_choose 1 Q 5 [some (.int x0), some (.int x1), some (.long s.1), none, some (.int s.2)] [] M) (K := K_ch_choose_5 Q x0 x1 M) (fun _ h => h) (fun s o hb hk => w_b_ch_choose_5_5 x0 x1 s.1 s.2 M hb hk) hf hk
theorem ok_ch_choose (a1 : Int32) (a2 : Int32) (M : dM) {o : Int64} (hf : f_ch_choose a1 a2 = some o) : mO mX0_choose 1 [.int a1, .int a2] M (some (.long o)) M := by
  refine y_ok (by decide +kernel) (by decide) (L0 := [some (.int a1), some (.int a2), none, none, none]) rfl ?_
  have hk := mR_mQ (some (.long o)) M
  generalize mQ _ _ = Q at hk ⊢
  unfold f_ch_choose at hf
  refine y_lconst (n := 1) (v := 1) ⟨dX0_choose_0, rfl⟩ kl_1 ?_
  refine y_lstore_n (i := 2) (n := 2) (L2 := [some (.int a1), some (.int a2), some (.long 1), none, none]) ⟨dX0_choose_1, rfl⟩ (by decide) rfl rfl ?_
  refine y_iconst (n := 3) (v := 1) ⟨dX0_choose_2, rfl⟩ ki_1 ?_
  refine y_istore (i := 4) (n := 5) (L2 := [some (.int a1), some (.int a2), some (.long 1), none, some (.int 1)]) ⟨dX0_choose_3, rfl⟩ (by decide) rfl rfl ?_
  obtain ⟨t2, hl3, hf⟩ := b_s hf
  refine y_wk ⟨Or.inr rfl, Or.inr rfl, Or.inr rfl, Or.inr rfl, Or.inr rfl, trivial⟩ (wl_ch_choose_5 a1 a2 1 1 M hl3 ?_)
  show mW mX0_choose 1 Q 31 [some (.int a1), some (.int a2), some (.long t2), none, none] [] M
  refine y_iload_n (i := 1) (n := 32) ⟨dX0_choose_31, rfl⟩ rfl ?_
  refine y_if_lt (t := 40) (n := 35) ⟨dX0_choose_32, rfl, rfl⟩ (fun (hc : a2 < 0) => ?_) (fun (hc : ¬ (a2 < 0)) => ?_)
  · replace hf := i_t hc hf
    refine y_lconst (n := 41) (v := 0) ⟨dX0_choose_40, rfl⟩ kl_0 ?_
    refine y_goto (t := 45) ⟨dX0_choose_41, rfl, rfl⟩ ?_
    cases hf
    exact y_lreturn (n := 46) ⟨dX0_choose_45, rfl⟩ rfl hk
  · replace hf := i_f hc hf
    refine y_iload_n (i := 1) (n := 36) ⟨dX0_choose_35, rfl⟩ rfl ?_
    refine y_iload_n (i := 0) (n := 37) ⟨dX0_choose_36, rfl⟩ rfl ?_
    refine y_icmp_le (t := 44) (n := 40) ⟨dX0_choose_37, rfl, rfl⟩ (fun (hc : a2 ≤ a1) => ?_) (fun (hc : ¬ (a2 ≤ a1)) => ?_)
    · replace hf := i_t hc hf
      refine y_lload_n (i := 2) (n := 45) ⟨dX0_choose_44, rfl⟩ rfl ?_
      cases hf
      exact y_lreturn (n := 46) ⟨dX0_choose_45, rfl⟩ rfl hk
    · replace hf := i_f hc hf
      refine y_lconst (n := 41) (v := 0) ⟨dX0_choose_40, rfl⟩ kl_0 ?_
      refine y_goto (t := 45) ⟨dX0_choose_41, rfl, rfl⟩ ?_
      cases hf
      exact y_lreturn (n := 46) ⟨dX0_choose_45, rfl⟩ rfl hk
theorem c_ch_choose (a1 : Int32) (a2 : Int32) (M : dM) {o : Int64} {y : mz_M} {d : Nat} {Q : mz_P} {pc n i : Nat} {L : List (Option Value)} {st : List Value} (h : mz_d y.2.1 pc n 3 (.invokestatic i)) (hl : mz_ml y.1.cls i yX0_choose) (hf : f_ch_choose a1 a2 = some o) (hd : 1 + 1 ≤ d) (hsm : (st.map (fun v => v.category)).sum ≤ 8) (hLr : mz_rL 133 L = true) (hSr : mz_rS 133 st = true) (kk : mW y d Q n L (.long o :: st) M) : mW y d Q pc L (.int a2 :: .int a1 :: st) M :=
  y_callS kmX0_choose ksX0_choose h hl (ok_ch_choose a1 a2 M hf) (vs := [.int a1, .int a2]) rfl rfl hd hsm hLr hSr kk
def K_ch_drawsWith_6 (Q : mz_P) (x0 : Int32) (x1 : Int32) (x2 : Int32) (M : dM) : ((Int64 × Int32) ⊕ Int64) → Prop
  | .inl s => mW mX0_drawsWith 2 Q 6 [some (.int x0), some (.int x1), some (.int x2), none, some (.long s.1), none, some (.int s.2)] [] M
  | .inr r => mR Q (some (.long r)) M
noncomputable def b_ch_drawsWith_6_6 (x0 : Int32) (x1 : Int32) (x2 : Int32) (x4 : Int64) (x6 : Int32) : Option ((Int64 × Int32) ⊕ Int64) :=
  if (f_jd_min x2 x1) < x6 then
    some (.inr x4)
  else
    (f_ch_choose x1 x6).bind fun v1 =>
    (f_ch_choose (x0 - x1) (x2 - x6)).bind fun v3 =>
    some (.inl ((x4 + (v1 * v3)), (x6 + 1)))
noncomputable def l_ch_drawsWith_6 (x0 : Int32) (x1 : Int32) (x2 : Int32) (x4 : Int64) (x6 : Int32) : Option Int64 := lpc (fun s => b_ch_drawsWith_6_6 x0 x1 x2 s.1 s.2) (x4, x6)
noncomputable def f_ch_drawsWith (a1 : Int32) (a2 : Int32) (a3 : Int32) (a4 : Int32) : Option Int64 :=
  (l_ch_drawsWith_6 a1 a2 a3 0 a4).bind fun r7 => some r7
theorem w_b_ch_drawsWith_6_6 (x0 : Int32) (x1 : Int32) (x2 : Int32) (x4 : Int64) (x6 : Int32) (M : dM) {Q : mz_P} {o : ((Int64 × Int32) ⊕ Int64)} (hf : b_ch_drawsWith_6_6 x0 x1 x2 x4 x6 = some o) (hk : K_ch_drawsWith_6 Q x0 x1 x2 M o) : mW mX0_drawsWith 2 Q 6 [some (.int x0), some (.int x1), some (.int x2), none, some (.long x4), none, some (.int x6)] [] M := by
  unfold b_ch_drawsWith_6_6 at hf
  refine y_iload (i := 6) (n := 8) ⟨dX0_drawsWith_6, rfl⟩ rfl ?_
  refine y_iload_n (i := 2) (n := 9) ⟨dX0_drawsWith_8, rfl⟩ rfl ?_
  refine y_iload_n (i := 1) (n := 10) ⟨dX0_drawsWith_9, rfl⟩ rfl ?_
  refine c_jd_min x2 x1 M (n := 13) ⟨dX0_drawsWith_10, rfl⟩ klX0_7 rfl (by decide) (Nat.le_of_ble_eq_true rfl) rfl rfl ?_
  refine y_icmp_gt (t := 44) (n := 16) ⟨dX0_drawsWith_13, rfl, rfl⟩ (fun (hc : (f_jd_min x2 x1) < x6) => ?_) (fun (hc : ¬ ((f_jd_min x2 x1) < x6)) => ?_)
  · replace hf := i_t hc hf
    refine y_lload (i := 4) (n := 46) ⟨dX0_drawsWith_44, rfl⟩ rfl ?_
    cases hf
    exact y_lreturn (n := 47) ⟨dX0_drawsWith_46, rfl⟩ rfl hk
  · replace hf := i_f hc hf
    refine y_lload (i := 4) (n := 18) ⟨dX0_drawsWith_16, rfl⟩ rfl ?_
    refine y_iload_n (i := 1) (n := 19) ⟨dX0_drawsWith_18, rfl⟩ rfl ?_
    refine y_iload (i := 6) (n := 21) ⟨dX0_drawsWith_19, rfl⟩ rfl ?_
    obtain ⟨v1, hv2, hf⟩ := b_s hf
    refine c_ch_choose x1 x6 M (n := 24) ⟨dX0_drawsWith_21, rfl⟩ klX0_13 hv2 (by decide) (Nat.le_of_ble_eq_true rfl) rfl rfl ?_
    refine y_iload_n (i := 0) (n := 25) ⟨dX0_drawsWith_24, rfl⟩ rfl ?_
    refine y_iload_n (i := 1) (n := 26) ⟨dX0_drawsWith_25, rfl⟩ rfl ?_
    refine y_isub (n := 27) ⟨dX0_drawsWith_26, rfl⟩ ?_
    refine y_iload_n (i := 2) (n := 28) ⟨dX0_drawsWith_27, rfl⟩ rfl ?_
    refine y_iload (i := 6) (n := 30) ⟨dX0_drawsWith_28, rfl⟩ rfl ?_
    refine y_isub (n := 31) ⟨dX0_drawsWith_30, rfl⟩ ?_
    obtain ⟨v3, hv4, hf⟩ := b_s hf
    refine c_ch_choose (x0 - x1) (x2 - x6) M (n := 34) ⟨dX0_drawsWith_31, rfl⟩ klX0_13 hv4 (by decide) (Nat.le_of_ble_eq_true rfl) rfl rfl ?_
    refine y_lmul (n := 35) ⟨dX0_drawsWith_34, rfl⟩ ?_
    refine y_ladd (n := 36) ⟨dX0_drawsWith_35, rfl⟩ ?_
    refine y_lstore (i := 4) (n := 38) (L2 := [some (.int x0), some (.int x1), some (.int x2), none, some (.long (x4 + (v1 * v3))), none, some (.int x6)]) ⟨dX0_drawsWith_36, rfl⟩ (by decide) rfl rfl ?_
    refine y_iinc (i := 6) (n := 41) (b := (x6 + 1)) (L2 := [some (.int x0), some (.int x1), some (.int x2), none, some (.long (x4 + (v1 * v3))), none, some (.int (x6 + 1))]) ⟨dX0_drawsWith_38, rfl⟩ rfl (by rw [ki_1]) (by decide) rfl rfl ?_
    refine y_goto (t := 6) ⟨dX0_drawsWith_41, rfl, rfl⟩ ?_
    cases hf
    exact y_wk ⟨Or.inr rfl, Or.inr rfl, Or.inr rfl, Or.inr rfl, Or.inr rfl, Or.inr rfl, Or.inr rfl, trivial⟩ hk
theorem wl_ch_drawsWith_6 (x0 : Int32) (x1 : Int32) (x2 : Int32) (x4 : Int64) (x6 : Int32) (M : dM) {Q : mz_P} {x : Int64} (hf : l_ch_drawsWith_6 x0 x1 x2 x4 x6 = some x) (hk : K_ch_drawsWith_6 Q x0 x1 x2 M (.inr x)) : mW mX0_drawsWith 2 Q 6 [some (.int x0), some (.int x1), some (.int x2), none, some (.long x4), none, some (.int x6)] [] M :=
  lpc_wp (Wh := fun s => mW mX0_drawsWith 2 Q 6 [some (.int x0), some (.int x1), some (.int x2), none, some (.long s.1), none, some (.int s.2)] [] M) (K := K_ch_drawsWith_6 Q x0 x1 x2 M) (fun _ h => h) (fun s o hb hk => w_b_ch_drawsWith_6_6 x0 x1 x2 s.1 s.2 M hb hk) hf hk
theorem ok_ch_drawsWith (a1 : Int32) (a2 : Int32) (a3 : Int32) (a4 : Int32) (M : dM) {o : Int64} (hf : f_ch_drawsWith a1 a2 a3 a4 = some o) : mO mX0_drawsWith 2 [.int a1, .int a2, .int a3, .int a4] M (some (.long o)) M := by
  refine y_ok (by decide +kernel) (by decide) (L0 := [some (.int a1), some (.int a2), some (.int a3), some (.int a4), none, none, none]) rfl ?_
  have hk := mR_mQ (some (.long o)) M
  generalize mQ _ _ = Q at hk ⊢
  unfold f_ch_drawsWith at hf
  refine y_lconst (n := 1) (v := 0) ⟨dX0_drawsWith_0, rfl⟩ kl_0 ?_
  refine y_lstore (i := 4) (n := 3) (L2 := [some (.int a1), some (.int a2), some (.int a3), some (.int a4), some (.long 0), none, none]) ⟨dX0_drawsWith_1, rfl⟩ (by decide) rfl rfl ?_
  refine y_iload_n (i := 3) (n := 4) ⟨dX0_drawsWith_3, rfl⟩ rfl ?_
  refine y_istore (i := 6) (n := 6) (L2 := [some (.int a1), some (.int a2), some (.int a3), some (.int a4), some (.long 0), none, some (.int a4)]) ⟨dX0_drawsWith_4, rfl⟩ (by decide) rfl rfl ?_
  obtain ⟨r7, hl6, hf⟩ := b_s hf
  cases hf
  exact y_wk ⟨Or.inr rfl, Or.inr rfl, Or.inr rfl, Or.inl rfl, Or.inr rfl, Or.inr rfl, Or.inr rfl, trivial⟩ (wl_ch_drawsWith_6 a1 a2 a3 0 a4 M hl6 hk)
theorem c_ch_drawsWith (a1 : Int32) (a2 : Int32) (a3 : Int32) (a4 : Int32) (M : dM) {o : Int64} {y : mz_M} {d : Nat} {Q : mz_P} {pc n i : Nat} {L : List (Option Value)} {st : List Value} (h : mz_d y.2.1 pc n 3 (.invokestatic i)) (hl : mz_ml y.1.cls i yX0_drawsWith) (hf : f_ch_drawsWith a1 a2 a3 a4 = some o) (hd : 2 + 1 ≤ d) (hsm : (st.map (fun v => v.category)).sum ≤ 8) (hLr : mz_rL 133 L = true) (hSr : mz_rS 133 st = true) (kk : mW y d Q n L (.long o :: st) M) : mW y d Q pc L (.int a4 :: .int a3 :: .int a2 :: .int a1 :: st) M :=
  y_callS kmX0_drawsWith ksX0_drawsWith h hl (ok_ch_drawsWith a1 a2 a3 a4 M hf) (vs := [.int a1, .int a2, .int a3, .int a4]) rfl rfl hd hsm hLr hSr kk
def K_ch_lowest_9 (Q : mz_P) (x0 : Int64) (x2 : Int64) (x4 : Int32) (M : dM) : ((Int64 × Int64 × Int32) ⊕ Int64) → Prop
  | .inl s => mW mX0_lowest 1 Q 9 [some (.long x0), none, some (.long x2), none, some (.int x4), some (.long s.1), none, some (.long s.2.1), none, some (.int s.2.2), none, none] [] M
  | .inr t => mW mX0_lowest 1 Q 45 [some (.long x0), none, some (.long x2), none, some (.int x4), some (.long t), none, none, none, none, none, none] [] M
noncomputable def b_ch_lowest_9_9 (x0 : Int64) (x2 : Int64) (x4 : Int32) (x5 : Int64) (x7 : Int64) (x9 : Int32) : Option ((Int64 × Int64 × Int32) ⊕ Int64) :=
  if 200 ≤ x9 then
    some (.inr x5)
  else
    if x7 = 0 then
      some (.inr x5)
    else
      gd (¬ x7 = 0) <|
      some (.inl (x7, (x5 - x5 / x7 * x7), (x9 + 1)))
noncomputable def l_ch_lowest_9 (x0 : Int64) (x2 : Int64) (x4 : Int32) (x5 : Int64) (x7 : Int64) (x9 : Int32) : Option Int64 := lpc (fun s => b_ch_lowest_9_9 x0 x2 x4 s.1 s.2.1 s.2.2) (x5, x7, x9)
noncomputable def t_ch_lowest_55 (x5 : Int64) (y0 : Int64) : Option Int64 :=
  if x5 = 0 then
    some y0
  else
    gd (¬ x5 = 0) <|
    some (y0 / x5)
noncomputable def t_ch_lowest_45 (x0 : Int64) (x2 : Int64) (x4 : Int32) (x5 : Int64) : Option Int64 :=
  if x4 = 0 then
    t_ch_lowest_55 x5 x0
  else
    t_ch_lowest_55 x5 x2
noncomputable def f_ch_lowest (a1 : Int64) (a2 : Int64) (a3 : Int32) : Option Int64 :=
  (l_ch_lowest_9 a1 a2 a3 a2 a1 0).bind fun t2 =>
    t_ch_lowest_45 a1 a2 a3 t2
theorem w_b_ch_lowest_9_9 (x0 : Int64) (x2 : Int64) (x4 : Int32) (x5 : Int64) (x7 : Int64) (x9 : Int32) (M : dM) {Q : mz_P} {o : ((Int64 × Int64 × Int32) ⊕ Int64)} (hf : b_ch_lowest_9_9 x0 x2 x4 x5 x7 x9 = some o) (hk : K_ch_lowest_9 Q x0 x2 x4 M o) : mW mX0_lowest 1 Q 9 [some (.long x0), none, some (.long x2), none, some (.int x4), some (.long x5), none, some (.long x7), none, some (.int x9), none, none] [] M := by
  unfold b_ch_lowest_9_9 at hf
  refine y_iload (i := 9) (n := 11) ⟨dX0_lowest_9, rfl⟩ rfl ?_
  refine y_sipush (n := 14) (v := 200) ⟨dX0_lowest_11, rfl⟩ ks_200 ?_
  refine y_icmp_ge (t := 45) (n := 17) ⟨dX0_lowest_14, rfl, rfl⟩ (fun (hc : 200 ≤ x9) => ?_) (fun (hc : ¬ (200 ≤ x9)) => ?_)
  · replace hf := i_t hc hf
    cases hf
    exact y_wk ⟨Or.inr rfl, Or.inr rfl, Or.inr rfl, Or.inr rfl, Or.inr rfl, Or.inr rfl, Or.inr rfl, Or.inl rfl, Or.inr rfl, Or.inl rfl, Or.inr rfl, Or.inr rfl, trivial⟩ hk
  · replace hf := i_f hc hf
    refine y_lload (i := 7) (n := 19) ⟨dX0_lowest_17, rfl⟩ rfl ?_
    refine y_lconst (n := 20) (v := 0) ⟨dX0_lowest_19, rfl⟩ kl_0 ?_
    refine y_lcmp (n := 21) ⟨dX0_lowest_20, rfl⟩ ?_
    refine y_if_eq (t := 45) (n := 24) ⟨dX0_lowest_21, rfl, rfl⟩ (fun h0 => ?_) (fun h0 => ?_)
    · have hc : x7 = 0 := (lc_eq _ _).mp h0
      replace hf := i_t hc hf
      cases hf
      exact y_wk ⟨Or.inr rfl, Or.inr rfl, Or.inr rfl, Or.inr rfl, Or.inr rfl, Or.inr rfl, Or.inr rfl, Or.inl rfl, Or.inr rfl, Or.inl rfl, Or.inr rfl, Or.inr rfl, trivial⟩ hk
    · have hc : ¬ (x7 = 0) := fun e => h0 ((lc_eq _ _).mpr e)
      replace hf := i_f hc hf
      refine y_lload (i := 5) (n := 26) ⟨dX0_lowest_24, rfl⟩ rfl ?_
      refine y_lload (i := 7) (n := 28) ⟨dX0_lowest_26, rfl⟩ rfl ?_
      obtain ⟨hg1, hf⟩ := g_s hf
      refine y_lrem (n := 29) ⟨dX0_lowest_28, rfl⟩ hg1 ?_
      refine y_lstore (i := 10) (n := 31) (L2 := [some (.long x0), none, some (.long x2), none, some (.int x4), some (.long x5), none, some (.long x7), none, some (.int x9), some (.long (x5 - x5 / x7 * x7)), none]) ⟨dX0_lowest_29, rfl⟩ (by decide) rfl rfl ?_
      refine y_lload (i := 7) (n := 33) ⟨dX0_lowest_31, rfl⟩ rfl ?_
      refine y_lstore (i := 5) (n := 35) (L2 := [some (.long x0), none, some (.long x2), none, some (.int x4), some (.long x7), none, some (.long x7), none, some (.int x9), some (.long (x5 - x5 / x7 * x7)), none]) ⟨dX0_lowest_33, rfl⟩ (by decide) rfl rfl ?_
      refine y_lload (i := 10) (n := 37) ⟨dX0_lowest_35, rfl⟩ rfl ?_
      refine y_lstore (i := 7) (n := 39) (L2 := [some (.long x0), none, some (.long x2), none, some (.int x4), some (.long x7), none, some (.long (x5 - x5 / x7 * x7)), none, some (.int x9), some (.long (x5 - x5 / x7 * x7)), none]) ⟨dX0_lowest_37, rfl⟩ (by decide) rfl rfl ?_
      refine y_iinc (i := 9) (n := 42) (b := (x9 + 1)) (L2 := [some (.long x0), none, some (.long x2), none, some (.int x4), some (.long x7), none, some (.long (x5 - x5 / x7 * x7)), none, some (.int (x9 + 1)), some (.long (x5 - x5 / x7 * x7)), none]) ⟨dX0_lowest_39, rfl⟩ rfl (by rw [ki_1]) (by decide) rfl rfl ?_
      refine y_goto (t := 9) ⟨dX0_lowest_42, rfl, rfl⟩ ?_
      cases hf
      exact y_wk ⟨Or.inr rfl, Or.inr rfl, Or.inr rfl, Or.inr rfl, Or.inr rfl, Or.inr rfl, Or.inr rfl, Or.inr rfl, Or.inr rfl, Or.inr rfl, Or.inl rfl, Or.inr rfl, trivial⟩ hk
theorem wl_ch_lowest_9 (x0 : Int64) (x2 : Int64) (x4 : Int32) (x5 : Int64) (x7 : Int64) (x9 : Int32) (M : dM) {Q : mz_P} {x : Int64} (hf : l_ch_lowest_9 x0 x2 x4 x5 x7 x9 = some x) (hk : K_ch_lowest_9 Q x0 x2 x4 M (.inr x)) : mW mX0_lowest 1 Q 9 [some (.long x0), none, some (.long x2), none, some (.int x4), some (.long x5), none, some (.long x7), none, some (.int x9), none, none] [] M :=
  lpc_wp (Wh := fun s => mW mX0_lowest 1 Q 9 [some (.long x0), none, some (.long x2), none, some (.int x4), some (.long s.1), none, some (.long s.2.1), none, some (.int s.2.2), none, none] [] M) (K := K_ch_lowest_9 Q x0 x2 x4 M) (fun _ h => h) (fun s o hb hk => w_b_ch_lowest_9_9 x0 x2 x4 s.1 s.2.1 s.2.2 M hb hk) hf hk
theorem w_t_ch_lowest_55 (x5 : Int64) (y0 : Int64) (M : dM) {Q : mz_P} {o : Int64} (hf : t_ch_lowest_55 x5 y0 = some o) (hk : mR Q (some (.long o)) M) : mW mX0_lowest 1 Q 55 [none, none, none, none, none, some (.long x5), none, none, none, none, none, none] [.long y0] M := by
  unfold t_ch_lowest_55 at hf
  refine y_lstore (i := 9) (n := 57) (L2 := [none, none, none, none, none, some (.long x5), none, none, none, some (.long y0), none, none]) ⟨dX0_lowest_55, rfl⟩ (by decide) rfl rfl ?_
  refine y_lload (i := 5) (n := 59) ⟨dX0_lowest_57, rfl⟩ rfl ?_
  refine y_lconst (n := 60) (v := 0) ⟨dX0_lowest_59, rfl⟩ kl_0 ?_
  refine y_lcmp (n := 61) ⟨dX0_lowest_60, rfl⟩ ?_
  refine y_if_ne (t := 69) (n := 64) ⟨dX0_lowest_61, rfl, rfl⟩ (fun h0 => ?_) (fun h0 => ?_)
  · have hc : ¬ (x5 = 0) := fun e => h0 ((lc_eq _ _).mpr e)
    replace hf := i_f hc hf
    refine y_lload (i := 9) (n := 71) ⟨dX0_lowest_69, rfl⟩ rfl ?_
    refine y_lload (i := 5) (n := 73) ⟨dX0_lowest_71, rfl⟩ rfl ?_
    obtain ⟨hg5, hf⟩ := g_s hf
    refine y_ldiv (n := 74) ⟨dX0_lowest_73, rfl⟩ hg5 ?_
    cases hf
    exact y_lreturn (n := 75) ⟨dX0_lowest_74, rfl⟩ rfl hk
  · have hc : x5 = 0 := (lc_eq _ _).mp h0
    replace hf := i_t hc hf
    refine y_lload (i := 9) (n := 66) ⟨dX0_lowest_64, rfl⟩ rfl ?_
    refine y_goto (t := 74) ⟨dX0_lowest_66, rfl, rfl⟩ ?_
    cases hf
    exact y_lreturn (n := 75) ⟨dX0_lowest_74, rfl⟩ rfl hk
theorem w_t_ch_lowest_45 (x0 : Int64) (x2 : Int64) (x4 : Int32) (x5 : Int64) (M : dM) {Q : mz_P} {o : Int64} (hf : t_ch_lowest_45 x0 x2 x4 x5 = some o) (hk : mR Q (some (.long o)) M) : mW mX0_lowest 1 Q 45 [some (.long x0), none, some (.long x2), none, some (.int x4), some (.long x5), none, none, none, none, none, none] [] M := by
  unfold t_ch_lowest_45 at hf
  refine y_iload (i := 4) (n := 47) ⟨dX0_lowest_45, rfl⟩ rfl ?_
  refine y_if_ne (t := 54) (n := 50) ⟨dX0_lowest_47, rfl, rfl⟩ (fun (hc : ¬ (x4 = 0)) => ?_) (fun (hc : x4 = 0) => ?_)
  · replace hf := i_f hc hf
    refine y_lload_n (i := 2) (n := 55) ⟨dX0_lowest_54, rfl⟩ rfl ?_
    exact y_wk ⟨Or.inl rfl, Or.inr rfl, Or.inl rfl, Or.inr rfl, Or.inl rfl, Or.inr rfl, Or.inr rfl, Or.inr rfl, Or.inr rfl, Or.inr rfl, Or.inr rfl, Or.inr rfl, trivial⟩ (w_t_ch_lowest_55 x5 x2 M hf hk)
  · replace hf := i_t hc hf
    refine y_lload_n (i := 0) (n := 51) ⟨dX0_lowest_50, rfl⟩ rfl ?_
    refine y_goto (t := 55) ⟨dX0_lowest_51, rfl, rfl⟩ ?_
    exact y_wk ⟨Or.inl rfl, Or.inr rfl, Or.inl rfl, Or.inr rfl, Or.inl rfl, Or.inr rfl, Or.inr rfl, Or.inr rfl, Or.inr rfl, Or.inr rfl, Or.inr rfl, Or.inr rfl, trivial⟩ (w_t_ch_lowest_55 x5 x0 M hf hk)
theorem ok_ch_lowest (a1 : Int64) (a2 : Int64) (a3 : Int32) (M : dM) {o : Int64} (hf : f_ch_lowest a1 a2 a3 = some o) : mO mX0_lowest 1 [.long a1, .long a2, .int a3] M (some (.long o)) M := by
  refine y_ok (by decide +kernel) (by decide) (L0 := [some (.long a1), none, some (.long a2), none, some (.int a3), none, none, none, none, none, none, none]) rfl ?_
  have hk := mR_mQ (some (.long o)) M
  generalize mQ _ _ = Q at hk ⊢
  unfold f_ch_lowest at hf
  refine y_lload_n (i := 2) (n := 1) ⟨dX0_lowest_0, rfl⟩ rfl ?_
  refine y_lstore (i := 5) (n := 3) (L2 := [some (.long a1), none, some (.long a2), none, some (.int a3), some (.long a2), none, none, none, none, none, none]) ⟨dX0_lowest_1, rfl⟩ (by decide) rfl rfl ?_
  refine y_lload_n (i := 0) (n := 4) ⟨dX0_lowest_3, rfl⟩ rfl ?_
  refine y_lstore (i := 7) (n := 6) (L2 := [some (.long a1), none, some (.long a2), none, some (.int a3), some (.long a2), none, some (.long a1), none, none, none, none]) ⟨dX0_lowest_4, rfl⟩ (by decide) rfl rfl ?_
  refine y_iconst (n := 7) (v := 0) ⟨dX0_lowest_6, rfl⟩ ki_0 ?_
  refine y_istore (i := 9) (n := 9) (L2 := [some (.long a1), none, some (.long a2), none, some (.int a3), some (.long a2), none, some (.long a1), none, some (.int 0), none, none]) ⟨dX0_lowest_7, rfl⟩ (by decide) rfl rfl ?_
  obtain ⟨t2, hl3, hf⟩ := b_s hf
  refine y_wk ⟨Or.inr rfl, Or.inr rfl, Or.inr rfl, Or.inr rfl, Or.inr rfl, Or.inr rfl, Or.inr rfl, Or.inr rfl, Or.inr rfl, Or.inr rfl, Or.inr rfl, Or.inr rfl, trivial⟩ (wl_ch_lowest_9 a1 a2 a3 a2 a1 0 M hl3 ?_)
  show mW mX0_lowest 1 Q 45 [some (.long a1), none, some (.long a2), none, some (.int a3), some (.long t2), none, none, none, none, none, none] [] M
  exact y_wk ⟨Or.inr rfl, Or.inr rfl, Or.inr rfl, Or.inr rfl, Or.inr rfl, Or.inr rfl, Or.inr rfl, Or.inr rfl, Or.inr rfl, Or.inr rfl, Or.inr rfl, Or.inr rfl, trivial⟩ (w_t_ch_lowest_45 a1 a2 a3 t2 M hf hk)
theorem c_ch_lowest (a1 : Int64) (a2 : Int64) (a3 : Int32) (M : dM) {o : Int64} {y : mz_M} {d : Nat} {Q : mz_P} {pc n i : Nat} {L : List (Option Value)} {st : List Value} (h : mz_d y.2.1 pc n 3 (.invokestatic i)) (hl : mz_ml y.1.cls i yX0_lowest) (hf : f_ch_lowest a1 a2 a3 = some o) (hd : 1 + 1 ≤ d) (hsm : (st.map (fun v => v.category)).sum ≤ 8) (hLr : mz_rL 133 L = true) (hSr : mz_rS 133 st = true) (kk : mW y d Q n L (.long o :: st) M) : mW y d Q pc L (.int a3 :: .long a2 :: .long a1 :: st) M :=
  y_callS kmX0_lowest ksX0_lowest h hl (ok_ch_lowest a1 a2 a3 M hf) (vs := [.long a1, .long a2, .int a3]) rfl rfl hd hsm hLr hSr kk
noncomputable def f_ax_odds (a1 : Int32) (a2 : Int32) (a3 : Int32) (M : dM) : Option (Int64 × dM) :=
  if (f_ax_within a1 10) = true then
    if (f_ax_within a2 3) = true then
      if (f_ax_within a3 2) = true then
        (f_ax_study 1 M).bind fun q1 =>
        (f_ju_findsOf (-1) q1).bind fun v3 =>
        (f_ju_findsOfSort (-1) a2 q1).bind fun v5 =>
        (f_ju_findsOf a1 q1).bind fun v7 =>
        (f_ju_findsOfSort a1 a2 q1).bind fun v9 =>
        (f_ch_drawsWith v3 v5 v7 v9).bind fun v11 =>
        (f_ch_choose v3 v7).bind fun v13 =>
        (f_ch_lowest v11 v13 a3).bind fun v15 =>
        some (v15, q1)
      else
        some ((-1), M)
    else
      some ((-1), M)
  else
    some ((-1), M)
theorem ok_ax_odds (a1 : Int32) (a2 : Int32) (a3 : Int32) (M : dM) {o : (Int64 × dM)} (hf : f_ax_odds a1 a2 a3 M = some o) : mO mX11_odds 6 [.ref 0, .int a1, .int a2, .int a3] M (some (.long o.1)) o.2 := by
  refine y_ok (by decide +kernel) (by decide) (L0 := [some (.ref 0), some (.int a1), some (.int a2), some (.int a3), none, none, none, none, none, none]) rfl ?_
  have hk := mR_mQ (some (.long o.1)) o.2
  generalize mQ _ _ = Q at hk ⊢
  unfold f_ax_odds at hf
  refine y_iload_n (i := 1) (n := 1) ⟨dX11_odds_0, rfl⟩ rfl ?_
  refine y_bipush (n := 3) (v := 10) ⟨dX11_odds_1, rfl⟩ kb_10 ?_
  refine c_ax_within a1 10 M (n := 6) ⟨dX11_odds_3, rfl⟩ klX11_91 rfl (by decide) (Nat.le_of_ble_eq_true rfl) rfl rfl ?_
  refine y_if_eq (t := 25) (n := 9) ⟨dX11_odds_6, rfl, rfl⟩ (fun h0 => ?_) (fun h0 => ?_)
  · have hc := bI_0 h0
    replace hf := i_f hc hf
    refine y_ldc2 (n := 28) ⟨dX11_odds_25, rfl⟩ kcX11_189 ?_
    cases hf
    exact y_lreturn (n := 29) ⟨dX11_odds_28, rfl⟩ rfl hk
  · have hc := bI_1 h0
    replace hf := i_t hc hf
    refine y_iload_n (i := 2) (n := 10) ⟨dX11_odds_9, rfl⟩ rfl ?_
    refine y_iconst (n := 11) (v := 3) ⟨dX11_odds_10, rfl⟩ ki_3 ?_
    refine c_ax_within a2 3 M (n := 14) ⟨dX11_odds_11, rfl⟩ klX11_91 rfl (by decide) (Nat.le_of_ble_eq_true rfl) rfl rfl ?_
    refine y_if_eq (t := 25) (n := 17) ⟨dX11_odds_14, rfl, rfl⟩ (fun h0 => ?_) (fun h0 => ?_)
    · have hc := bI_0 h0
      replace hf := i_f hc hf
      refine y_ldc2 (n := 28) ⟨dX11_odds_25, rfl⟩ kcX11_189 ?_
      cases hf
      exact y_lreturn (n := 29) ⟨dX11_odds_28, rfl⟩ rfl hk
    · have hc := bI_1 h0
      replace hf := i_t hc hf
      refine y_iload_n (i := 3) (n := 18) ⟨dX11_odds_17, rfl⟩ rfl ?_
      refine y_iconst (n := 19) (v := 2) ⟨dX11_odds_18, rfl⟩ ki_2 ?_
      refine c_ax_within a3 2 M (n := 22) ⟨dX11_odds_19, rfl⟩ klX11_91 rfl (by decide) (Nat.le_of_ble_eq_true rfl) rfl rfl ?_
      refine y_if_ne (t := 29) (n := 25) ⟨dX11_odds_22, rfl, rfl⟩ (fun h0 => ?_) (fun h0 => ?_)
      · have hc := bI_1 h0
        replace hf := i_t hc hf
        refine y_aload_n (i := 0) (n := 30) ⟨dX11_odds_29, rfl⟩ rfl ?_
        refine y_iconst (n := 31) (v := 1) ⟨dX11_odds_30, rfl⟩ ki_1 ?_
        obtain ⟨q1, hv2, hf⟩ := b_s hf
        refine c_ax_study 1 M (n := 34) ⟨dX11_odds_31, rfl⟩ klX11_156 hv2 (by decide) (Nat.le_of_ble_eq_true rfl) rfl rfl ?_
        refine y_aload_n (i := 0) (n := 35) ⟨dX11_odds_34, rfl⟩ rfl ?_
        refine y_getR (n := 38) ⟨dX11_odds_35, rfl⟩ kfX11_56 l_0 rfl r_0_6 ?_
        refine y_iconst (n := 39) (v := (-1)) ⟨dX11_odds_38, rfl⟩ ki_m1 ?_
        obtain ⟨v3, hv4, hf⟩ := b_s hf
        refine c_ju_findsOf (-1) q1 (n := 42) ⟨dX11_odds_39, rfl⟩ klX11_182 hv4 (by decide) (Nat.le_of_ble_eq_true rfl) rfl rfl ?_
        refine y_istore (i := 4) (n := 44) (L2 := [some (.ref 0), some (.int a1), some (.int a2), some (.int a3), some (.int v3), none, none, none, none, none]) ⟨dX11_odds_42, rfl⟩ (by decide) rfl rfl ?_
        refine y_aload_n (i := 0) (n := 45) ⟨dX11_odds_44, rfl⟩ rfl ?_
        refine y_getR (n := 48) ⟨dX11_odds_45, rfl⟩ kfX11_56 l_0 rfl r_0_6 ?_
        refine y_iconst (n := 49) (v := (-1)) ⟨dX11_odds_48, rfl⟩ ki_m1 ?_
        refine y_iload_n (i := 2) (n := 50) ⟨dX11_odds_49, rfl⟩ rfl ?_
        obtain ⟨v5, hv6, hf⟩ := b_s hf
        refine c_ju_findsOfSort (-1) a2 q1 (n := 53) ⟨dX11_odds_50, rfl⟩ klX11_186 hv6 (by decide) (Nat.le_of_ble_eq_true rfl) rfl rfl ?_
        refine y_istore (i := 5) (n := 55) (L2 := [some (.ref 0), some (.int a1), some (.int a2), some (.int a3), some (.int v3), some (.int v5), none, none, none, none]) ⟨dX11_odds_53, rfl⟩ (by decide) rfl rfl ?_
        refine y_aload_n (i := 0) (n := 56) ⟨dX11_odds_55, rfl⟩ rfl ?_
        refine y_getR (n := 59) ⟨dX11_odds_56, rfl⟩ kfX11_56 l_0 rfl r_0_6 ?_
        refine y_iload_n (i := 1) (n := 60) ⟨dX11_odds_59, rfl⟩ rfl ?_
        obtain ⟨v7, hv8, hf⟩ := b_s hf
        refine c_ju_findsOf a1 q1 (n := 63) ⟨dX11_odds_60, rfl⟩ klX11_182 hv8 (by decide) (Nat.le_of_ble_eq_true rfl) rfl rfl ?_
        refine y_istore (i := 6) (n := 65) (L2 := [some (.ref 0), some (.int a1), some (.int a2), some (.int a3), some (.int v3), some (.int v5), some (.int v7), none, none, none]) ⟨dX11_odds_63, rfl⟩ (by decide) rfl rfl ?_
        refine y_aload_n (i := 0) (n := 66) ⟨dX11_odds_65, rfl⟩ rfl ?_
        refine y_getR (n := 69) ⟨dX11_odds_66, rfl⟩ kfX11_56 l_0 rfl r_0_6 ?_
        refine y_iload_n (i := 1) (n := 70) ⟨dX11_odds_69, rfl⟩ rfl ?_
        refine y_iload_n (i := 2) (n := 71) ⟨dX11_odds_70, rfl⟩ rfl ?_
        obtain ⟨v9, hv10, hf⟩ := b_s hf
        refine c_ju_findsOfSort a1 a2 q1 (n := 74) ⟨dX11_odds_71, rfl⟩ klX11_186 hv10 (by decide) (Nat.le_of_ble_eq_true rfl) rfl rfl ?_
        refine y_istore (i := 7) (n := 76) (L2 := [some (.ref 0), some (.int a1), some (.int a2), some (.int a3), some (.int v3), some (.int v5), some (.int v7), some (.int v9), none, none]) ⟨dX11_odds_74, rfl⟩ (by decide) rfl rfl ?_
        refine y_iload (i := 4) (n := 78) ⟨dX11_odds_76, rfl⟩ rfl ?_
        refine y_iload (i := 5) (n := 80) ⟨dX11_odds_78, rfl⟩ rfl ?_
        refine y_iload (i := 6) (n := 82) ⟨dX11_odds_80, rfl⟩ rfl ?_
        refine y_iload (i := 7) (n := 84) ⟨dX11_odds_82, rfl⟩ rfl ?_
        obtain ⟨v11, hv12, hf⟩ := b_s hf
        refine c_ch_drawsWith v3 v5 v7 v9 q1 (n := 87) ⟨dX11_odds_84, rfl⟩ klX11_191 hv12 (by decide) (Nat.le_of_ble_eq_true rfl) rfl rfl ?_
        refine y_lstore (i := 8) (n := 89) (L2 := [some (.ref 0), some (.int a1), some (.int a2), some (.int a3), some (.int v3), some (.int v5), some (.int v7), some (.int v9), some (.long v11), none]) ⟨dX11_odds_87, rfl⟩ (by decide) rfl rfl ?_
        refine y_lload (i := 8) (n := 91) ⟨dX11_odds_89, rfl⟩ rfl ?_
        refine y_iload (i := 4) (n := 93) ⟨dX11_odds_91, rfl⟩ rfl ?_
        refine y_iload (i := 6) (n := 95) ⟨dX11_odds_93, rfl⟩ rfl ?_
        obtain ⟨v13, hv14, hf⟩ := b_s hf
        refine c_ch_choose v3 v7 q1 (n := 98) ⟨dX11_odds_95, rfl⟩ klX11_197 hv14 (by decide) (Nat.le_of_ble_eq_true rfl) rfl rfl ?_
        refine y_iload_n (i := 3) (n := 99) ⟨dX11_odds_98, rfl⟩ rfl ?_
        obtain ⟨v15, hv16, hf⟩ := b_s hf
        refine c_ch_lowest v11 v13 a3 q1 (n := 102) ⟨dX11_odds_99, rfl⟩ klX11_201 hv16 (by decide) (Nat.le_of_ble_eq_true rfl) rfl rfl ?_
        cases hf
        exact y_lreturn (n := 103) ⟨dX11_odds_102, rfl⟩ rfl hk
      · have hc := bI_0 h0
        replace hf := i_f hc hf
        refine y_ldc2 (n := 28) ⟨dX11_odds_25, rfl⟩ kcX11_189 ?_
        cases hf
        exact y_lreturn (n := 29) ⟨dX11_odds_28, rfl⟩ rfl hk
theorem c_ax_odds (a1 : Int32) (a2 : Int32) (a3 : Int32) (M : dM) {o : (Int64 × dM)} {y : mz_M} {d : Nat} {Q : mz_P} {pc n i : Nat} {L : List (Option Value)} {st : List Value} (h : mz_d y.2.1 pc n 3 (.invokevirtual i)) (hl : mz_ml y.1.cls i yX11_odds) (hf : f_ax_odds a1 a2 a3 M = some o) (hd : 6 + 1 ≤ d) (hsm : (st.map (fun v => v.category)).sum ≤ 8) (hLr : mz_rL 133 L = true) (hSr : mz_rS 133 st = true) (kk : mW y d Q n L (.long o.1 :: st) o.2) : mW y d Q pc L (.int a3 :: .int a2 :: .int a1 :: .ref 0 :: st) M :=
  y_callV kmX11_odds kvX11_odds l_0 (by decide +kernel) (by decide +kernel) h hl (ok_ax_odds a1 a2 a3 M hf) (vs := [.int a1, .int a2, .int a3]) rfl rfl hd hsm hLr hSr kk
def K_ch_power_5 (Q : mz_P) (x0 : Int64) (x2 : Int32) (M : dM) : ((Int64 × Int32) ⊕ Int64) → Prop
  | .inl s => mW mX0_power 1 Q 5 [some (.long x0), none, some (.int x2), some (.long s.1), none, some (.int s.2)] [] M
  | .inr r => mR Q (some (.long r)) M
noncomputable def b_ch_power_5_5 (x0 : Int64) (x2 : Int32) (x3 : Int64) (x5 : Int32) : Option ((Int64 × Int32) ⊕ Int64) :=
  if x2 ≤ x5 then
    some (.inr x3)
  else
    some (.inl ((x3 * x0), (x5 + 1)))
noncomputable def l_ch_power_5 (x0 : Int64) (x2 : Int32) (x3 : Int64) (x5 : Int32) : Option Int64 := lpc (fun s => b_ch_power_5_5 x0 x2 s.1 s.2) (x3, x5)
noncomputable def f_ch_power (a1 : Int64) (a2 : Int32) : Option Int64 :=
  (l_ch_power_5 a1 a2 1 0).bind fun r3 => some r3
theorem w_b_ch_power_5_5 (x0 : Int64) (x2 : Int32) (x3 : Int64) (x5 : Int32) (M : dM) {Q : mz_P} {o : ((Int64 × Int32) ⊕ Int64)} (hf : b_ch_power_5_5 x0 x2 x3 x5 = some o) (hk : K_ch_power_5 Q x0 x2 M o) : mW mX0_power 1 Q 5 [some (.long x0), none, some (.int x2), some (.long x3), none, some (.int x5)] [] M := by
  unfold b_ch_power_5_5 at hf
  refine y_iload (i := 5) (n := 7) ⟨dX0_power_5, rfl⟩ rfl ?_
  refine y_iload_n (i := 2) (n := 8) ⟨dX0_power_7, rfl⟩ rfl ?_
  refine y_icmp_ge (t := 21) (n := 11) ⟨dX0_power_8, rfl, rfl⟩ (fun (hc : x2 ≤ x5) => ?_) (fun (hc : ¬ (x2 ≤ x5)) => ?_)
  · replace hf := i_t hc hf
    refine y_lload_n (i := 3) (n := 22) ⟨dX0_power_21, rfl⟩ rfl ?_
    cases hf
    exact y_lreturn (n := 23) ⟨dX0_power_22, rfl⟩ rfl hk
  · replace hf := i_f hc hf
    refine y_lload_n (i := 3) (n := 12) ⟨dX0_power_11, rfl⟩ rfl ?_
    refine y_lload_n (i := 0) (n := 13) ⟨dX0_power_12, rfl⟩ rfl ?_
    refine y_lmul (n := 14) ⟨dX0_power_13, rfl⟩ ?_
    refine y_lstore_n (i := 3) (n := 15) (L2 := [some (.long x0), none, some (.int x2), some (.long (x3 * x0)), none, some (.int x5)]) ⟨dX0_power_14, rfl⟩ (by decide) rfl rfl ?_
    refine y_iinc (i := 5) (n := 18) (b := (x5 + 1)) (L2 := [some (.long x0), none, some (.int x2), some (.long (x3 * x0)), none, some (.int (x5 + 1))]) ⟨dX0_power_15, rfl⟩ rfl (by rw [ki_1]) (by decide) rfl rfl ?_
    refine y_goto (t := 5) ⟨dX0_power_18, rfl, rfl⟩ ?_
    cases hf
    exact y_wk ⟨Or.inr rfl, Or.inr rfl, Or.inr rfl, Or.inr rfl, Or.inr rfl, Or.inr rfl, trivial⟩ hk
theorem wl_ch_power_5 (x0 : Int64) (x2 : Int32) (x3 : Int64) (x5 : Int32) (M : dM) {Q : mz_P} {x : Int64} (hf : l_ch_power_5 x0 x2 x3 x5 = some x) (hk : K_ch_power_5 Q x0 x2 M (.inr x)) : mW mX0_power 1 Q 5 [some (.long x0), none, some (.int x2), some (.long x3), none, some (.int x5)] [] M :=
  lpc_wp (Wh := fun s => mW mX0_power 1 Q 5 [some (.long x0), none, some (.int x2), some (.long s.1), none, some (.int s.2)] [] M) (K := K_ch_power_5 Q x0 x2 M) (fun _ h => h) (fun s o hb hk => w_b_ch_power_5_5 x0 x2 s.1 s.2 M hb hk) hf hk
theorem ok_ch_power (a1 : Int64) (a2 : Int32) (M : dM) {o : Int64} (hf : f_ch_power a1 a2 = some o) : mO mX0_power 1 [.long a1, .int a2] M (some (.long o)) M := by
  refine y_ok (by decide +kernel) (by decide) (L0 := [some (.long a1), none, some (.int a2), none, none, none]) rfl ?_
  have hk := mR_mQ (some (.long o)) M
  generalize mQ _ _ = Q at hk ⊢
  unfold f_ch_power at hf
  refine y_lconst (n := 1) (v := 1) ⟨dX0_power_0, rfl⟩ kl_1 ?_
  refine y_lstore_n (i := 3) (n := 2) (L2 := [some (.long a1), none, some (.int a2), some (.long 1), none, none]) ⟨dX0_power_1, rfl⟩ (by decide) rfl rfl ?_
  refine y_iconst (n := 3) (v := 0) ⟨dX0_power_2, rfl⟩ ki_0 ?_
  refine y_istore (i := 5) (n := 5) (L2 := [some (.long a1), none, some (.int a2), some (.long 1), none, some (.int 0)]) ⟨dX0_power_3, rfl⟩ (by decide) rfl rfl ?_
  obtain ⟨r3, hl2, hf⟩ := b_s hf
  cases hf
  exact y_wk ⟨Or.inr rfl, Or.inr rfl, Or.inr rfl, Or.inr rfl, Or.inr rfl, Or.inr rfl, trivial⟩ (wl_ch_power_5 a1 a2 1 0 M hl2 hk)
theorem c_ch_power (a1 : Int64) (a2 : Int32) (M : dM) {o : Int64} {y : mz_M} {d : Nat} {Q : mz_P} {pc n i : Nat} {L : List (Option Value)} {st : List Value} (h : mz_d y.2.1 pc n 3 (.invokestatic i)) (hl : mz_ml y.1.cls i yX0_power) (hf : f_ch_power a1 a2 = some o) (hd : 1 + 1 ≤ d) (hsm : (st.map (fun v => v.category)).sum ≤ 8) (hLr : mz_rL 133 L = true) (hSr : mz_rS 133 st = true) (kk : mW y d Q n L (.long o :: st) M) : mW y d Q pc L (.int a2 :: .long a1 :: st) M :=
  y_callS kmX0_power ksX0_power h hl (ok_ch_power a1 a2 M hf) (vs := [.long a1, .int a2]) rfl rfl hd hsm hLr hSr kk
def K_ch_findsSoMany_5 (Q : mz_P) (x0 : Int32) (x1 : Int32) (M : dM) : ((Int64 × Int32) ⊕ Int64) → Prop
  | .inl s => mW mX0_findsSoMany 2 Q 5 [some (.int x0), some (.int x1), none, some (.long s.1), none, some (.int s.2)] [] M
  | .inr r => mR Q (some (.long r)) M
noncomputable def b_ch_findsSoMany_5_5 (x0 : Int32) (x1 : Int32) (x3 : Int64) (x5 : Int32) : Option ((Int64 × Int32) ⊕ Int64) :=
  if x1 < x5 then
    some (.inr x3)
  else
    (f_ch_choose x1 x5).bind fun v1 =>
    (f_ch_power x0.toInt64 x5).bind fun v3 =>
    (f_ch_power ((10 - x0).toInt64) (x1 - x5)).bind fun v5 =>
    some (.inl ((x3 + ((v1 * v3) * v5)), (x5 + 1)))
noncomputable def l_ch_findsSoMany_5 (x0 : Int32) (x1 : Int32) (x3 : Int64) (x5 : Int32) : Option Int64 := lpc (fun s => b_ch_findsSoMany_5_5 x0 x1 s.1 s.2) (x3, x5)
noncomputable def f_ch_findsSoMany (a1 : Int32) (a2 : Int32) (a3 : Int32) : Option Int64 :=
  (l_ch_findsSoMany_5 a1 a2 0 a3).bind fun r9 => some r9
theorem w_b_ch_findsSoMany_5_5 (x0 : Int32) (x1 : Int32) (x3 : Int64) (x5 : Int32) (M : dM) {Q : mz_P} {o : ((Int64 × Int32) ⊕ Int64)} (hf : b_ch_findsSoMany_5_5 x0 x1 x3 x5 = some o) (hk : K_ch_findsSoMany_5 Q x0 x1 M o) : mW mX0_findsSoMany 2 Q 5 [some (.int x0), some (.int x1), none, some (.long x3), none, some (.int x5)] [] M := by
  unfold b_ch_findsSoMany_5_5 at hf
  refine y_iload (i := 5) (n := 7) ⟨dX0_findsSoMany_5, rfl⟩ rfl ?_
  refine y_iload_n (i := 1) (n := 8) ⟨dX0_findsSoMany_7, rfl⟩ rfl ?_
  refine y_icmp_gt (t := 47) (n := 11) ⟨dX0_findsSoMany_8, rfl, rfl⟩ (fun (hc : x1 < x5) => ?_) (fun (hc : ¬ (x1 < x5)) => ?_)
  · replace hf := i_t hc hf
    refine y_lload_n (i := 3) (n := 48) ⟨dX0_findsSoMany_47, rfl⟩ rfl ?_
    cases hf
    exact y_lreturn (n := 49) ⟨dX0_findsSoMany_48, rfl⟩ rfl hk
  · replace hf := i_f hc hf
    refine y_lload_n (i := 3) (n := 12) ⟨dX0_findsSoMany_11, rfl⟩ rfl ?_
    refine y_iload_n (i := 1) (n := 13) ⟨dX0_findsSoMany_12, rfl⟩ rfl ?_
    refine y_iload (i := 5) (n := 15) ⟨dX0_findsSoMany_13, rfl⟩ rfl ?_
    obtain ⟨v1, hv2, hf⟩ := b_s hf
    refine c_ch_choose x1 x5 M (n := 18) ⟨dX0_findsSoMany_15, rfl⟩ klX0_13 hv2 (by decide) (Nat.le_of_ble_eq_true rfl) rfl rfl ?_
    refine y_iload_n (i := 0) (n := 19) ⟨dX0_findsSoMany_18, rfl⟩ rfl ?_
    refine y_i2l (n := 20) ⟨dX0_findsSoMany_19, rfl⟩ ?_
    refine y_iload (i := 5) (n := 22) ⟨dX0_findsSoMany_20, rfl⟩ rfl ?_
    obtain ⟨v3, hv4, hf⟩ := b_s hf
    refine c_ch_power x0.toInt64 x5 M (n := 25) ⟨dX0_findsSoMany_22, rfl⟩ klX0_19 hv4 (by decide) (Nat.le_of_ble_eq_true rfl) rfl rfl ?_
    refine y_lmul (n := 26) ⟨dX0_findsSoMany_25, rfl⟩ ?_
    refine y_bipush (n := 28) (v := 10) ⟨dX0_findsSoMany_26, rfl⟩ kb_10 ?_
    refine y_iload_n (i := 0) (n := 29) ⟨dX0_findsSoMany_28, rfl⟩ rfl ?_
    refine y_isub (n := 30) ⟨dX0_findsSoMany_29, rfl⟩ ?_
    refine y_i2l (n := 31) ⟨dX0_findsSoMany_30, rfl⟩ ?_
    refine y_iload_n (i := 1) (n := 32) ⟨dX0_findsSoMany_31, rfl⟩ rfl ?_
    refine y_iload (i := 5) (n := 34) ⟨dX0_findsSoMany_32, rfl⟩ rfl ?_
    refine y_isub (n := 35) ⟨dX0_findsSoMany_34, rfl⟩ ?_
    obtain ⟨v5, hv6, hf⟩ := b_s hf
    refine c_ch_power ((10 - x0).toInt64) (x1 - x5) M (n := 38) ⟨dX0_findsSoMany_35, rfl⟩ klX0_19 hv6 (by decide) (Nat.le_of_ble_eq_true rfl) rfl rfl ?_
    refine y_lmul (n := 39) ⟨dX0_findsSoMany_38, rfl⟩ ?_
    refine y_ladd (n := 40) ⟨dX0_findsSoMany_39, rfl⟩ ?_
    refine y_lstore_n (i := 3) (n := 41) (L2 := [some (.int x0), some (.int x1), none, some (.long (x3 + ((v1 * v3) * v5))), none, some (.int x5)]) ⟨dX0_findsSoMany_40, rfl⟩ (by decide) rfl rfl ?_
    refine y_iinc (i := 5) (n := 44) (b := (x5 + 1)) (L2 := [some (.int x0), some (.int x1), none, some (.long (x3 + ((v1 * v3) * v5))), none, some (.int (x5 + 1))]) ⟨dX0_findsSoMany_41, rfl⟩ rfl (by rw [ki_1]) (by decide) rfl rfl ?_
    refine y_goto (t := 5) ⟨dX0_findsSoMany_44, rfl, rfl⟩ ?_
    cases hf
    exact y_wk ⟨Or.inr rfl, Or.inr rfl, Or.inr rfl, Or.inr rfl, Or.inr rfl, Or.inr rfl, trivial⟩ hk
theorem wl_ch_findsSoMany_5 (x0 : Int32) (x1 : Int32) (x3 : Int64) (x5 : Int32) (M : dM) {Q : mz_P} {x : Int64} (hf : l_ch_findsSoMany_5 x0 x1 x3 x5 = some x) (hk : K_ch_findsSoMany_5 Q x0 x1 M (.inr x)) : mW mX0_findsSoMany 2 Q 5 [some (.int x0), some (.int x1), none, some (.long x3), none, some (.int x5)] [] M :=
  lpc_wp (Wh := fun s => mW mX0_findsSoMany 2 Q 5 [some (.int x0), some (.int x1), none, some (.long s.1), none, some (.int s.2)] [] M) (K := K_ch_findsSoMany_5 Q x0 x1 M) (fun _ h => h) (fun s o hb hk => w_b_ch_findsSoMany_5_5 x0 x1 s.1 s.2 M hb hk) hf hk
theorem ok_ch_findsSoMany (a1 : Int32) (a2 : Int32) (a3 : Int32) (M : dM) {o : Int64} (hf : f_ch_findsSoMany a1 a2 a3 = some o) : mO mX0_findsSoMany 2 [.int a1, .int a2, .int a3] M (some (.long o)) M := by
  refine y_ok (by decide +kernel) (by decide) (L0 := [some (.int a1), some (.int a2), some (.int a3), none, none, none]) rfl ?_
  have hk := mR_mQ (some (.long o)) M
  generalize mQ _ _ = Q at hk ⊢
  unfold f_ch_findsSoMany at hf
  refine y_lconst (n := 1) (v := 0) ⟨dX0_findsSoMany_0, rfl⟩ kl_0 ?_
  refine y_lstore_n (i := 3) (n := 2) (L2 := [some (.int a1), some (.int a2), some (.int a3), some (.long 0), none, none]) ⟨dX0_findsSoMany_1, rfl⟩ (by decide) rfl rfl ?_
  refine y_iload_n (i := 2) (n := 3) ⟨dX0_findsSoMany_2, rfl⟩ rfl ?_
  refine y_istore (i := 5) (n := 5) (L2 := [some (.int a1), some (.int a2), some (.int a3), some (.long 0), none, some (.int a3)]) ⟨dX0_findsSoMany_3, rfl⟩ (by decide) rfl rfl ?_
  obtain ⟨r9, hl8, hf⟩ := b_s hf
  cases hf
  exact y_wk ⟨Or.inr rfl, Or.inr rfl, Or.inl rfl, Or.inr rfl, Or.inr rfl, Or.inr rfl, trivial⟩ (wl_ch_findsSoMany_5 a1 a2 0 a3 M hl8 hk)
theorem c_ch_findsSoMany (a1 : Int32) (a2 : Int32) (a3 : Int32) (M : dM) {o : Int64} {y : mz_M} {d : Nat} {Q : mz_P} {pc n i : Nat} {L : List (Option Value)} {st : List Value} (h : mz_d y.2.1 pc n 3 (.invokestatic i)) (hl : mz_ml y.1.cls i yX0_findsSoMany) (hf : f_ch_findsSoMany a1 a2 a3 = some o) (hd : 2 + 1 ≤ d) (hsm : (st.map (fun v => v.category)).sum ≤ 8) (hLr : mz_rL 133 L = true) (hSr : mz_rS 133 st = true) (kk : mW y d Q n L (.long o :: st) M) : mW y d Q pc L (.int a3 :: .int a2 :: .int a1 :: st) M :=
  y_callS kmX0_findsSoMany ksX0_findsSoMany h hl (ok_ch_findsSoMany a1 a2 a3 M hf) (vs := [.int a1, .int a2, .int a3]) rfl rfl hd hsm hLr hSr kk
noncomputable def f_ax_luck (a1 : Int32) (a2 : Int32) (a3 : Int32) (a4 : Int32) (a5 : Int32) : Option Int64 :=
  if a1 < 1 then
    some (-1)
  else
    if 9 < a1 then
      some (-1)
    else
      if a2 < 1 then
        some (-1)
      else
        if 6 < a2 then
          some (-1)
        else
          if a3 < 0 then
            some (-1)
          else
            if a2 < a3 then
              some (-1)
            else
              if a4 < 1 then
                some (-1)
              else
                if a4 ≤ 3 then
                  if (f_ax_within a5 2) = true then
                    (f_ch_power 10 a2).bind fun v1 =>
                    (f_ch_power v1 a4).bind fun v3 =>
                    (f_ch_power 10 a2).bind fun v5 =>
                    (f_ch_findsSoMany a1 a2 a3).bind fun v7 =>
                    (f_ch_power (v5 - v7) a4).bind fun v9 =>
                    (f_ch_lowest (v3 - v9) v3 a5).bind fun v11 =>
                    some v11
                  else
                    some (-1)
                else
                  some (-1)
theorem ok_ax_luck (a1 : Int32) (a2 : Int32) (a3 : Int32) (a4 : Int32) (a5 : Int32) (M : dM) {o : Int64} (hf : f_ax_luck a1 a2 a3 a4 a5 = some o) : mO mX11_luck 3 [.ref 0, .int a1, .int a2, .int a3, .int a4, .int a5] M (some (.long o)) M := by
  refine y_ok (by decide +kernel) (by decide) (L0 := [some (.ref 0), some (.int a1), some (.int a2), some (.int a3), some (.int a4), some (.int a5), none, none, none, none]) rfl ?_
  have hk := mR_mQ (some (.long o)) M
  generalize mQ _ _ = Q at hk ⊢
  unfold f_ax_luck at hf
  refine y_iload_n (i := 1) (n := 1) ⟨dX11_luck_0, rfl⟩ rfl ?_
  refine y_iconst (n := 2) (v := 1) ⟨dX11_luck_1, rfl⟩ ki_1 ?_
  refine y_icmp_lt (t := 43) (n := 5) ⟨dX11_luck_2, rfl, rfl⟩ (fun (hc : a1 < 1) => ?_) (fun (hc : ¬ (a1 < 1)) => ?_)
  · replace hf := i_t hc hf
    refine y_ldc2 (n := 46) ⟨dX11_luck_43, rfl⟩ kcX11_189 ?_
    cases hf
    exact y_lreturn (n := 47) ⟨dX11_luck_46, rfl⟩ rfl hk
  · replace hf := i_f hc hf
    refine y_iload_n (i := 1) (n := 6) ⟨dX11_luck_5, rfl⟩ rfl ?_
    refine y_bipush (n := 8) (v := 9) ⟨dX11_luck_6, rfl⟩ kb_9 ?_
    refine y_icmp_gt (t := 43) (n := 11) ⟨dX11_luck_8, rfl, rfl⟩ (fun (hc : 9 < a1) => ?_) (fun (hc : ¬ (9 < a1)) => ?_)
    · replace hf := i_t hc hf
      refine y_ldc2 (n := 46) ⟨dX11_luck_43, rfl⟩ kcX11_189 ?_
      cases hf
      exact y_lreturn (n := 47) ⟨dX11_luck_46, rfl⟩ rfl hk
    · replace hf := i_f hc hf
      refine y_iload_n (i := 2) (n := 12) ⟨dX11_luck_11, rfl⟩ rfl ?_
      refine y_iconst (n := 13) (v := 1) ⟨dX11_luck_12, rfl⟩ ki_1 ?_
      refine y_icmp_lt (t := 43) (n := 16) ⟨dX11_luck_13, rfl, rfl⟩ (fun (hc : a2 < 1) => ?_) (fun (hc : ¬ (a2 < 1)) => ?_)
      · replace hf := i_t hc hf
        refine y_ldc2 (n := 46) ⟨dX11_luck_43, rfl⟩ kcX11_189 ?_
        cases hf
        exact y_lreturn (n := 47) ⟨dX11_luck_46, rfl⟩ rfl hk
      · replace hf := i_f hc hf
        refine y_iload_n (i := 2) (n := 17) ⟨dX11_luck_16, rfl⟩ rfl ?_
        refine y_bipush (n := 19) (v := 6) ⟨dX11_luck_17, rfl⟩ kb_6 ?_
        refine y_icmp_gt (t := 43) (n := 22) ⟨dX11_luck_19, rfl, rfl⟩ (fun (hc : 6 < a2) => ?_) (fun (hc : ¬ (6 < a2)) => ?_)
        · replace hf := i_t hc hf
          refine y_ldc2 (n := 46) ⟨dX11_luck_43, rfl⟩ kcX11_189 ?_
          cases hf
          exact y_lreturn (n := 47) ⟨dX11_luck_46, rfl⟩ rfl hk
        · replace hf := i_f hc hf
          refine y_iload_n (i := 3) (n := 23) ⟨dX11_luck_22, rfl⟩ rfl ?_
          refine y_if_lt (t := 43) (n := 26) ⟨dX11_luck_23, rfl, rfl⟩ (fun (hc : a3 < 0) => ?_) (fun (hc : ¬ (a3 < 0)) => ?_)
          · replace hf := i_t hc hf
            refine y_ldc2 (n := 46) ⟨dX11_luck_43, rfl⟩ kcX11_189 ?_
            cases hf
            exact y_lreturn (n := 47) ⟨dX11_luck_46, rfl⟩ rfl hk
          · replace hf := i_f hc hf
            refine y_iload_n (i := 3) (n := 27) ⟨dX11_luck_26, rfl⟩ rfl ?_
            refine y_iload_n (i := 2) (n := 28) ⟨dX11_luck_27, rfl⟩ rfl ?_
            refine y_icmp_gt (t := 43) (n := 31) ⟨dX11_luck_28, rfl, rfl⟩ (fun (hc : a2 < a3) => ?_) (fun (hc : ¬ (a2 < a3)) => ?_)
            · replace hf := i_t hc hf
              refine y_ldc2 (n := 46) ⟨dX11_luck_43, rfl⟩ kcX11_189 ?_
              cases hf
              exact y_lreturn (n := 47) ⟨dX11_luck_46, rfl⟩ rfl hk
            · replace hf := i_f hc hf
              refine y_iload (i := 4) (n := 33) ⟨dX11_luck_31, rfl⟩ rfl ?_
              refine y_iconst (n := 34) (v := 1) ⟨dX11_luck_33, rfl⟩ ki_1 ?_
              refine y_icmp_lt (t := 43) (n := 37) ⟨dX11_luck_34, rfl, rfl⟩ (fun (hc : a4 < 1) => ?_) (fun (hc : ¬ (a4 < 1)) => ?_)
              · replace hf := i_t hc hf
                refine y_ldc2 (n := 46) ⟨dX11_luck_43, rfl⟩ kcX11_189 ?_
                cases hf
                exact y_lreturn (n := 47) ⟨dX11_luck_46, rfl⟩ rfl hk
              · replace hf := i_f hc hf
                refine y_iload (i := 4) (n := 39) ⟨dX11_luck_37, rfl⟩ rfl ?_
                refine y_iconst (n := 40) (v := 3) ⟨dX11_luck_39, rfl⟩ ki_3 ?_
                refine y_icmp_le (t := 47) (n := 43) ⟨dX11_luck_40, rfl, rfl⟩ (fun (hc : a4 ≤ 3) => ?_) (fun (hc : ¬ (a4 ≤ 3)) => ?_)
                · replace hf := i_t hc hf
                  refine y_iload (i := 5) (n := 49) ⟨dX11_luck_47, rfl⟩ rfl ?_
                  refine y_iconst (n := 50) (v := 2) ⟨dX11_luck_49, rfl⟩ ki_2 ?_
                  refine c_ax_within a5 2 M (n := 53) ⟨dX11_luck_50, rfl⟩ klX11_91 rfl (by decide) (Nat.le_of_ble_eq_true rfl) rfl rfl ?_
                  refine y_if_ne (t := 60) (n := 56) ⟨dX11_luck_53, rfl, rfl⟩ (fun h0 => ?_) (fun h0 => ?_)
                  · have hc := bI_1 h0
                    replace hf := i_t hc hf
                    refine y_ldc2 (n := 63) ⟨dX11_luck_60, rfl⟩ kcX11_205 ?_
                    refine y_iload_n (i := 2) (n := 64) ⟨dX11_luck_63, rfl⟩ rfl ?_
                    obtain ⟨v1, hv2, hf⟩ := b_s hf
                    refine c_ch_power 10 a2 M (n := 67) ⟨dX11_luck_64, rfl⟩ klX11_207 hv2 (by decide) (Nat.le_of_ble_eq_true rfl) rfl rfl ?_
                    refine y_iload (i := 4) (n := 69) ⟨dX11_luck_67, rfl⟩ rfl ?_
                    obtain ⟨v3, hv4, hf⟩ := b_s hf
                    refine c_ch_power v1 a4 M (n := 72) ⟨dX11_luck_69, rfl⟩ klX11_207 hv4 (by decide) (Nat.le_of_ble_eq_true rfl) rfl rfl ?_
                    refine y_lstore (i := 6) (n := 74) (L2 := [some (.ref 0), some (.int a1), some (.int a2), some (.int a3), some (.int a4), some (.int a5), some (.long v3), none, none, none]) ⟨dX11_luck_72, rfl⟩ (by decide) rfl rfl ?_
                    refine y_ldc2 (n := 77) ⟨dX11_luck_74, rfl⟩ kcX11_205 ?_
                    refine y_iload_n (i := 2) (n := 78) ⟨dX11_luck_77, rfl⟩ rfl ?_
                    obtain ⟨v5, hv6, hf⟩ := b_s hf
                    refine c_ch_power 10 a2 M (n := 81) ⟨dX11_luck_78, rfl⟩ klX11_207 hv6 (by decide) (Nat.le_of_ble_eq_true rfl) rfl rfl ?_
                    refine y_iload_n (i := 1) (n := 82) ⟨dX11_luck_81, rfl⟩ rfl ?_
                    refine y_iload_n (i := 2) (n := 83) ⟨dX11_luck_82, rfl⟩ rfl ?_
                    refine y_iload_n (i := 3) (n := 84) ⟨dX11_luck_83, rfl⟩ rfl ?_
                    obtain ⟨v7, hv8, hf⟩ := b_s hf
                    refine c_ch_findsSoMany a1 a2 a3 M (n := 87) ⟨dX11_luck_84, rfl⟩ klX11_211 hv8 (by decide) (Nat.le_of_ble_eq_true rfl) rfl rfl ?_
                    refine y_lsub (n := 88) ⟨dX11_luck_87, rfl⟩ ?_
                    refine y_iload (i := 4) (n := 90) ⟨dX11_luck_88, rfl⟩ rfl ?_
                    obtain ⟨v9, hv10, hf⟩ := b_s hf
                    refine c_ch_power (v5 - v7) a4 M (n := 93) ⟨dX11_luck_90, rfl⟩ klX11_207 hv10 (by decide) (Nat.le_of_ble_eq_true rfl) rfl rfl ?_
                    refine y_lstore (i := 8) (n := 95) (L2 := [some (.ref 0), some (.int a1), some (.int a2), some (.int a3), some (.int a4), some (.int a5), some (.long v3), none, some (.long v9), none]) ⟨dX11_luck_93, rfl⟩ (by decide) rfl rfl ?_
                    refine y_lload (i := 6) (n := 97) ⟨dX11_luck_95, rfl⟩ rfl ?_
                    refine y_lload (i := 8) (n := 99) ⟨dX11_luck_97, rfl⟩ rfl ?_
                    refine y_lsub (n := 100) ⟨dX11_luck_99, rfl⟩ ?_
                    refine y_lload (i := 6) (n := 102) ⟨dX11_luck_100, rfl⟩ rfl ?_
                    refine y_iload (i := 5) (n := 104) ⟨dX11_luck_102, rfl⟩ rfl ?_
                    obtain ⟨v11, hv12, hf⟩ := b_s hf
                    refine c_ch_lowest (v3 - v9) v3 a5 M (n := 107) ⟨dX11_luck_104, rfl⟩ klX11_201 hv12 (by decide) (Nat.le_of_ble_eq_true rfl) rfl rfl ?_
                    cases hf
                    exact y_lreturn (n := 108) ⟨dX11_luck_107, rfl⟩ rfl hk
                  · have hc := bI_0 h0
                    replace hf := i_f hc hf
                    refine y_ldc2 (n := 59) ⟨dX11_luck_56, rfl⟩ kcX11_189 ?_
                    cases hf
                    exact y_lreturn (n := 60) ⟨dX11_luck_59, rfl⟩ rfl hk
                · replace hf := i_f hc hf
                  refine y_ldc2 (n := 46) ⟨dX11_luck_43, rfl⟩ kcX11_189 ?_
                  cases hf
                  exact y_lreturn (n := 47) ⟨dX11_luck_46, rfl⟩ rfl hk
theorem c_ax_luck (a1 : Int32) (a2 : Int32) (a3 : Int32) (a4 : Int32) (a5 : Int32) (M : dM) {o : Int64} {y : mz_M} {d : Nat} {Q : mz_P} {pc n i : Nat} {L : List (Option Value)} {st : List Value} (h : mz_d y.2.1 pc n 3 (.invokevirtual i)) (hl : mz_ml y.1.cls i yX11_luck) (hf : f_ax_luck a1 a2 a3 a4 a5 = some o) (hd : 3 + 1 ≤ d) (hsm : (st.map (fun v => v.category)).sum ≤ 8) (hLr : mz_rL 133 L = true) (hSr : mz_rS 133 st = true) (kk : mW y d Q n L (.long o :: st) M) : mW y d Q pc L (.int a5 :: .int a4 :: .int a3 :: .int a2 :: .int a1 :: .ref 0 :: st) M :=
  y_callV kmX11_luck kvX11_luck l_0 (by decide +kernel) (by decide +kernel) h hl (ok_ax_luck a1 a2 a3 a4 a5 M hf) (vs := [.int a1, .int a2, .int a3, .int a4, .int a5]) rfl rfl hd hsm hLr hSr kk
noncomputable def f_ax_can (a1 : Int32) (M : dM) : Option (Int32 × dM) :=
  if (f_ax_within a1 (gI M 12 7)) = true then
    (f_ax_study 2 M).bind fun q1 =>
    gd (vp_in a1 40) <|
    some ((gI q1 46 a1.toNatClampNeg), q1)
  else
    some ((-1), M)
theorem ok_ax_can (a1 : Int32) (M : dM) {o : (Int32 × dM)} (hf : f_ax_can a1 M = some o) : mO mX11_can 6 [.ref 0, .int a1] M (some (.int o.1)) o.2 := by
  refine y_ok (by decide +kernel) (by decide) (L0 := [some (.ref 0), some (.int a1)]) rfl ?_
  have hk := mR_mQ (some (.int o.1)) o.2
  generalize mQ _ _ = Q at hk ⊢
  unfold f_ax_can at hf
  refine y_iload_n (i := 1) (n := 1) ⟨dX11_can_0, rfl⟩ rfl ?_
  refine y_aload_n (i := 0) (n := 2) ⟨dX11_can_1, rfl⟩ rfl ?_
  refine y_getR (n := 5) ⟨dX11_can_2, rfl⟩ kfX11_26 l_0 rfl r_0_2 ?_
  refine y_getI (n := 8) ⟨dX11_can_5, rfl⟩ kfX11_146 l_12 rfl ?_
  refine c_ax_within a1 (gI M 12 7) M (n := 11) ⟨dX11_can_8, rfl⟩ klX11_91 rfl (by decide) (Nat.le_of_ble_eq_true rfl) rfl rfl ?_
  refine y_if_ne (t := 16) (n := 14) ⟨dX11_can_11, rfl, rfl⟩ (fun h0 => ?_) (fun h0 => ?_)
  · have hc := bI_1 h0
    replace hf := i_t hc hf
    refine y_aload_n (i := 0) (n := 17) ⟨dX11_can_16, rfl⟩ rfl ?_
    refine y_iconst (n := 18) (v := 2) ⟨dX11_can_17, rfl⟩ ki_2 ?_
    obtain ⟨q1, hv2, hf⟩ := b_s hf
    refine c_ax_study 2 M (n := 21) ⟨dX11_can_18, rfl⟩ klX11_156 hv2 (by decide) (Nat.le_of_ble_eq_true rfl) rfl rfl ?_
    refine y_aload_n (i := 0) (n := 22) ⟨dX11_can_21, rfl⟩ rfl ?_
    refine y_getR (n := 25) ⟨dX11_can_22, rfl⟩ kfX11_65 l_0 rfl r_0_7 ?_
    refine y_getR (n := 28) ⟨dX11_can_25, rfl⟩ kfX11_215 l_45 rfl r_45_4 ?_
    refine y_iload_n (i := 1) (n := 29) ⟨dX11_can_28, rfl⟩ rfl ?_
    obtain ⟨hg3, hf⟩ := g_s hf
    refine y_iaload (n := 30) ⟨dX11_can_29, rfl⟩ l_46 hg3 ?_
    cases hf
    exact y_ireturn (n := 31) ⟨dX11_can_30, rfl⟩ rfl rfl hk
  · have hc := bI_0 h0
    replace hf := i_f hc hf
    refine y_iconst (n := 15) (v := (-1)) ⟨dX11_can_14, rfl⟩ ki_m1 ?_
    cases hf
    exact y_ireturn (n := 16) ⟨dX11_can_15, rfl⟩ rfl rfl hk
theorem c_ax_can (a1 : Int32) (M : dM) {o : (Int32 × dM)} {y : mz_M} {d : Nat} {Q : mz_P} {pc n i : Nat} {L : List (Option Value)} {st : List Value} (h : mz_d y.2.1 pc n 3 (.invokevirtual i)) (hl : mz_ml y.1.cls i yX11_can) (hf : f_ax_can a1 M = some o) (hd : 6 + 1 ≤ d) (hsm : (st.map (fun v => v.category)).sum ≤ 8) (hLr : mz_rL 133 L = true) (hSr : mz_rS 133 st = true) (kk : mW y d Q n L (.int o.1 :: st) o.2) : mW y d Q pc L (.int a1 :: .ref 0 :: st) M :=
  y_callV kmX11_can kvX11_can l_0 (by decide +kernel) (by decide +kernel) h hl (ok_ax_can a1 M hf) (vs := [.int a1]) rfl rfl hd hsm hLr hSr kk
noncomputable def f_to_tellSeen (a1 : Int32) (a2 : Int32) (a3 : Int32) (M : dM) : Option (Bool × dM) :=
  if (gI M 12 11) < 20 then
    gd (vp_in (gI M 12 11) 20) <|
    gd (vp_in (gI (sI M 20 (gI M 12 11).toNatClampNeg a1) 12 11) 20) <|
    gd (vp_in (gI (sI (sI M 20 (gI M 12 11).toNatClampNeg a1) 21 (gI (sI M 20 (gI M 12 11).toNatClampNeg a1) 12 11).toNatClampNeg a2) 12 11) 20) <|
    some (true, (sI (sI (sI (sI M 20 (gI M 12 11).toNatClampNeg a1) 21 (gI (sI M 20 (gI M 12 11).toNatClampNeg a1) 12 11).toNatClampNeg a2) 22 (gI (sI (sI M 20 (gI M 12 11).toNatClampNeg a1) 21 (gI (sI M 20 (gI M 12 11).toNatClampNeg a1) 12 11).toNatClampNeg a2) 12 11).toNatClampNeg a3) 12 11 ((gI (sI (sI (sI M 20 (gI M 12 11).toNatClampNeg a1) 21 (gI (sI M 20 (gI M 12 11).toNatClampNeg a1) 12 11).toNatClampNeg a2) 22 (gI (sI (sI M 20 (gI M 12 11).toNatClampNeg a1) 21 (gI (sI M 20 (gI M 12 11).toNatClampNeg a1) 12 11).toNatClampNeg a2) 12 11).toNatClampNeg a3) 12 11) + 1)))
  else
    some (false, M)
theorem ok_to_tellSeen (a1 : Int32) (a2 : Int32) (a3 : Int32) (M : dM) {o : (Bool × dM)} (hf : f_to_tellSeen a1 a2 a3 M = some o) : mO mX9_tellSeen 1 [.ref 12, .int a1, .int a2, .int a3] M (some (.int (bI o.1))) o.2 := by
  refine y_ok (by decide +kernel) (by decide) (L0 := [some (.ref 12), some (.int a1), some (.int a2), some (.int a3)]) rfl ?_
  have hk := mR_mQ (some (.int (bI o.1))) o.2
  generalize mQ _ _ = Q at hk ⊢
  unfold f_to_tellSeen at hf
  refine y_aload_n (i := 0) (n := 1) ⟨dX9_tellSeen_0, rfl⟩ rfl ?_
  refine y_getI (n := 4) ⟨dX9_tellSeen_1, rfl⟩ kfX9_49 l_12 rfl ?_
  refine y_bipush (n := 6) (v := 20) ⟨dX9_tellSeen_4, rfl⟩ kb_20 ?_
  refine y_icmp_lt (t := 11) (n := 9) ⟨dX9_tellSeen_6, rfl, rfl⟩ (fun (hc : (gI M 12 11) < 20) => ?_) (fun (hc : ¬ ((gI M 12 11) < 20)) => ?_)
  · replace hf := i_t hc hf
    refine y_aload_n (i := 0) (n := 12) ⟨dX9_tellSeen_11, rfl⟩ rfl ?_
    refine y_getR (n := 15) ⟨dX9_tellSeen_12, rfl⟩ kfX9_33 l_12 rfl r_12_8 ?_
    refine y_aload_n (i := 0) (n := 16) ⟨dX9_tellSeen_15, rfl⟩ rfl ?_
    refine y_getI (n := 19) ⟨dX9_tellSeen_16, rfl⟩ kfX9_49 l_12 rfl ?_
    refine y_iload_n (i := 1) (n := 20) ⟨dX9_tellSeen_19, rfl⟩ rfl ?_
    obtain ⟨hg1, hf⟩ := g_s hf
    refine y_iastore (n := 21) ⟨dX9_tellSeen_20, rfl⟩ l_20 hg1 ?_
    refine y_aload_n (i := 0) (n := 22) ⟨dX9_tellSeen_21, rfl⟩ rfl ?_
    refine y_getR (n := 25) ⟨dX9_tellSeen_22, rfl⟩ kfX9_36 l_12 rfl r_12_9 ?_
    refine y_aload_n (i := 0) (n := 26) ⟨dX9_tellSeen_25, rfl⟩ rfl ?_
    refine y_getI (n := 29) ⟨dX9_tellSeen_26, rfl⟩ kfX9_49 l_12 rfl ?_
    refine y_iload_n (i := 2) (n := 30) ⟨dX9_tellSeen_29, rfl⟩ rfl ?_
    obtain ⟨hg2, hf⟩ := g_s hf
    refine y_iastore (n := 31) ⟨dX9_tellSeen_30, rfl⟩ l_21 hg2 ?_
    refine y_aload_n (i := 0) (n := 32) ⟨dX9_tellSeen_31, rfl⟩ rfl ?_
    refine y_getR (n := 35) ⟨dX9_tellSeen_32, rfl⟩ kfX9_39 l_12 rfl r_12_10 ?_
    refine y_aload_n (i := 0) (n := 36) ⟨dX9_tellSeen_35, rfl⟩ rfl ?_
    refine y_getI (n := 39) ⟨dX9_tellSeen_36, rfl⟩ kfX9_49 l_12 rfl ?_
    refine y_iload_n (i := 3) (n := 40) ⟨dX9_tellSeen_39, rfl⟩ rfl ?_
    obtain ⟨hg3, hf⟩ := g_s hf
    refine y_iastore (n := 41) ⟨dX9_tellSeen_40, rfl⟩ l_22 hg3 ?_
    refine y_aload_n (i := 0) (n := 42) ⟨dX9_tellSeen_41, rfl⟩ rfl ?_
    refine y_dup_r (n := 43) ⟨dX9_tellSeen_42, rfl⟩ ?_
    refine y_getI (n := 46) ⟨dX9_tellSeen_43, rfl⟩ kfX9_49 l_12 rfl ?_
    refine y_iconst (n := 47) (v := 1) ⟨dX9_tellSeen_46, rfl⟩ ki_1 ?_
    refine y_iadd (n := 48) ⟨dX9_tellSeen_47, rfl⟩ ?_
    refine y_putI (n := 51) ⟨dX9_tellSeen_48, rfl⟩ kfX9_49 l_12 (by decide +kernel) rfl ?_
    refine y_iconst (n := 52) (v := 1) ⟨dX9_tellSeen_51, rfl⟩ ki_1 ?_
    cases hf
    exact y_ireturn (n := 53) ⟨dX9_tellSeen_52, rfl⟩ rfl rfl hk
  · replace hf := i_f hc hf
    refine y_iconst (n := 10) (v := 0) ⟨dX9_tellSeen_9, rfl⟩ ki_0 ?_
    cases hf
    exact y_ireturn (n := 11) ⟨dX9_tellSeen_10, rfl⟩ rfl rfl hk
theorem c_to_tellSeen (a1 : Int32) (a2 : Int32) (a3 : Int32) (M : dM) {o : (Bool × dM)} {y : mz_M} {d : Nat} {Q : mz_P} {pc n i : Nat} {L : List (Option Value)} {st : List Value} (h : mz_d y.2.1 pc n 3 (.invokevirtual i)) (hl : mz_ml y.1.cls i yX9_tellSeen) (hf : f_to_tellSeen a1 a2 a3 M = some o) (hd : 1 + 1 ≤ d) (hsm : (st.map (fun v => v.category)).sum ≤ 8) (hLr : mz_rL 133 L = true) (hSr : mz_rS 133 st = true) (kk : mW y d Q n L (.int (bI o.1) :: st) o.2) : mW y d Q pc L (.int a3 :: .int a2 :: .int a1 :: .ref 12 :: st) M :=
  y_callV kmX9_tellSeen kvX9_tellSeen l_12 (by decide +kernel) (by decide +kernel) h hl (ok_to_tellSeen a1 a2 a3 M hf) (vs := [.int a1, .int a2, .int a3]) rfl rfl hd hsm hLr hSr kk
