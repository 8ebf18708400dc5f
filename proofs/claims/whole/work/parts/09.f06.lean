noncomputable def t_ax_again_57 (y1 : Int32) (M : dM) : Option (Int32 × dM) :=
  (f_cl_goodFor y1 (gJ M 45 7) M).bind fun v3 =>
  some (v3, M)
noncomputable def t_ax_again_23 (x1 : Int32) (x2 : Int32) (M : dM) : Option (Int32 × dM) :=
  if x1 = x2 then
    some ((-1), M)
  else
    (f_ax_study 2 M).bind fun q1 =>
    if x2 = (-1) then
      t_ax_again_57 ((1 : Int32) <<< (x1 &&& 31)) q1
    else
      t_ax_again_57 (((1 : Int32) <<< (x1 &&& 31)) ||| ((1 : Int32) <<< (x2 &&& 31))) q1
noncomputable def f_ax_again (a1 : Int32) (a2 : Int32) (M : dM) : Option (Int32 × dM) :=
  if (f_ax_within a1 8) = true then
    if a2 = (-1) then
      t_ax_again_23 a1 a2 M
    else
      if (f_ax_within a2 8) = true then
        t_ax_again_23 a1 a2 M
      else
        some ((-1), M)
  else
    some ((-1), M)
theorem w_t_ax_again_57 (y1 : Int32) (M : dM) {Q : mz_P} {o : (Int32 × dM)} (hf : t_ax_again_57 y1 M = some o) (hk : mR Q (some (.int o.1)) o.2) : mW mX11_again 6 Q 57 [some (.ref 0), none, none] [.int y1, .ref 50] M := by
  unfold t_ax_again_57 at hf
  refine y_aload_n (i := 0) (n := 58) ⟨dX11_again_57, rfl⟩ rfl ?_
  refine y_getR (n := 61) ⟨dX11_again_58, rfl⟩ kfX11_65 l_0 rfl r_0_7 ?_
  refine y_getJ (n := 64) ⟨dX11_again_61, rfl⟩ kfX11_265 l_45 rfl ?_
  obtain ⟨v3, hv4, hf⟩ := b_s hf
  refine c_cl_goodFor y1 (gJ M 45 7) M (n := 67) ⟨dX11_again_64, rfl⟩ klX11_272 hv4 (by decide) (Nat.le_of_ble_eq_true rfl) rfl rfl ?_
  cases hf
  exact y_ireturn (n := 68) ⟨dX11_again_67, rfl⟩ rfl rfl hk
theorem w_t_ax_again_23 (x1 : Int32) (x2 : Int32) (M : dM) {Q : mz_P} {o : (Int32 × dM)} (hf : t_ax_again_23 x1 x2 M = some o) (hk : mR Q (some (.int o.1)) o.2) : mW mX11_again 6 Q 23 [some (.ref 0), some (.int x1), some (.int x2)] [] M := by
  unfold t_ax_again_23 at hf
  refine y_iload_n (i := 1) (n := 24) ⟨dX11_again_23, rfl⟩ rfl ?_
  refine y_iload_n (i := 2) (n := 25) ⟨dX11_again_24, rfl⟩ rfl ?_
  refine y_icmp_ne (t := 30) (n := 28) ⟨dX11_again_25, rfl, rfl⟩ (fun (hc : ¬ (x1 = x2)) => ?_) (fun (hc : x1 = x2) => ?_)
  · replace hf := i_f hc hf
    refine y_aload_n (i := 0) (n := 31) ⟨dX11_again_30, rfl⟩ rfl ?_
    refine y_iconst (n := 32) (v := 2) ⟨dX11_again_31, rfl⟩ ki_2 ?_
    obtain ⟨q1, hv2, hf⟩ := b_s hf
    refine c_ax_study 2 M (n := 35) ⟨dX11_again_32, rfl⟩ klX11_156 hv2 (by decide) (Nat.le_of_ble_eq_true rfl) rfl rfl ?_
    refine y_aload_n (i := 0) (n := 36) ⟨dX11_again_35, rfl⟩ rfl ?_
    refine y_getR (n := 39) ⟨dX11_again_36, rfl⟩ kfX11_74 l_0 rfl r_0_8 ?_
    refine y_iload_n (i := 2) (n := 40) ⟨dX11_again_39, rfl⟩ rfl ?_
    refine y_iconst (n := 41) (v := (-1)) ⟨dX11_again_40, rfl⟩ ki_m1 ?_
    refine y_icmp_ne (t := 50) (n := 44) ⟨dX11_again_41, rfl, rfl⟩ (fun (hc : ¬ (x2 = (-1))) => ?_) (fun (hc : x2 = (-1)) => ?_)
    · replace hf := i_f hc hf
      refine y_iconst (n := 51) (v := 1) ⟨dX11_again_50, rfl⟩ ki_1 ?_
      refine y_iload_n (i := 1) (n := 52) ⟨dX11_again_51, rfl⟩ rfl ?_
      refine y_ishl (n := 53) ⟨dX11_again_52, rfl⟩ ?_
      refine y_iconst (n := 54) (v := 1) ⟨dX11_again_53, rfl⟩ ki_1 ?_
      refine y_iload_n (i := 2) (n := 55) ⟨dX11_again_54, rfl⟩ rfl ?_
      refine y_ishl (n := 56) ⟨dX11_again_55, rfl⟩ ?_
      refine y_ior (n := 57) ⟨dX11_again_56, rfl⟩ ?_
      exact y_wk (L2 := [some (.ref 0), none, none]) ⟨Or.inr rfl, Or.inl rfl, Or.inl rfl, trivial⟩ (w_t_ax_again_57 (((1 : Int32) <<< (x1 &&& 31)) ||| ((1 : Int32) <<< (x2 &&& 31))) q1 hf hk)
    · replace hf := i_t hc hf
      refine y_iconst (n := 45) (v := 1) ⟨dX11_again_44, rfl⟩ ki_1 ?_
      refine y_iload_n (i := 1) (n := 46) ⟨dX11_again_45, rfl⟩ rfl ?_
      refine y_ishl (n := 47) ⟨dX11_again_46, rfl⟩ ?_
      refine y_goto (t := 57) ⟨dX11_again_47, rfl, rfl⟩ ?_
      exact y_wk (L2 := [some (.ref 0), none, none]) ⟨Or.inr rfl, Or.inl rfl, Or.inl rfl, trivial⟩ (w_t_ax_again_57 ((1 : Int32) <<< (x1 &&& 31)) q1 hf hk)
  · replace hf := i_t hc hf
    refine y_iconst (n := 29) (v := (-1)) ⟨dX11_again_28, rfl⟩ ki_m1 ?_
    cases hf
    exact y_ireturn (n := 30) ⟨dX11_again_29, rfl⟩ rfl rfl hk
theorem ok_ax_again (a1 : Int32) (a2 : Int32) (M : dM) {o : (Int32 × dM)} (hf : f_ax_again a1 a2 M = some o) : mO mX11_again 6 [.ref 0, .int a1, .int a2] M (some (.int o.1)) o.2 := by
  refine y_ok (by decide +kernel) (Nat.le_of_ble_eq_true rfl) (L0 := [some (.ref 0), some (.int a1), some (.int a2)]) rfl ?_
  have hk := mR_mQ (some (.int o.1)) o.2
  generalize mQ _ _ = Q at hk ⊢
  unfold f_ax_again at hf
  refine y_iload_n (i := 1) (n := 1) ⟨dX11_again_0, rfl⟩ rfl ?_
  refine y_bipush (n := 3) (v := 8) ⟨dX11_again_1, rfl⟩ kb_8 ?_
  refine c_ax_within a1 8 M (n := 6) ⟨dX11_again_3, rfl⟩ klX11_91 rfl (by decide) (Nat.le_of_ble_eq_true rfl) rfl rfl ?_
  refine y_if_eq (t := 28) (n := 9) ⟨dX11_again_6, rfl, rfl⟩ (fun h0 => ?_) (fun h0 => ?_)
  · have hc := bI_0 h0
    replace hf := i_f hc hf
    refine y_iconst (n := 29) (v := (-1)) ⟨dX11_again_28, rfl⟩ ki_m1 ?_
    cases hf
    exact y_ireturn (n := 30) ⟨dX11_again_29, rfl⟩ rfl rfl hk
  · have hc := bI_1 h0
    replace hf := i_t hc hf
    refine y_iload_n (i := 2) (n := 10) ⟨dX11_again_9, rfl⟩ rfl ?_
    refine y_iconst (n := 11) (v := (-1)) ⟨dX11_again_10, rfl⟩ ki_m1 ?_
    refine y_icmp_eq (t := 23) (n := 14) ⟨dX11_again_11, rfl, rfl⟩ (fun (hc : a2 = (-1)) => ?_) (fun (hc : ¬ (a2 = (-1))) => ?_)
    · replace hf := i_t hc hf
      exact y_wk (L2 := [some (.ref 0), some (.int a1), some (.int a2)]) ⟨Or.inr rfl, Or.inr rfl, Or.inr rfl, trivial⟩ (w_t_ax_again_23 a1 a2 M hf hk)
    · replace hf := i_f hc hf
      refine y_iload_n (i := 2) (n := 15) ⟨dX11_again_14, rfl⟩ rfl ?_
      refine y_bipush (n := 17) (v := 8) ⟨dX11_again_15, rfl⟩ kb_8 ?_
      refine c_ax_within a2 8 M (n := 20) ⟨dX11_again_17, rfl⟩ klX11_91 rfl (by decide) (Nat.le_of_ble_eq_true rfl) rfl rfl ?_
      refine y_if_eq (t := 28) (n := 23) ⟨dX11_again_20, rfl, rfl⟩ (fun h0 => ?_) (fun h0 => ?_)
      · have hc := bI_0 h0
        replace hf := i_f hc hf
        refine y_iconst (n := 29) (v := (-1)) ⟨dX11_again_28, rfl⟩ ki_m1 ?_
        cases hf
        exact y_ireturn (n := 30) ⟨dX11_again_29, rfl⟩ rfl rfl hk
      · have hc := bI_1 h0
        replace hf := i_t hc hf
        exact y_wk (L2 := [some (.ref 0), some (.int a1), some (.int a2)]) ⟨Or.inr rfl, Or.inr rfl, Or.inr rfl, trivial⟩ (w_t_ax_again_23 a1 a2 M hf hk)
theorem c_ax_again (a1 : Int32) (a2 : Int32) (M : dM) {o : (Int32 × dM)} {y : mz_M} {d : Nat} {Q : mz_P} {pc n i : Nat} {L : List (Option Value)} {st : List Value} (h : mz_d y.2.1 pc n 3 (.invokevirtual i)) (hl : mz_ml y.1.cls i yX11_again) (hf : f_ax_again a1 a2 M = some o) (hd : 6 + 1 ≤ d) (hsm : (st.map (fun v => v.category)).sum ≤ 8) (hLr : mz_rL 133 L = true) (hSr : mz_rS 133 st = true) (kk : mW y d Q n L (.int o.1 :: st) o.2) : mW y d Q pc L (.int a2 :: .int a1 :: .ref 0 :: st) M :=
  y_callV kmX11_again kvX11_again l_0 (by decide +kernel) (by decide +kernel) h hl (ok_ax_again a1 a2 M hf) (vs := [.int a1, .int a2]) rfl rfl hd hsm hLr hSr kk
noncomputable def f_cl_offer (a1 : Int32) (a2 : Int32) (a3 : Int32) (a4 : Int32) (M : dM) : Option dM :=
  gd (vp_in a1 6) <|
  if a2 ≤ (gI M 55 a1.toNatClampNeg) then
    some M
  else
    gd (vp_in (a1 + 1) 6) <|
    gd (vp_in (a1 + 2) 6) <|
    some (sI (sI (sI M 55 a1.toNatClampNeg a2) 55 (a1 + 1).toNatClampNeg a3) 55 (a1 + 2).toNatClampNeg a4)
theorem ok_cl_offer (a1 : Int32) (a2 : Int32) (a3 : Int32) (a4 : Int32) (M : dM) {o : dM} (hf : f_cl_offer a1 a2 a3 a4 M = some o) : mO mX1_offer 1 [.ref 50, .int a1, .int a2, .int a3, .int a4] M none o := by
  refine y_ok (by decide +kernel) (Nat.le_of_ble_eq_true rfl) (L0 := [some (.ref 50), some (.int a1), some (.int a2), some (.int a3), some (.int a4)]) rfl ?_
  have hk := mR_mQ none o
  generalize mQ _ _ = Q at hk ⊢
  unfold f_cl_offer at hf
  refine y_iload_n (i := 2) (n := 1) ⟨dX1_offer_0, rfl⟩ rfl ?_
  refine y_aload_n (i := 0) (n := 2) ⟨dX1_offer_1, rfl⟩ rfl ?_
  refine y_getR (n := 5) ⟨dX1_offer_2, rfl⟩ kfX1_29 l_50 rfl r_50_8 ?_
  refine y_iload_n (i := 1) (n := 6) ⟨dX1_offer_5, rfl⟩ rfl ?_
  obtain ⟨hg1, hf⟩ := g_s hf
  refine y_iaload (n := 7) ⟨dX1_offer_6, rfl⟩ l_55 hg1 ?_
  refine y_icmp_le (t := 36) (n := 10) ⟨dX1_offer_7, rfl, rfl⟩ (fun (hc : a2 ≤ (gI M 55 a1.toNatClampNeg)) => ?_) (fun (hc : ¬ (a2 ≤ (gI M 55 a1.toNatClampNeg))) => ?_)
  · replace hf := i_t hc hf
    cases hf
    exact y_return (n := 37) ⟨dX1_offer_36, rfl⟩ rfl hk
  · replace hf := i_f hc hf
    refine y_aload_n (i := 0) (n := 11) ⟨dX1_offer_10, rfl⟩ rfl ?_
    refine y_getR (n := 14) ⟨dX1_offer_11, rfl⟩ kfX1_29 l_50 rfl r_50_8 ?_
    refine y_iload_n (i := 1) (n := 15) ⟨dX1_offer_14, rfl⟩ rfl ?_
    refine y_iload_n (i := 2) (n := 16) ⟨dX1_offer_15, rfl⟩ rfl ?_
    refine y_iastore (n := 17) ⟨dX1_offer_16, rfl⟩ l_55 hg1 ?_
    refine y_aload_n (i := 0) (n := 18) ⟨dX1_offer_17, rfl⟩ rfl ?_
    refine y_getR (n := 21) ⟨dX1_offer_18, rfl⟩ kfX1_29 l_50 rfl r_50_8 ?_
    refine y_iload_n (i := 1) (n := 22) ⟨dX1_offer_21, rfl⟩ rfl ?_
    refine y_iconst (n := 23) (v := 1) ⟨dX1_offer_22, rfl⟩ ki_1 ?_
    refine y_iadd (n := 24) ⟨dX1_offer_23, rfl⟩ ?_
    refine y_iload_n (i := 3) (n := 25) ⟨dX1_offer_24, rfl⟩ rfl ?_
    obtain ⟨hg2, hf⟩ := g_s hf
    refine y_iastore (n := 26) ⟨dX1_offer_25, rfl⟩ l_55 hg2 ?_
    refine y_aload_n (i := 0) (n := 27) ⟨dX1_offer_26, rfl⟩ rfl ?_
    refine y_getR (n := 30) ⟨dX1_offer_27, rfl⟩ kfX1_29 l_50 rfl r_50_8 ?_
    refine y_iload_n (i := 1) (n := 31) ⟨dX1_offer_30, rfl⟩ rfl ?_
    refine y_iconst (n := 32) (v := 2) ⟨dX1_offer_31, rfl⟩ ki_2 ?_
    refine y_iadd (n := 33) ⟨dX1_offer_32, rfl⟩ ?_
    refine y_iload (i := 4) (n := 35) ⟨dX1_offer_33, rfl⟩ rfl ?_
    obtain ⟨hg3, hf⟩ := g_s hf
    refine y_iastore (n := 36) ⟨dX1_offer_35, rfl⟩ l_55 hg3 ?_
    cases hf
    exact y_return (n := 37) ⟨dX1_offer_36, rfl⟩ rfl hk
theorem c_cl_offer (a1 : Int32) (a2 : Int32) (a3 : Int32) (a4 : Int32) (M : dM) {o : dM} {y : mz_M} {d : Nat} {Q : mz_P} {pc n i : Nat} {L : List (Option Value)} {st : List Value} (h : mz_d y.2.1 pc n 3 (.invokevirtual i)) (hl : mz_ml y.1.cls i yX1_offer) (hf : f_cl_offer a1 a2 a3 a4 M = some o) (hd : 1 + 1 ≤ d) (hsm : (st.map (fun v => v.category)).sum ≤ 8) (hLr : mz_rL 133 L = true) (hSr : mz_rS 133 st = true) (kk : mW y d Q n L st o) : mW y d Q pc L (.int a4 :: .int a3 :: .int a2 :: .int a1 :: .ref 50 :: st) M :=
  y_callV kmX1_offer kvX1_offer l_50 (by decide +kernel) (by decide +kernel) h hl (ok_cl_offer a1 a2 a3 a4 M hf) (vs := [.int a1, .int a2, .int a3, .int a4]) rfl rfl hd hsm hLr hSr kk
def K_cl_seekBest_18 (Q : mz_P) (x1 : Int32) (x2 : Int64) (x4 : Int32) : ((Int32 × dM) ⊕ dM) → Prop
  | .inl s => mW mX1_seekBest 4 Q 18 [some (.ref 50), some (.int x1), some (.long x2), none, some (.int x4), some (.int s.1), none] [] s.2
  | .inr r => mR Q none r
def K_cl_seekBest_57 (Q : mz_P) (x1 : Int32) (x2 : Int64) (x4 : Int32) (x5 : Int32) : ((Int32 × dM) ⊕ dM) → Prop
  | .inl s => mW mX1_seekBest 4 Q 57 [some (.ref 50), some (.int x1), some (.long x2), none, some (.int x4), some (.int x5), some (.int s.1)] [] s.2
  | .inr t => mW mX1_seekBest 4 Q 94 [some (.ref 50), some (.int x1), some (.long x2), none, some (.int x4), some (.int x5), none] [] t
noncomputable def b_cl_seekBest_57_57 (x1 : Int32) (x2 : Int64) (x4 : Int32) (x5 : Int32) (x6 : Int32) (M : dM) : Option ((Int32 × dM) ⊕ dM) :=
  if 8 ≤ x6 then
    some (.inr M)
  else
    (f_cl_goodFor (((1 : Int32) <<< (x5 &&& 31)) ||| ((1 : Int32) <<< (x6 &&& 31))) x2 M).bind fun v2 =>
    (f_cl_offer x4 v2 x5 x6 M).bind fun q4 =>
    some (.inl ((x6 + 1), q4))
noncomputable def l_cl_seekBest_57 (x1 : Int32) (x2 : Int64) (x4 : Int32) (x5 : Int32) (x6 : Int32) (M : dM) : Option dM := lpc (fun s => b_cl_seekBest_57_57 x1 x2 x4 x5 s.1 s.2) (x6, M)
noncomputable def b_cl_seekBest_18_18 (x1 : Int32) (x2 : Int64) (x4 : Int32) (x5 : Int32) (M : dM) : Option ((Int32 × dM) ⊕ dM) :=
  if 8 ≤ x5 then
    some (.inr M)
  else
    if x1 = 1 then
      (f_cl_goodFor ((1 : Int32) <<< (x5 &&& 31)) x2 M).bind fun v9 =>
      (f_cl_offer x4 v9 x5 (-1) M).bind fun q11 =>
      some (.inl ((x5 + 1), q11))
    else
      (l_cl_seekBest_57 x1 x2 x4 x5 (x5 + 1) M).bind fun t6 =>
        some (.inl ((x5 + 1), t6))
noncomputable def l_cl_seekBest_18 (x1 : Int32) (x2 : Int64) (x4 : Int32) (x5 : Int32) (M : dM) : Option dM := lpc (fun s => b_cl_seekBest_18_18 x1 x2 x4 s.1 s.2) (x5, M)
noncomputable def f_cl_seekBest (a1 : Int32) (a2 : Int64) (M : dM) : Option dM :=
  gd (vp_in ((a1 - 1) * 3) 6) <|
  (l_cl_seekBest_18 a1 a2 ((a1 - 1) * 3) 0 (sI M 55 ((a1 - 1) * 3).toNatClampNeg (-1))).bind fun r15 => some r15
theorem w_b_cl_seekBest_57_57 (x1 : Int32) (x2 : Int64) (x4 : Int32) (x5 : Int32) (x6 : Int32)  (M : dM) {Q : mz_P} {o : ((Int32 × dM) ⊕ dM)} (hf : b_cl_seekBest_57_57 x1 x2 x4 x5 x6 M = some o) (hk : K_cl_seekBest_57 Q x1 x2 x4 x5 o) : mW mX1_seekBest 4 Q 57 [some (.ref 50), some (.int x1), some (.long x2), none, some (.int x4), some (.int x5), some (.int x6)] [] M := by
  unfold b_cl_seekBest_57_57 at hf
  refine y_iload (i := 6) (n := 59) ⟨dX1_seekBest_57, rfl⟩ rfl ?_
  refine y_bipush (n := 61) (v := 8) ⟨dX1_seekBest_59, rfl⟩ kb_8 ?_
  refine y_icmp_ge (t := 94) (n := 64) ⟨dX1_seekBest_61, rfl, rfl⟩ (fun (hc : 8 ≤ x6) => ?_) (fun (hc : ¬ (8 ≤ x6)) => ?_)
  · replace hf := i_t hc hf
    cases hf
    exact y_wk (L2 := [some (.ref 50), some (.int x1), some (.long x2), none, some (.int x4), some (.int x5), none]) ⟨Or.inr rfl, Or.inr rfl, Or.inr rfl, Or.inr rfl, Or.inr rfl, Or.inr rfl, Or.inl rfl, trivial⟩ hk
  · replace hf := i_f hc hf
    refine y_aload_n (i := 0) (n := 65) ⟨dX1_seekBest_64, rfl⟩ rfl ?_
    refine y_iload (i := 4) (n := 67) ⟨dX1_seekBest_65, rfl⟩ rfl ?_
    refine y_aload_n (i := 0) (n := 68) ⟨dX1_seekBest_67, rfl⟩ rfl ?_
    refine y_iconst (n := 69) (v := 1) ⟨dX1_seekBest_68, rfl⟩ ki_1 ?_
    refine y_iload (i := 5) (n := 71) ⟨dX1_seekBest_69, rfl⟩ rfl ?_
    refine y_ishl (n := 72) ⟨dX1_seekBest_71, rfl⟩ ?_
    refine y_iconst (n := 73) (v := 1) ⟨dX1_seekBest_72, rfl⟩ ki_1 ?_
    refine y_iload (i := 6) (n := 75) ⟨dX1_seekBest_73, rfl⟩ rfl ?_
    refine y_ishl (n := 76) ⟨dX1_seekBest_75, rfl⟩ ?_
    refine y_ior (n := 77) ⟨dX1_seekBest_76, rfl⟩ ?_
    refine y_lload_n (i := 2) (n := 78) ⟨dX1_seekBest_77, rfl⟩ rfl ?_
    obtain ⟨v2, hv3, hf⟩ := b_s hf
    refine c_cl_goodFor (((1 : Int32) <<< (x5 &&& 31)) ||| ((1 : Int32) <<< (x6 &&& 31))) x2 M (n := 81) ⟨dX1_seekBest_78, rfl⟩ klX1_99 hv3 (by decide) (Nat.le_of_ble_eq_true rfl) rfl rfl ?_
    refine y_iload (i := 5) (n := 83) ⟨dX1_seekBest_81, rfl⟩ rfl ?_
    refine y_iload (i := 6) (n := 85) ⟨dX1_seekBest_83, rfl⟩ rfl ?_
    obtain ⟨q4, hv5, hf⟩ := b_s hf
    refine c_cl_offer x4 v2 x5 x6 M (n := 88) ⟨dX1_seekBest_85, rfl⟩ klX1_103 hv5 (by decide) (Nat.le_of_ble_eq_true rfl) rfl rfl ?_
    refine y_iinc (i := 6) (n := 91) (b := (x6 + 1)) (L2 := [some (.ref 50), some (.int x1), some (.long x2), none, some (.int x4), some (.int x5), some (.int (x6 + 1))]) ⟨dX1_seekBest_88, rfl⟩ rfl (by rw [ki_1]) (by decide) rfl rfl ?_
    refine y_goto (t := 57) ⟨dX1_seekBest_91, rfl, rfl⟩ ?_
    cases hf
    exact y_wk (L2 := [some (.ref 50), some (.int x1), some (.long x2), none, some (.int x4), some (.int x5), some (.int (x6 + 1))]) ⟨Or.inr rfl, Or.inr rfl, Or.inr rfl, Or.inr rfl, Or.inr rfl, Or.inr rfl, Or.inr rfl, trivial⟩ hk
theorem wl_cl_seekBest_57 (x1 : Int32) (x2 : Int64) (x4 : Int32) (x5 : Int32) (x6 : Int32) (M : dM) {Q : mz_P} {x : dM} (hf : l_cl_seekBest_57 x1 x2 x4 x5 x6 M = some x) (hk : K_cl_seekBest_57 Q x1 x2 x4 x5 (.inr x)) : mW mX1_seekBest 4 Q 57 [some (.ref 50), some (.int x1), some (.long x2), none, some (.int x4), some (.int x5), some (.int x6)] [] M :=
  lpc_wp (σ := (Int32 × dM)) (ξ := dM) (s := (x6, M)) (Wh := fun s => mW mX1_seekBest 4 Q 57 [some (.ref 50), some (.int x1), some (.long x2), none, some (.int x4), some (.int x5), some (.int s.1)] [] s.2) (K := K_cl_seekBest_57 Q x1 x2 x4 x5) (fun _ h => h) (fun s o hb hk => w_b_cl_seekBest_57_57 x1 x2 x4 x5 s.1 s.2 hb hk) hf hk
theorem w_b_cl_seekBest_18_18 (x1 : Int32) (x2 : Int64) (x4 : Int32) (x5 : Int32)  (M : dM) {Q : mz_P} {o : ((Int32 × dM) ⊕ dM)} (hf : b_cl_seekBest_18_18 x1 x2 x4 x5 M = some o) (hk : K_cl_seekBest_18 Q x1 x2 x4 o) : mW mX1_seekBest 4 Q 18 [some (.ref 50), some (.int x1), some (.long x2), none, some (.int x4), some (.int x5), none] [] M := by
  unfold b_cl_seekBest_18_18 at hf
  refine y_iload (i := 5) (n := 20) ⟨dX1_seekBest_18, rfl⟩ rfl ?_
  refine y_bipush (n := 22) (v := 8) ⟨dX1_seekBest_20, rfl⟩ kb_8 ?_
  refine y_icmp_ge (t := 100) (n := 25) ⟨dX1_seekBest_22, rfl, rfl⟩ (fun (hc : 8 ≤ x5) => ?_) (fun (hc : ¬ (8 ≤ x5)) => ?_)
  · replace hf := i_t hc hf
    cases hf
    exact y_return (n := 101) ⟨dX1_seekBest_100, rfl⟩ rfl hk
  · replace hf := i_f hc hf
    refine y_iload_n (i := 1) (n := 26) ⟨dX1_seekBest_25, rfl⟩ rfl ?_
    refine y_iconst (n := 27) (v := 1) ⟨dX1_seekBest_26, rfl⟩ ki_1 ?_
    refine y_icmp_ne (t := 51) (n := 30) ⟨dX1_seekBest_27, rfl, rfl⟩ (fun (hc : ¬ (x1 = 1)) => ?_) (fun (hc : x1 = 1) => ?_)
    · replace hf := i_f hc hf
      refine y_iload (i := 5) (n := 53) ⟨dX1_seekBest_51, rfl⟩ rfl ?_
      refine y_iconst (n := 54) (v := 1) ⟨dX1_seekBest_53, rfl⟩ ki_1 ?_
      refine y_iadd (n := 55) ⟨dX1_seekBest_54, rfl⟩ ?_
      refine y_istore (i := 6) (n := 57) (L2 := [some (.ref 50), some (.int x1), some (.long x2), none, some (.int x4), some (.int x5), some (.int (x5 + 1))]) ⟨dX1_seekBest_55, rfl⟩ (by decide) rfl rfl ?_
      obtain ⟨t6, hl7, hf⟩ := b_s hf
      refine y_wk (L2 := [some (.ref 50), some (.int x1), some (.long x2), none, some (.int x4), some (.int x5), some (.int (x5 + 1))]) ⟨Or.inr rfl, Or.inr rfl, Or.inr rfl, Or.inr rfl, Or.inr rfl, Or.inr rfl, Or.inr rfl, trivial⟩ (wl_cl_seekBest_57 x1 x2 x4 x5 (x5 + 1) M hl7 ?_)
      show mW mX1_seekBest 4 Q 94 [some (.ref 50), some (.int x1), some (.long x2), none, some (.int x4), some (.int x5), none] [] t6
      refine y_iinc (i := 5) (n := 97) (b := (x5 + 1)) (L2 := [some (.ref 50), some (.int x1), some (.long x2), none, some (.int x4), some (.int (x5 + 1)), none]) ⟨dX1_seekBest_94, rfl⟩ rfl (by rw [ki_1]) (by decide) rfl rfl ?_
      refine y_goto (t := 18) ⟨dX1_seekBest_97, rfl, rfl⟩ ?_
      cases hf
      exact y_wk (L2 := [some (.ref 50), some (.int x1), some (.long x2), none, some (.int x4), some (.int (x5 + 1)), none]) ⟨Or.inr rfl, Or.inr rfl, Or.inr rfl, Or.inr rfl, Or.inr rfl, Or.inr rfl, Or.inr rfl, trivial⟩ hk
    · replace hf := i_t hc hf
      refine y_aload_n (i := 0) (n := 31) ⟨dX1_seekBest_30, rfl⟩ rfl ?_
      refine y_iload (i := 4) (n := 33) ⟨dX1_seekBest_31, rfl⟩ rfl ?_
      refine y_aload_n (i := 0) (n := 34) ⟨dX1_seekBest_33, rfl⟩ rfl ?_
      refine y_iconst (n := 35) (v := 1) ⟨dX1_seekBest_34, rfl⟩ ki_1 ?_
      refine y_iload (i := 5) (n := 37) ⟨dX1_seekBest_35, rfl⟩ rfl ?_
      refine y_ishl (n := 38) ⟨dX1_seekBest_37, rfl⟩ ?_
      refine y_lload_n (i := 2) (n := 39) ⟨dX1_seekBest_38, rfl⟩ rfl ?_
      obtain ⟨v9, hv10, hf⟩ := b_s hf
      refine c_cl_goodFor ((1 : Int32) <<< (x5 &&& 31)) x2 M (n := 42) ⟨dX1_seekBest_39, rfl⟩ klX1_99 hv10 (by decide) (Nat.le_of_ble_eq_true rfl) rfl rfl ?_
      refine y_iload (i := 5) (n := 44) ⟨dX1_seekBest_42, rfl⟩ rfl ?_
      refine y_iconst (n := 45) (v := (-1)) ⟨dX1_seekBest_44, rfl⟩ ki_m1 ?_
      obtain ⟨q11, hv12, hf⟩ := b_s hf
      refine c_cl_offer x4 v9 x5 (-1) M (n := 48) ⟨dX1_seekBest_45, rfl⟩ klX1_103 hv12 (by decide) (Nat.le_of_ble_eq_true rfl) rfl rfl ?_
      refine y_goto (t := 94) ⟨dX1_seekBest_48, rfl, rfl⟩ ?_
      refine y_iinc (i := 5) (n := 97) (b := (x5 + 1)) (L2 := [some (.ref 50), some (.int x1), some (.long x2), none, some (.int x4), some (.int (x5 + 1)), none]) ⟨dX1_seekBest_94, rfl⟩ rfl (by rw [ki_1]) (by decide) rfl rfl ?_
      refine y_goto (t := 18) ⟨dX1_seekBest_97, rfl, rfl⟩ ?_
      cases hf
      exact y_wk (L2 := [some (.ref 50), some (.int x1), some (.long x2), none, some (.int x4), some (.int (x5 + 1)), none]) ⟨Or.inr rfl, Or.inr rfl, Or.inr rfl, Or.inr rfl, Or.inr rfl, Or.inr rfl, Or.inr rfl, trivial⟩ hk
theorem wl_cl_seekBest_18 (x1 : Int32) (x2 : Int64) (x4 : Int32) (x5 : Int32) (M : dM) {Q : mz_P} {x : dM} (hf : l_cl_seekBest_18 x1 x2 x4 x5 M = some x) (hk : K_cl_seekBest_18 Q x1 x2 x4 (.inr x)) : mW mX1_seekBest 4 Q 18 [some (.ref 50), some (.int x1), some (.long x2), none, some (.int x4), some (.int x5), none] [] M :=
  lpc_wp (σ := (Int32 × dM)) (ξ := dM) (s := (x5, M)) (Wh := fun s => mW mX1_seekBest 4 Q 18 [some (.ref 50), some (.int x1), some (.long x2), none, some (.int x4), some (.int s.1), none] [] s.2) (K := K_cl_seekBest_18 Q x1 x2 x4) (fun _ h => h) (fun s o hb hk => w_b_cl_seekBest_18_18 x1 x2 x4 s.1 s.2 hb hk) hf hk
theorem ok_cl_seekBest (a1 : Int32) (a2 : Int64) (M : dM) {o : dM} (hf : f_cl_seekBest a1 a2 M = some o) : mO mX1_seekBest 4 [.ref 50, .int a1, .long a2] M none o := by
  refine y_ok (by decide +kernel) (Nat.le_of_ble_eq_true rfl) (L0 := [some (.ref 50), some (.int a1), some (.long a2), none, none, none, none]) rfl ?_
  have hk := mR_mQ none o
  generalize mQ _ _ = Q at hk ⊢
  unfold f_cl_seekBest at hf
  refine y_iload_n (i := 1) (n := 1) ⟨dX1_seekBest_0, rfl⟩ rfl ?_
  refine y_iconst (n := 2) (v := 1) ⟨dX1_seekBest_1, rfl⟩ ki_1 ?_
  refine y_isub (n := 3) ⟨dX1_seekBest_2, rfl⟩ ?_
  refine y_iconst (n := 4) (v := 3) ⟨dX1_seekBest_3, rfl⟩ ki_3 ?_
  refine y_imul (n := 5) ⟨dX1_seekBest_4, rfl⟩ ?_
  refine y_istore (i := 4) (n := 7) (L2 := [some (.ref 50), some (.int a1), some (.long a2), none, some (.int ((a1 - 1) * 3)), none, none]) ⟨dX1_seekBest_5, rfl⟩ (by decide) rfl rfl ?_
  refine y_aload_n (i := 0) (n := 8) ⟨dX1_seekBest_7, rfl⟩ rfl ?_
  refine y_getR (n := 11) ⟨dX1_seekBest_8, rfl⟩ kfX1_29 l_50 rfl r_50_8 ?_
  refine y_iload (i := 4) (n := 13) ⟨dX1_seekBest_11, rfl⟩ rfl ?_
  refine y_iconst (n := 14) (v := (-1)) ⟨dX1_seekBest_13, rfl⟩ ki_m1 ?_
  obtain ⟨hg1, hf⟩ := g_s hf
  refine y_iastore (n := 15) ⟨dX1_seekBest_14, rfl⟩ l_55 hg1 ?_
  refine y_iconst (n := 16) (v := 0) ⟨dX1_seekBest_15, rfl⟩ ki_0 ?_
  refine y_istore (i := 5) (n := 18) (L2 := [some (.ref 50), some (.int a1), some (.long a2), none, some (.int ((a1 - 1) * 3)), some (.int 0), none]) ⟨dX1_seekBest_16, rfl⟩ (by decide) rfl rfl ?_
  obtain ⟨r15, hl14, hf⟩ := b_s hf
  cases hf
  exact y_wk (L2 := [some (.ref 50), some (.int a1), some (.long a2), none, some (.int ((a1 - 1) * 3)), some (.int 0), none]) ⟨Or.inr rfl, Or.inr rfl, Or.inr rfl, Or.inr rfl, Or.inr rfl, Or.inr rfl, Or.inr rfl, trivial⟩ (wl_cl_seekBest_18 a1 a2 ((a1 - 1) * 3) 0 (sI M 55 ((a1 - 1) * 3).toNatClampNeg (-1)) hl14 hk)
theorem c_cl_seekBest (a1 : Int32) (a2 : Int64) (M : dM) {o : dM} {y : mz_M} {d : Nat} {Q : mz_P} {pc n i : Nat} {L : List (Option Value)} {st : List Value} (h : mz_d y.2.1 pc n 3 (.invokevirtual i)) (hl : mz_ml y.1.cls i yX1_seekBest) (hf : f_cl_seekBest a1 a2 M = some o) (hd : 4 + 1 ≤ d) (hsm : (st.map (fun v => v.category)).sum ≤ 8) (hLr : mz_rL 133 L = true) (hSr : mz_rS 133 st = true) (kk : mW y d Q n L st o) : mW y d Q pc L (.long a2 :: .int a1 :: .ref 50 :: st) M :=
  y_callV kmX1_seekBest kvX1_seekBest l_50 (by decide +kernel) (by decide +kernel) h hl (ok_cl_seekBest a1 a2 M hf) (vs := [.int a1, .long a2]) rfl rfl hd hsm hLr hSr kk
noncomputable def t_cl_bestSites_30 (x1 : Int32) (x2 : Int32) (M : dM) : Option (Int32 × dM) :=
  gd (vp_in ((x1 - 1) * 3) 6) <|
  if (gI M 55 ((x1 - 1) * 3).toNatClampNeg) = (-1) then
    some ((-1), M)
  else
    gd (vp_in (((x1 - 1) * 3) + x2) 6) <|
    some ((gI M 55 (((x1 - 1) * 3) + x2).toNatClampNeg), M)
noncomputable def f_cl_bestSites (a1 : Int32) (a2 : Int32) (a3 : Int64) (M : dM) : Option (Int32 × dM) :=
  if (f_ax_hasBit ((gI M 50 9).toInt64) a1) = true then
    t_cl_bestSites_30 a1 a2 M
  else
    (f_cl_seekBest a1 a3 M).bind fun q3 =>
    t_cl_bestSites_30 a1 a2 (sI q3 50 9 ((gI q3 50 9) ||| ((1 : Int32) <<< (a1 &&& 31))))
theorem w_t_cl_bestSites_30 (x1 : Int32) (x2 : Int32) (M : dM) {Q : mz_P} {o : (Int32 × dM)} (hf : t_cl_bestSites_30 x1 x2 M = some o) (hk : mR Q (some (.int o.1)) o.2) : mW mX1_bestSites 5 Q 30 [some (.ref 50), some (.int x1), some (.int x2), none, none, none] [] M := by
  unfold t_cl_bestSites_30 at hf
  refine y_iload_n (i := 1) (n := 31) ⟨dX1_bestSites_30, rfl⟩ rfl ?_
  refine y_iconst (n := 32) (v := 1) ⟨dX1_bestSites_31, rfl⟩ ki_1 ?_
  refine y_isub (n := 33) ⟨dX1_bestSites_32, rfl⟩ ?_
  refine y_iconst (n := 34) (v := 3) ⟨dX1_bestSites_33, rfl⟩ ki_3 ?_
  refine y_imul (n := 35) ⟨dX1_bestSites_34, rfl⟩ ?_
  refine y_istore (i := 5) (n := 37) (L2 := [some (.ref 50), some (.int x1), some (.int x2), none, none, some (.int ((x1 - 1) * 3))]) ⟨dX1_bestSites_35, rfl⟩ (by decide) rfl rfl ?_
  refine y_aload_n (i := 0) (n := 38) ⟨dX1_bestSites_37, rfl⟩ rfl ?_
  refine y_getR (n := 41) ⟨dX1_bestSites_38, rfl⟩ kfX1_29 l_50 rfl r_50_8 ?_
  refine y_iload (i := 5) (n := 43) ⟨dX1_bestSites_41, rfl⟩ rfl ?_
  obtain ⟨hg1, hf⟩ := g_s hf
  refine y_iaload (n := 44) ⟨dX1_bestSites_43, rfl⟩ l_55 hg1 ?_
  refine y_iconst (n := 45) (v := (-1)) ⟨dX1_bestSites_44, rfl⟩ ki_m1 ?_
  refine y_icmp_ne (t := 52) (n := 48) ⟨dX1_bestSites_45, rfl, rfl⟩ (fun (hc : ¬ ((gI M 55 ((x1 - 1) * 3).toNatClampNeg) = (-1))) => ?_) (fun (hc : (gI M 55 ((x1 - 1) * 3).toNatClampNeg) = (-1)) => ?_)
  · replace hf := i_f hc hf
    refine y_aload_n (i := 0) (n := 53) ⟨dX1_bestSites_52, rfl⟩ rfl ?_
    refine y_getR (n := 56) ⟨dX1_bestSites_53, rfl⟩ kfX1_29 l_50 rfl r_50_8 ?_
    refine y_iload (i := 5) (n := 58) ⟨dX1_bestSites_56, rfl⟩ rfl ?_
    refine y_iload_n (i := 2) (n := 59) ⟨dX1_bestSites_58, rfl⟩ rfl ?_
    refine y_iadd (n := 60) ⟨dX1_bestSites_59, rfl⟩ ?_
    obtain ⟨hg2, hf⟩ := g_s hf
    refine y_iaload (n := 61) ⟨dX1_bestSites_60, rfl⟩ l_55 hg2 ?_
    cases hf
    exact y_ireturn (n := 62) ⟨dX1_bestSites_61, rfl⟩ rfl rfl hk
  · replace hf := i_t hc hf
    refine y_iconst (n := 49) (v := (-1)) ⟨dX1_bestSites_48, rfl⟩ ki_m1 ?_
    refine y_goto (t := 61) ⟨dX1_bestSites_49, rfl, rfl⟩ ?_
    cases hf
    exact y_ireturn (n := 62) ⟨dX1_bestSites_61, rfl⟩ rfl rfl hk
theorem ok_cl_bestSites (a1 : Int32) (a2 : Int32) (a3 : Int64) (M : dM) {o : (Int32 × dM)} (hf : f_cl_bestSites a1 a2 a3 M = some o) : mO mX1_bestSites 5 [.ref 50, .int a1, .int a2, .long a3] M (some (.int o.1)) o.2 := by
  refine y_ok (by decide +kernel) (Nat.le_of_ble_eq_true rfl) (L0 := [some (.ref 50), some (.int a1), some (.int a2), some (.long a3), none, none]) rfl ?_
  have hk := mR_mQ (some (.int o.1)) o.2
  generalize mQ _ _ = Q at hk ⊢
  unfold f_cl_bestSites at hf
  refine y_aload_n (i := 0) (n := 1) ⟨dX1_bestSites_0, rfl⟩ rfl ?_
  refine y_getI (n := 4) ⟨dX1_bestSites_1, rfl⟩ kfX1_36 l_50 rfl ?_
  refine y_i2l (n := 5) ⟨dX1_bestSites_4, rfl⟩ ?_
  refine y_iload_n (i := 1) (n := 6) ⟨dX1_bestSites_5, rfl⟩ rfl ?_
  refine c_ax_hasBit ((gI M 50 9).toInt64) a1 M (n := 9) ⟨dX1_bestSites_6, rfl⟩ klX1_61 rfl (by decide) (Nat.le_of_ble_eq_true rfl) rfl rfl ?_
  refine y_if_ne (t := 30) (n := 12) ⟨dX1_bestSites_9, rfl, rfl⟩ (fun h0 => ?_) (fun h0 => ?_)
  · have hc := bI_1 h0
    replace hf := i_t hc hf
    exact y_wk (L2 := [some (.ref 50), some (.int a1), some (.int a2), none, none, none]) ⟨Or.inr rfl, Or.inr rfl, Or.inr rfl, Or.inl rfl, Or.inr rfl, Or.inr rfl, trivial⟩ (w_t_cl_bestSites_30 a1 a2 M hf hk)
  · have hc := bI_0 h0
    replace hf := i_f hc hf
    refine y_aload_n (i := 0) (n := 13) ⟨dX1_bestSites_12, rfl⟩ rfl ?_
    refine y_iload_n (i := 1) (n := 14) ⟨dX1_bestSites_13, rfl⟩ rfl ?_
    refine y_lload_n (i := 3) (n := 15) ⟨dX1_bestSites_14, rfl⟩ rfl ?_
    obtain ⟨q3, hv4, hf⟩ := b_s hf
    refine c_cl_seekBest a1 a3 M (n := 18) ⟨dX1_bestSites_15, rfl⟩ klX1_95 hv4 (by decide) (Nat.le_of_ble_eq_true rfl) rfl rfl ?_
    refine y_aload_n (i := 0) (n := 19) ⟨dX1_bestSites_18, rfl⟩ rfl ?_
    refine y_dup_r (n := 20) ⟨dX1_bestSites_19, rfl⟩ ?_
    refine y_getI (n := 23) ⟨dX1_bestSites_20, rfl⟩ kfX1_36 l_50 rfl ?_
    refine y_iconst (n := 24) (v := 1) ⟨dX1_bestSites_23, rfl⟩ ki_1 ?_
    refine y_iload_n (i := 1) (n := 25) ⟨dX1_bestSites_24, rfl⟩ rfl ?_
    refine y_ishl (n := 26) ⟨dX1_bestSites_25, rfl⟩ ?_
    refine y_ior (n := 27) ⟨dX1_bestSites_26, rfl⟩ ?_
    refine y_putI (n := 30) ⟨dX1_bestSites_27, rfl⟩ kfX1_36 l_50 (by decide +kernel) rfl ?_
    exact y_wk (L2 := [some (.ref 50), some (.int a1), some (.int a2), none, none, none]) ⟨Or.inr rfl, Or.inr rfl, Or.inr rfl, Or.inl rfl, Or.inr rfl, Or.inr rfl, trivial⟩ (w_t_cl_bestSites_30 a1 a2 (sI q3 50 9 ((gI q3 50 9) ||| ((1 : Int32) <<< (a1 &&& 31)))) hf hk)
theorem c_cl_bestSites (a1 : Int32) (a2 : Int32) (a3 : Int64) (M : dM) {o : (Int32 × dM)} {y : mz_M} {d : Nat} {Q : mz_P} {pc n i : Nat} {L : List (Option Value)} {st : List Value} (h : mz_d y.2.1 pc n 3 (.invokevirtual i)) (hl : mz_ml y.1.cls i yX1_bestSites) (hf : f_cl_bestSites a1 a2 a3 M = some o) (hd : 5 + 1 ≤ d) (hsm : (st.map (fun v => v.category)).sum ≤ 8) (hLr : mz_rL 133 L = true) (hSr : mz_rS 133 st = true) (kk : mW y d Q n L (.int o.1 :: st) o.2) : mW y d Q pc L (.long a3 :: .int a2 :: .int a1 :: .ref 50 :: st) M :=
  y_callV kmX1_bestSites kvX1_bestSites l_50 (by decide +kernel) (by decide +kernel) h hl (ok_cl_bestSites a1 a2 a3 M hf) (vs := [.int a1, .int a2, .long a3]) rfl rfl hd hsm hLr hSr kk
noncomputable def f_ax_where (a1 : Int32) (a2 : Int32) (M : dM) : Option (Int32 × dM) :=
  if a1 < 1 then
    some ((-1), M)
  else
    if 2 < a1 then
      some ((-1), M)
    else
      if a2 < 0 then
        some ((-1), M)
      else
        if a2 ≤ a1 then
          (f_ax_study 2 M).bind fun q1 =>
          (f_cl_bestSites a1 a2 (gJ q1 45 7) q1).bind fun q3 =>
          some (q3.1, q3.2)
        else
          some ((-1), M)
theorem ok_ax_where (a1 : Int32) (a2 : Int32) (M : dM) {o : (Int32 × dM)} (hf : f_ax_where a1 a2 M = some o) : mO mX11_where 6 [.ref 0, .int a1, .int a2] M (some (.int o.1)) o.2 := by
  refine y_ok (by decide +kernel) (Nat.le_of_ble_eq_true rfl) (L0 := [some (.ref 0), some (.int a1), some (.int a2)]) rfl ?_
  have hk := mR_mQ (some (.int o.1)) o.2
  generalize mQ _ _ = Q at hk ⊢
  unfold f_ax_where at hf
  refine y_iload_n (i := 1) (n := 1) ⟨dX11_where_0, rfl⟩ rfl ?_
  refine y_iconst (n := 2) (v := 1) ⟨dX11_where_1, rfl⟩ ki_1 ?_
  refine y_icmp_lt (t := 19) (n := 5) ⟨dX11_where_2, rfl, rfl⟩ (fun (hc : a1 < 1) => ?_) (fun (hc : ¬ (a1 < 1)) => ?_)
  · replace hf := i_t hc hf
    refine y_iconst (n := 20) (v := (-1)) ⟨dX11_where_19, rfl⟩ ki_m1 ?_
    cases hf
    exact y_ireturn (n := 21) ⟨dX11_where_20, rfl⟩ rfl rfl hk
  · replace hf := i_f hc hf
    refine y_iload_n (i := 1) (n := 6) ⟨dX11_where_5, rfl⟩ rfl ?_
    refine y_iconst (n := 7) (v := 2) ⟨dX11_where_6, rfl⟩ ki_2 ?_
    refine y_icmp_gt (t := 19) (n := 10) ⟨dX11_where_7, rfl, rfl⟩ (fun (hc : 2 < a1) => ?_) (fun (hc : ¬ (2 < a1)) => ?_)
    · replace hf := i_t hc hf
      refine y_iconst (n := 20) (v := (-1)) ⟨dX11_where_19, rfl⟩ ki_m1 ?_
      cases hf
      exact y_ireturn (n := 21) ⟨dX11_where_20, rfl⟩ rfl rfl hk
    · replace hf := i_f hc hf
      refine y_iload_n (i := 2) (n := 11) ⟨dX11_where_10, rfl⟩ rfl ?_
      refine y_if_lt (t := 19) (n := 14) ⟨dX11_where_11, rfl, rfl⟩ (fun (hc : a2 < 0) => ?_) (fun (hc : ¬ (a2 < 0)) => ?_)
      · replace hf := i_t hc hf
        refine y_iconst (n := 20) (v := (-1)) ⟨dX11_where_19, rfl⟩ ki_m1 ?_
        cases hf
        exact y_ireturn (n := 21) ⟨dX11_where_20, rfl⟩ rfl rfl hk
      · replace hf := i_f hc hf
        refine y_iload_n (i := 2) (n := 15) ⟨dX11_where_14, rfl⟩ rfl ?_
        refine y_iload_n (i := 1) (n := 16) ⟨dX11_where_15, rfl⟩ rfl ?_
        refine y_icmp_le (t := 21) (n := 19) ⟨dX11_where_16, rfl, rfl⟩ (fun (hc : a2 ≤ a1) => ?_) (fun (hc : ¬ (a2 ≤ a1)) => ?_)
        · replace hf := i_t hc hf
          refine y_aload_n (i := 0) (n := 22) ⟨dX11_where_21, rfl⟩ rfl ?_
          refine y_iconst (n := 23) (v := 2) ⟨dX11_where_22, rfl⟩ ki_2 ?_
          obtain ⟨q1, hv2, hf⟩ := b_s hf
          refine c_ax_study 2 M (n := 26) ⟨dX11_where_23, rfl⟩ klX11_156 hv2 (by decide) (Nat.le_of_ble_eq_true rfl) rfl rfl ?_
          refine y_aload_n (i := 0) (n := 27) ⟨dX11_where_26, rfl⟩ rfl ?_
          refine y_getR (n := 30) ⟨dX11_where_27, rfl⟩ kfX11_74 l_0 rfl r_0_8 ?_
          refine y_iload_n (i := 1) (n := 31) ⟨dX11_where_30, rfl⟩ rfl ?_
          refine y_iload_n (i := 2) (n := 32) ⟨dX11_where_31, rfl⟩ rfl ?_
          refine y_aload_n (i := 0) (n := 33) ⟨dX11_where_32, rfl⟩ rfl ?_
          refine y_getR (n := 36) ⟨dX11_where_33, rfl⟩ kfX11_65 l_0 rfl r_0_7 ?_
          refine y_getJ (n := 39) ⟨dX11_where_36, rfl⟩ kfX11_265 l_45 rfl ?_
          obtain ⟨q3, hv4, hf⟩ := b_s hf
          refine c_cl_bestSites a1 a2 (gJ q1 45 7) q1 (n := 42) ⟨dX11_where_39, rfl⟩ klX11_276 hv4 (by decide) (Nat.le_of_ble_eq_true rfl) rfl rfl ?_
          cases hf
          exact y_ireturn (n := 43) ⟨dX11_where_42, rfl⟩ rfl rfl hk
        · replace hf := i_f hc hf
          refine y_iconst (n := 20) (v := (-1)) ⟨dX11_where_19, rfl⟩ ki_m1 ?_
          cases hf
          exact y_ireturn (n := 21) ⟨dX11_where_20, rfl⟩ rfl rfl hk
theorem c_ax_where (a1 : Int32) (a2 : Int32) (M : dM) {o : (Int32 × dM)} {y : mz_M} {d : Nat} {Q : mz_P} {pc n i : Nat} {L : List (Option Value)} {st : List Value} (h : mz_d y.2.1 pc n 3 (.invokevirtual i)) (hl : mz_ml y.1.cls i yX11_where) (hf : f_ax_where a1 a2 M = some o) (hd : 6 + 1 ≤ d) (hsm : (st.map (fun v => v.category)).sum ≤ 8) (hLr : mz_rL 133 L = true) (hSr : mz_rS 133 st = true) (kk : mW y d Q n L (.int o.1 :: st) o.2) : mW y d Q pc L (.int a2 :: .int a1 :: .ref 0 :: st) M :=
  y_callV kmX11_where kvX11_where l_0 (by decide +kernel) (by decide +kernel) h hl (ok_ax_where a1 a2 M hf) (vs := [.int a1, .int a2]) rfl rfl hd hsm hLr hSr kk
def K_sy_rulesAgainst_4 (Q : mz_P) (x1 : Int32) : ((Int32 × Int32 × dM) ⊕ (Int32 × dM)) → Prop
  | .inl s => mW mX8_rulesAgainst 4 Q 4 [some (.ref 45), some (.int x1), some (.int s.1), some (.int s.2.1)] [] s.2.2
  | .inr r => mR Q (some (.int r.1)) r.2
noncomputable def b_sy_rulesAgainst_4_4 (x1 : Int32) (x2 : Int32) (x3 : Int32) (M : dM) : Option ((Int32 × Int32 × dM) ⊕ (Int32 × dM)) :=
  if 8 ≤ x3 then
    some (.inr (x2, M))
  else
    (f_la_isTold_27 (12 + x3) M).bind fun v1 =>
    if v1 = true then
      (f_ju_isStopped x3 x1 M).bind fun q3 =>
      if q3.1 = true then
        some (.inl ((x2 ||| ((1 : Int32) <<< (x3 &&& 31))), (x3 + 1), q3.2))
      else
        some (.inl (x2, (x3 + 1), q3.2))
    else
      some (.inl (x2, (x3 + 1), M))
noncomputable def l_sy_rulesAgainst_4 (x1 : Int32) (x2 : Int32) (x3 : Int32) (M : dM) : Option (Int32 × dM) := lpc (fun s => b_sy_rulesAgainst_4_4 x1 s.1 s.2.1 s.2.2) (x2, x3, M)
noncomputable def f_sy_rulesAgainst (a1 : Int32) (M : dM) : Option (Int32 × dM) :=
  (l_sy_rulesAgainst_4 a1 0 0 M).bind fun r7 => some r7
theorem w_b_sy_rulesAgainst_4_4 (x1 : Int32) (x2 : Int32) (x3 : Int32)  (M : dM) {Q : mz_P} {o : ((Int32 × Int32 × dM) ⊕ (Int32 × dM))} (hf : b_sy_rulesAgainst_4_4 x1 x2 x3 M = some o) (hk : K_sy_rulesAgainst_4 Q x1 o) : mW mX8_rulesAgainst 4 Q 4 [some (.ref 45), some (.int x1), some (.int x2), some (.int x3)] [] M := by
  unfold b_sy_rulesAgainst_4_4 at hf
  refine y_iload_n (i := 3) (n := 5) ⟨dX8_rulesAgainst_4, rfl⟩ rfl ?_
  refine y_bipush (n := 7) (v := 8) ⟨dX8_rulesAgainst_5, rfl⟩ kb_8 ?_
  refine y_icmp_ge (t := 48) (n := 10) ⟨dX8_rulesAgainst_7, rfl, rfl⟩ (fun (hc : 8 ≤ x3) => ?_) (fun (hc : ¬ (8 ≤ x3)) => ?_)
  · replace hf := i_t hc hf
    refine y_iload_n (i := 2) (n := 49) ⟨dX8_rulesAgainst_48, rfl⟩ rfl ?_
    cases hf
    exact y_ireturn (n := 50) ⟨dX8_rulesAgainst_49, rfl⟩ rfl rfl hk
  · replace hf := i_f hc hf
    refine y_aload_n (i := 0) (n := 11) ⟨dX8_rulesAgainst_10, rfl⟩ rfl ?_
    refine y_getR (n := 14) ⟨dX8_rulesAgainst_11, rfl⟩ kfX8_33 l_45 rfl r_45_2 ?_
    refine y_bipush (n := 16) (v := 12) ⟨dX8_rulesAgainst_14, rfl⟩ kb_12 ?_
    refine y_iload_n (i := 3) (n := 17) ⟨dX8_rulesAgainst_16, rfl⟩ rfl ?_
    refine y_iadd (n := 18) ⟨dX8_rulesAgainst_17, rfl⟩ ?_
    obtain ⟨v1, hv2, hf⟩ := b_s hf
    refine c_la_isTold_27 (12 + x3) M (n := 21) ⟨dX8_rulesAgainst_18, rfl⟩ klX8_160 hv2 (by decide) (Nat.le_of_ble_eq_true rfl) rfl rfl ?_
    refine y_if_eq (t := 42) (n := 24) ⟨dX8_rulesAgainst_21, rfl, rfl⟩ (fun h0 => ?_) (fun h0 => ?_)
    · have hc := bI_0 h0
      replace hf := i_f hc hf
      refine y_iinc (i := 3) (n := 45) (b := (x3 + 1)) (L2 := [some (.ref 45), some (.int x1), some (.int x2), some (.int (x3 + 1))]) ⟨dX8_rulesAgainst_42, rfl⟩ rfl (by rw [ki_1]) (by decide) rfl rfl ?_
      refine y_goto (t := 4) ⟨dX8_rulesAgainst_45, rfl, rfl⟩ ?_
      cases hf
      exact y_wk (L2 := [some (.ref 45), some (.int x1), some (.int x2), some (.int (x3 + 1))]) ⟨Or.inr rfl, Or.inr rfl, Or.inr rfl, Or.inr rfl, trivial⟩ hk
    · have hc := bI_1 h0
      replace hf := i_t hc hf
      refine y_aload_n (i := 0) (n := 25) ⟨dX8_rulesAgainst_24, rfl⟩ rfl ?_
      refine y_getR (n := 28) ⟨dX8_rulesAgainst_25, rfl⟩ kfX8_37 l_45 rfl r_45_3 ?_
      refine y_iload_n (i := 3) (n := 29) ⟨dX8_rulesAgainst_28, rfl⟩ rfl ?_
      refine y_iload_n (i := 1) (n := 30) ⟨dX8_rulesAgainst_29, rfl⟩ rfl ?_
      obtain ⟨q3, hv4, hf⟩ := b_s hf
      refine c_ju_isStopped x3 x1 M (n := 33) ⟨dX8_rulesAgainst_30, rfl⟩ klX8_164 hv4 (by decide) (Nat.le_of_ble_eq_true rfl) rfl rfl ?_
      refine y_if_eq (t := 42) (n := 36) ⟨dX8_rulesAgainst_33, rfl, rfl⟩ (fun h0 => ?_) (fun h0 => ?_)
      · have hc := bI_0 h0
        replace hf := i_f hc hf
        refine y_iinc (i := 3) (n := 45) (b := (x3 + 1)) (L2 := [some (.ref 45), some (.int x1), some (.int x2), some (.int (x3 + 1))]) ⟨dX8_rulesAgainst_42, rfl⟩ rfl (by rw [ki_1]) (by decide) rfl rfl ?_
        refine y_goto (t := 4) ⟨dX8_rulesAgainst_45, rfl, rfl⟩ ?_
        cases hf
        exact y_wk (L2 := [some (.ref 45), some (.int x1), some (.int x2), some (.int (x3 + 1))]) ⟨Or.inr rfl, Or.inr rfl, Or.inr rfl, Or.inr rfl, trivial⟩ hk
      · have hc := bI_1 h0
        replace hf := i_t hc hf
        refine y_iload_n (i := 2) (n := 37) ⟨dX8_rulesAgainst_36, rfl⟩ rfl ?_
        refine y_iconst (n := 38) (v := 1) ⟨dX8_rulesAgainst_37, rfl⟩ ki_1 ?_
        refine y_iload_n (i := 3) (n := 39) ⟨dX8_rulesAgainst_38, rfl⟩ rfl ?_
        refine y_ishl (n := 40) ⟨dX8_rulesAgainst_39, rfl⟩ ?_
        refine y_ior (n := 41) ⟨dX8_rulesAgainst_40, rfl⟩ ?_
        refine y_istore_n (i := 2) (n := 42) (L2 := [some (.ref 45), some (.int x1), some (.int (x2 ||| ((1 : Int32) <<< (x3 &&& 31)))), some (.int x3)]) ⟨dX8_rulesAgainst_41, rfl⟩ (by decide) rfl rfl ?_
        refine y_iinc (i := 3) (n := 45) (b := (x3 + 1)) (L2 := [some (.ref 45), some (.int x1), some (.int (x2 ||| ((1 : Int32) <<< (x3 &&& 31)))), some (.int (x3 + 1))]) ⟨dX8_rulesAgainst_42, rfl⟩ rfl (by rw [ki_1]) (by decide) rfl rfl ?_
        refine y_goto (t := 4) ⟨dX8_rulesAgainst_45, rfl, rfl⟩ ?_
        cases hf
        exact y_wk (L2 := [some (.ref 45), some (.int x1), some (.int (x2 ||| ((1 : Int32) <<< (x3 &&& 31)))), some (.int (x3 + 1))]) ⟨Or.inr rfl, Or.inr rfl, Or.inr rfl, Or.inr rfl, trivial⟩ hk
theorem wl_sy_rulesAgainst_4 (x1 : Int32) (x2 : Int32) (x3 : Int32) (M : dM) {Q : mz_P} {x : (Int32 × dM)} (hf : l_sy_rulesAgainst_4 x1 x2 x3 M = some x) (hk : K_sy_rulesAgainst_4 Q x1 (.inr x)) : mW mX8_rulesAgainst 4 Q 4 [some (.ref 45), some (.int x1), some (.int x2), some (.int x3)] [] M :=
  lpc_wp (σ := (Int32 × Int32 × dM)) (ξ := (Int32 × dM)) (s := (x2, x3, M)) (Wh := fun s => mW mX8_rulesAgainst 4 Q 4 [some (.ref 45), some (.int x1), some (.int s.1), some (.int s.2.1)] [] s.2.2) (K := K_sy_rulesAgainst_4 Q x1) (fun _ h => h) (fun s o hb hk => w_b_sy_rulesAgainst_4_4 x1 s.1 s.2.1 s.2.2 hb hk) hf hk
theorem ok_sy_rulesAgainst (a1 : Int32) (M : dM) {o : (Int32 × dM)} (hf : f_sy_rulesAgainst a1 M = some o) : mO mX8_rulesAgainst 4 [.ref 45, .int a1] M (some (.int o.1)) o.2 := by
  refine y_ok (by decide +kernel) (Nat.le_of_ble_eq_true rfl) (L0 := [some (.ref 45), some (.int a1), none, none]) rfl ?_
  have hk := mR_mQ (some (.int o.1)) o.2
  generalize mQ _ _ = Q at hk ⊢
  unfold f_sy_rulesAgainst at hf
  refine y_iconst (n := 1) (v := 0) ⟨dX8_rulesAgainst_0, rfl⟩ ki_0 ?_
  refine y_istore_n (i := 2) (n := 2) (L2 := [some (.ref 45), some (.int a1), some (.int 0), none]) ⟨dX8_rulesAgainst_1, rfl⟩ (by decide) rfl rfl ?_
  refine y_iconst (n := 3) (v := 0) ⟨dX8_rulesAgainst_2, rfl⟩ ki_0 ?_
  refine y_istore_n (i := 3) (n := 4) (L2 := [some (.ref 45), some (.int a1), some (.int 0), some (.int 0)]) ⟨dX8_rulesAgainst_3, rfl⟩ (by decide) rfl rfl ?_
  obtain ⟨r7, hl6, hf⟩ := b_s hf
  cases hf
  exact y_wk (L2 := [some (.ref 45), some (.int a1), some (.int 0), some (.int 0)]) ⟨Or.inr rfl, Or.inr rfl, Or.inr rfl, Or.inr rfl, trivial⟩ (wl_sy_rulesAgainst_4 a1 0 0 M hl6 hk)
theorem c_sy_rulesAgainst (a1 : Int32) (M : dM) {o : (Int32 × dM)} {y : mz_M} {d : Nat} {Q : mz_P} {pc n i : Nat} {L : List (Option Value)} {st : List Value} (h : mz_d y.2.1 pc n 3 (.invokevirtual i)) (hl : mz_ml y.1.cls i yX8_rulesAgainst) (hf : f_sy_rulesAgainst a1 M = some o) (hd : 4 + 1 ≤ d) (hsm : (st.map (fun v => v.category)).sum ≤ 8) (hLr : mz_rL 133 L = true) (hSr : mz_rS 133 st = true) (kk : mW y d Q n L (.int o.1 :: st) o.2) : mW y d Q pc L (.int a1 :: .ref 45 :: st) M :=
  y_callV kmX8_rulesAgainst kvX8_rulesAgainst l_45 (by decide +kernel) (by decide +kernel) h hl (ok_sy_rulesAgainst a1 M hf) (vs := [.int a1]) rfl rfl hd hsm hLr hSr kk
def K_sy_stopsAll_2 (Q : mz_P) (x1 : Int32) (x2 : Int32) (M : dM) : (Int32 ⊕ Bool) → Prop
  | .inl s => mW mX8_stopsAll 1 Q 2 [some (.ref 45), some (.int x1), some (.int x2), some (.int s)] [] M
  | .inr r => mR Q (some (.int (bI r))) M
noncomputable def b_sy_stopsAll_2_2 (x1 : Int32) (x2 : Int32) (x3 : Int32) (M : dM) : Option (Int32 ⊕ Bool) :=
  if x2 ≤ x3 then
    some (.inr true)
  else
    gd (vp_in x3 40) <|
    if ((gI M 49 x3.toNatClampNeg) &&& x1) = 0 then
      some (.inr false)
    else
      some (.inl (x3 + 1))
noncomputable def l_sy_stopsAll_2 (x1 : Int32) (x2 : Int32) (x3 : Int32) (M : dM) : Option Bool := lpc (fun s => b_sy_stopsAll_2_2 x1 x2 s M) x3
noncomputable def f_sy_stopsAll (a1 : Int32) (a2 : Int32) (M : dM) : Option Bool :=
  (l_sy_stopsAll_2 a1 a2 0 M).bind fun r4 => some r4
theorem w_b_sy_stopsAll_2_2 (x1 : Int32) (x2 : Int32) (x3 : Int32)  (M : dM) {Q : mz_P} {o : (Int32 ⊕ Bool)} (hf : b_sy_stopsAll_2_2 x1 x2 x3 M = some o) (hk : K_sy_stopsAll_2 Q x1 x2 M o) : mW mX8_stopsAll 1 Q 2 [some (.ref 45), some (.int x1), some (.int x2), some (.int x3)] [] M := by
  unfold b_sy_stopsAll_2_2 at hf
  refine y_iload_n (i := 3) (n := 3) ⟨dX8_stopsAll_2, rfl⟩ rfl ?_
  refine y_iload_n (i := 2) (n := 4) ⟨dX8_stopsAll_3, rfl⟩ rfl ?_
  refine y_icmp_ge (t := 26) (n := 7) ⟨dX8_stopsAll_4, rfl, rfl⟩ (fun (hc : x2 ≤ x3) => ?_) (fun (hc : ¬ (x2 ≤ x3)) => ?_)
  · replace hf := i_t hc hf
    refine y_iconst (n := 27) (v := 1) ⟨dX8_stopsAll_26, rfl⟩ ki_1 ?_
    cases hf
    exact y_ireturn (n := 28) ⟨dX8_stopsAll_27, rfl⟩ rfl rfl hk
  · replace hf := i_f hc hf
    refine y_aload_n (i := 0) (n := 8) ⟨dX8_stopsAll_7, rfl⟩ rfl ?_
    refine y_getR (n := 11) ⟨dX8_stopsAll_8, rfl⟩ kfX8_22 l_45 rfl r_45_14 ?_
    refine y_iload_n (i := 3) (n := 12) ⟨dX8_stopsAll_11, rfl⟩ rfl ?_
    obtain ⟨hg1, hf⟩ := g_s hf
    refine y_iaload (n := 13) ⟨dX8_stopsAll_12, rfl⟩ l_49 hg1 ?_
    refine y_iload_n (i := 1) (n := 14) ⟨dX8_stopsAll_13, rfl⟩ rfl ?_
    refine y_iand (n := 15) ⟨dX8_stopsAll_14, rfl⟩ ?_
    refine y_if_ne (t := 20) (n := 18) ⟨dX8_stopsAll_15, rfl, rfl⟩ (fun (hc : ¬ (((gI M 49 x3.toNatClampNeg) &&& x1) = 0)) => ?_) (fun (hc : ((gI M 49 x3.toNatClampNeg) &&& x1) = 0) => ?_)
    · replace hf := i_f hc hf
      refine y_iinc (i := 3) (n := 23) (b := (x3 + 1)) (L2 := [some (.ref 45), some (.int x1), some (.int x2), some (.int (x3 + 1))]) ⟨dX8_stopsAll_20, rfl⟩ rfl (by rw [ki_1]) (by decide) rfl rfl ?_
      refine y_goto (t := 2) ⟨dX8_stopsAll_23, rfl, rfl⟩ ?_
      cases hf
      exact y_wk (L2 := [some (.ref 45), some (.int x1), some (.int x2), some (.int (x3 + 1))]) ⟨Or.inr rfl, Or.inr rfl, Or.inr rfl, Or.inr rfl, trivial⟩ hk
    · replace hf := i_t hc hf
      refine y_iconst (n := 19) (v := 0) ⟨dX8_stopsAll_18, rfl⟩ ki_0 ?_
      cases hf
      exact y_ireturn (n := 20) ⟨dX8_stopsAll_19, rfl⟩ rfl rfl hk
theorem wl_sy_stopsAll_2 (x1 : Int32) (x2 : Int32) (x3 : Int32) (M : dM) {Q : mz_P} {x : Bool} (hf : l_sy_stopsAll_2 x1 x2 x3 M = some x) (hk : K_sy_stopsAll_2 Q x1 x2 M (.inr x)) : mW mX8_stopsAll 1 Q 2 [some (.ref 45), some (.int x1), some (.int x2), some (.int x3)] [] M :=
  lpc_wp (σ := Int32) (ξ := Bool) (s := x3) (Wh := fun s => mW mX8_stopsAll 1 Q 2 [some (.ref 45), some (.int x1), some (.int x2), some (.int s)] [] M) (K := K_sy_stopsAll_2 Q x1 x2 M) (fun _ h => h) (fun s o hb hk => w_b_sy_stopsAll_2_2 x1 x2 s M hb hk) hf hk
theorem ok_sy_stopsAll (a1 : Int32) (a2 : Int32) (M : dM) {o : Bool} (hf : f_sy_stopsAll a1 a2 M = some o) : mO mX8_stopsAll 1 [.ref 45, .int a1, .int a2] M (some (.int (bI o))) M := by
  refine y_ok (by decide +kernel) (Nat.le_of_ble_eq_true rfl) (L0 := [some (.ref 45), some (.int a1), some (.int a2), none]) rfl ?_
  have hk := mR_mQ (some (.int (bI o))) M
  generalize mQ _ _ = Q at hk ⊢
  unfold f_sy_stopsAll at hf
  refine y_iconst (n := 1) (v := 0) ⟨dX8_stopsAll_0, rfl⟩ ki_0 ?_
  refine y_istore_n (i := 3) (n := 2) (L2 := [some (.ref 45), some (.int a1), some (.int a2), some (.int 0)]) ⟨dX8_stopsAll_1, rfl⟩ (by decide) rfl rfl ?_
  obtain ⟨r4, hl3, hf⟩ := b_s hf
  cases hf
  exact y_wk (L2 := [some (.ref 45), some (.int a1), some (.int a2), some (.int 0)]) ⟨Or.inr rfl, Or.inr rfl, Or.inr rfl, Or.inr rfl, trivial⟩ (wl_sy_stopsAll_2 a1 a2 0 M hl3 hk)
theorem c_sy_stopsAll (a1 : Int32) (a2 : Int32) (M : dM) {o : Bool} {y : mz_M} {d : Nat} {Q : mz_P} {pc n i : Nat} {L : List (Option Value)} {st : List Value} (h : mz_d y.2.1 pc n 3 (.invokevirtual i)) (hl : mz_ml y.1.cls i yX8_stopsAll) (hf : f_sy_stopsAll a1 a2 M = some o) (hd : 1 + 1 ≤ d) (hsm : (st.map (fun v => v.category)).sum ≤ 8) (hLr : mz_rL 133 L = true) (hSr : mz_rS 133 st = true) (kk : mW y d Q n L (.int (bI o) :: st) M) : mW y d Q pc L (.int a2 :: .int a1 :: .ref 45 :: st) M :=
  y_callV kmX8_stopsAll kvX8_stopsAll l_45 (by decide +kernel) (by decide +kernel) h hl (ok_sy_stopsAll a1 a2 M hf) (vs := [.int a1, .int a2]) rfl rfl hd hsm hLr hSr kk
def K_sy_leastRules_4 (Q : mz_P)  : ((Int32 × Int32 × dM) ⊕ (Int32 × dM)) → Prop
  | .inl s => mW mX8_leastRules 5 Q 4 [some (.ref 45), some (.int s.1), some (.int s.2.1), none, none] [] s.2.2
  | .inr t => mW mX8_leastRules 5 Q 55 [some (.ref 45), some (.int t.1), none, none, none] [] t.2
noncomputable def b_sy_leastRules_4_4 (x1 : Int32) (x2 : Int32) (M : dM) : Option ((Int32 × Int32 × dM) ⊕ (Int32 × dM)) :=
  if (gI M 12 7) ≤ x2 then
    some (.inr (x1, M))
  else
    if (f_ax_hasBit (gJ M 45 7) x2) = true then
      gd (vp_in x2 40) <|
      if (gI M 46 x2.toNatClampNeg) = 0 then
        some (.inl (x1, (x2 + 1), M))
      else
        (f_sy_rulesAgainst x2 M).bind fun q2 =>
        gd (vp_in x1 40) <|
        some (.inl ((x1 + 1), (x2 + 1), (sI q2.2 49 x1.toNatClampNeg q2.1)))
    else
      some (.inl (x1, (x2 + 1), M))
noncomputable def l_sy_leastRules_4 (x1 : Int32) (x2 : Int32) (M : dM) : Option (Int32 × dM) := lpc (fun s => b_sy_leastRules_4_4 s.1 s.2.1 s.2.2) (x1, x2, M)
def K_sy_leastRules_59 (Q : mz_P) (x1 : Int32) (M : dM) : ((Int32 × Int32) ⊕ (Int32 × dM)) → Prop
  | .inl s => mW mX8_leastRules 5 Q 59 [some (.ref 45), some (.int x1), some (.int s.1), some (.int s.2), none] [] M
  | .inr r => mR Q (some (.int r.1)) r.2
noncomputable def b_sy_leastRules_59_87 (x1 : Int32) (x2 : Int32) (x3 : Int32) (y0 : Int32) (M : dM) : Option ((Int32 × Int32) ⊕ (Int32 × dM)) :=
  if y0 = 0 then
    some (.inl (x2, (x3 + 1)))
  else
    (f_sy_stopsAll x3 x1 M).bind fun v8 =>
    if v8 = true then
      some (.inl (x3, (x3 + 1)))
    else
      some (.inl (x2, (x3 + 1)))
noncomputable def b_sy_leastRules_59_82 (x1 : Int32) (x2 : Int32) (x3 : Int32) (M : dM) : Option ((Int32 × Int32) ⊕ (Int32 × dM)) :=
  b_sy_leastRules_59_87 x1 x2 x3 1 M
noncomputable def b_sy_leastRules_59_59 (x1 : Int32) (x2 : Int32) (x3 : Int32) (M : dM) : Option ((Int32 × Int32) ⊕ (Int32 × dM)) :=
  if 256 ≤ x3 then
    some (.inr (x2, M))
  else
    if x2 = (-1) then
      b_sy_leastRules_59_82 x1 x2 x3 M
    else
      if (f_jd_bitCount_0f7a4 x2) ≤ (f_jd_bitCount_0f7a4 x3) then
        b_sy_leastRules_59_87 x1 x2 x3 0 M
      else
        b_sy_leastRules_59_82 x1 x2 x3 M
noncomputable def l_sy_leastRules_59 (x1 : Int32) (x2 : Int32) (x3 : Int32) (M : dM) : Option (Int32 × dM) := lpc (fun s => b_sy_leastRules_59_59 x1 s.1 s.2 M) (x2, x3)
noncomputable def f_sy_leastRules (M : dM) : Option (Int32 × dM) :=
  (l_sy_leastRules_4 0 0 M).bind fun t5 =>
    (l_sy_leastRules_59 t5.1 (-1) 0 t5.2).bind fun r12 => some r12
theorem w_b_sy_leastRules_4_4 (x1 : Int32) (x2 : Int32)  (M : dM) {Q : mz_P} {o : ((Int32 × Int32 × dM) ⊕ (Int32 × dM))} (hf : b_sy_leastRules_4_4 x1 x2 M = some o) (hk : K_sy_leastRules_4 Q  o) : mW mX8_leastRules 5 Q 4 [some (.ref 45), some (.int x1), some (.int x2), none, none] [] M := by
  unfold b_sy_leastRules_4_4 at hf
  refine y_iload_n (i := 2) (n := 5) ⟨dX8_leastRules_4, rfl⟩ rfl ?_
  refine y_aload_n (i := 0) (n := 6) ⟨dX8_leastRules_5, rfl⟩ rfl ?_
  refine y_getR (n := 9) ⟨dX8_leastRules_6, rfl⟩ kfX8_29 l_45 rfl r_45_1 ?_
  refine y_getI (n := 12) ⟨dX8_leastRules_9, rfl⟩ kfX8_45 l_12 rfl ?_
  refine y_icmp_ge (t := 55) (n := 15) ⟨dX8_leastRules_12, rfl, rfl⟩ (fun (hc : (gI M 12 7) ≤ x2) => ?_) (fun (hc : ¬ ((gI M 12 7) ≤ x2)) => ?_)
  · replace hf := i_t hc hf
    cases hf
    exact y_wk (L2 := [some (.ref 45), some (.int x1), none, none, none]) ⟨Or.inr rfl, Or.inr rfl, Or.inl rfl, Or.inr rfl, Or.inr rfl, trivial⟩ hk
  · replace hf := i_f hc hf
    refine y_aload_n (i := 0) (n := 16) ⟨dX8_leastRules_15, rfl⟩ rfl ?_
    refine y_getJ (n := 19) ⟨dX8_leastRules_16, rfl⟩ kfX8_149 l_45 rfl ?_
    refine y_iload_n (i := 2) (n := 20) ⟨dX8_leastRules_19, rfl⟩ rfl ?_
    refine c_ax_hasBit (gJ M 45 7) x2 M (n := 23) ⟨dX8_leastRules_20, rfl⟩ klX8_114 rfl (by decide) (Nat.le_of_ble_eq_true rfl) rfl rfl ?_
    refine y_if_eq (t := 49) (n := 26) ⟨dX8_leastRules_23, rfl, rfl⟩ (fun h0 => ?_) (fun h0 => ?_)
    · have hc := bI_0 h0
      replace hf := i_f hc hf
      refine y_iinc (i := 2) (n := 52) (b := (x2 + 1)) (L2 := [some (.ref 45), some (.int x1), some (.int (x2 + 1)), none, none]) ⟨dX8_leastRules_49, rfl⟩ rfl (by rw [ki_1]) (by decide) rfl rfl ?_
      refine y_goto (t := 4) ⟨dX8_leastRules_52, rfl, rfl⟩ ?_
      cases hf
      exact y_wk (L2 := [some (.ref 45), some (.int x1), some (.int (x2 + 1)), none, none]) ⟨Or.inr rfl, Or.inr rfl, Or.inr rfl, Or.inr rfl, Or.inr rfl, trivial⟩ hk
    · have hc := bI_1 h0
      replace hf := i_t hc hf
      refine y_aload_n (i := 0) (n := 27) ⟨dX8_leastRules_26, rfl⟩ rfl ?_
      refine y_getR (n := 30) ⟨dX8_leastRules_27, rfl⟩ kfX8_9 l_45 rfl r_45_4 ?_
      refine y_iload_n (i := 2) (n := 31) ⟨dX8_leastRules_30, rfl⟩ rfl ?_
      obtain ⟨hg1, hf⟩ := g_s hf
      refine y_iaload (n := 32) ⟨dX8_leastRules_31, rfl⟩ l_46 hg1 ?_
      refine y_if_eq (t := 49) (n := 35) ⟨dX8_leastRules_32, rfl, rfl⟩ (fun (hc : (gI M 46 x2.toNatClampNeg) = 0) => ?_) (fun (hc : ¬ ((gI M 46 x2.toNatClampNeg) = 0)) => ?_)
      · replace hf := i_t hc hf
        refine y_iinc (i := 2) (n := 52) (b := (x2 + 1)) (L2 := [some (.ref 45), some (.int x1), some (.int (x2 + 1)), none, none]) ⟨dX8_leastRules_49, rfl⟩ rfl (by rw [ki_1]) (by decide) rfl rfl ?_
        refine y_goto (t := 4) ⟨dX8_leastRules_52, rfl, rfl⟩ ?_
        cases hf
        exact y_wk (L2 := [some (.ref 45), some (.int x1), some (.int (x2 + 1)), none, none]) ⟨Or.inr rfl, Or.inr rfl, Or.inr rfl, Or.inr rfl, Or.inr rfl, trivial⟩ hk
      · replace hf := i_f hc hf
        refine y_aload_n (i := 0) (n := 36) ⟨dX8_leastRules_35, rfl⟩ rfl ?_
        refine y_getR (n := 39) ⟨dX8_leastRules_36, rfl⟩ kfX8_22 l_45 rfl r_45_14 ?_
        refine y_iload_n (i := 1) (n := 40) ⟨dX8_leastRules_39, rfl⟩ rfl ?_
        refine y_aload_n (i := 0) (n := 41) ⟨dX8_leastRules_40, rfl⟩ rfl ?_
        refine y_iload_n (i := 2) (n := 42) ⟨dX8_leastRules_41, rfl⟩ rfl ?_
        obtain ⟨q2, hv3, hf⟩ := b_s hf
        refine c_sy_rulesAgainst x2 M (n := 45) ⟨dX8_leastRules_42, rfl⟩ klX8_153 hv3 (by decide) (Nat.le_of_ble_eq_true rfl) rfl rfl ?_
        obtain ⟨hg4, hf⟩ := g_s hf
        refine y_iastore (n := 46) ⟨dX8_leastRules_45, rfl⟩ l_49 hg4 ?_
        refine y_iinc (i := 1) (n := 49) (b := (x1 + 1)) (L2 := [some (.ref 45), some (.int (x1 + 1)), some (.int x2), none, none]) ⟨dX8_leastRules_46, rfl⟩ rfl (by rw [ki_1]) (by decide) rfl rfl ?_
        refine y_iinc (i := 2) (n := 52) (b := (x2 + 1)) (L2 := [some (.ref 45), some (.int (x1 + 1)), some (.int (x2 + 1)), none, none]) ⟨dX8_leastRules_49, rfl⟩ rfl (by rw [ki_1]) (by decide) rfl rfl ?_
        refine y_goto (t := 4) ⟨dX8_leastRules_52, rfl, rfl⟩ ?_
        cases hf
        exact y_wk (L2 := [some (.ref 45), some (.int (x1 + 1)), some (.int (x2 + 1)), none, none]) ⟨Or.inr rfl, Or.inr rfl, Or.inr rfl, Or.inr rfl, Or.inr rfl, trivial⟩ hk
theorem wl_sy_leastRules_4 (x1 : Int32) (x2 : Int32) (M : dM) {Q : mz_P} {x : (Int32 × dM)} (hf : l_sy_leastRules_4 x1 x2 M = some x) (hk : K_sy_leastRules_4 Q  (.inr x)) : mW mX8_leastRules 5 Q 4 [some (.ref 45), some (.int x1), some (.int x2), none, none] [] M :=
  lpc_wp (σ := (Int32 × Int32 × dM)) (ξ := (Int32 × dM)) (s := (x1, x2, M)) (Wh := fun s => mW mX8_leastRules 5 Q 4 [some (.ref 45), some (.int s.1), some (.int s.2.1), none, none] [] s.2.2) (K := K_sy_leastRules_4 Q ) (fun _ h => h) (fun s o hb hk => w_b_sy_leastRules_4_4 s.1 s.2.1 s.2.2 hb hk) hf hk
theorem w_b_sy_leastRules_59_87 (x1 : Int32) (x2 : Int32) (x3 : Int32) (y0 : Int32)  (M : dM) {Q : mz_P} {o : ((Int32 × Int32) ⊕ (Int32 × dM))} (hf : b_sy_leastRules_59_87 x1 x2 x3 y0 M = some o) (hk : K_sy_leastRules_59 Q x1 M o) : mW mX8_leastRules 5 Q 87 [some (.ref 45), some (.int x1), some (.int x2), some (.int x3), none] [.int y0] M := by
  unfold b_sy_leastRules_59_87 at hf
  refine y_istore (i := 4) (n := 89) (L2 := [some (.ref 45), some (.int x1), some (.int x2), some (.int x3), some (.int y0)]) ⟨dX8_leastRules_87, rfl⟩ (by decide) rfl rfl ?_
  refine y_iload (i := 4) (n := 91) ⟨dX8_leastRules_89, rfl⟩ rfl ?_
  refine y_if_eq (t := 105) (n := 94) ⟨dX8_leastRules_91, rfl, rfl⟩ (fun (hc : y0 = 0) => ?_) (fun (hc : ¬ (y0 = 0)) => ?_)
  · replace hf := i_t hc hf
    refine y_iinc (i := 3) (n := 108) (b := (x3 + 1)) (L2 := [some (.ref 45), some (.int x1), some (.int x2), some (.int (x3 + 1)), some (.int y0)]) ⟨dX8_leastRules_105, rfl⟩ rfl (by rw [ki_1]) (by decide) rfl rfl ?_
    refine y_goto (t := 59) ⟨dX8_leastRules_108, rfl, rfl⟩ ?_
    cases hf
    exact y_wk (L2 := [some (.ref 45), some (.int x1), some (.int x2), some (.int (x3 + 1)), none]) ⟨Or.inr rfl, Or.inr rfl, Or.inr rfl, Or.inr rfl, Or.inl rfl, trivial⟩ hk
  · replace hf := i_f hc hf
    refine y_aload_n (i := 0) (n := 95) ⟨dX8_leastRules_94, rfl⟩ rfl ?_
    refine y_iload_n (i := 3) (n := 96) ⟨dX8_leastRules_95, rfl⟩ rfl ?_
    refine y_iload_n (i := 1) (n := 97) ⟨dX8_leastRules_96, rfl⟩ rfl ?_
    obtain ⟨v8, hv9, hf⟩ := b_s hf
    refine c_sy_stopsAll x3 x1 M (n := 100) ⟨dX8_leastRules_97, rfl⟩ klX8_156 hv9 (by decide) (Nat.le_of_ble_eq_true rfl) rfl rfl ?_
    refine y_if_eq (t := 105) (n := 103) ⟨dX8_leastRules_100, rfl, rfl⟩ (fun h0 => ?_) (fun h0 => ?_)
    · have hc := bI_0 h0
      replace hf := i_f hc hf
      refine y_iinc (i := 3) (n := 108) (b := (x3 + 1)) (L2 := [some (.ref 45), some (.int x1), some (.int x2), some (.int (x3 + 1)), some (.int y0)]) ⟨dX8_leastRules_105, rfl⟩ rfl (by rw [ki_1]) (by decide) rfl rfl ?_
      refine y_goto (t := 59) ⟨dX8_leastRules_108, rfl, rfl⟩ ?_
      cases hf
      exact y_wk (L2 := [some (.ref 45), some (.int x1), some (.int x2), some (.int (x3 + 1)), none]) ⟨Or.inr rfl, Or.inr rfl, Or.inr rfl, Or.inr rfl, Or.inl rfl, trivial⟩ hk
    · have hc := bI_1 h0
      replace hf := i_t hc hf
      refine y_iload_n (i := 3) (n := 104) ⟨dX8_leastRules_103, rfl⟩ rfl ?_
      refine y_istore_n (i := 2) (n := 105) (L2 := [some (.ref 45), some (.int x1), some (.int x3), some (.int x3), some (.int y0)]) ⟨dX8_leastRules_104, rfl⟩ (by decide) rfl rfl ?_
      refine y_iinc (i := 3) (n := 108) (b := (x3 + 1)) (L2 := [some (.ref 45), some (.int x1), some (.int x3), some (.int (x3 + 1)), some (.int y0)]) ⟨dX8_leastRules_105, rfl⟩ rfl (by rw [ki_1]) (by decide) rfl rfl ?_
      refine y_goto (t := 59) ⟨dX8_leastRules_108, rfl, rfl⟩ ?_
      cases hf
      exact y_wk (L2 := [some (.ref 45), some (.int x1), some (.int x3), some (.int (x3 + 1)), none]) ⟨Or.inr rfl, Or.inr rfl, Or.inr rfl, Or.inr rfl, Or.inl rfl, trivial⟩ hk
theorem w_b_sy_leastRules_59_82 (x1 : Int32) (x2 : Int32) (x3 : Int32)  (M : dM) {Q : mz_P} {o : ((Int32 × Int32) ⊕ (Int32 × dM))} (hf : b_sy_leastRules_59_82 x1 x2 x3 M = some o) (hk : K_sy_leastRules_59 Q x1 M o) : mW mX8_leastRules 5 Q 82 [some (.ref 45), some (.int x1), some (.int x2), some (.int x3), none] [] M := by
  unfold b_sy_leastRules_59_82 at hf
  refine y_iconst (n := 83) (v := 1) ⟨dX8_leastRules_82, rfl⟩ ki_1 ?_
  refine y_goto (t := 87) ⟨dX8_leastRules_83, rfl, rfl⟩ ?_
  exact y_wk (L2 := [some (.ref 45), some (.int x1), some (.int x2), some (.int x3), none]) ⟨Or.inr rfl, Or.inr rfl, Or.inr rfl, Or.inr rfl, Or.inr rfl, trivial⟩ (w_b_sy_leastRules_59_87 x1 x2 x3 1 M hf hk)
theorem w_b_sy_leastRules_59_59 (x1 : Int32) (x2 : Int32) (x3 : Int32)  (M : dM) {Q : mz_P} {o : ((Int32 × Int32) ⊕ (Int32 × dM))} (hf : b_sy_leastRules_59_59 x1 x2 x3 M = some o) (hk : K_sy_leastRules_59 Q x1 M o) : mW mX8_leastRules 5 Q 59 [some (.ref 45), some (.int x1), some (.int x2), some (.int x3), none] [] M := by
  unfold b_sy_leastRules_59_59 at hf
  refine y_iload_n (i := 3) (n := 60) ⟨dX8_leastRules_59, rfl⟩ rfl ?_
  refine y_sipush (n := 63) (v := 256) ⟨dX8_leastRules_60, rfl⟩ ks_256 ?_
  refine y_icmp_ge (t := 111) (n := 66) ⟨dX8_leastRules_63, rfl, rfl⟩ (fun (hc : 256 ≤ x3) => ?_) (fun (hc : ¬ (256 ≤ x3)) => ?_)
  · replace hf := i_t hc hf
    refine y_iload_n (i := 2) (n := 112) ⟨dX8_leastRules_111, rfl⟩ rfl ?_
    cases hf
    exact y_ireturn (n := 113) ⟨dX8_leastRules_112, rfl⟩ rfl rfl hk
  · replace hf := i_f hc hf
    refine y_iload_n (i := 2) (n := 67) ⟨dX8_leastRules_66, rfl⟩ rfl ?_
    refine y_iconst (n := 68) (v := (-1)) ⟨dX8_leastRules_67, rfl⟩ ki_m1 ?_
    refine y_icmp_eq (t := 82) (n := 71) ⟨dX8_leastRules_68, rfl, rfl⟩ (fun (hc : x2 = (-1)) => ?_) (fun (hc : ¬ (x2 = (-1))) => ?_)
    · replace hf := i_t hc hf
      exact y_wk (L2 := [some (.ref 45), some (.int x1), some (.int x2), some (.int x3), none]) ⟨Or.inr rfl, Or.inr rfl, Or.inr rfl, Or.inr rfl, Or.inr rfl, trivial⟩ (w_b_sy_leastRules_59_82 x1 x2 x3 M hf hk)
    · replace hf := i_f hc hf
      refine y_iload_n (i := 3) (n := 72) ⟨dX8_leastRules_71, rfl⟩ rfl ?_
      refine c_jd_bitCount_0f7a4 x3 M (n := 75) ⟨dX8_leastRules_72, rfl⟩ klX8_144 rfl (by decide) (Nat.le_of_ble_eq_true rfl) rfl rfl ?_
      refine y_iload_n (i := 2) (n := 76) ⟨dX8_leastRules_75, rfl⟩ rfl ?_
      refine c_jd_bitCount_0f7a4 x2 M (n := 79) ⟨dX8_leastRules_76, rfl⟩ klX8_144 rfl (by decide) (Nat.le_of_ble_eq_true rfl) rfl rfl ?_
      refine y_icmp_ge (t := 86) (n := 82) ⟨dX8_leastRules_79, rfl, rfl⟩ (fun (hc : (f_jd_bitCount_0f7a4 x2) ≤ (f_jd_bitCount_0f7a4 x3)) => ?_) (fun (hc : ¬ ((f_jd_bitCount_0f7a4 x2) ≤ (f_jd_bitCount_0f7a4 x3))) => ?_)
      · replace hf := i_t hc hf
        refine y_iconst (n := 87) (v := 0) ⟨dX8_leastRules_86, rfl⟩ ki_0 ?_
        exact y_wk (L2 := [some (.ref 45), some (.int x1), some (.int x2), some (.int x3), none]) ⟨Or.inr rfl, Or.inr rfl, Or.inr rfl, Or.inr rfl, Or.inr rfl, trivial⟩ (w_b_sy_leastRules_59_87 x1 x2 x3 0 M hf hk)
      · replace hf := i_f hc hf
        exact y_wk (L2 := [some (.ref 45), some (.int x1), some (.int x2), some (.int x3), none]) ⟨Or.inr rfl, Or.inr rfl, Or.inr rfl, Or.inr rfl, Or.inr rfl, trivial⟩ (w_b_sy_leastRules_59_82 x1 x2 x3 M hf hk)
theorem wl_sy_leastRules_59 (x1 : Int32) (x2 : Int32) (x3 : Int32) (M : dM) {Q : mz_P} {x : (Int32 × dM)} (hf : l_sy_leastRules_59 x1 x2 x3 M = some x) (hk : K_sy_leastRules_59 Q x1 M (.inr x)) : mW mX8_leastRules 5 Q 59 [some (.ref 45), some (.int x1), some (.int x2), some (.int x3), none] [] M :=
  lpc_wp (σ := (Int32 × Int32)) (ξ := (Int32 × dM)) (s := (x2, x3)) (Wh := fun s => mW mX8_leastRules 5 Q 59 [some (.ref 45), some (.int x1), some (.int s.1), some (.int s.2), none] [] M) (K := K_sy_leastRules_59 Q x1 M) (fun _ h => h) (fun s o hb hk => w_b_sy_leastRules_59_59 x1 s.1 s.2 M hb hk) hf hk
theorem ok_sy_leastRules  (M : dM) {o : (Int32 × dM)} (hf : f_sy_leastRules M = some o) : mO mX8_leastRules 5 [.ref 45] M (some (.int o.1)) o.2 := by
  refine y_ok (by decide +kernel) (Nat.le_of_ble_eq_true rfl) (L0 := [some (.ref 45), none, none, none, none]) rfl ?_
  have hk := mR_mQ (some (.int o.1)) o.2
  generalize mQ _ _ = Q at hk ⊢
  unfold f_sy_leastRules at hf
  refine y_iconst (n := 1) (v := 0) ⟨dX8_leastRules_0, rfl⟩ ki_0 ?_
  refine y_istore_n (i := 1) (n := 2) (L2 := [some (.ref 45), some (.int 0), none, none, none]) ⟨dX8_leastRules_1, rfl⟩ (by decide) rfl rfl ?_
  refine y_iconst (n := 3) (v := 0) ⟨dX8_leastRules_2, rfl⟩ ki_0 ?_
  refine y_istore_n (i := 2) (n := 4) (L2 := [some (.ref 45), some (.int 0), some (.int 0), none, none]) ⟨dX8_leastRules_3, rfl⟩ (by decide) rfl rfl ?_
  obtain ⟨t5, hl6, hf⟩ := b_s hf
  refine y_wk (L2 := [some (.ref 45), some (.int 0), some (.int 0), none, none]) ⟨Or.inr rfl, Or.inr rfl, Or.inr rfl, Or.inr rfl, Or.inr rfl, trivial⟩ (wl_sy_leastRules_4 0 0 M hl6 ?_)
  show mW mX8_leastRules 5 Q 55 [some (.ref 45), some (.int t5.1), none, none, none] [] t5.2
  refine y_iconst (n := 56) (v := (-1)) ⟨dX8_leastRules_55, rfl⟩ ki_m1 ?_
  refine y_istore_n (i := 2) (n := 57) (L2 := [some (.ref 45), some (.int t5.1), some (.int (-1)), none, none]) ⟨dX8_leastRules_56, rfl⟩ (by decide) rfl rfl ?_
  refine y_iconst (n := 58) (v := 0) ⟨dX8_leastRules_57, rfl⟩ ki_0 ?_
  refine y_istore_n (i := 3) (n := 59) (L2 := [some (.ref 45), some (.int t5.1), some (.int (-1)), some (.int 0), none]) ⟨dX8_leastRules_58, rfl⟩ (by decide) rfl rfl ?_
  obtain ⟨r12, hl11, hf⟩ := b_s hf
  cases hf
  exact y_wk (L2 := [some (.ref 45), some (.int t5.1), some (.int (-1)), some (.int 0), none]) ⟨Or.inr rfl, Or.inr rfl, Or.inr rfl, Or.inr rfl, Or.inr rfl, trivial⟩ (wl_sy_leastRules_59 t5.1 (-1) 0 t5.2 hl11 hk)
theorem c_sy_leastRules  (M : dM) {o : (Int32 × dM)} {y : mz_M} {d : Nat} {Q : mz_P} {pc n i : Nat} {L : List (Option Value)} {st : List Value} (h : mz_d y.2.1 pc n 3 (.invokevirtual i)) (hl : mz_ml y.1.cls i yX8_leastRules) (hf : f_sy_leastRules M = some o) (hd : 5 + 1 ≤ d) (hsm : (st.map (fun v => v.category)).sum ≤ 8) (hLr : mz_rL 133 L = true) (hSr : mz_rS 133 st = true) (kk : mW y d Q n L (.int o.1 :: st) o.2) : mW y d Q pc L (.ref 45 :: st) M :=
  y_callV kmX8_leastRules kvX8_leastRules l_45 (by decide +kernel) (by decide +kernel) h hl (ok_sy_leastRules  M hf) (vs := []) rfl rfl hd hsm hLr hSr kk
noncomputable def f_ax_rules (a1 : Int32) (M : dM) : Option (Int32 × dM) :=
  if (f_ax_within a1 2) = true then
    (f_ax_study 2 M).bind fun q1 =>
    (f_sy_leastRules q1).bind fun q3 =>
    if q3.1 = (-1) then
      some ((-1), q3.2)
    else
      if a1 = 0 then
        some ((f_jd_bitCount_0f7a4 q3.1), q3.2)
      else
        some (q3.1, q3.2)
  else
    some ((-1), M)
theorem ok_ax_rules (a1 : Int32) (M : dM) {o : (Int32 × dM)} (hf : f_ax_rules a1 M = some o) : mO mX11_rules 6 [.ref 0, .int a1] M (some (.int o.1)) o.2 := by
  refine y_ok (by decide +kernel) (Nat.le_of_ble_eq_true rfl) (L0 := [some (.ref 0), some (.int a1), none]) rfl ?_
  have hk := mR_mQ (some (.int o.1)) o.2
  generalize mQ _ _ = Q at hk ⊢
  unfold f_ax_rules at hf
  refine y_iload_n (i := 1) (n := 1) ⟨dX11_rules_0, rfl⟩ rfl ?_
  refine y_iconst (n := 2) (v := 2) ⟨dX11_rules_1, rfl⟩ ki_2 ?_
  refine c_ax_within a1 2 M (n := 5) ⟨dX11_rules_2, rfl⟩ klX11_91 rfl (by decide) (Nat.le_of_ble_eq_true rfl) rfl rfl ?_
  refine y_if_ne (t := 10) (n := 8) ⟨dX11_rules_5, rfl, rfl⟩ (fun h0 => ?_) (fun h0 => ?_)
  · have hc := bI_1 h0
    replace hf := i_t hc hf
    refine y_aload_n (i := 0) (n := 11) ⟨dX11_rules_10, rfl⟩ rfl ?_
    refine y_iconst (n := 12) (v := 2) ⟨dX11_rules_11, rfl⟩ ki_2 ?_
    obtain ⟨q1, hv2, hf⟩ := b_s hf
    refine c_ax_study 2 M (n := 15) ⟨dX11_rules_12, rfl⟩ klX11_156 hv2 (by decide) (Nat.le_of_ble_eq_true rfl) rfl rfl ?_
    refine y_aload_n (i := 0) (n := 16) ⟨dX11_rules_15, rfl⟩ rfl ?_
    refine y_getR (n := 19) ⟨dX11_rules_16, rfl⟩ kfX11_65 l_0 rfl r_0_7 ?_
    obtain ⟨q3, hv4, hf⟩ := b_s hf
    refine c_sy_leastRules q1 (n := 22) ⟨dX11_rules_19, rfl⟩ klX11_280 hv4 (by decide) (Nat.le_of_ble_eq_true rfl) rfl rfl ?_
    refine y_istore_n (i := 2) (n := 23) (L2 := [some (.ref 0), some (.int a1), some (.int q3.1)]) ⟨dX11_rules_22, rfl⟩ (by decide) rfl rfl ?_
    refine y_iload_n (i := 2) (n := 24) ⟨dX11_rules_23, rfl⟩ rfl ?_
    refine y_iconst (n := 25) (v := (-1)) ⟨dX11_rules_24, rfl⟩ ki_m1 ?_
    refine y_icmp_ne (t := 30) (n := 28) ⟨dX11_rules_25, rfl, rfl⟩ (fun (hc : ¬ (q3.1 = (-1))) => ?_) (fun (hc : q3.1 = (-1)) => ?_)
    · replace hf := i_f hc hf
      refine y_iload_n (i := 1) (n := 31) ⟨dX11_rules_30, rfl⟩ rfl ?_
      refine y_if_ne (t := 41) (n := 34) ⟨dX11_rules_31, rfl, rfl⟩ (fun (hc : ¬ (a1 = 0)) => ?_) (fun (hc : a1 = 0) => ?_)
      · replace hf := i_f hc hf
        refine y_iload_n (i := 2) (n := 42) ⟨dX11_rules_41, rfl⟩ rfl ?_
        cases hf
        exact y_ireturn (n := 43) ⟨dX11_rules_42, rfl⟩ rfl rfl hk
      · replace hf := i_t hc hf
        refine y_iload_n (i := 2) (n := 35) ⟨dX11_rules_34, rfl⟩ rfl ?_
        refine c_jd_bitCount_0f7a4 q3.1 q3.2 (n := 38) ⟨dX11_rules_35, rfl⟩ klX11_283 rfl (by decide) (Nat.le_of_ble_eq_true rfl) rfl rfl ?_
        refine y_goto (t := 42) ⟨dX11_rules_38, rfl, rfl⟩ ?_
        cases hf
        exact y_ireturn (n := 43) ⟨dX11_rules_42, rfl⟩ rfl rfl hk
    · replace hf := i_t hc hf
      refine y_iconst (n := 29) (v := (-1)) ⟨dX11_rules_28, rfl⟩ ki_m1 ?_
      cases hf
      exact y_ireturn (n := 30) ⟨dX11_rules_29, rfl⟩ rfl rfl hk
  · have hc := bI_0 h0
    replace hf := i_f hc hf
    refine y_iconst (n := 9) (v := (-1)) ⟨dX11_rules_8, rfl⟩ ki_m1 ?_
    cases hf
    exact y_ireturn (n := 10) ⟨dX11_rules_9, rfl⟩ rfl rfl hk
theorem c_ax_rules (a1 : Int32) (M : dM) {o : (Int32 × dM)} {y : mz_M} {d : Nat} {Q : mz_P} {pc n i : Nat} {L : List (Option Value)} {st : List Value} (h : mz_d y.2.1 pc n 3 (.invokevirtual i)) (hl : mz_ml y.1.cls i yX11_rules) (hf : f_ax_rules a1 M = some o) (hd : 6 + 1 ≤ d) (hsm : (st.map (fun v => v.category)).sum ≤ 8) (hLr : mz_rL 133 L = true) (hSr : mz_rS 133 st = true) (kk : mW y d Q n L (.int o.1 :: st) o.2) : mW y d Q pc L (.int a1 :: .ref 0 :: st) M :=
  y_callV kmX11_rules kvX11_rules l_0 (by decide +kernel) (by decide +kernel) h hl (ok_ax_rules a1 M hf) (vs := [.int a1]) rfl rfl hd hsm hLr hSr kk
noncomputable def f_to_tellPaper (a1 : Int32) (M : dM) : Option (Bool × dM) :=
  if (gI M 12 13) < 40 then
    gd (vp_in (gI M 12 13) 40) <|
    some (true, (sI (sI M 23 (gI M 12 13).toNatClampNeg a1) 12 13 ((gI (sI M 23 (gI M 12 13).toNatClampNeg a1) 12 13) + 1)))
  else
    some (false, M)
theorem ok_to_tellPaper (a1 : Int32) (M : dM) {o : (Bool × dM)} (hf : f_to_tellPaper a1 M = some o) : mO mX9_tellPaper 1 [.ref 12, .int a1] M (some (.int (bI o.1))) o.2 := by
  refine y_ok (by decide +kernel) (Nat.le_of_ble_eq_true rfl) (L0 := [some (.ref 12), some (.int a1)]) rfl ?_
  have hk := mR_mQ (some (.int (bI o.1))) o.2
  generalize mQ _ _ = Q at hk ⊢
  unfold f_to_tellPaper at hf
  refine y_aload_n (i := 0) (n := 1) ⟨dX9_tellPaper_0, rfl⟩ rfl ?_
  refine y_getI (n := 4) ⟨dX9_tellPaper_1, rfl⟩ kfX9_52 l_12 rfl ?_
  refine y_bipush (n := 6) (v := 40) ⟨dX9_tellPaper_4, rfl⟩ kb_40 ?_
  refine y_icmp_lt (t := 11) (n := 9) ⟨dX9_tellPaper_6, rfl, rfl⟩ (fun (hc : (gI M 12 13) < 40) => ?_) (fun (hc : ¬ ((gI M 12 13) < 40)) => ?_)
  · replace hf := i_t hc hf
    refine y_aload_n (i := 0) (n := 12) ⟨dX9_tellPaper_11, rfl⟩ rfl ?_
    refine y_getR (n := 15) ⟨dX9_tellPaper_12, rfl⟩ kfX9_42 l_12 rfl r_12_12 ?_
    refine y_aload_n (i := 0) (n := 16) ⟨dX9_tellPaper_15, rfl⟩ rfl ?_
    refine y_getI (n := 19) ⟨dX9_tellPaper_16, rfl⟩ kfX9_52 l_12 rfl ?_
    refine y_iload_n (i := 1) (n := 20) ⟨dX9_tellPaper_19, rfl⟩ rfl ?_
    obtain ⟨hg1, hf⟩ := g_s hf
    refine y_iastore (n := 21) ⟨dX9_tellPaper_20, rfl⟩ l_23 hg1 ?_
    refine y_aload_n (i := 0) (n := 22) ⟨dX9_tellPaper_21, rfl⟩ rfl ?_
    refine y_dup_r (n := 23) ⟨dX9_tellPaper_22, rfl⟩ ?_
    refine y_getI (n := 26) ⟨dX9_tellPaper_23, rfl⟩ kfX9_52 l_12 rfl ?_
    refine y_iconst (n := 27) (v := 1) ⟨dX9_tellPaper_26, rfl⟩ ki_1 ?_
    refine y_iadd (n := 28) ⟨dX9_tellPaper_27, rfl⟩ ?_
    refine y_putI (n := 31) ⟨dX9_tellPaper_28, rfl⟩ kfX9_52 l_12 (by decide +kernel) rfl ?_
    refine y_iconst (n := 32) (v := 1) ⟨dX9_tellPaper_31, rfl⟩ ki_1 ?_
    cases hf
    exact y_ireturn (n := 33) ⟨dX9_tellPaper_32, rfl⟩ rfl rfl hk
  · replace hf := i_f hc hf
    refine y_iconst (n := 10) (v := 0) ⟨dX9_tellPaper_9, rfl⟩ ki_0 ?_
    cases hf
    exact y_ireturn (n := 11) ⟨dX9_tellPaper_10, rfl⟩ rfl rfl hk
theorem c_to_tellPaper (a1 : Int32) (M : dM) {o : (Bool × dM)} {y : mz_M} {d : Nat} {Q : mz_P} {pc n i : Nat} {L : List (Option Value)} {st : List Value} (h : mz_d y.2.1 pc n 3 (.invokevirtual i)) (hl : mz_ml y.1.cls i yX9_tellPaper) (hf : f_to_tellPaper a1 M = some o) (hd : 1 + 1 ≤ d) (hsm : (st.map (fun v => v.category)).sum ≤ 8) (hLr : mz_rL 133 L = true) (hSr : mz_rS 133 st = true) (kk : mW y d Q n L (.int (bI o.1) :: st) o.2) : mW y d Q pc L (.int a1 :: .ref 12 :: st) M :=
  y_callV kmX9_tellPaper kvX9_tellPaper l_12 (by decide +kernel) (by decide +kernel) h hl (ok_to_tellPaper a1 M hf) (vs := [.int a1]) rfl rfl hd hsm hLr hSr kk
noncomputable def f_ax_paper (a1 : Int32) (M : dM) : Option (Bool × dM) :=
  if (f_ax_within a1 1000) = true then
    (f_to_tellPaper a1 M).bind fun q1 =>
    if q1.1 = true then
      some (true, (f_ax_changed q1.2))
    else
      some (false, q1.2)
  else
    some (false, M)
theorem ok_ax_paper (a1 : Int32) (M : dM) {o : (Bool × dM)} (hf : f_ax_paper a1 M = some o) : mO mX11_paper 3 [.ref 0, .int a1] M (some (.int (bI o.1))) o.2 := by
  refine y_ok (by decide +kernel) (Nat.le_of_ble_eq_true rfl) (L0 := [some (.ref 0), some (.int a1)]) rfl ?_
  have hk := mR_mQ (some (.int (bI o.1))) o.2
  generalize mQ _ _ = Q at hk ⊢
  unfold f_ax_paper at hf
  refine y_iload_n (i := 1) (n := 1) ⟨dX11_paper_0, rfl⟩ rfl ?_
  refine y_sipush (n := 4) (v := 1000) ⟨dX11_paper_1, rfl⟩ ks_1000 ?_
  refine c_ax_within a1 1000 M (n := 7) ⟨dX11_paper_4, rfl⟩ klX11_91 rfl (by decide) (Nat.le_of_ble_eq_true rfl) rfl rfl ?_
  refine y_if_eq (t := 21) (n := 10) ⟨dX11_paper_7, rfl, rfl⟩ (fun h0 => ?_) (fun h0 => ?_)
  · have hc := bI_0 h0
    replace hf := i_f hc hf
    refine y_iconst (n := 22) (v := 0) ⟨dX11_paper_21, rfl⟩ ki_0 ?_
    cases hf
    exact y_ireturn (n := 23) ⟨dX11_paper_22, rfl⟩ rfl rfl hk
  · have hc := bI_1 h0
    replace hf := i_t hc hf
    refine y_aload_n (i := 0) (n := 11) ⟨dX11_paper_10, rfl⟩ rfl ?_
    refine y_getR (n := 14) ⟨dX11_paper_11, rfl⟩ kfX11_26 l_0 rfl r_0_2 ?_
    refine y_iload_n (i := 1) (n := 15) ⟨dX11_paper_14, rfl⟩ rfl ?_
    obtain ⟨q1, hv2, hf⟩ := b_s hf
    refine c_to_tellPaper a1 M (n := 18) ⟨dX11_paper_15, rfl⟩ klX11_288 hv2 (by decide) (Nat.le_of_ble_eq_true rfl) rfl rfl ?_
    refine y_if_ne (t := 23) (n := 21) ⟨dX11_paper_18, rfl, rfl⟩ (fun h0 => ?_) (fun h0 => ?_)
    · have hc := bI_1 h0
      replace hf := i_t hc hf
      refine y_aload_n (i := 0) (n := 24) ⟨dX11_paper_23, rfl⟩ rfl ?_
      refine c_ax_changed q1.2 (n := 27) ⟨dX11_paper_24, rfl⟩ klX11_99 rfl (by decide) (Nat.le_of_ble_eq_true rfl) rfl rfl ?_
      refine y_iconst (n := 28) (v := 1) ⟨dX11_paper_27, rfl⟩ ki_1 ?_
      cases hf
      exact y_ireturn (n := 29) ⟨dX11_paper_28, rfl⟩ rfl rfl hk
    · have hc := bI_0 h0
      replace hf := i_f hc hf
      refine y_iconst (n := 22) (v := 0) ⟨dX11_paper_21, rfl⟩ ki_0 ?_
      cases hf
      exact y_ireturn (n := 23) ⟨dX11_paper_22, rfl⟩ rfl rfl hk
theorem c_ax_paper (a1 : Int32) (M : dM) {o : (Bool × dM)} {y : mz_M} {d : Nat} {Q : mz_P} {pc n i : Nat} {L : List (Option Value)} {st : List Value} (h : mz_d y.2.1 pc n 3 (.invokevirtual i)) (hl : mz_ml y.1.cls i yX11_paper) (hf : f_ax_paper a1 M = some o) (hd : 3 + 1 ≤ d) (hsm : (st.map (fun v => v.category)).sum ≤ 8) (hLr : mz_rL 133 L = true) (hSr : mz_rS 133 st = true) (kk : mW y d Q n L (.int (bI o.1) :: st) o.2) : mW y d Q pc L (.int a1 :: .ref 0 :: st) M :=
  y_callV kmX11_paper kvX11_paper l_0 (by decide +kernel) (by decide +kernel) h hl (ok_ax_paper a1 M hf) (vs := [.int a1]) rfl rfl hd hsm hLr hSr kk
def K_jd_fill_43_5 (Q : mz_P) (x1 : Int32) (x3 : Int32) : ((Int32 × dM) ⊕ dM) → Prop
  | .inl s => mW mJ7_fill_53178 1 Q 5 [some (.ref 43), some (.int x1), some (.int s.1), some (.int x3)] [] s.2
  | .inr r => mR Q none r
noncomputable def b_jd_fill_43_5_5 (x1 : Int32) (x2 : Int32) (x3 : Int32) (M : dM) : Option ((Int32 × dM) ⊕ dM) :=
  if x3 ≤ x2 then
    some (.inr M)
  else
    gd (vp_in x2 8) <|
    some (.inl ((x2 + 1), (sI M 43 x2.toNatClampNeg x1)))
noncomputable def l_jd_fill_43_5 (x1 : Int32) (x2 : Int32) (x3 : Int32) (M : dM) : Option dM := lpc (fun s => b_jd_fill_43_5_5 x1 s.1 x3 s.2) (x2, M)
noncomputable def f_jd_fill_43 (a2 : Int32) (M : dM) : Option dM :=
  (l_jd_fill_43_5 a2 0 8 M).bind fun r4 => some r4
theorem w_b_jd_fill_43_5_5 (x1 : Int32) (x2 : Int32) (x3 : Int32)  (M : dM) {Q : mz_P} {o : ((Int32 × dM) ⊕ dM)} (hf : b_jd_fill_43_5_5 x1 x2 x3 M = some o) (hk : K_jd_fill_43_5 Q x1 x3 o) : mW mJ7_fill_53178 1 Q 5 [some (.ref 43), some (.int x1), some (.int x2), some (.int x3)] [] M := by
  unfold b_jd_fill_43_5_5 at hf
  refine y_iload_n (i := 2) (n := 6) ⟨dJ7_fill_53178_5, rfl⟩ rfl ?_
  refine y_iload_n (i := 3) (n := 7) ⟨dJ7_fill_53178_6, rfl⟩ rfl ?_
  refine y_icmp_ge (t := 20) (n := 10) ⟨dJ7_fill_53178_7, rfl, rfl⟩ (fun (hc : x3 ≤ x2) => ?_) (fun (hc : ¬ (x3 ≤ x2)) => ?_)
  · replace hf := i_t hc hf
    cases hf
    exact y_return (n := 21) ⟨dJ7_fill_53178_20, rfl⟩ rfl hk
  · replace hf := i_f hc hf
    refine y_aload_n (i := 0) (n := 11) ⟨dJ7_fill_53178_10, rfl⟩ rfl ?_
    refine y_iload_n (i := 2) (n := 12) ⟨dJ7_fill_53178_11, rfl⟩ rfl ?_
    refine y_iload_n (i := 1) (n := 13) ⟨dJ7_fill_53178_12, rfl⟩ rfl ?_
    obtain ⟨hg1, hf⟩ := g_s hf
    refine y_iastore (n := 14) ⟨dJ7_fill_53178_13, rfl⟩ l_43 hg1 ?_
    refine y_iinc (i := 2) (n := 17) (b := (x2 + 1)) (L2 := [some (.ref 43), some (.int x1), some (.int (x2 + 1)), some (.int x3)]) ⟨dJ7_fill_53178_14, rfl⟩ rfl (by rw [ki_1]) (by decide) rfl rfl ?_
    refine y_goto (t := 5) ⟨dJ7_fill_53178_17, rfl, rfl⟩ ?_
    cases hf
    exact y_wk (L2 := [some (.ref 43), some (.int x1), some (.int (x2 + 1)), some (.int x3)]) ⟨Or.inr rfl, Or.inr rfl, Or.inr rfl, Or.inr rfl, trivial⟩ hk
theorem wl_jd_fill_43_5 (x1 : Int32) (x2 : Int32) (x3 : Int32) (M : dM) {Q : mz_P} {x : dM} (hf : l_jd_fill_43_5 x1 x2 x3 M = some x) (hk : K_jd_fill_43_5 Q x1 x3 (.inr x)) : mW mJ7_fill_53178 1 Q 5 [some (.ref 43), some (.int x1), some (.int x2), some (.int x3)] [] M :=
  lpc_wp (σ := (Int32 × dM)) (ξ := dM) (s := (x2, M)) (Wh := fun s => mW mJ7_fill_53178 1 Q 5 [some (.ref 43), some (.int x1), some (.int s.1), some (.int x3)] [] s.2) (K := K_jd_fill_43_5 Q x1 x3) (fun _ h => h) (fun s o hb hk => w_b_jd_fill_43_5_5 x1 s.1 x3 s.2 hb hk) hf hk
theorem ok_jd_fill_43 (a2 : Int32) (M : dM) {o : dM} (hf : f_jd_fill_43 a2 M = some o) : mO mJ7_fill_53178 1 [.ref 43, .int a2] M none o := by
  refine y_ok (by decide +kernel) (Nat.le_of_ble_eq_true rfl) (L0 := [some (.ref 43), some (.int a2), none, none]) rfl ?_
  have hk := mR_mQ none o
  generalize mQ _ _ = Q at hk ⊢
  unfold f_jd_fill_43 at hf
  refine y_iconst (n := 1) (v := 0) ⟨dJ7_fill_53178_0, rfl⟩ ki_0 ?_
  refine y_istore_n (i := 2) (n := 2) (L2 := [some (.ref 43), some (.int a2), some (.int 0), none]) ⟨dJ7_fill_53178_1, rfl⟩ (by decide) rfl rfl ?_
  refine y_aload_n (i := 0) (n := 3) ⟨dJ7_fill_53178_2, rfl⟩ rfl ?_
  refine y_alen (n := 4) (v := 8) ⟨dJ7_fill_53178_3, rfl⟩ l_43 (fun _ => rfl) (by decide) ?_
  refine y_istore_n (i := 3) (n := 5) (L2 := [some (.ref 43), some (.int a2), some (.int 0), some (.int 8)]) ⟨dJ7_fill_53178_4, rfl⟩ (by decide) rfl rfl ?_
  obtain ⟨r4, hl3, hf⟩ := b_s hf
  cases hf
  exact y_wk (L2 := [some (.ref 43), some (.int a2), some (.int 0), some (.int 8)]) ⟨Or.inr rfl, Or.inr rfl, Or.inr rfl, Or.inr rfl, trivial⟩ (wl_jd_fill_43_5 a2 0 8 M hl3 hk)
theorem c_jd_fill_43 (a2 : Int32) (M : dM) {o : dM} {y : mz_M} {d : Nat} {Q : mz_P} {pc n i : Nat} {L : List (Option Value)} {st : List Value} (h : mz_d y.2.1 pc n 3 (.invokestatic i)) (hl : mz_ml y.1.cls i yJ7_fill_53178) (hf : f_jd_fill_43 a2 M = some o) (hd : 1 + 1 ≤ d) (hsm : (st.map (fun v => v.category)).sum ≤ 8) (hLr : mz_rL 133 L = true) (hSr : mz_rS 133 st = true) (kk : mW y d Q n L st o) : mW y d Q pc L (.int a2 :: .ref 43 :: st) M :=
  y_callS kmJ7_fill_53178 ksJ7_fill_53178 h hl (ok_jd_fill_43 a2 M hf) (vs := [.ref 43, .int a2]) rfl rfl hd hsm hLr hSr kk
def K_jd_fill_44_5 (Q : mz_P) (x1 : Int32) (x3 : Int32) : ((Int32 × dM) ⊕ dM) → Prop
  | .inl s => mW mJ7_fill_53178 1 Q 5 [some (.ref 44), some (.int x1), some (.int s.1), some (.int x3)] [] s.2
  | .inr r => mR Q none r
noncomputable def b_jd_fill_44_5_5 (x1 : Int32) (x2 : Int32) (x3 : Int32) (M : dM) : Option ((Int32 × dM) ⊕ dM) :=
  if x3 ≤ x2 then
    some (.inr M)
  else
    gd (vp_in x2 10) <|
    some (.inl ((x2 + 1), (sI M 44 x2.toNatClampNeg x1)))
noncomputable def l_jd_fill_44_5 (x1 : Int32) (x2 : Int32) (x3 : Int32) (M : dM) : Option dM := lpc (fun s => b_jd_fill_44_5_5 x1 s.1 x3 s.2) (x2, M)
noncomputable def f_jd_fill_44 (a2 : Int32) (M : dM) : Option dM :=
  (l_jd_fill_44_5 a2 0 10 M).bind fun r4 => some r4
theorem w_b_jd_fill_44_5_5 (x1 : Int32) (x2 : Int32) (x3 : Int32)  (M : dM) {Q : mz_P} {o : ((Int32 × dM) ⊕ dM)} (hf : b_jd_fill_44_5_5 x1 x2 x3 M = some o) (hk : K_jd_fill_44_5 Q x1 x3 o) : mW mJ7_fill_53178 1 Q 5 [some (.ref 44), some (.int x1), some (.int x2), some (.int x3)] [] M := by
  unfold b_jd_fill_44_5_5 at hf
  refine y_iload_n (i := 2) (n := 6) ⟨dJ7_fill_53178_5, rfl⟩ rfl ?_
  refine y_iload_n (i := 3) (n := 7) ⟨dJ7_fill_53178_6, rfl⟩ rfl ?_
  refine y_icmp_ge (t := 20) (n := 10) ⟨dJ7_fill_53178_7, rfl, rfl⟩ (fun (hc : x3 ≤ x2) => ?_) (fun (hc : ¬ (x3 ≤ x2)) => ?_)
  · replace hf := i_t hc hf
    cases hf
    exact y_return (n := 21) ⟨dJ7_fill_53178_20, rfl⟩ rfl hk
  · replace hf := i_f hc hf
    refine y_aload_n (i := 0) (n := 11) ⟨dJ7_fill_53178_10, rfl⟩ rfl ?_
    refine y_iload_n (i := 2) (n := 12) ⟨dJ7_fill_53178_11, rfl⟩ rfl ?_
    refine y_iload_n (i := 1) (n := 13) ⟨dJ7_fill_53178_12, rfl⟩ rfl ?_
    obtain ⟨hg1, hf⟩ := g_s hf
    refine y_iastore (n := 14) ⟨dJ7_fill_53178_13, rfl⟩ l_44 hg1 ?_
    refine y_iinc (i := 2) (n := 17) (b := (x2 + 1)) (L2 := [some (.ref 44), some (.int x1), some (.int (x2 + 1)), some (.int x3)]) ⟨dJ7_fill_53178_14, rfl⟩ rfl (by rw [ki_1]) (by decide) rfl rfl ?_
    refine y_goto (t := 5) ⟨dJ7_fill_53178_17, rfl, rfl⟩ ?_
    cases hf
    exact y_wk (L2 := [some (.ref 44), some (.int x1), some (.int (x2 + 1)), some (.int x3)]) ⟨Or.inr rfl, Or.inr rfl, Or.inr rfl, Or.inr rfl, trivial⟩ hk
theorem wl_jd_fill_44_5 (x1 : Int32) (x2 : Int32) (x3 : Int32) (M : dM) {Q : mz_P} {x : dM} (hf : l_jd_fill_44_5 x1 x2 x3 M = some x) (hk : K_jd_fill_44_5 Q x1 x3 (.inr x)) : mW mJ7_fill_53178 1 Q 5 [some (.ref 44), some (.int x1), some (.int x2), some (.int x3)] [] M :=
  lpc_wp (σ := (Int32 × dM)) (ξ := dM) (s := (x2, M)) (Wh := fun s => mW mJ7_fill_53178 1 Q 5 [some (.ref 44), some (.int x1), some (.int s.1), some (.int x3)] [] s.2) (K := K_jd_fill_44_5 Q x1 x3) (fun _ h => h) (fun s o hb hk => w_b_jd_fill_44_5_5 x1 s.1 x3 s.2 hb hk) hf hk
theorem ok_jd_fill_44 (a2 : Int32) (M : dM) {o : dM} (hf : f_jd_fill_44 a2 M = some o) : mO mJ7_fill_53178 1 [.ref 44, .int a2] M none o := by
  refine y_ok (by decide +kernel) (Nat.le_of_ble_eq_true rfl) (L0 := [some (.ref 44), some (.int a2), none, none]) rfl ?_
  have hk := mR_mQ none o
  generalize mQ _ _ = Q at hk ⊢
  unfold f_jd_fill_44 at hf
  refine y_iconst (n := 1) (v := 0) ⟨dJ7_fill_53178_0, rfl⟩ ki_0 ?_
  refine y_istore_n (i := 2) (n := 2) (L2 := [some (.ref 44), some (.int a2), some (.int 0), none]) ⟨dJ7_fill_53178_1, rfl⟩ (by decide) rfl rfl ?_
  refine y_aload_n (i := 0) (n := 3) ⟨dJ7_fill_53178_2, rfl⟩ rfl ?_
  refine y_alen (n := 4) (v := 10) ⟨dJ7_fill_53178_3, rfl⟩ l_44 (fun _ => rfl) (by decide) ?_
  refine y_istore_n (i := 3) (n := 5) (L2 := [some (.ref 44), some (.int a2), some (.int 0), some (.int 10)]) ⟨dJ7_fill_53178_4, rfl⟩ (by decide) rfl rfl ?_
  obtain ⟨r4, hl3, hf⟩ := b_s hf
  cases hf
  exact y_wk (L2 := [some (.ref 44), some (.int a2), some (.int 0), some (.int 10)]) ⟨Or.inr rfl, Or.inr rfl, Or.inr rfl, Or.inr rfl, trivial⟩ (wl_jd_fill_44_5 a2 0 10 M hl3 hk)
theorem c_jd_fill_44 (a2 : Int32) (M : dM) {o : dM} {y : mz_M} {d : Nat} {Q : mz_P} {pc n i : Nat} {L : List (Option Value)} {st : List Value} (h : mz_d y.2.1 pc n 3 (.invokestatic i)) (hl : mz_ml y.1.cls i yJ7_fill_53178) (hf : f_jd_fill_44 a2 M = some o) (hd : 1 + 1 ≤ d) (hsm : (st.map (fun v => v.category)).sum ≤ 8) (hLr : mz_rL 133 L = true) (hSr : mz_rS 133 st = true) (kk : mW y d Q n L st o) : mW y d Q pc L (.int a2 :: .ref 44 :: st) M :=
  y_callS kmJ7_fill_53178 ksJ7_fill_53178 h hl (ok_jd_fill_44 a2 M hf) (vs := [.ref 44, .int a2]) rfl rfl hd hsm hLr hSr kk
noncomputable def t_ju_addToDay_151 (y1 : Int32) (y2 : Int32) (y3 : Int32) (M : dM) : Option dM :=
  gd (vp_in y1 8) <|
  some (sI M 43 y1.toNatClampNeg (y2 + y3))
noncomputable def t_ju_addToDay_56 (x1 : Int32) (y1 : Int32) (y2 : Int32) (y3 : Int32) (M : dM) : Option dM :=
  gd (vp_in y1 8) <|
  gd (vp_in x1 40) <|
  gd (vp_in (gI (sI (sI M 43 y1.toNatClampNeg (y2 + y3)) 43 4 ((gI (sI M 43 y1.toNatClampNeg (y2 + y3)) 43 4) + (f_jd_bitCount_95d88 ((gJ (sI M 43 y1.toNatClampNeg (y2 + y3)) 42 x1.toNatClampNeg) &&& (((1 : Int64) <<< (x1.toInt64 &&& 63)) - 1))))) 17 x1.toNatClampNeg) 10) <|
  gd (vp_in ((x1 * 17) + 14) 697) <|
  if (gI (sI (sI (sI (sI M 43 y1.toNatClampNeg (y2 + y3)) 43 4 ((gI (sI M 43 y1.toNatClampNeg (y2 + y3)) 43 4) + (f_jd_bitCount_95d88 ((gJ (sI M 43 y1.toNatClampNeg (y2 + y3)) 42 x1.toNatClampNeg) &&& (((1 : Int64) <<< (x1.toInt64 &&& 63)) - 1))))) 44 (gI (sI (sI M 43 y1.toNatClampNeg (y2 + y3)) 43 4 ((gI (sI M 43 y1.toNatClampNeg (y2 + y3)) 43 4) + (f_jd_bitCount_95d88 ((gJ (sI M 43 y1.toNatClampNeg (y2 + y3)) 42 x1.toNatClampNeg) &&& (((1 : Int64) <<< (x1.toInt64 &&& 63)) - 1))))) 17 x1.toNatClampNeg).toNatClampNeg ((gI (sI (sI M 43 y1.toNatClampNeg (y2 + y3)) 43 4 ((gI (sI M 43 y1.toNatClampNeg (y2 + y3)) 43 4) + (f_jd_bitCount_95d88 ((gJ (sI M 43 y1.toNatClampNeg (y2 + y3)) 42 x1.toNatClampNeg) &&& (((1 : Int64) <<< (x1.toInt64 &&& 63)) - 1))))) 44 (gI (sI (sI M 43 y1.toNatClampNeg (y2 + y3)) 43 4 ((gI (sI M 43 y1.toNatClampNeg (y2 + y3)) 43 4) + (f_jd_bitCount_95d88 ((gJ (sI M 43 y1.toNatClampNeg (y2 + y3)) 42 x1.toNatClampNeg) &&& (((1 : Int64) <<< (x1.toInt64 &&& 63)) - 1))))) 17 x1.toNatClampNeg).toNatClampNeg) + 1)) 43 5 (if (gI (sI (sI (sI M 43 y1.toNatClampNeg (y2 + y3)) 43 4 ((gI (sI M 43 y1.toNatClampNeg (y2 + y3)) 43 4) + (f_jd_bitCount_95d88 ((gJ (sI M 43 y1.toNatClampNeg (y2 + y3)) 42 x1.toNatClampNeg) &&& (((1 : Int64) <<< (x1.toInt64 &&& 63)) - 1))))) 44 (gI (sI (sI M 43 y1.toNatClampNeg (y2 + y3)) 43 4 ((gI (sI M 43 y1.toNatClampNeg (y2 + y3)) 43 4) + (f_jd_bitCount_95d88 ((gJ (sI M 43 y1.toNatClampNeg (y2 + y3)) 42 x1.toNatClampNeg) &&& (((1 : Int64) <<< (x1.toInt64 &&& 63)) - 1))))) 17 x1.toNatClampNeg).toNatClampNeg ((gI (sI (sI M 43 y1.toNatClampNeg (y2 + y3)) 43 4 ((gI (sI M 43 y1.toNatClampNeg (y2 + y3)) 43 4) + (f_jd_bitCount_95d88 ((gJ (sI M 43 y1.toNatClampNeg (y2 + y3)) 42 x1.toNatClampNeg) &&& (((1 : Int64) <<< (x1.toInt64 &&& 63)) - 1))))) 44 (gI (sI (sI M 43 y1.toNatClampNeg (y2 + y3)) 43 4 ((gI (sI M 43 y1.toNatClampNeg (y2 + y3)) 43 4) + (f_jd_bitCount_95d88 ((gJ (sI M 43 y1.toNatClampNeg (y2 + y3)) 42 x1.toNatClampNeg) &&& (((1 : Int64) <<< (x1.toInt64 &&& 63)) - 1))))) 17 x1.toNatClampNeg).toNatClampNeg) + 1)) 43 5) < (gI (sI (sI (sI M 43 y1.toNatClampNeg (y2 + y3)) 43 4 ((gI (sI M 43 y1.toNatClampNeg (y2 + y3)) 43 4) + (f_jd_bitCount_95d88 ((gJ (sI M 43 y1.toNatClampNeg (y2 + y3)) 42 x1.toNatClampNeg) &&& (((1 : Int64) <<< (x1.toInt64 &&& 63)) - 1))))) 44 (gI (sI (sI M 43 y1.toNatClampNeg (y2 + y3)) 43 4 ((gI (sI M 43 y1.toNatClampNeg (y2 + y3)) 43 4) + (f_jd_bitCount_95d88 ((gJ (sI M 43 y1.toNatClampNeg (y2 + y3)) 42 x1.toNatClampNeg) &&& (((1 : Int64) <<< (x1.toInt64 &&& 63)) - 1))))) 17 x1.toNatClampNeg).toNatClampNeg ((gI (sI (sI M 43 y1.toNatClampNeg (y2 + y3)) 43 4 ((gI (sI M 43 y1.toNatClampNeg (y2 + y3)) 43 4) + (f_jd_bitCount_95d88 ((gJ (sI M 43 y1.toNatClampNeg (y2 + y3)) 42 x1.toNatClampNeg) &&& (((1 : Int64) <<< (x1.toInt64 &&& 63)) - 1))))) 44 (gI (sI (sI M 43 y1.toNatClampNeg (y2 + y3)) 43 4 ((gI (sI M 43 y1.toNatClampNeg (y2 + y3)) 43 4) + (f_jd_bitCount_95d88 ((gJ (sI M 43 y1.toNatClampNeg (y2 + y3)) 42 x1.toNatClampNeg) &&& (((1 : Int64) <<< (x1.toInt64 &&& 63)) - 1))))) 17 x1.toNatClampNeg).toNatClampNeg) + 1)) 44 (gI (sI (sI M 43 y1.toNatClampNeg (y2 + y3)) 43 4 ((gI (sI M 43 y1.toNatClampNeg (y2 + y3)) 43 4) + (f_jd_bitCount_95d88 ((gJ (sI M 43 y1.toNatClampNeg (y2 + y3)) 42 x1.toNatClampNeg) &&& (((1 : Int64) <<< (x1.toInt64 &&& 63)) - 1))))) 17 x1.toNatClampNeg).toNatClampNeg) then (gI (sI (sI (sI M 43 y1.toNatClampNeg (y2 + y3)) 43 4 ((gI (sI M 43 y1.toNatClampNeg (y2 + y3)) 43 4) + (f_jd_bitCount_95d88 ((gJ (sI M 43 y1.toNatClampNeg (y2 + y3)) 42 x1.toNatClampNeg) &&& (((1 : Int64) <<< (x1.toInt64 &&& 63)) - 1))))) 44 (gI (sI (sI M 43 y1.toNatClampNeg (y2 + y3)) 43 4 ((gI (sI M 43 y1.toNatClampNeg (y2 + y3)) 43 4) + (f_jd_bitCount_95d88 ((gJ (sI M 43 y1.toNatClampNeg (y2 + y3)) 42 x1.toNatClampNeg) &&& (((1 : Int64) <<< (x1.toInt64 &&& 63)) - 1))))) 17 x1.toNatClampNeg).toNatClampNeg ((gI (sI (sI M 43 y1.toNatClampNeg (y2 + y3)) 43 4 ((gI (sI M 43 y1.toNatClampNeg (y2 + y3)) 43 4) + (f_jd_bitCount_95d88 ((gJ (sI M 43 y1.toNatClampNeg (y2 + y3)) 42 x1.toNatClampNeg) &&& (((1 : Int64) <<< (x1.toInt64 &&& 63)) - 1))))) 44 (gI (sI (sI M 43 y1.toNatClampNeg (y2 + y3)) 43 4 ((gI (sI M 43 y1.toNatClampNeg (y2 + y3)) 43 4) + (f_jd_bitCount_95d88 ((gJ (sI M 43 y1.toNatClampNeg (y2 + y3)) 42 x1.toNatClampNeg) &&& (((1 : Int64) <<< (x1.toInt64 &&& 63)) - 1))))) 17 x1.toNatClampNeg).toNatClampNeg) + 1)) 44 (gI (sI (sI M 43 y1.toNatClampNeg (y2 + y3)) 43 4 ((gI (sI M 43 y1.toNatClampNeg (y2 + y3)) 43 4) + (f_jd_bitCount_95d88 ((gJ (sI M 43 y1.toNatClampNeg (y2 + y3)) 42 x1.toNatClampNeg) &&& (((1 : Int64) <<< (x1.toInt64 &&& 63)) - 1))))) 17 x1.toNatClampNeg).toNatClampNeg) else (gI (sI (sI (sI M 43 y1.toNatClampNeg (y2 + y3)) 43 4 ((gI (sI M 43 y1.toNatClampNeg (y2 + y3)) 43 4) + (f_jd_bitCount_95d88 ((gJ (sI M 43 y1.toNatClampNeg (y2 + y3)) 42 x1.toNatClampNeg) &&& (((1 : Int64) <<< (x1.toInt64 &&& 63)) - 1))))) 44 (gI (sI (sI M 43 y1.toNatClampNeg (y2 + y3)) 43 4 ((gI (sI M 43 y1.toNatClampNeg (y2 + y3)) 43 4) + (f_jd_bitCount_95d88 ((gJ (sI M 43 y1.toNatClampNeg (y2 + y3)) 42 x1.toNatClampNeg) &&& (((1 : Int64) <<< (x1.toInt64 &&& 63)) - 1))))) 17 x1.toNatClampNeg).toNatClampNeg ((gI (sI (sI M 43 y1.toNatClampNeg (y2 + y3)) 43 4 ((gI (sI M 43 y1.toNatClampNeg (y2 + y3)) 43 4) + (f_jd_bitCount_95d88 ((gJ (sI M 43 y1.toNatClampNeg (y2 + y3)) 42 x1.toNatClampNeg) &&& (((1 : Int64) <<< (x1.toInt64 &&& 63)) - 1))))) 44 (gI (sI (sI M 43 y1.toNatClampNeg (y2 + y3)) 43 4 ((gI (sI M 43 y1.toNatClampNeg (y2 + y3)) 43 4) + (f_jd_bitCount_95d88 ((gJ (sI M 43 y1.toNatClampNeg (y2 + y3)) 42 x1.toNatClampNeg) &&& (((1 : Int64) <<< (x1.toInt64 &&& 63)) - 1))))) 17 x1.toNatClampNeg).toNatClampNeg) + 1)) 43 5))) 40 ((x1 * 17) + 14).toNatClampNeg) ≤ 0 then
    t_ju_addToDay_151 6 (gI (sI (sI (sI (sI M 43 y1.toNatClampNeg (y2 + y3)) 43 4 ((gI (sI M 43 y1.toNatClampNeg (y2 + y3)) 43 4) + (f_jd_bitCount_95d88 ((gJ (sI M 43 y1.toNatClampNeg (y2 + y3)) 42 x1.toNatClampNeg) &&& (((1 : Int64) <<< (x1.toInt64 &&& 63)) - 1))))) 44 (gI (sI (sI M 43 y1.toNatClampNeg (y2 + y3)) 43 4 ((gI (sI M 43 y1.toNatClampNeg (y2 + y3)) 43 4) + (f_jd_bitCount_95d88 ((gJ (sI M 43 y1.toNatClampNeg (y2 + y3)) 42 x1.toNatClampNeg) &&& (((1 : Int64) <<< (x1.toInt64 &&& 63)) - 1))))) 17 x1.toNatClampNeg).toNatClampNeg ((gI (sI (sI M 43 y1.toNatClampNeg (y2 + y3)) 43 4 ((gI (sI M 43 y1.toNatClampNeg (y2 + y3)) 43 4) + (f_jd_bitCount_95d88 ((gJ (sI M 43 y1.toNatClampNeg (y2 + y3)) 42 x1.toNatClampNeg) &&& (((1 : Int64) <<< (x1.toInt64 &&& 63)) - 1))))) 44 (gI (sI (sI M 43 y1.toNatClampNeg (y2 + y3)) 43 4 ((gI (sI M 43 y1.toNatClampNeg (y2 + y3)) 43 4) + (f_jd_bitCount_95d88 ((gJ (sI M 43 y1.toNatClampNeg (y2 + y3)) 42 x1.toNatClampNeg) &&& (((1 : Int64) <<< (x1.toInt64 &&& 63)) - 1))))) 17 x1.toNatClampNeg).toNatClampNeg) + 1)) 43 5 (if (gI (sI (sI (sI M 43 y1.toNatClampNeg (y2 + y3)) 43 4 ((gI (sI M 43 y1.toNatClampNeg (y2 + y3)) 43 4) + (f_jd_bitCount_95d88 ((gJ (sI M 43 y1.toNatClampNeg (y2 + y3)) 42 x1.toNatClampNeg) &&& (((1 : Int64) <<< (x1.toInt64 &&& 63)) - 1))))) 44 (gI (sI (sI M 43 y1.toNatClampNeg (y2 + y3)) 43 4 ((gI (sI M 43 y1.toNatClampNeg (y2 + y3)) 43 4) + (f_jd_bitCount_95d88 ((gJ (sI M 43 y1.toNatClampNeg (y2 + y3)) 42 x1.toNatClampNeg) &&& (((1 : Int64) <<< (x1.toInt64 &&& 63)) - 1))))) 17 x1.toNatClampNeg).toNatClampNeg ((gI (sI (sI M 43 y1.toNatClampNeg (y2 + y3)) 43 4 ((gI (sI M 43 y1.toNatClampNeg (y2 + y3)) 43 4) + (f_jd_bitCount_95d88 ((gJ (sI M 43 y1.toNatClampNeg (y2 + y3)) 42 x1.toNatClampNeg) &&& (((1 : Int64) <<< (x1.toInt64 &&& 63)) - 1))))) 44 (gI (sI (sI M 43 y1.toNatClampNeg (y2 + y3)) 43 4 ((gI (sI M 43 y1.toNatClampNeg (y2 + y3)) 43 4) + (f_jd_bitCount_95d88 ((gJ (sI M 43 y1.toNatClampNeg (y2 + y3)) 42 x1.toNatClampNeg) &&& (((1 : Int64) <<< (x1.toInt64 &&& 63)) - 1))))) 17 x1.toNatClampNeg).toNatClampNeg) + 1)) 43 5) < (gI (sI (sI (sI M 43 y1.toNatClampNeg (y2 + y3)) 43 4 ((gI (sI M 43 y1.toNatClampNeg (y2 + y3)) 43 4) + (f_jd_bitCount_95d88 ((gJ (sI M 43 y1.toNatClampNeg (y2 + y3)) 42 x1.toNatClampNeg) &&& (((1 : Int64) <<< (x1.toInt64 &&& 63)) - 1))))) 44 (gI (sI (sI M 43 y1.toNatClampNeg (y2 + y3)) 43 4 ((gI (sI M 43 y1.toNatClampNeg (y2 + y3)) 43 4) + (f_jd_bitCount_95d88 ((gJ (sI M 43 y1.toNatClampNeg (y2 + y3)) 42 x1.toNatClampNeg) &&& (((1 : Int64) <<< (x1.toInt64 &&& 63)) - 1))))) 17 x1.toNatClampNeg).toNatClampNeg ((gI (sI (sI M 43 y1.toNatClampNeg (y2 + y3)) 43 4 ((gI (sI M 43 y1.toNatClampNeg (y2 + y3)) 43 4) + (f_jd_bitCount_95d88 ((gJ (sI M 43 y1.toNatClampNeg (y2 + y3)) 42 x1.toNatClampNeg) &&& (((1 : Int64) <<< (x1.toInt64 &&& 63)) - 1))))) 44 (gI (sI (sI M 43 y1.toNatClampNeg (y2 + y3)) 43 4 ((gI (sI M 43 y1.toNatClampNeg (y2 + y3)) 43 4) + (f_jd_bitCount_95d88 ((gJ (sI M 43 y1.toNatClampNeg (y2 + y3)) 42 x1.toNatClampNeg) &&& (((1 : Int64) <<< (x1.toInt64 &&& 63)) - 1))))) 17 x1.toNatClampNeg).toNatClampNeg) + 1)) 44 (gI (sI (sI M 43 y1.toNatClampNeg (y2 + y3)) 43 4 ((gI (sI M 43 y1.toNatClampNeg (y2 + y3)) 43 4) + (f_jd_bitCount_95d88 ((gJ (sI M 43 y1.toNatClampNeg (y2 + y3)) 42 x1.toNatClampNeg) &&& (((1 : Int64) <<< (x1.toInt64 &&& 63)) - 1))))) 17 x1.toNatClampNeg).toNatClampNeg) then (gI (sI (sI (sI M 43 y1.toNatClampNeg (y2 + y3)) 43 4 ((gI (sI M 43 y1.toNatClampNeg (y2 + y3)) 43 4) + (f_jd_bitCount_95d88 ((gJ (sI M 43 y1.toNatClampNeg (y2 + y3)) 42 x1.toNatClampNeg) &&& (((1 : Int64) <<< (x1.toInt64 &&& 63)) - 1))))) 44 (gI (sI (sI M 43 y1.toNatClampNeg (y2 + y3)) 43 4 ((gI (sI M 43 y1.toNatClampNeg (y2 + y3)) 43 4) + (f_jd_bitCount_95d88 ((gJ (sI M 43 y1.toNatClampNeg (y2 + y3)) 42 x1.toNatClampNeg) &&& (((1 : Int64) <<< (x1.toInt64 &&& 63)) - 1))))) 17 x1.toNatClampNeg).toNatClampNeg ((gI (sI (sI M 43 y1.toNatClampNeg (y2 + y3)) 43 4 ((gI (sI M 43 y1.toNatClampNeg (y2 + y3)) 43 4) + (f_jd_bitCount_95d88 ((gJ (sI M 43 y1.toNatClampNeg (y2 + y3)) 42 x1.toNatClampNeg) &&& (((1 : Int64) <<< (x1.toInt64 &&& 63)) - 1))))) 44 (gI (sI (sI M 43 y1.toNatClampNeg (y2 + y3)) 43 4 ((gI (sI M 43 y1.toNatClampNeg (y2 + y3)) 43 4) + (f_jd_bitCount_95d88 ((gJ (sI M 43 y1.toNatClampNeg (y2 + y3)) 42 x1.toNatClampNeg) &&& (((1 : Int64) <<< (x1.toInt64 &&& 63)) - 1))))) 17 x1.toNatClampNeg).toNatClampNeg) + 1)) 44 (gI (sI (sI M 43 y1.toNatClampNeg (y2 + y3)) 43 4 ((gI (sI M 43 y1.toNatClampNeg (y2 + y3)) 43 4) + (f_jd_bitCount_95d88 ((gJ (sI M 43 y1.toNatClampNeg (y2 + y3)) 42 x1.toNatClampNeg) &&& (((1 : Int64) <<< (x1.toInt64 &&& 63)) - 1))))) 17 x1.toNatClampNeg).toNatClampNeg) else (gI (sI (sI (sI M 43 y1.toNatClampNeg (y2 + y3)) 43 4 ((gI (sI M 43 y1.toNatClampNeg (y2 + y3)) 43 4) + (f_jd_bitCount_95d88 ((gJ (sI M 43 y1.toNatClampNeg (y2 + y3)) 42 x1.toNatClampNeg) &&& (((1 : Int64) <<< (x1.toInt64 &&& 63)) - 1))))) 44 (gI (sI (sI M 43 y1.toNatClampNeg (y2 + y3)) 43 4 ((gI (sI M 43 y1.toNatClampNeg (y2 + y3)) 43 4) + (f_jd_bitCount_95d88 ((gJ (sI M 43 y1.toNatClampNeg (y2 + y3)) 42 x1.toNatClampNeg) &&& (((1 : Int64) <<< (x1.toInt64 &&& 63)) - 1))))) 17 x1.toNatClampNeg).toNatClampNeg ((gI (sI (sI M 43 y1.toNatClampNeg (y2 + y3)) 43 4 ((gI (sI M 43 y1.toNatClampNeg (y2 + y3)) 43 4) + (f_jd_bitCount_95d88 ((gJ (sI M 43 y1.toNatClampNeg (y2 + y3)) 42 x1.toNatClampNeg) &&& (((1 : Int64) <<< (x1.toInt64 &&& 63)) - 1))))) 44 (gI (sI (sI M 43 y1.toNatClampNeg (y2 + y3)) 43 4 ((gI (sI M 43 y1.toNatClampNeg (y2 + y3)) 43 4) + (f_jd_bitCount_95d88 ((gJ (sI M 43 y1.toNatClampNeg (y2 + y3)) 42 x1.toNatClampNeg) &&& (((1 : Int64) <<< (x1.toInt64 &&& 63)) - 1))))) 17 x1.toNatClampNeg).toNatClampNeg) + 1)) 43 5))) 43 6) 0 (sI (sI (sI (sI M 43 y1.toNatClampNeg (y2 + y3)) 43 4 ((gI (sI M 43 y1.toNatClampNeg (y2 + y3)) 43 4) + (f_jd_bitCount_95d88 ((gJ (sI M 43 y1.toNatClampNeg (y2 + y3)) 42 x1.toNatClampNeg) &&& (((1 : Int64) <<< (x1.toInt64 &&& 63)) - 1))))) 44 (gI (sI (sI M 43 y1.toNatClampNeg (y2 + y3)) 43 4 ((gI (sI M 43 y1.toNatClampNeg (y2 + y3)) 43 4) + (f_jd_bitCount_95d88 ((gJ (sI M 43 y1.toNatClampNeg (y2 + y3)) 42 x1.toNatClampNeg) &&& (((1 : Int64) <<< (x1.toInt64 &&& 63)) - 1))))) 17 x1.toNatClampNeg).toNatClampNeg ((gI (sI (sI M 43 y1.toNatClampNeg (y2 + y3)) 43 4 ((gI (sI M 43 y1.toNatClampNeg (y2 + y3)) 43 4) + (f_jd_bitCount_95d88 ((gJ (sI M 43 y1.toNatClampNeg (y2 + y3)) 42 x1.toNatClampNeg) &&& (((1 : Int64) <<< (x1.toInt64 &&& 63)) - 1))))) 44 (gI (sI (sI M 43 y1.toNatClampNeg (y2 + y3)) 43 4 ((gI (sI M 43 y1.toNatClampNeg (y2 + y3)) 43 4) + (f_jd_bitCount_95d88 ((gJ (sI M 43 y1.toNatClampNeg (y2 + y3)) 42 x1.toNatClampNeg) &&& (((1 : Int64) <<< (x1.toInt64 &&& 63)) - 1))))) 17 x1.toNatClampNeg).toNatClampNeg) + 1)) 43 5 (if (gI (sI (sI (sI M 43 y1.toNatClampNeg (y2 + y3)) 43 4 ((gI (sI M 43 y1.toNatClampNeg (y2 + y3)) 43 4) + (f_jd_bitCount_95d88 ((gJ (sI M 43 y1.toNatClampNeg (y2 + y3)) 42 x1.toNatClampNeg) &&& (((1 : Int64) <<< (x1.toInt64 &&& 63)) - 1))))) 44 (gI (sI (sI M 43 y1.toNatClampNeg (y2 + y3)) 43 4 ((gI (sI M 43 y1.toNatClampNeg (y2 + y3)) 43 4) + (f_jd_bitCount_95d88 ((gJ (sI M 43 y1.toNatClampNeg (y2 + y3)) 42 x1.toNatClampNeg) &&& (((1 : Int64) <<< (x1.toInt64 &&& 63)) - 1))))) 17 x1.toNatClampNeg).toNatClampNeg ((gI (sI (sI M 43 y1.toNatClampNeg (y2 + y3)) 43 4 ((gI (sI M 43 y1.toNatClampNeg (y2 + y3)) 43 4) + (f_jd_bitCount_95d88 ((gJ (sI M 43 y1.toNatClampNeg (y2 + y3)) 42 x1.toNatClampNeg) &&& (((1 : Int64) <<< (x1.toInt64 &&& 63)) - 1))))) 44 (gI (sI (sI M 43 y1.toNatClampNeg (y2 + y3)) 43 4 ((gI (sI M 43 y1.toNatClampNeg (y2 + y3)) 43 4) + (f_jd_bitCount_95d88 ((gJ (sI M 43 y1.toNatClampNeg (y2 + y3)) 42 x1.toNatClampNeg) &&& (((1 : Int64) <<< (x1.toInt64 &&& 63)) - 1))))) 17 x1.toNatClampNeg).toNatClampNeg) + 1)) 43 5) < (gI (sI (sI (sI M 43 y1.toNatClampNeg (y2 + y3)) 43 4 ((gI (sI M 43 y1.toNatClampNeg (y2 + y3)) 43 4) + (f_jd_bitCount_95d88 ((gJ (sI M 43 y1.toNatClampNeg (y2 + y3)) 42 x1.toNatClampNeg) &&& (((1 : Int64) <<< (x1.toInt64 &&& 63)) - 1))))) 44 (gI (sI (sI M 43 y1.toNatClampNeg (y2 + y3)) 43 4 ((gI (sI M 43 y1.toNatClampNeg (y2 + y3)) 43 4) + (f_jd_bitCount_95d88 ((gJ (sI M 43 y1.toNatClampNeg (y2 + y3)) 42 x1.toNatClampNeg) &&& (((1 : Int64) <<< (x1.toInt64 &&& 63)) - 1))))) 17 x1.toNatClampNeg).toNatClampNeg ((gI (sI (sI M 43 y1.toNatClampNeg (y2 + y3)) 43 4 ((gI (sI M 43 y1.toNatClampNeg (y2 + y3)) 43 4) + (f_jd_bitCount_95d88 ((gJ (sI M 43 y1.toNatClampNeg (y2 + y3)) 42 x1.toNatClampNeg) &&& (((1 : Int64) <<< (x1.toInt64 &&& 63)) - 1))))) 44 (gI (sI (sI M 43 y1.toNatClampNeg (y2 + y3)) 43 4 ((gI (sI M 43 y1.toNatClampNeg (y2 + y3)) 43 4) + (f_jd_bitCount_95d88 ((gJ (sI M 43 y1.toNatClampNeg (y2 + y3)) 42 x1.toNatClampNeg) &&& (((1 : Int64) <<< (x1.toInt64 &&& 63)) - 1))))) 17 x1.toNatClampNeg).toNatClampNeg) + 1)) 44 (gI (sI (sI M 43 y1.toNatClampNeg (y2 + y3)) 43 4 ((gI (sI M 43 y1.toNatClampNeg (y2 + y3)) 43 4) + (f_jd_bitCount_95d88 ((gJ (sI M 43 y1.toNatClampNeg (y2 + y3)) 42 x1.toNatClampNeg) &&& (((1 : Int64) <<< (x1.toInt64 &&& 63)) - 1))))) 17 x1.toNatClampNeg).toNatClampNeg) then (gI (sI (sI (sI M 43 y1.toNatClampNeg (y2 + y3)) 43 4 ((gI (sI M 43 y1.toNatClampNeg (y2 + y3)) 43 4) + (f_jd_bitCount_95d88 ((gJ (sI M 43 y1.toNatClampNeg (y2 + y3)) 42 x1.toNatClampNeg) &&& (((1 : Int64) <<< (x1.toInt64 &&& 63)) - 1))))) 44 (gI (sI (sI M 43 y1.toNatClampNeg (y2 + y3)) 43 4 ((gI (sI M 43 y1.toNatClampNeg (y2 + y3)) 43 4) + (f_jd_bitCount_95d88 ((gJ (sI M 43 y1.toNatClampNeg (y2 + y3)) 42 x1.toNatClampNeg) &&& (((1 : Int64) <<< (x1.toInt64 &&& 63)) - 1))))) 17 x1.toNatClampNeg).toNatClampNeg ((gI (sI (sI M 43 y1.toNatClampNeg (y2 + y3)) 43 4 ((gI (sI M 43 y1.toNatClampNeg (y2 + y3)) 43 4) + (f_jd_bitCount_95d88 ((gJ (sI M 43 y1.toNatClampNeg (y2 + y3)) 42 x1.toNatClampNeg) &&& (((1 : Int64) <<< (x1.toInt64 &&& 63)) - 1))))) 44 (gI (sI (sI M 43 y1.toNatClampNeg (y2 + y3)) 43 4 ((gI (sI M 43 y1.toNatClampNeg (y2 + y3)) 43 4) + (f_jd_bitCount_95d88 ((gJ (sI M 43 y1.toNatClampNeg (y2 + y3)) 42 x1.toNatClampNeg) &&& (((1 : Int64) <<< (x1.toInt64 &&& 63)) - 1))))) 17 x1.toNatClampNeg).toNatClampNeg) + 1)) 44 (gI (sI (sI M 43 y1.toNatClampNeg (y2 + y3)) 43 4 ((gI (sI M 43 y1.toNatClampNeg (y2 + y3)) 43 4) + (f_jd_bitCount_95d88 ((gJ (sI M 43 y1.toNatClampNeg (y2 + y3)) 42 x1.toNatClampNeg) &&& (((1 : Int64) <<< (x1.toInt64 &&& 63)) - 1))))) 17 x1.toNatClampNeg).toNatClampNeg) else (gI (sI (sI (sI M 43 y1.toNatClampNeg (y2 + y3)) 43 4 ((gI (sI M 43 y1.toNatClampNeg (y2 + y3)) 43 4) + (f_jd_bitCount_95d88 ((gJ (sI M 43 y1.toNatClampNeg (y2 + y3)) 42 x1.toNatClampNeg) &&& (((1 : Int64) <<< (x1.toInt64 &&& 63)) - 1))))) 44 (gI (sI (sI M 43 y1.toNatClampNeg (y2 + y3)) 43 4 ((gI (sI M 43 y1.toNatClampNeg (y2 + y3)) 43 4) + (f_jd_bitCount_95d88 ((gJ (sI M 43 y1.toNatClampNeg (y2 + y3)) 42 x1.toNatClampNeg) &&& (((1 : Int64) <<< (x1.toInt64 &&& 63)) - 1))))) 17 x1.toNatClampNeg).toNatClampNeg ((gI (sI (sI M 43 y1.toNatClampNeg (y2 + y3)) 43 4 ((gI (sI M 43 y1.toNatClampNeg (y2 + y3)) 43 4) + (f_jd_bitCount_95d88 ((gJ (sI M 43 y1.toNatClampNeg (y2 + y3)) 42 x1.toNatClampNeg) &&& (((1 : Int64) <<< (x1.toInt64 &&& 63)) - 1))))) 44 (gI (sI (sI M 43 y1.toNatClampNeg (y2 + y3)) 43 4 ((gI (sI M 43 y1.toNatClampNeg (y2 + y3)) 43 4) + (f_jd_bitCount_95d88 ((gJ (sI M 43 y1.toNatClampNeg (y2 + y3)) 42 x1.toNatClampNeg) &&& (((1 : Int64) <<< (x1.toInt64 &&& 63)) - 1))))) 17 x1.toNatClampNeg).toNatClampNeg) + 1)) 43 5)))
  else
    t_ju_addToDay_151 6 (gI (sI (sI (sI (sI M 43 y1.toNatClampNeg (y2 + y3)) 43 4 ((gI (sI M 43 y1.toNatClampNeg (y2 + y3)) 43 4) + (f_jd_bitCount_95d88 ((gJ (sI M 43 y1.toNatClampNeg (y2 + y3)) 42 x1.toNatClampNeg) &&& (((1 : Int64) <<< (x1.toInt64 &&& 63)) - 1))))) 44 (gI (sI (sI M 43 y1.toNatClampNeg (y2 + y3)) 43 4 ((gI (sI M 43 y1.toNatClampNeg (y2 + y3)) 43 4) + (f_jd_bitCount_95d88 ((gJ (sI M 43 y1.toNatClampNeg (y2 + y3)) 42 x1.toNatClampNeg) &&& (((1 : Int64) <<< (x1.toInt64 &&& 63)) - 1))))) 17 x1.toNatClampNeg).toNatClampNeg ((gI (sI (sI M 43 y1.toNatClampNeg (y2 + y3)) 43 4 ((gI (sI M 43 y1.toNatClampNeg (y2 + y3)) 43 4) + (f_jd_bitCount_95d88 ((gJ (sI M 43 y1.toNatClampNeg (y2 + y3)) 42 x1.toNatClampNeg) &&& (((1 : Int64) <<< (x1.toInt64 &&& 63)) - 1))))) 44 (gI (sI (sI M 43 y1.toNatClampNeg (y2 + y3)) 43 4 ((gI (sI M 43 y1.toNatClampNeg (y2 + y3)) 43 4) + (f_jd_bitCount_95d88 ((gJ (sI M 43 y1.toNatClampNeg (y2 + y3)) 42 x1.toNatClampNeg) &&& (((1 : Int64) <<< (x1.toInt64 &&& 63)) - 1))))) 17 x1.toNatClampNeg).toNatClampNeg) + 1)) 43 5 (if (gI (sI (sI (sI M 43 y1.toNatClampNeg (y2 + y3)) 43 4 ((gI (sI M 43 y1.toNatClampNeg (y2 + y3)) 43 4) + (f_jd_bitCount_95d88 ((gJ (sI M 43 y1.toNatClampNeg (y2 + y3)) 42 x1.toNatClampNeg) &&& (((1 : Int64) <<< (x1.toInt64 &&& 63)) - 1))))) 44 (gI (sI (sI M 43 y1.toNatClampNeg (y2 + y3)) 43 4 ((gI (sI M 43 y1.toNatClampNeg (y2 + y3)) 43 4) + (f_jd_bitCount_95d88 ((gJ (sI M 43 y1.toNatClampNeg (y2 + y3)) 42 x1.toNatClampNeg) &&& (((1 : Int64) <<< (x1.toInt64 &&& 63)) - 1))))) 17 x1.toNatClampNeg).toNatClampNeg ((gI (sI (sI M 43 y1.toNatClampNeg (y2 + y3)) 43 4 ((gI (sI M 43 y1.toNatClampNeg (y2 + y3)) 43 4) + (f_jd_bitCount_95d88 ((gJ (sI M 43 y1.toNatClampNeg (y2 + y3)) 42 x1.toNatClampNeg) &&& (((1 : Int64) <<< (x1.toInt64 &&& 63)) - 1))))) 44 (gI (sI (sI M 43 y1.toNatClampNeg (y2 + y3)) 43 4 ((gI (sI M 43 y1.toNatClampNeg (y2 + y3)) 43 4) + (f_jd_bitCount_95d88 ((gJ (sI M 43 y1.toNatClampNeg (y2 + y3)) 42 x1.toNatClampNeg) &&& (((1 : Int64) <<< (x1.toInt64 &&& 63)) - 1))))) 17 x1.toNatClampNeg).toNatClampNeg) + 1)) 43 5) < (gI (sI (sI (sI M 43 y1.toNatClampNeg (y2 + y3)) 43 4 ((gI (sI M 43 y1.toNatClampNeg (y2 + y3)) 43 4) + (f_jd_bitCount_95d88 ((gJ (sI M 43 y1.toNatClampNeg (y2 + y3)) 42 x1.toNatClampNeg) &&& (((1 : Int64) <<< (x1.toInt64 &&& 63)) - 1))))) 44 (gI (sI (sI M 43 y1.toNatClampNeg (y2 + y3)) 43 4 ((gI (sI M 43 y1.toNatClampNeg (y2 + y3)) 43 4) + (f_jd_bitCount_95d88 ((gJ (sI M 43 y1.toNatClampNeg (y2 + y3)) 42 x1.toNatClampNeg) &&& (((1 : Int64) <<< (x1.toInt64 &&& 63)) - 1))))) 17 x1.toNatClampNeg).toNatClampNeg ((gI (sI (sI M 43 y1.toNatClampNeg (y2 + y3)) 43 4 ((gI (sI M 43 y1.toNatClampNeg (y2 + y3)) 43 4) + (f_jd_bitCount_95d88 ((gJ (sI M 43 y1.toNatClampNeg (y2 + y3)) 42 x1.toNatClampNeg) &&& (((1 : Int64) <<< (x1.toInt64 &&& 63)) - 1))))) 44 (gI (sI (sI M 43 y1.toNatClampNeg (y2 + y3)) 43 4 ((gI (sI M 43 y1.toNatClampNeg (y2 + y3)) 43 4) + (f_jd_bitCount_95d88 ((gJ (sI M 43 y1.toNatClampNeg (y2 + y3)) 42 x1.toNatClampNeg) &&& (((1 : Int64) <<< (x1.toInt64 &&& 63)) - 1))))) 17 x1.toNatClampNeg).toNatClampNeg) + 1)) 44 (gI (sI (sI M 43 y1.toNatClampNeg (y2 + y3)) 43 4 ((gI (sI M 43 y1.toNatClampNeg (y2 + y3)) 43 4) + (f_jd_bitCount_95d88 ((gJ (sI M 43 y1.toNatClampNeg (y2 + y3)) 42 x1.toNatClampNeg) &&& (((1 : Int64) <<< (x1.toInt64 &&& 63)) - 1))))) 17 x1.toNatClampNeg).toNatClampNeg) then (gI (sI (sI (sI M 43 y1.toNatClampNeg (y2 + y3)) 43 4 ((gI (sI M 43 y1.toNatClampNeg (y2 + y3)) 43 4) + (f_jd_bitCount_95d88 ((gJ (sI M 43 y1.toNatClampNeg (y2 + y3)) 42 x1.toNatClampNeg) &&& (((1 : Int64) <<< (x1.toInt64 &&& 63)) - 1))))) 44 (gI (sI (sI M 43 y1.toNatClampNeg (y2 + y3)) 43 4 ((gI (sI M 43 y1.toNatClampNeg (y2 + y3)) 43 4) + (f_jd_bitCount_95d88 ((gJ (sI M 43 y1.toNatClampNeg (y2 + y3)) 42 x1.toNatClampNeg) &&& (((1 : Int64) <<< (x1.toInt64 &&& 63)) - 1))))) 17 x1.toNatClampNeg).toNatClampNeg ((gI (sI (sI M 43 y1.toNatClampNeg (y2 + y3)) 43 4 ((gI (sI M 43 y1.toNatClampNeg (y2 + y3)) 43 4) + (f_jd_bitCount_95d88 ((gJ (sI M 43 y1.toNatClampNeg (y2 + y3)) 42 x1.toNatClampNeg) &&& (((1 : Int64) <<< (x1.toInt64 &&& 63)) - 1))))) 44 (gI (sI (sI M 43 y1.toNatClampNeg (y2 + y3)) 43 4 ((gI (sI M 43 y1.toNatClampNeg (y2 + y3)) 43 4) + (f_jd_bitCount_95d88 ((gJ (sI M 43 y1.toNatClampNeg (y2 + y3)) 42 x1.toNatClampNeg) &&& (((1 : Int64) <<< (x1.toInt64 &&& 63)) - 1))))) 17 x1.toNatClampNeg).toNatClampNeg) + 1)) 44 (gI (sI (sI M 43 y1.toNatClampNeg (y2 + y3)) 43 4 ((gI (sI M 43 y1.toNatClampNeg (y2 + y3)) 43 4) + (f_jd_bitCount_95d88 ((gJ (sI M 43 y1.toNatClampNeg (y2 + y3)) 42 x1.toNatClampNeg) &&& (((1 : Int64) <<< (x1.toInt64 &&& 63)) - 1))))) 17 x1.toNatClampNeg).toNatClampNeg) else (gI (sI (sI (sI M 43 y1.toNatClampNeg (y2 + y3)) 43 4 ((gI (sI M 43 y1.toNatClampNeg (y2 + y3)) 43 4) + (f_jd_bitCount_95d88 ((gJ (sI M 43 y1.toNatClampNeg (y2 + y3)) 42 x1.toNatClampNeg) &&& (((1 : Int64) <<< (x1.toInt64 &&& 63)) - 1))))) 44 (gI (sI (sI M 43 y1.toNatClampNeg (y2 + y3)) 43 4 ((gI (sI M 43 y1.toNatClampNeg (y2 + y3)) 43 4) + (f_jd_bitCount_95d88 ((gJ (sI M 43 y1.toNatClampNeg (y2 + y3)) 42 x1.toNatClampNeg) &&& (((1 : Int64) <<< (x1.toInt64 &&& 63)) - 1))))) 17 x1.toNatClampNeg).toNatClampNeg ((gI (sI (sI M 43 y1.toNatClampNeg (y2 + y3)) 43 4 ((gI (sI M 43 y1.toNatClampNeg (y2 + y3)) 43 4) + (f_jd_bitCount_95d88 ((gJ (sI M 43 y1.toNatClampNeg (y2 + y3)) 42 x1.toNatClampNeg) &&& (((1 : Int64) <<< (x1.toInt64 &&& 63)) - 1))))) 44 (gI (sI (sI M 43 y1.toNatClampNeg (y2 + y3)) 43 4 ((gI (sI M 43 y1.toNatClampNeg (y2 + y3)) 43 4) + (f_jd_bitCount_95d88 ((gJ (sI M 43 y1.toNatClampNeg (y2 + y3)) 42 x1.toNatClampNeg) &&& (((1 : Int64) <<< (x1.toInt64 &&& 63)) - 1))))) 17 x1.toNatClampNeg).toNatClampNeg) + 1)) 43 5))) 43 6) 1 (sI (sI (sI (sI M 43 y1.toNatClampNeg (y2 + y3)) 43 4 ((gI (sI M 43 y1.toNatClampNeg (y2 + y3)) 43 4) + (f_jd_bitCount_95d88 ((gJ (sI M 43 y1.toNatClampNeg (y2 + y3)) 42 x1.toNatClampNeg) &&& (((1 : Int64) <<< (x1.toInt64 &&& 63)) - 1))))) 44 (gI (sI (sI M 43 y1.toNatClampNeg (y2 + y3)) 43 4 ((gI (sI M 43 y1.toNatClampNeg (y2 + y3)) 43 4) + (f_jd_bitCount_95d88 ((gJ (sI M 43 y1.toNatClampNeg (y2 + y3)) 42 x1.toNatClampNeg) &&& (((1 : Int64) <<< (x1.toInt64 &&& 63)) - 1))))) 17 x1.toNatClampNeg).toNatClampNeg ((gI (sI (sI M 43 y1.toNatClampNeg (y2 + y3)) 43 4 ((gI (sI M 43 y1.toNatClampNeg (y2 + y3)) 43 4) + (f_jd_bitCount_95d88 ((gJ (sI M 43 y1.toNatClampNeg (y2 + y3)) 42 x1.toNatClampNeg) &&& (((1 : Int64) <<< (x1.toInt64 &&& 63)) - 1))))) 44 (gI (sI (sI M 43 y1.toNatClampNeg (y2 + y3)) 43 4 ((gI (sI M 43 y1.toNatClampNeg (y2 + y3)) 43 4) + (f_jd_bitCount_95d88 ((gJ (sI M 43 y1.toNatClampNeg (y2 + y3)) 42 x1.toNatClampNeg) &&& (((1 : Int64) <<< (x1.toInt64 &&& 63)) - 1))))) 17 x1.toNatClampNeg).toNatClampNeg) + 1)) 43 5 (if (gI (sI (sI (sI M 43 y1.toNatClampNeg (y2 + y3)) 43 4 ((gI (sI M 43 y1.toNatClampNeg (y2 + y3)) 43 4) + (f_jd_bitCount_95d88 ((gJ (sI M 43 y1.toNatClampNeg (y2 + y3)) 42 x1.toNatClampNeg) &&& (((1 : Int64) <<< (x1.toInt64 &&& 63)) - 1))))) 44 (gI (sI (sI M 43 y1.toNatClampNeg (y2 + y3)) 43 4 ((gI (sI M 43 y1.toNatClampNeg (y2 + y3)) 43 4) + (f_jd_bitCount_95d88 ((gJ (sI M 43 y1.toNatClampNeg (y2 + y3)) 42 x1.toNatClampNeg) &&& (((1 : Int64) <<< (x1.toInt64 &&& 63)) - 1))))) 17 x1.toNatClampNeg).toNatClampNeg ((gI (sI (sI M 43 y1.toNatClampNeg (y2 + y3)) 43 4 ((gI (sI M 43 y1.toNatClampNeg (y2 + y3)) 43 4) + (f_jd_bitCount_95d88 ((gJ (sI M 43 y1.toNatClampNeg (y2 + y3)) 42 x1.toNatClampNeg) &&& (((1 : Int64) <<< (x1.toInt64 &&& 63)) - 1))))) 44 (gI (sI (sI M 43 y1.toNatClampNeg (y2 + y3)) 43 4 ((gI (sI M 43 y1.toNatClampNeg (y2 + y3)) 43 4) + (f_jd_bitCount_95d88 ((gJ (sI M 43 y1.toNatClampNeg (y2 + y3)) 42 x1.toNatClampNeg) &&& (((1 : Int64) <<< (x1.toInt64 &&& 63)) - 1))))) 17 x1.toNatClampNeg).toNatClampNeg) + 1)) 43 5) < (gI (sI (sI (sI M 43 y1.toNatClampNeg (y2 + y3)) 43 4 ((gI (sI M 43 y1.toNatClampNeg (y2 + y3)) 43 4) + (f_jd_bitCount_95d88 ((gJ (sI M 43 y1.toNatClampNeg (y2 + y3)) 42 x1.toNatClampNeg) &&& (((1 : Int64) <<< (x1.toInt64 &&& 63)) - 1))))) 44 (gI (sI (sI M 43 y1.toNatClampNeg (y2 + y3)) 43 4 ((gI (sI M 43 y1.toNatClampNeg (y2 + y3)) 43 4) + (f_jd_bitCount_95d88 ((gJ (sI M 43 y1.toNatClampNeg (y2 + y3)) 42 x1.toNatClampNeg) &&& (((1 : Int64) <<< (x1.toInt64 &&& 63)) - 1))))) 17 x1.toNatClampNeg).toNatClampNeg ((gI (sI (sI M 43 y1.toNatClampNeg (y2 + y3)) 43 4 ((gI (sI M 43 y1.toNatClampNeg (y2 + y3)) 43 4) + (f_jd_bitCount_95d88 ((gJ (sI M 43 y1.toNatClampNeg (y2 + y3)) 42 x1.toNatClampNeg) &&& (((1 : Int64) <<< (x1.toInt64 &&& 63)) - 1))))) 44 (gI (sI (sI M 43 y1.toNatClampNeg (y2 + y3)) 43 4 ((gI (sI M 43 y1.toNatClampNeg (y2 + y3)) 43 4) + (f_jd_bitCount_95d88 ((gJ (sI M 43 y1.toNatClampNeg (y2 + y3)) 42 x1.toNatClampNeg) &&& (((1 : Int64) <<< (x1.toInt64 &&& 63)) - 1))))) 17 x1.toNatClampNeg).toNatClampNeg) + 1)) 44 (gI (sI (sI M 43 y1.toNatClampNeg (y2 + y3)) 43 4 ((gI (sI M 43 y1.toNatClampNeg (y2 + y3)) 43 4) + (f_jd_bitCount_95d88 ((gJ (sI M 43 y1.toNatClampNeg (y2 + y3)) 42 x1.toNatClampNeg) &&& (((1 : Int64) <<< (x1.toInt64 &&& 63)) - 1))))) 17 x1.toNatClampNeg).toNatClampNeg) then (gI (sI (sI (sI M 43 y1.toNatClampNeg (y2 + y3)) 43 4 ((gI (sI M 43 y1.toNatClampNeg (y2 + y3)) 43 4) + (f_jd_bitCount_95d88 ((gJ (sI M 43 y1.toNatClampNeg (y2 + y3)) 42 x1.toNatClampNeg) &&& (((1 : Int64) <<< (x1.toInt64 &&& 63)) - 1))))) 44 (gI (sI (sI M 43 y1.toNatClampNeg (y2 + y3)) 43 4 ((gI (sI M 43 y1.toNatClampNeg (y2 + y3)) 43 4) + (f_jd_bitCount_95d88 ((gJ (sI M 43 y1.toNatClampNeg (y2 + y3)) 42 x1.toNatClampNeg) &&& (((1 : Int64) <<< (x1.toInt64 &&& 63)) - 1))))) 17 x1.toNatClampNeg).toNatClampNeg ((gI (sI (sI M 43 y1.toNatClampNeg (y2 + y3)) 43 4 ((gI (sI M 43 y1.toNatClampNeg (y2 + y3)) 43 4) + (f_jd_bitCount_95d88 ((gJ (sI M 43 y1.toNatClampNeg (y2 + y3)) 42 x1.toNatClampNeg) &&& (((1 : Int64) <<< (x1.toInt64 &&& 63)) - 1))))) 44 (gI (sI (sI M 43 y1.toNatClampNeg (y2 + y3)) 43 4 ((gI (sI M 43 y1.toNatClampNeg (y2 + y3)) 43 4) + (f_jd_bitCount_95d88 ((gJ (sI M 43 y1.toNatClampNeg (y2 + y3)) 42 x1.toNatClampNeg) &&& (((1 : Int64) <<< (x1.toInt64 &&& 63)) - 1))))) 17 x1.toNatClampNeg).toNatClampNeg) + 1)) 44 (gI (sI (sI M 43 y1.toNatClampNeg (y2 + y3)) 43 4 ((gI (sI M 43 y1.toNatClampNeg (y2 + y3)) 43 4) + (f_jd_bitCount_95d88 ((gJ (sI M 43 y1.toNatClampNeg (y2 + y3)) 42 x1.toNatClampNeg) &&& (((1 : Int64) <<< (x1.toInt64 &&& 63)) - 1))))) 17 x1.toNatClampNeg).toNatClampNeg) else (gI (sI (sI (sI M 43 y1.toNatClampNeg (y2 + y3)) 43 4 ((gI (sI M 43 y1.toNatClampNeg (y2 + y3)) 43 4) + (f_jd_bitCount_95d88 ((gJ (sI M 43 y1.toNatClampNeg (y2 + y3)) 42 x1.toNatClampNeg) &&& (((1 : Int64) <<< (x1.toInt64 &&& 63)) - 1))))) 44 (gI (sI (sI M 43 y1.toNatClampNeg (y2 + y3)) 43 4 ((gI (sI M 43 y1.toNatClampNeg (y2 + y3)) 43 4) + (f_jd_bitCount_95d88 ((gJ (sI M 43 y1.toNatClampNeg (y2 + y3)) 42 x1.toNatClampNeg) &&& (((1 : Int64) <<< (x1.toInt64 &&& 63)) - 1))))) 17 x1.toNatClampNeg).toNatClampNeg ((gI (sI (sI M 43 y1.toNatClampNeg (y2 + y3)) 43 4 ((gI (sI M 43 y1.toNatClampNeg (y2 + y3)) 43 4) + (f_jd_bitCount_95d88 ((gJ (sI M 43 y1.toNatClampNeg (y2 + y3)) 42 x1.toNatClampNeg) &&& (((1 : Int64) <<< (x1.toInt64 &&& 63)) - 1))))) 44 (gI (sI (sI M 43 y1.toNatClampNeg (y2 + y3)) 43 4 ((gI (sI M 43 y1.toNatClampNeg (y2 + y3)) 43 4) + (f_jd_bitCount_95d88 ((gJ (sI M 43 y1.toNatClampNeg (y2 + y3)) 42 x1.toNatClampNeg) &&& (((1 : Int64) <<< (x1.toInt64 &&& 63)) - 1))))) 17 x1.toNatClampNeg).toNatClampNeg) + 1)) 43 5)))
noncomputable def t_ju_addToDay_32 (x1 : Int32) (y1 : Int32) (y2 : Int32) (y3 : Int32) (M : dM) : Option dM :=
  gd (vp_in y1 8) <|
  gd (vp_in x1 40) <|
  if (gI (sI M 43 y1.toNatClampNeg (y2 + y3)) 41 x1.toNatClampNeg) = 1 then
    t_ju_addToDay_56 x1 3 (gI (sI M 43 y1.toNatClampNeg (y2 + y3)) 43 3) 1 (sI M 43 y1.toNatClampNeg (y2 + y3))
  else
    t_ju_addToDay_56 x1 3 (gI (sI M 43 y1.toNatClampNeg (y2 + y3)) 43 3) 0 (sI M 43 y1.toNatClampNeg (y2 + y3))
noncomputable def f_ju_addToDay (a1 : Int32) (M : dM) : Option dM :=
  gd (vp_in a1 40) <|
  if (gI (sI M 43 1 ((gI M 43 1) + 1)) 41 a1.toNatClampNeg) = 2 then
    t_ju_addToDay_32 a1 2 (gI (sI M 43 1 ((gI M 43 1) + 1)) 43 2) 1 (sI M 43 1 ((gI M 43 1) + 1))
  else
    t_ju_addToDay_32 a1 2 (gI (sI M 43 1 ((gI M 43 1) + 1)) 43 2) 0 (sI M 43 1 ((gI M 43 1) + 1))
theorem w_t_ju_addToDay_151 (y1 : Int32) (y2 : Int32) (y3 : Int32) (M : dM) {Q : mz_P} {o : dM} (hf : t_ju_addToDay_151 y1 y2 y3 M = some o) (hk : mR Q none o) : mW mX2_addToDay 2 Q 151 [none, none, none] [.int y3, .int y2, .int y1, .ref 43] M := by
  unfold t_ju_addToDay_151 at hf
  refine y_iadd (n := 152) ⟨dX2_addToDay_151, rfl⟩ ?_
  obtain ⟨hg8, hf⟩ := g_s hf
  refine y_iastore (n := 153) ⟨dX2_addToDay_152, rfl⟩ l_43 hg8 ?_
  cases hf
  exact y_return (n := 154) ⟨dX2_addToDay_153, rfl⟩ rfl hk
theorem w_t_ju_addToDay_56 (x1 : Int32) (y1 : Int32) (y2 : Int32) (y3 : Int32) (M : dM) {Q : mz_P} {o : dM} (hf : t_ju_addToDay_56 x1 y1 y2 y3 M = some o) (hk : mR Q none o) : mW mX2_addToDay 2 Q 56 [some (.ref 39), some (.int x1), none] [.int y3, .int y2, .int y1, .ref 43] M := by
  unfold t_ju_addToDay_56 at hf
  refine y_iadd (n := 57) ⟨dX2_addToDay_56, rfl⟩ ?_
  obtain ⟨hg4, hf⟩ := g_s hf
  refine y_iastore (n := 58) ⟨dX2_addToDay_57, rfl⟩ l_43 hg4 ?_
  refine y_aload_n (i := 0) (n := 59) ⟨dX2_addToDay_58, rfl⟩ rfl ?_
  refine y_getR (n := 62) ⟨dX2_addToDay_59, rfl⟩ kfX2_22 l_39 rfl r_39_7 ?_
  refine y_iconst (n := 63) (v := 4) ⟨dX2_addToDay_62, rfl⟩ ki_4 ?_
  refine y_dup2 (n := 64) ⟨dX2_addToDay_63, rfl⟩ ?_
  refine y_iaload (n := 65) ⟨dX2_addToDay_64, rfl⟩ l_43 (by unfold vp_in; decide) ?_
  refine y_aload_n (i := 0) (n := 66) ⟨dX2_addToDay_65, rfl⟩ rfl ?_
  refine y_getR (n := 69) ⟨dX2_addToDay_66, rfl⟩ kfX2_18 l_39 rfl r_39_6 ?_
  refine y_iload_n (i := 1) (n := 70) ⟨dX2_addToDay_69, rfl⟩ rfl ?_
  obtain ⟨hg5, hf⟩ := g_s hf
  refine y_laload (n := 71) ⟨dX2_addToDay_70, rfl⟩ l_42 hg5 ?_
  refine y_lconst (n := 72) (v := 1) ⟨dX2_addToDay_71, rfl⟩ kl_1 ?_
  refine y_iload_n (i := 1) (n := 73) ⟨dX2_addToDay_72, rfl⟩ rfl ?_
  refine y_lshl (n := 74) ⟨dX2_addToDay_73, rfl⟩ ?_
  refine y_lconst (n := 75) (v := 1) ⟨dX2_addToDay_74, rfl⟩ kl_1 ?_
  refine y_lsub (n := 76) ⟨dX2_addToDay_75, rfl⟩ ?_
  refine y_land (n := 77) ⟨dX2_addToDay_76, rfl⟩ ?_
  refine c_jd_bitCount_95d88 ((gJ (sI M 43 y1.toNatClampNeg (y2 + y3)) 42 x1.toNatClampNeg) &&& (((1 : Int64) <<< (x1.toInt64 &&& 63)) - 1)) (sI M 43 y1.toNatClampNeg (y2 + y3)) (n := 80) ⟨dX2_addToDay_77, rfl⟩ klX2_85 rfl (by decide) (Nat.le_of_ble_eq_true rfl) rfl rfl ?_
  refine y_iadd (n := 81) ⟨dX2_addToDay_80, rfl⟩ ?_
  refine y_iastore (n := 82) ⟨dX2_addToDay_81, rfl⟩ l_43 (by unfold vp_in; decide) ?_
  refine y_aload_n (i := 0) (n := 83) ⟨dX2_addToDay_82, rfl⟩ rfl ?_
  refine y_getR (n := 86) ⟨dX2_addToDay_83, rfl⟩ kfX2_40 l_39 rfl r_39_2 ?_
  refine y_getR (n := 89) ⟨dX2_addToDay_86, rfl⟩ kfX2_65 l_12 rfl r_12_4 ?_
  refine y_iload_n (i := 1) (n := 90) ⟨dX2_addToDay_89, rfl⟩ rfl ?_
  refine y_iaload (n := 91) ⟨dX2_addToDay_90, rfl⟩ l_17 hg5 ?_
  refine y_istore_n (i := 2) (n := 92) (L2 := [some (.ref 39), some (.int x1), some (.int (gI (sI (sI M 43 y1.toNatClampNeg (y2 + y3)) 43 4 ((gI (sI M 43 y1.toNatClampNeg (y2 + y3)) 43 4) + (f_jd_bitCount_95d88 ((gJ (sI M 43 y1.toNatClampNeg (y2 + y3)) 42 x1.toNatClampNeg) &&& (((1 : Int64) <<< (x1.toInt64 &&& 63)) - 1))))) 17 x1.toNatClampNeg))]) ⟨dX2_addToDay_91, rfl⟩ (by decide) rfl rfl ?_
  refine y_aload_n (i := 0) (n := 93) ⟨dX2_addToDay_92, rfl⟩ rfl ?_
  refine y_getR (n := 96) ⟨dX2_addToDay_93, rfl⟩ kfX2_25 l_39 rfl r_39_8 ?_
  refine y_iload_n (i := 2) (n := 97) ⟨dX2_addToDay_96, rfl⟩ rfl ?_
  refine y_dup2 (n := 98) ⟨dX2_addToDay_97, rfl⟩ ?_
  obtain ⟨hg6, hf⟩ := g_s hf
  refine y_iaload (n := 99) ⟨dX2_addToDay_98, rfl⟩ l_44 hg6 ?_
  refine y_iconst (n := 100) (v := 1) ⟨dX2_addToDay_99, rfl⟩ ki_1 ?_
  refine y_iadd (n := 101) ⟨dX2_addToDay_100, rfl⟩ ?_
  refine y_iastore (n := 102) ⟨dX2_addToDay_101, rfl⟩ l_44 hg6 ?_
  refine y_aload_n (i := 0) (n := 103) ⟨dX2_addToDay_102, rfl⟩ rfl ?_
  refine y_getR (n := 106) ⟨dX2_addToDay_103, rfl⟩ kfX2_22 l_39 rfl r_39_7 ?_
  refine y_iconst (n := 107) (v := 5) ⟨dX2_addToDay_106, rfl⟩ ki_5 ?_
  refine y_aload_n (i := 0) (n := 108) ⟨dX2_addToDay_107, rfl⟩ rfl ?_
  refine y_getR (n := 111) ⟨dX2_addToDay_108, rfl⟩ kfX2_22 l_39 rfl r_39_7 ?_
  refine y_iconst (n := 112) (v := 5) ⟨dX2_addToDay_111, rfl⟩ ki_5 ?_
  refine y_iaload (n := 113) ⟨dX2_addToDay_112, rfl⟩ l_43 (by unfold vp_in; decide) ?_
  refine y_aload_n (i := 0) (n := 114) ⟨dX2_addToDay_113, rfl⟩ rfl ?_
  refine y_getR (n := 117) ⟨dX2_addToDay_114, rfl⟩ kfX2_25 l_39 rfl r_39_8 ?_
  refine y_iload_n (i := 2) (n := 118) ⟨dX2_addToDay_117, rfl⟩ rfl ?_
  refine y_iaload (n := 119) ⟨dX2_addToDay_118, rfl⟩ l_44 hg6 ?_
  refine y_mmax kcmax ksmax kiMath (n := 122) ⟨dX2_addToDay_119, rfl⟩ (mz_in 988 (by decide +kernel) (by decide +kernel)) (by decide) (Nat.le_of_ble_eq_true rfl) ?_
  refine y_iastore (n := 123) ⟨dX2_addToDay_122, rfl⟩ l_43 (by unfold vp_in; decide) ?_
  refine y_aload_n (i := 0) (n := 124) ⟨dX2_addToDay_123, rfl⟩ rfl ?_
  refine y_getR (n := 127) ⟨dX2_addToDay_124, rfl⟩ kfX2_22 l_39 rfl r_39_7 ?_
  refine y_bipush (n := 129) (v := 6) ⟨dX2_addToDay_127, rfl⟩ kb_6 ?_
  refine y_dup2 (n := 130) ⟨dX2_addToDay_129, rfl⟩ ?_
  refine y_iaload (n := 131) ⟨dX2_addToDay_130, rfl⟩ l_43 (by unfold vp_in; decide) ?_
  refine y_aload_n (i := 0) (n := 132) ⟨dX2_addToDay_131, rfl⟩ rfl ?_
  refine y_getR (n := 135) ⟨dX2_addToDay_132, rfl⟩ kfX2_9 l_39 rfl r_39_4 ?_
  refine y_iload_n (i := 1) (n := 136) ⟨dX2_addToDay_135, rfl⟩ rfl ?_
  refine y_bipush (n := 138) (v := 17) ⟨dX2_addToDay_136, rfl⟩ kb_17 ?_
  refine y_imul (n := 139) ⟨dX2_addToDay_138, rfl⟩ ?_
  refine y_bipush (n := 141) (v := 14) ⟨dX2_addToDay_139, rfl⟩ kb_14 ?_
  refine y_iadd (n := 142) ⟨dX2_addToDay_141, rfl⟩ ?_
  obtain ⟨hg7, hf⟩ := g_s hf
  refine y_iaload (n := 143) ⟨dX2_addToDay_142, rfl⟩ l_40 hg7 ?_
  refine y_if_le (t := 150) (n := 146) ⟨dX2_addToDay_143, rfl, rfl⟩ (fun (hc : (gI (sI (sI (sI (sI M 43 y1.toNatClampNeg (y2 + y3)) 43 4 ((gI (sI M 43 y1.toNatClampNeg (y2 + y3)) 43 4) + (f_jd_bitCount_95d88 ((gJ (sI M 43 y1.toNatClampNeg (y2 + y3)) 42 x1.toNatClampNeg) &&& (((1 : Int64) <<< (x1.toInt64 &&& 63)) - 1))))) 44 (gI (sI (sI M 43 y1.toNatClampNeg (y2 + y3)) 43 4 ((gI (sI M 43 y1.toNatClampNeg (y2 + y3)) 43 4) + (f_jd_bitCount_95d88 ((gJ (sI M 43 y1.toNatClampNeg (y2 + y3)) 42 x1.toNatClampNeg) &&& (((1 : Int64) <<< (x1.toInt64 &&& 63)) - 1))))) 17 x1.toNatClampNeg).toNatClampNeg ((gI (sI (sI M 43 y1.toNatClampNeg (y2 + y3)) 43 4 ((gI (sI M 43 y1.toNatClampNeg (y2 + y3)) 43 4) + (f_jd_bitCount_95d88 ((gJ (sI M 43 y1.toNatClampNeg (y2 + y3)) 42 x1.toNatClampNeg) &&& (((1 : Int64) <<< (x1.toInt64 &&& 63)) - 1))))) 44 (gI (sI (sI M 43 y1.toNatClampNeg (y2 + y3)) 43 4 ((gI (sI M 43 y1.toNatClampNeg (y2 + y3)) 43 4) + (f_jd_bitCount_95d88 ((gJ (sI M 43 y1.toNatClampNeg (y2 + y3)) 42 x1.toNatClampNeg) &&& (((1 : Int64) <<< (x1.toInt64 &&& 63)) - 1))))) 17 x1.toNatClampNeg).toNatClampNeg) + 1)) 43 5 (if (gI (sI (sI (sI M 43 y1.toNatClampNeg (y2 + y3)) 43 4 ((gI (sI M 43 y1.toNatClampNeg (y2 + y3)) 43 4) + (f_jd_bitCount_95d88 ((gJ (sI M 43 y1.toNatClampNeg (y2 + y3)) 42 x1.toNatClampNeg) &&& (((1 : Int64) <<< (x1.toInt64 &&& 63)) - 1))))) 44 (gI (sI (sI M 43 y1.toNatClampNeg (y2 + y3)) 43 4 ((gI (sI M 43 y1.toNatClampNeg (y2 + y3)) 43 4) + (f_jd_bitCount_95d88 ((gJ (sI M 43 y1.toNatClampNeg (y2 + y3)) 42 x1.toNatClampNeg) &&& (((1 : Int64) <<< (x1.toInt64 &&& 63)) - 1))))) 17 x1.toNatClampNeg).toNatClampNeg ((gI (sI (sI M 43 y1.toNatClampNeg (y2 + y3)) 43 4 ((gI (sI M 43 y1.toNatClampNeg (y2 + y3)) 43 4) + (f_jd_bitCount_95d88 ((gJ (sI M 43 y1.toNatClampNeg (y2 + y3)) 42 x1.toNatClampNeg) &&& (((1 : Int64) <<< (x1.toInt64 &&& 63)) - 1))))) 44 (gI (sI (sI M 43 y1.toNatClampNeg (y2 + y3)) 43 4 ((gI (sI M 43 y1.toNatClampNeg (y2 + y3)) 43 4) + (f_jd_bitCount_95d88 ((gJ (sI M 43 y1.toNatClampNeg (y2 + y3)) 42 x1.toNatClampNeg) &&& (((1 : Int64) <<< (x1.toInt64 &&& 63)) - 1))))) 17 x1.toNatClampNeg).toNatClampNeg) + 1)) 43 5) < (gI (sI (sI (sI M 43 y1.toNatClampNeg (y2 + y3)) 43 4 ((gI (sI M 43 y1.toNatClampNeg (y2 + y3)) 43 4) + (f_jd_bitCount_95d88 ((gJ (sI M 43 y1.toNatClampNeg (y2 + y3)) 42 x1.toNatClampNeg) &&& (((1 : Int64) <<< (x1.toInt64 &&& 63)) - 1))))) 44 (gI (sI (sI M 43 y1.toNatClampNeg (y2 + y3)) 43 4 ((gI (sI M 43 y1.toNatClampNeg (y2 + y3)) 43 4) + (f_jd_bitCount_95d88 ((gJ (sI M 43 y1.toNatClampNeg (y2 + y3)) 42 x1.toNatClampNeg) &&& (((1 : Int64) <<< (x1.toInt64 &&& 63)) - 1))))) 17 x1.toNatClampNeg).toNatClampNeg ((gI (sI (sI M 43 y1.toNatClampNeg (y2 + y3)) 43 4 ((gI (sI M 43 y1.toNatClampNeg (y2 + y3)) 43 4) + (f_jd_bitCount_95d88 ((gJ (sI M 43 y1.toNatClampNeg (y2 + y3)) 42 x1.toNatClampNeg) &&& (((1 : Int64) <<< (x1.toInt64 &&& 63)) - 1))))) 44 (gI (sI (sI M 43 y1.toNatClampNeg (y2 + y3)) 43 4 ((gI (sI M 43 y1.toNatClampNeg (y2 + y3)) 43 4) + (f_jd_bitCount_95d88 ((gJ (sI M 43 y1.toNatClampNeg (y2 + y3)) 42 x1.toNatClampNeg) &&& (((1 : Int64) <<< (x1.toInt64 &&& 63)) - 1))))) 17 x1.toNatClampNeg).toNatClampNeg) + 1)) 44 (gI (sI (sI M 43 y1.toNatClampNeg (y2 + y3)) 43 4 ((gI (sI M 43 y1.toNatClampNeg (y2 + y3)) 43 4) + (f_jd_bitCount_95d88 ((gJ (sI M 43 y1.toNatClampNeg (y2 + y3)) 42 x1.toNatClampNeg) &&& (((1 : Int64) <<< (x1.toInt64 &&& 63)) - 1))))) 17 x1.toNatClampNeg).toNatClampNeg) then (gI (sI (sI (sI M 43 y1.toNatClampNeg (y2 + y3)) 43 4 ((gI (sI M 43 y1.toNatClampNeg (y2 + y3)) 43 4) + (f_jd_bitCount_95d88 ((gJ (sI M 43 y1.toNatClampNeg (y2 + y3)) 42 x1.toNatClampNeg) &&& (((1 : Int64) <<< (x1.toInt64 &&& 63)) - 1))))) 44 (gI (sI (sI M 43 y1.toNatClampNeg (y2 + y3)) 43 4 ((gI (sI M 43 y1.toNatClampNeg (y2 + y3)) 43 4) + (f_jd_bitCount_95d88 ((gJ (sI M 43 y1.toNatClampNeg (y2 + y3)) 42 x1.toNatClampNeg) &&& (((1 : Int64) <<< (x1.toInt64 &&& 63)) - 1))))) 17 x1.toNatClampNeg).toNatClampNeg ((gI (sI (sI M 43 y1.toNatClampNeg (y2 + y3)) 43 4 ((gI (sI M 43 y1.toNatClampNeg (y2 + y3)) 43 4) + (f_jd_bitCount_95d88 ((gJ (sI M 43 y1.toNatClampNeg (y2 + y3)) 42 x1.toNatClampNeg) &&& (((1 : Int64) <<< (x1.toInt64 &&& 63)) - 1))))) 44 (gI (sI (sI M 43 y1.toNatClampNeg (y2 + y3)) 43 4 ((gI (sI M 43 y1.toNatClampNeg (y2 + y3)) 43 4) + (f_jd_bitCount_95d88 ((gJ (sI M 43 y1.toNatClampNeg (y2 + y3)) 42 x1.toNatClampNeg) &&& (((1 : Int64) <<< (x1.toInt64 &&& 63)) - 1))))) 17 x1.toNatClampNeg).toNatClampNeg) + 1)) 44 (gI (sI (sI M 43 y1.toNatClampNeg (y2 + y3)) 43 4 ((gI (sI M 43 y1.toNatClampNeg (y2 + y3)) 43 4) + (f_jd_bitCount_95d88 ((gJ (sI M 43 y1.toNatClampNeg (y2 + y3)) 42 x1.toNatClampNeg) &&& (((1 : Int64) <<< (x1.toInt64 &&& 63)) - 1))))) 17 x1.toNatClampNeg).toNatClampNeg) else (gI (sI (sI (sI M 43 y1.toNatClampNeg (y2 + y3)) 43 4 ((gI (sI M 43 y1.toNatClampNeg (y2 + y3)) 43 4) + (f_jd_bitCount_95d88 ((gJ (sI M 43 y1.toNatClampNeg (y2 + y3)) 42 x1.toNatClampNeg) &&& (((1 : Int64) <<< (x1.toInt64 &&& 63)) - 1))))) 44 (gI (sI (sI M 43 y1.toNatClampNeg (y2 + y3)) 43 4 ((gI (sI M 43 y1.toNatClampNeg (y2 + y3)) 43 4) + (f_jd_bitCount_95d88 ((gJ (sI M 43 y1.toNatClampNeg (y2 + y3)) 42 x1.toNatClampNeg) &&& (((1 : Int64) <<< (x1.toInt64 &&& 63)) - 1))))) 17 x1.toNatClampNeg).toNatClampNeg ((gI (sI (sI M 43 y1.toNatClampNeg (y2 + y3)) 43 4 ((gI (sI M 43 y1.toNatClampNeg (y2 + y3)) 43 4) + (f_jd_bitCount_95d88 ((gJ (sI M 43 y1.toNatClampNeg (y2 + y3)) 42 x1.toNatClampNeg) &&& (((1 : Int64) <<< (x1.toInt64 &&& 63)) - 1))))) 44 (gI (sI (sI M 43 y1.toNatClampNeg (y2 + y3)) 43 4 ((gI (sI M 43 y1.toNatClampNeg (y2 + y3)) 43 4) + (f_jd_bitCount_95d88 ((gJ (sI M 43 y1.toNatClampNeg (y2 + y3)) 42 x1.toNatClampNeg) &&& (((1 : Int64) <<< (x1.toInt64 &&& 63)) - 1))))) 17 x1.toNatClampNeg).toNatClampNeg) + 1)) 43 5))) 40 ((x1 * 17) + 14).toNatClampNeg) ≤ 0) => ?_) (fun (hc : ¬ ((gI (sI (sI (sI (sI M 43 y1.toNatClampNeg (y2 + y3)) 43 4 ((gI (sI M 43 y1.toNatClampNeg (y2 + y3)) 43 4) + (f_jd_bitCount_95d88 ((gJ (sI M 43 y1.toNatClampNeg (y2 + y3)) 42 x1.toNatClampNeg) &&& (((1 : Int64) <<< (x1.toInt64 &&& 63)) - 1))))) 44 (gI (sI (sI M 43 y1.toNatClampNeg (y2 + y3)) 43 4 ((gI (sI M 43 y1.toNatClampNeg (y2 + y3)) 43 4) + (f_jd_bitCount_95d88 ((gJ (sI M 43 y1.toNatClampNeg (y2 + y3)) 42 x1.toNatClampNeg) &&& (((1 : Int64) <<< (x1.toInt64 &&& 63)) - 1))))) 17 x1.toNatClampNeg).toNatClampNeg ((gI (sI (sI M 43 y1.toNatClampNeg (y2 + y3)) 43 4 ((gI (sI M 43 y1.toNatClampNeg (y2 + y3)) 43 4) + (f_jd_bitCount_95d88 ((gJ (sI M 43 y1.toNatClampNeg (y2 + y3)) 42 x1.toNatClampNeg) &&& (((1 : Int64) <<< (x1.toInt64 &&& 63)) - 1))))) 44 (gI (sI (sI M 43 y1.toNatClampNeg (y2 + y3)) 43 4 ((gI (sI M 43 y1.toNatClampNeg (y2 + y3)) 43 4) + (f_jd_bitCount_95d88 ((gJ (sI M 43 y1.toNatClampNeg (y2 + y3)) 42 x1.toNatClampNeg) &&& (((1 : Int64) <<< (x1.toInt64 &&& 63)) - 1))))) 17 x1.toNatClampNeg).toNatClampNeg) + 1)) 43 5 (if (gI (sI (sI (sI M 43 y1.toNatClampNeg (y2 + y3)) 43 4 ((gI (sI M 43 y1.toNatClampNeg (y2 + y3)) 43 4) + (f_jd_bitCount_95d88 ((gJ (sI M 43 y1.toNatClampNeg (y2 + y3)) 42 x1.toNatClampNeg) &&& (((1 : Int64) <<< (x1.toInt64 &&& 63)) - 1))))) 44 (gI (sI (sI M 43 y1.toNatClampNeg (y2 + y3)) 43 4 ((gI (sI M 43 y1.toNatClampNeg (y2 + y3)) 43 4) + (f_jd_bitCount_95d88 ((gJ (sI M 43 y1.toNatClampNeg (y2 + y3)) 42 x1.toNatClampNeg) &&& (((1 : Int64) <<< (x1.toInt64 &&& 63)) - 1))))) 17 x1.toNatClampNeg).toNatClampNeg ((gI (sI (sI M 43 y1.toNatClampNeg (y2 + y3)) 43 4 ((gI (sI M 43 y1.toNatClampNeg (y2 + y3)) 43 4) + (f_jd_bitCount_95d88 ((gJ (sI M 43 y1.toNatClampNeg (y2 + y3)) 42 x1.toNatClampNeg) &&& (((1 : Int64) <<< (x1.toInt64 &&& 63)) - 1))))) 44 (gI (sI (sI M 43 y1.toNatClampNeg (y2 + y3)) 43 4 ((gI (sI M 43 y1.toNatClampNeg (y2 + y3)) 43 4) + (f_jd_bitCount_95d88 ((gJ (sI M 43 y1.toNatClampNeg (y2 + y3)) 42 x1.toNatClampNeg) &&& (((1 : Int64) <<< (x1.toInt64 &&& 63)) - 1))))) 17 x1.toNatClampNeg).toNatClampNeg) + 1)) 43 5) < (gI (sI (sI (sI M 43 y1.toNatClampNeg (y2 + y3)) 43 4 ((gI (sI M 43 y1.toNatClampNeg (y2 + y3)) 43 4) + (f_jd_bitCount_95d88 ((gJ (sI M 43 y1.toNatClampNeg (y2 + y3)) 42 x1.toNatClampNeg) &&& (((1 : Int64) <<< (x1.toInt64 &&& 63)) - 1))))) 44 (gI (sI (sI M 43 y1.toNatClampNeg (y2 + y3)) 43 4 ((gI (sI M 43 y1.toNatClampNeg (y2 + y3)) 43 4) + (f_jd_bitCount_95d88 ((gJ (sI M 43 y1.toNatClampNeg (y2 + y3)) 42 x1.toNatClampNeg) &&& (((1 : Int64) <<< (x1.toInt64 &&& 63)) - 1))))) 17 x1.toNatClampNeg).toNatClampNeg ((gI (sI (sI M 43 y1.toNatClampNeg (y2 + y3)) 43 4 ((gI (sI M 43 y1.toNatClampNeg (y2 + y3)) 43 4) + (f_jd_bitCount_95d88 ((gJ (sI M 43 y1.toNatClampNeg (y2 + y3)) 42 x1.toNatClampNeg) &&& (((1 : Int64) <<< (x1.toInt64 &&& 63)) - 1))))) 44 (gI (sI (sI M 43 y1.toNatClampNeg (y2 + y3)) 43 4 ((gI (sI M 43 y1.toNatClampNeg (y2 + y3)) 43 4) + (f_jd_bitCount_95d88 ((gJ (sI M 43 y1.toNatClampNeg (y2 + y3)) 42 x1.toNatClampNeg) &&& (((1 : Int64) <<< (x1.toInt64 &&& 63)) - 1))))) 17 x1.toNatClampNeg).toNatClampNeg) + 1)) 44 (gI (sI (sI M 43 y1.toNatClampNeg (y2 + y3)) 43 4 ((gI (sI M 43 y1.toNatClampNeg (y2 + y3)) 43 4) + (f_jd_bitCount_95d88 ((gJ (sI M 43 y1.toNatClampNeg (y2 + y3)) 42 x1.toNatClampNeg) &&& (((1 : Int64) <<< (x1.toInt64 &&& 63)) - 1))))) 17 x1.toNatClampNeg).toNatClampNeg) then (gI (sI (sI (sI M 43 y1.toNatClampNeg (y2 + y3)) 43 4 ((gI (sI M 43 y1.toNatClampNeg (y2 + y3)) 43 4) + (f_jd_bitCount_95d88 ((gJ (sI M 43 y1.toNatClampNeg (y2 + y3)) 42 x1.toNatClampNeg) &&& (((1 : Int64) <<< (x1.toInt64 &&& 63)) - 1))))) 44 (gI (sI (sI M 43 y1.toNatClampNeg (y2 + y3)) 43 4 ((gI (sI M 43 y1.toNatClampNeg (y2 + y3)) 43 4) + (f_jd_bitCount_95d88 ((gJ (sI M 43 y1.toNatClampNeg (y2 + y3)) 42 x1.toNatClampNeg) &&& (((1 : Int64) <<< (x1.toInt64 &&& 63)) - 1))))) 17 x1.toNatClampNeg).toNatClampNeg ((gI (sI (sI M 43 y1.toNatClampNeg (y2 + y3)) 43 4 ((gI (sI M 43 y1.toNatClampNeg (y2 + y3)) 43 4) + (f_jd_bitCount_95d88 ((gJ (sI M 43 y1.toNatClampNeg (y2 + y3)) 42 x1.toNatClampNeg) &&& (((1 : Int64) <<< (x1.toInt64 &&& 63)) - 1))))) 44 (gI (sI (sI M 43 y1.toNatClampNeg (y2 + y3)) 43 4 ((gI (sI M 43 y1.toNatClampNeg (y2 + y3)) 43 4) + (f_jd_bitCount_95d88 ((gJ (sI M 43 y1.toNatClampNeg (y2 + y3)) 42 x1.toNatClampNeg) &&& (((1 : Int64) <<< (x1.toInt64 &&& 63)) - 1))))) 17 x1.toNatClampNeg).toNatClampNeg) + 1)) 44 (gI (sI (sI M 43 y1.toNatClampNeg (y2 + y3)) 43 4 ((gI (sI M 43 y1.toNatClampNeg (y2 + y3)) 43 4) + (f_jd_bitCount_95d88 ((gJ (sI M 43 y1.toNatClampNeg (y2 + y3)) 42 x1.toNatClampNeg) &&& (((1 : Int64) <<< (x1.toInt64 &&& 63)) - 1))))) 17 x1.toNatClampNeg).toNatClampNeg) else (gI (sI (sI (sI M 43 y1.toNatClampNeg (y2 + y3)) 43 4 ((gI (sI M 43 y1.toNatClampNeg (y2 + y3)) 43 4) + (f_jd_bitCount_95d88 ((gJ (sI M 43 y1.toNatClampNeg (y2 + y3)) 42 x1.toNatClampNeg) &&& (((1 : Int64) <<< (x1.toInt64 &&& 63)) - 1))))) 44 (gI (sI (sI M 43 y1.toNatClampNeg (y2 + y3)) 43 4 ((gI (sI M 43 y1.toNatClampNeg (y2 + y3)) 43 4) + (f_jd_bitCount_95d88 ((gJ (sI M 43 y1.toNatClampNeg (y2 + y3)) 42 x1.toNatClampNeg) &&& (((1 : Int64) <<< (x1.toInt64 &&& 63)) - 1))))) 17 x1.toNatClampNeg).toNatClampNeg ((gI (sI (sI M 43 y1.toNatClampNeg (y2 + y3)) 43 4 ((gI (sI M 43 y1.toNatClampNeg (y2 + y3)) 43 4) + (f_jd_bitCount_95d88 ((gJ (sI M 43 y1.toNatClampNeg (y2 + y3)) 42 x1.toNatClampNeg) &&& (((1 : Int64) <<< (x1.toInt64 &&& 63)) - 1))))) 44 (gI (sI (sI M 43 y1.toNatClampNeg (y2 + y3)) 43 4 ((gI (sI M 43 y1.toNatClampNeg (y2 + y3)) 43 4) + (f_jd_bitCount_95d88 ((gJ (sI M 43 y1.toNatClampNeg (y2 + y3)) 42 x1.toNatClampNeg) &&& (((1 : Int64) <<< (x1.toInt64 &&& 63)) - 1))))) 17 x1.toNatClampNeg).toNatClampNeg) + 1)) 43 5))) 40 ((x1 * 17) + 14).toNatClampNeg) ≤ 0)) => ?_)
  · replace hf := i_t hc hf
    refine y_iconst (n := 151) (v := 0) ⟨dX2_addToDay_150, rfl⟩ ki_0 ?_
    exact y_wk (L2 := [none, none, none]) ⟨Or.inl rfl, Or.inl rfl, Or.inl rfl, trivial⟩ (w_t_ju_addToDay_151 6 (gI (sI (sI (sI (sI M 43 y1.toNatClampNeg (y2 + y3)) 43 4 ((gI (sI M 43 y1.toNatClampNeg (y2 + y3)) 43 4) + (f_jd_bitCount_95d88 ((gJ (sI M 43 y1.toNatClampNeg (y2 + y3)) 42 x1.toNatClampNeg) &&& (((1 : Int64) <<< (x1.toInt64 &&& 63)) - 1))))) 44 (gI (sI (sI M 43 y1.toNatClampNeg (y2 + y3)) 43 4 ((gI (sI M 43 y1.toNatClampNeg (y2 + y3)) 43 4) + (f_jd_bitCount_95d88 ((gJ (sI M 43 y1.toNatClampNeg (y2 + y3)) 42 x1.toNatClampNeg) &&& (((1 : Int64) <<< (x1.toInt64 &&& 63)) - 1))))) 17 x1.toNatClampNeg).toNatClampNeg ((gI (sI (sI M 43 y1.toNatClampNeg (y2 + y3)) 43 4 ((gI (sI M 43 y1.toNatClampNeg (y2 + y3)) 43 4) + (f_jd_bitCount_95d88 ((gJ (sI M 43 y1.toNatClampNeg (y2 + y3)) 42 x1.toNatClampNeg) &&& (((1 : Int64) <<< (x1.toInt64 &&& 63)) - 1))))) 44 (gI (sI (sI M 43 y1.toNatClampNeg (y2 + y3)) 43 4 ((gI (sI M 43 y1.toNatClampNeg (y2 + y3)) 43 4) + (f_jd_bitCount_95d88 ((gJ (sI M 43 y1.toNatClampNeg (y2 + y3)) 42 x1.toNatClampNeg) &&& (((1 : Int64) <<< (x1.toInt64 &&& 63)) - 1))))) 17 x1.toNatClampNeg).toNatClampNeg) + 1)) 43 5 (if (gI (sI (sI (sI M 43 y1.toNatClampNeg (y2 + y3)) 43 4 ((gI (sI M 43 y1.toNatClampNeg (y2 + y3)) 43 4) + (f_jd_bitCount_95d88 ((gJ (sI M 43 y1.toNatClampNeg (y2 + y3)) 42 x1.toNatClampNeg) &&& (((1 : Int64) <<< (x1.toInt64 &&& 63)) - 1))))) 44 (gI (sI (sI M 43 y1.toNatClampNeg (y2 + y3)) 43 4 ((gI (sI M 43 y1.toNatClampNeg (y2 + y3)) 43 4) + (f_jd_bitCount_95d88 ((gJ (sI M 43 y1.toNatClampNeg (y2 + y3)) 42 x1.toNatClampNeg) &&& (((1 : Int64) <<< (x1.toInt64 &&& 63)) - 1))))) 17 x1.toNatClampNeg).toNatClampNeg ((gI (sI (sI M 43 y1.toNatClampNeg (y2 + y3)) 43 4 ((gI (sI M 43 y1.toNatClampNeg (y2 + y3)) 43 4) + (f_jd_bitCount_95d88 ((gJ (sI M 43 y1.toNatClampNeg (y2 + y3)) 42 x1.toNatClampNeg) &&& (((1 : Int64) <<< (x1.toInt64 &&& 63)) - 1))))) 44 (gI (sI (sI M 43 y1.toNatClampNeg (y2 + y3)) 43 4 ((gI (sI M 43 y1.toNatClampNeg (y2 + y3)) 43 4) + (f_jd_bitCount_95d88 ((gJ (sI M 43 y1.toNatClampNeg (y2 + y3)) 42 x1.toNatClampNeg) &&& (((1 : Int64) <<< (x1.toInt64 &&& 63)) - 1))))) 17 x1.toNatClampNeg).toNatClampNeg) + 1)) 43 5) < (gI (sI (sI (sI M 43 y1.toNatClampNeg (y2 + y3)) 43 4 ((gI (sI M 43 y1.toNatClampNeg (y2 + y3)) 43 4) + (f_jd_bitCount_95d88 ((gJ (sI M 43 y1.toNatClampNeg (y2 + y3)) 42 x1.toNatClampNeg) &&& (((1 : Int64) <<< (x1.toInt64 &&& 63)) - 1))))) 44 (gI (sI (sI M 43 y1.toNatClampNeg (y2 + y3)) 43 4 ((gI (sI M 43 y1.toNatClampNeg (y2 + y3)) 43 4) + (f_jd_bitCount_95d88 ((gJ (sI M 43 y1.toNatClampNeg (y2 + y3)) 42 x1.toNatClampNeg) &&& (((1 : Int64) <<< (x1.toInt64 &&& 63)) - 1))))) 17 x1.toNatClampNeg).toNatClampNeg ((gI (sI (sI M 43 y1.toNatClampNeg (y2 + y3)) 43 4 ((gI (sI M 43 y1.toNatClampNeg (y2 + y3)) 43 4) + (f_jd_bitCount_95d88 ((gJ (sI M 43 y1.toNatClampNeg (y2 + y3)) 42 x1.toNatClampNeg) &&& (((1 : Int64) <<< (x1.toInt64 &&& 63)) - 1))))) 44 (gI (sI (sI M 43 y1.toNatClampNeg (y2 + y3)) 43 4 ((gI (sI M 43 y1.toNatClampNeg (y2 + y3)) 43 4) + (f_jd_bitCount_95d88 ((gJ (sI M 43 y1.toNatClampNeg (y2 + y3)) 42 x1.toNatClampNeg) &&& (((1 : Int64) <<< (x1.toInt64 &&& 63)) - 1))))) 17 x1.toNatClampNeg).toNatClampNeg) + 1)) 44 (gI (sI (sI M 43 y1.toNatClampNeg (y2 + y3)) 43 4 ((gI (sI M 43 y1.toNatClampNeg (y2 + y3)) 43 4) + (f_jd_bitCount_95d88 ((gJ (sI M 43 y1.toNatClampNeg (y2 + y3)) 42 x1.toNatClampNeg) &&& (((1 : Int64) <<< (x1.toInt64 &&& 63)) - 1))))) 17 x1.toNatClampNeg).toNatClampNeg) then (gI (sI (sI (sI M 43 y1.toNatClampNeg (y2 + y3)) 43 4 ((gI (sI M 43 y1.toNatClampNeg (y2 + y3)) 43 4) + (f_jd_bitCount_95d88 ((gJ (sI M 43 y1.toNatClampNeg (y2 + y3)) 42 x1.toNatClampNeg) &&& (((1 : Int64) <<< (x1.toInt64 &&& 63)) - 1))))) 44 (gI (sI (sI M 43 y1.toNatClampNeg (y2 + y3)) 43 4 ((gI (sI M 43 y1.toNatClampNeg (y2 + y3)) 43 4) + (f_jd_bitCount_95d88 ((gJ (sI M 43 y1.toNatClampNeg (y2 + y3)) 42 x1.toNatClampNeg) &&& (((1 : Int64) <<< (x1.toInt64 &&& 63)) - 1))))) 17 x1.toNatClampNeg).toNatClampNeg ((gI (sI (sI M 43 y1.toNatClampNeg (y2 + y3)) 43 4 ((gI (sI M 43 y1.toNatClampNeg (y2 + y3)) 43 4) + (f_jd_bitCount_95d88 ((gJ (sI M 43 y1.toNatClampNeg (y2 + y3)) 42 x1.toNatClampNeg) &&& (((1 : Int64) <<< (x1.toInt64 &&& 63)) - 1))))) 44 (gI (sI (sI M 43 y1.toNatClampNeg (y2 + y3)) 43 4 ((gI (sI M 43 y1.toNatClampNeg (y2 + y3)) 43 4) + (f_jd_bitCount_95d88 ((gJ (sI M 43 y1.toNatClampNeg (y2 + y3)) 42 x1.toNatClampNeg) &&& (((1 : Int64) <<< (x1.toInt64 &&& 63)) - 1))))) 17 x1.toNatClampNeg).toNatClampNeg) + 1)) 44 (gI (sI (sI M 43 y1.toNatClampNeg (y2 + y3)) 43 4 ((gI (sI M 43 y1.toNatClampNeg (y2 + y3)) 43 4) + (f_jd_bitCount_95d88 ((gJ (sI M 43 y1.toNatClampNeg (y2 + y3)) 42 x1.toNatClampNeg) &&& (((1 : Int64) <<< (x1.toInt64 &&& 63)) - 1))))) 17 x1.toNatClampNeg).toNatClampNeg) else (gI (sI (sI (sI M 43 y1.toNatClampNeg (y2 + y3)) 43 4 ((gI (sI M 43 y1.toNatClampNeg (y2 + y3)) 43 4) + (f_jd_bitCount_95d88 ((gJ (sI M 43 y1.toNatClampNeg (y2 + y3)) 42 x1.toNatClampNeg) &&& (((1 : Int64) <<< (x1.toInt64 &&& 63)) - 1))))) 44 (gI (sI (sI M 43 y1.toNatClampNeg (y2 + y3)) 43 4 ((gI (sI M 43 y1.toNatClampNeg (y2 + y3)) 43 4) + (f_jd_bitCount_95d88 ((gJ (sI M 43 y1.toNatClampNeg (y2 + y3)) 42 x1.toNatClampNeg) &&& (((1 : Int64) <<< (x1.toInt64 &&& 63)) - 1))))) 17 x1.toNatClampNeg).toNatClampNeg ((gI (sI (sI M 43 y1.toNatClampNeg (y2 + y3)) 43 4 ((gI (sI M 43 y1.toNatClampNeg (y2 + y3)) 43 4) + (f_jd_bitCount_95d88 ((gJ (sI M 43 y1.toNatClampNeg (y2 + y3)) 42 x1.toNatClampNeg) &&& (((1 : Int64) <<< (x1.toInt64 &&& 63)) - 1))))) 44 (gI (sI (sI M 43 y1.toNatClampNeg (y2 + y3)) 43 4 ((gI (sI M 43 y1.toNatClampNeg (y2 + y3)) 43 4) + (f_jd_bitCount_95d88 ((gJ (sI M 43 y1.toNatClampNeg (y2 + y3)) 42 x1.toNatClampNeg) &&& (((1 : Int64) <<< (x1.toInt64 &&& 63)) - 1))))) 17 x1.toNatClampNeg).toNatClampNeg) + 1)) 43 5))) 43 6) 0 (sI (sI (sI (sI M 43 y1.toNatClampNeg (y2 + y3)) 43 4 ((gI (sI M 43 y1.toNatClampNeg (y2 + y3)) 43 4) + (f_jd_bitCount_95d88 ((gJ (sI M 43 y1.toNatClampNeg (y2 + y3)) 42 x1.toNatClampNeg) &&& (((1 : Int64) <<< (x1.toInt64 &&& 63)) - 1))))) 44 (gI (sI (sI M 43 y1.toNatClampNeg (y2 + y3)) 43 4 ((gI (sI M 43 y1.toNatClampNeg (y2 + y3)) 43 4) + (f_jd_bitCount_95d88 ((gJ (sI M 43 y1.toNatClampNeg (y2 + y3)) 42 x1.toNatClampNeg) &&& (((1 : Int64) <<< (x1.toInt64 &&& 63)) - 1))))) 17 x1.toNatClampNeg).toNatClampNeg ((gI (sI (sI M 43 y1.toNatClampNeg (y2 + y3)) 43 4 ((gI (sI M 43 y1.toNatClampNeg (y2 + y3)) 43 4) + (f_jd_bitCount_95d88 ((gJ (sI M 43 y1.toNatClampNeg (y2 + y3)) 42 x1.toNatClampNeg) &&& (((1 : Int64) <<< (x1.toInt64 &&& 63)) - 1))))) 44 (gI (sI (sI M 43 y1.toNatClampNeg (y2 + y3)) 43 4 ((gI (sI M 43 y1.toNatClampNeg (y2 + y3)) 43 4) + (f_jd_bitCount_95d88 ((gJ (sI M 43 y1.toNatClampNeg (y2 + y3)) 42 x1.toNatClampNeg) &&& (((1 : Int64) <<< (x1.toInt64 &&& 63)) - 1))))) 17 x1.toNatClampNeg).toNatClampNeg) + 1)) 43 5 (if (gI (sI (sI (sI M 43 y1.toNatClampNeg (y2 + y3)) 43 4 ((gI (sI M 43 y1.toNatClampNeg (y2 + y3)) 43 4) + (f_jd_bitCount_95d88 ((gJ (sI M 43 y1.toNatClampNeg (y2 + y3)) 42 x1.toNatClampNeg) &&& (((1 : Int64) <<< (x1.toInt64 &&& 63)) - 1))))) 44 (gI (sI (sI M 43 y1.toNatClampNeg (y2 + y3)) 43 4 ((gI (sI M 43 y1.toNatClampNeg (y2 + y3)) 43 4) + (f_jd_bitCount_95d88 ((gJ (sI M 43 y1.toNatClampNeg (y2 + y3)) 42 x1.toNatClampNeg) &&& (((1 : Int64) <<< (x1.toInt64 &&& 63)) - 1))))) 17 x1.toNatClampNeg).toNatClampNeg ((gI (sI (sI M 43 y1.toNatClampNeg (y2 + y3)) 43 4 ((gI (sI M 43 y1.toNatClampNeg (y2 + y3)) 43 4) + (f_jd_bitCount_95d88 ((gJ (sI M 43 y1.toNatClampNeg (y2 + y3)) 42 x1.toNatClampNeg) &&& (((1 : Int64) <<< (x1.toInt64 &&& 63)) - 1))))) 44 (gI (sI (sI M 43 y1.toNatClampNeg (y2 + y3)) 43 4 ((gI (sI M 43 y1.toNatClampNeg (y2 + y3)) 43 4) + (f_jd_bitCount_95d88 ((gJ (sI M 43 y1.toNatClampNeg (y2 + y3)) 42 x1.toNatClampNeg) &&& (((1 : Int64) <<< (x1.toInt64 &&& 63)) - 1))))) 17 x1.toNatClampNeg).toNatClampNeg) + 1)) 43 5) < (gI (sI (sI (sI M 43 y1.toNatClampNeg (y2 + y3)) 43 4 ((gI (sI M 43 y1.toNatClampNeg (y2 + y3)) 43 4) + (f_jd_bitCount_95d88 ((gJ (sI M 43 y1.toNatClampNeg (y2 + y3)) 42 x1.toNatClampNeg) &&& (((1 : Int64) <<< (x1.toInt64 &&& 63)) - 1))))) 44 (gI (sI (sI M 43 y1.toNatClampNeg (y2 + y3)) 43 4 ((gI (sI M 43 y1.toNatClampNeg (y2 + y3)) 43 4) + (f_jd_bitCount_95d88 ((gJ (sI M 43 y1.toNatClampNeg (y2 + y3)) 42 x1.toNatClampNeg) &&& (((1 : Int64) <<< (x1.toInt64 &&& 63)) - 1))))) 17 x1.toNatClampNeg).toNatClampNeg ((gI (sI (sI M 43 y1.toNatClampNeg (y2 + y3)) 43 4 ((gI (sI M 43 y1.toNatClampNeg (y2 + y3)) 43 4) + (f_jd_bitCount_95d88 ((gJ (sI M 43 y1.toNatClampNeg (y2 + y3)) 42 x1.toNatClampNeg) &&& (((1 : Int64) <<< (x1.toInt64 &&& 63)) - 1))))) 44 (gI (sI (sI M 43 y1.toNatClampNeg (y2 + y3)) 43 4 ((gI (sI M 43 y1.toNatClampNeg (y2 + y3)) 43 4) + (f_jd_bitCount_95d88 ((gJ (sI M 43 y1.toNatClampNeg (y2 + y3)) 42 x1.toNatClampNeg) &&& (((1 : Int64) <<< (x1.toInt64 &&& 63)) - 1))))) 17 x1.toNatClampNeg).toNatClampNeg) + 1)) 44 (gI (sI (sI M 43 y1.toNatClampNeg (y2 + y3)) 43 4 ((gI (sI M 43 y1.toNatClampNeg (y2 + y3)) 43 4) + (f_jd_bitCount_95d88 ((gJ (sI M 43 y1.toNatClampNeg (y2 + y3)) 42 x1.toNatClampNeg) &&& (((1 : Int64) <<< (x1.toInt64 &&& 63)) - 1))))) 17 x1.toNatClampNeg).toNatClampNeg) then (gI (sI (sI (sI M 43 y1.toNatClampNeg (y2 + y3)) 43 4 ((gI (sI M 43 y1.toNatClampNeg (y2 + y3)) 43 4) + (f_jd_bitCount_95d88 ((gJ (sI M 43 y1.toNatClampNeg (y2 + y3)) 42 x1.toNatClampNeg) &&& (((1 : Int64) <<< (x1.toInt64 &&& 63)) - 1))))) 44 (gI (sI (sI M 43 y1.toNatClampNeg (y2 + y3)) 43 4 ((gI (sI M 43 y1.toNatClampNeg (y2 + y3)) 43 4) + (f_jd_bitCount_95d88 ((gJ (sI M 43 y1.toNatClampNeg (y2 + y3)) 42 x1.toNatClampNeg) &&& (((1 : Int64) <<< (x1.toInt64 &&& 63)) - 1))))) 17 x1.toNatClampNeg).toNatClampNeg ((gI (sI (sI M 43 y1.toNatClampNeg (y2 + y3)) 43 4 ((gI (sI M 43 y1.toNatClampNeg (y2 + y3)) 43 4) + (f_jd_bitCount_95d88 ((gJ (sI M 43 y1.toNatClampNeg (y2 + y3)) 42 x1.toNatClampNeg) &&& (((1 : Int64) <<< (x1.toInt64 &&& 63)) - 1))))) 44 (gI (sI (sI M 43 y1.toNatClampNeg (y2 + y3)) 43 4 ((gI (sI M 43 y1.toNatClampNeg (y2 + y3)) 43 4) + (f_jd_bitCount_95d88 ((gJ (sI M 43 y1.toNatClampNeg (y2 + y3)) 42 x1.toNatClampNeg) &&& (((1 : Int64) <<< (x1.toInt64 &&& 63)) - 1))))) 17 x1.toNatClampNeg).toNatClampNeg) + 1)) 44 (gI (sI (sI M 43 y1.toNatClampNeg (y2 + y3)) 43 4 ((gI (sI M 43 y1.toNatClampNeg (y2 + y3)) 43 4) + (f_jd_bitCount_95d88 ((gJ (sI M 43 y1.toNatClampNeg (y2 + y3)) 42 x1.toNatClampNeg) &&& (((1 : Int64) <<< (x1.toInt64 &&& 63)) - 1))))) 17 x1.toNatClampNeg).toNatClampNeg) else (gI (sI (sI (sI M 43 y1.toNatClampNeg (y2 + y3)) 43 4 ((gI (sI M 43 y1.toNatClampNeg (y2 + y3)) 43 4) + (f_jd_bitCount_95d88 ((gJ (sI M 43 y1.toNatClampNeg (y2 + y3)) 42 x1.toNatClampNeg) &&& (((1 : Int64) <<< (x1.toInt64 &&& 63)) - 1))))) 44 (gI (sI (sI M 43 y1.toNatClampNeg (y2 + y3)) 43 4 ((gI (sI M 43 y1.toNatClampNeg (y2 + y3)) 43 4) + (f_jd_bitCount_95d88 ((gJ (sI M 43 y1.toNatClampNeg (y2 + y3)) 42 x1.toNatClampNeg) &&& (((1 : Int64) <<< (x1.toInt64 &&& 63)) - 1))))) 17 x1.toNatClampNeg).toNatClampNeg ((gI (sI (sI M 43 y1.toNatClampNeg (y2 + y3)) 43 4 ((gI (sI M 43 y1.toNatClampNeg (y2 + y3)) 43 4) + (f_jd_bitCount_95d88 ((gJ (sI M 43 y1.toNatClampNeg (y2 + y3)) 42 x1.toNatClampNeg) &&& (((1 : Int64) <<< (x1.toInt64 &&& 63)) - 1))))) 44 (gI (sI (sI M 43 y1.toNatClampNeg (y2 + y3)) 43 4 ((gI (sI M 43 y1.toNatClampNeg (y2 + y3)) 43 4) + (f_jd_bitCount_95d88 ((gJ (sI M 43 y1.toNatClampNeg (y2 + y3)) 42 x1.toNatClampNeg) &&& (((1 : Int64) <<< (x1.toInt64 &&& 63)) - 1))))) 17 x1.toNatClampNeg).toNatClampNeg) + 1)) 43 5))) hf hk)
  · replace hf := i_f hc hf
    refine y_iconst (n := 147) (v := 1) ⟨dX2_addToDay_146, rfl⟩ ki_1 ?_
    refine y_goto (t := 151) ⟨dX2_addToDay_147, rfl, rfl⟩ ?_
    exact y_wk (L2 := [none, none, none]) ⟨Or.inl rfl, Or.inl rfl, Or.inl rfl, trivial⟩ (w_t_ju_addToDay_151 6 (gI (sI (sI (sI (sI M 43 y1.toNatClampNeg (y2 + y3)) 43 4 ((gI (sI M 43 y1.toNatClampNeg (y2 + y3)) 43 4) + (f_jd_bitCount_95d88 ((gJ (sI M 43 y1.toNatClampNeg (y2 + y3)) 42 x1.toNatClampNeg) &&& (((1 : Int64) <<< (x1.toInt64 &&& 63)) - 1))))) 44 (gI (sI (sI M 43 y1.toNatClampNeg (y2 + y3)) 43 4 ((gI (sI M 43 y1.toNatClampNeg (y2 + y3)) 43 4) + (f_jd_bitCount_95d88 ((gJ (sI M 43 y1.toNatClampNeg (y2 + y3)) 42 x1.toNatClampNeg) &&& (((1 : Int64) <<< (x1.toInt64 &&& 63)) - 1))))) 17 x1.toNatClampNeg).toNatClampNeg ((gI (sI (sI M 43 y1.toNatClampNeg (y2 + y3)) 43 4 ((gI (sI M 43 y1.toNatClampNeg (y2 + y3)) 43 4) + (f_jd_bitCount_95d88 ((gJ (sI M 43 y1.toNatClampNeg (y2 + y3)) 42 x1.toNatClampNeg) &&& (((1 : Int64) <<< (x1.toInt64 &&& 63)) - 1))))) 44 (gI (sI (sI M 43 y1.toNatClampNeg (y2 + y3)) 43 4 ((gI (sI M 43 y1.toNatClampNeg (y2 + y3)) 43 4) + (f_jd_bitCount_95d88 ((gJ (sI M 43 y1.toNatClampNeg (y2 + y3)) 42 x1.toNatClampNeg) &&& (((1 : Int64) <<< (x1.toInt64 &&& 63)) - 1))))) 17 x1.toNatClampNeg).toNatClampNeg) + 1)) 43 5 (if (gI (sI (sI (sI M 43 y1.toNatClampNeg (y2 + y3)) 43 4 ((gI (sI M 43 y1.toNatClampNeg (y2 + y3)) 43 4) + (f_jd_bitCount_95d88 ((gJ (sI M 43 y1.toNatClampNeg (y2 + y3)) 42 x1.toNatClampNeg) &&& (((1 : Int64) <<< (x1.toInt64 &&& 63)) - 1))))) 44 (gI (sI (sI M 43 y1.toNatClampNeg (y2 + y3)) 43 4 ((gI (sI M 43 y1.toNatClampNeg (y2 + y3)) 43 4) + (f_jd_bitCount_95d88 ((gJ (sI M 43 y1.toNatClampNeg (y2 + y3)) 42 x1.toNatClampNeg) &&& (((1 : Int64) <<< (x1.toInt64 &&& 63)) - 1))))) 17 x1.toNatClampNeg).toNatClampNeg ((gI (sI (sI M 43 y1.toNatClampNeg (y2 + y3)) 43 4 ((gI (sI M 43 y1.toNatClampNeg (y2 + y3)) 43 4) + (f_jd_bitCount_95d88 ((gJ (sI M 43 y1.toNatClampNeg (y2 + y3)) 42 x1.toNatClampNeg) &&& (((1 : Int64) <<< (x1.toInt64 &&& 63)) - 1))))) 44 (gI (sI (sI M 43 y1.toNatClampNeg (y2 + y3)) 43 4 ((gI (sI M 43 y1.toNatClampNeg (y2 + y3)) 43 4) + (f_jd_bitCount_95d88 ((gJ (sI M 43 y1.toNatClampNeg (y2 + y3)) 42 x1.toNatClampNeg) &&& (((1 : Int64) <<< (x1.toInt64 &&& 63)) - 1))))) 17 x1.toNatClampNeg).toNatClampNeg) + 1)) 43 5) < (gI (sI (sI (sI M 43 y1.toNatClampNeg (y2 + y3)) 43 4 ((gI (sI M 43 y1.toNatClampNeg (y2 + y3)) 43 4) + (f_jd_bitCount_95d88 ((gJ (sI M 43 y1.toNatClampNeg (y2 + y3)) 42 x1.toNatClampNeg) &&& (((1 : Int64) <<< (x1.toInt64 &&& 63)) - 1))))) 44 (gI (sI (sI M 43 y1.toNatClampNeg (y2 + y3)) 43 4 ((gI (sI M 43 y1.toNatClampNeg (y2 + y3)) 43 4) + (f_jd_bitCount_95d88 ((gJ (sI M 43 y1.toNatClampNeg (y2 + y3)) 42 x1.toNatClampNeg) &&& (((1 : Int64) <<< (x1.toInt64 &&& 63)) - 1))))) 17 x1.toNatClampNeg).toNatClampNeg ((gI (sI (sI M 43 y1.toNatClampNeg (y2 + y3)) 43 4 ((gI (sI M 43 y1.toNatClampNeg (y2 + y3)) 43 4) + (f_jd_bitCount_95d88 ((gJ (sI M 43 y1.toNatClampNeg (y2 + y3)) 42 x1.toNatClampNeg) &&& (((1 : Int64) <<< (x1.toInt64 &&& 63)) - 1))))) 44 (gI (sI (sI M 43 y1.toNatClampNeg (y2 + y3)) 43 4 ((gI (sI M 43 y1.toNatClampNeg (y2 + y3)) 43 4) + (f_jd_bitCount_95d88 ((gJ (sI M 43 y1.toNatClampNeg (y2 + y3)) 42 x1.toNatClampNeg) &&& (((1 : Int64) <<< (x1.toInt64 &&& 63)) - 1))))) 17 x1.toNatClampNeg).toNatClampNeg) + 1)) 44 (gI (sI (sI M 43 y1.toNatClampNeg (y2 + y3)) 43 4 ((gI (sI M 43 y1.toNatClampNeg (y2 + y3)) 43 4) + (f_jd_bitCount_95d88 ((gJ (sI M 43 y1.toNatClampNeg (y2 + y3)) 42 x1.toNatClampNeg) &&& (((1 : Int64) <<< (x1.toInt64 &&& 63)) - 1))))) 17 x1.toNatClampNeg).toNatClampNeg) then (gI (sI (sI (sI M 43 y1.toNatClampNeg (y2 + y3)) 43 4 ((gI (sI M 43 y1.toNatClampNeg (y2 + y3)) 43 4) + (f_jd_bitCount_95d88 ((gJ (sI M 43 y1.toNatClampNeg (y2 + y3)) 42 x1.toNatClampNeg) &&& (((1 : Int64) <<< (x1.toInt64 &&& 63)) - 1))))) 44 (gI (sI (sI M 43 y1.toNatClampNeg (y2 + y3)) 43 4 ((gI (sI M 43 y1.toNatClampNeg (y2 + y3)) 43 4) + (f_jd_bitCount_95d88 ((gJ (sI M 43 y1.toNatClampNeg (y2 + y3)) 42 x1.toNatClampNeg) &&& (((1 : Int64) <<< (x1.toInt64 &&& 63)) - 1))))) 17 x1.toNatClampNeg).toNatClampNeg ((gI (sI (sI M 43 y1.toNatClampNeg (y2 + y3)) 43 4 ((gI (sI M 43 y1.toNatClampNeg (y2 + y3)) 43 4) + (f_jd_bitCount_95d88 ((gJ (sI M 43 y1.toNatClampNeg (y2 + y3)) 42 x1.toNatClampNeg) &&& (((1 : Int64) <<< (x1.toInt64 &&& 63)) - 1))))) 44 (gI (sI (sI M 43 y1.toNatClampNeg (y2 + y3)) 43 4 ((gI (sI M 43 y1.toNatClampNeg (y2 + y3)) 43 4) + (f_jd_bitCount_95d88 ((gJ (sI M 43 y1.toNatClampNeg (y2 + y3)) 42 x1.toNatClampNeg) &&& (((1 : Int64) <<< (x1.toInt64 &&& 63)) - 1))))) 17 x1.toNatClampNeg).toNatClampNeg) + 1)) 44 (gI (sI (sI M 43 y1.toNatClampNeg (y2 + y3)) 43 4 ((gI (sI M 43 y1.toNatClampNeg (y2 + y3)) 43 4) + (f_jd_bitCount_95d88 ((gJ (sI M 43 y1.toNatClampNeg (y2 + y3)) 42 x1.toNatClampNeg) &&& (((1 : Int64) <<< (x1.toInt64 &&& 63)) - 1))))) 17 x1.toNatClampNeg).toNatClampNeg) else (gI (sI (sI (sI M 43 y1.toNatClampNeg (y2 + y3)) 43 4 ((gI (sI M 43 y1.toNatClampNeg (y2 + y3)) 43 4) + (f_jd_bitCount_95d88 ((gJ (sI M 43 y1.toNatClampNeg (y2 + y3)) 42 x1.toNatClampNeg) &&& (((1 : Int64) <<< (x1.toInt64 &&& 63)) - 1))))) 44 (gI (sI (sI M 43 y1.toNatClampNeg (y2 + y3)) 43 4 ((gI (sI M 43 y1.toNatClampNeg (y2 + y3)) 43 4) + (f_jd_bitCount_95d88 ((gJ (sI M 43 y1.toNatClampNeg (y2 + y3)) 42 x1.toNatClampNeg) &&& (((1 : Int64) <<< (x1.toInt64 &&& 63)) - 1))))) 17 x1.toNatClampNeg).toNatClampNeg ((gI (sI (sI M 43 y1.toNatClampNeg (y2 + y3)) 43 4 ((gI (sI M 43 y1.toNatClampNeg (y2 + y3)) 43 4) + (f_jd_bitCount_95d88 ((gJ (sI M 43 y1.toNatClampNeg (y2 + y3)) 42 x1.toNatClampNeg) &&& (((1 : Int64) <<< (x1.toInt64 &&& 63)) - 1))))) 44 (gI (sI (sI M 43 y1.toNatClampNeg (y2 + y3)) 43 4 ((gI (sI M 43 y1.toNatClampNeg (y2 + y3)) 43 4) + (f_jd_bitCount_95d88 ((gJ (sI M 43 y1.toNatClampNeg (y2 + y3)) 42 x1.toNatClampNeg) &&& (((1 : Int64) <<< (x1.toInt64 &&& 63)) - 1))))) 17 x1.toNatClampNeg).toNatClampNeg) + 1)) 43 5))) 43 6) 1 (sI (sI (sI (sI M 43 y1.toNatClampNeg (y2 + y3)) 43 4 ((gI (sI M 43 y1.toNatClampNeg (y2 + y3)) 43 4) + (f_jd_bitCount_95d88 ((gJ (sI M 43 y1.toNatClampNeg (y2 + y3)) 42 x1.toNatClampNeg) &&& (((1 : Int64) <<< (x1.toInt64 &&& 63)) - 1))))) 44 (gI (sI (sI M 43 y1.toNatClampNeg (y2 + y3)) 43 4 ((gI (sI M 43 y1.toNatClampNeg (y2 + y3)) 43 4) + (f_jd_bitCount_95d88 ((gJ (sI M 43 y1.toNatClampNeg (y2 + y3)) 42 x1.toNatClampNeg) &&& (((1 : Int64) <<< (x1.toInt64 &&& 63)) - 1))))) 17 x1.toNatClampNeg).toNatClampNeg ((gI (sI (sI M 43 y1.toNatClampNeg (y2 + y3)) 43 4 ((gI (sI M 43 y1.toNatClampNeg (y2 + y3)) 43 4) + (f_jd_bitCount_95d88 ((gJ (sI M 43 y1.toNatClampNeg (y2 + y3)) 42 x1.toNatClampNeg) &&& (((1 : Int64) <<< (x1.toInt64 &&& 63)) - 1))))) 44 (gI (sI (sI M 43 y1.toNatClampNeg (y2 + y3)) 43 4 ((gI (sI M 43 y1.toNatClampNeg (y2 + y3)) 43 4) + (f_jd_bitCount_95d88 ((gJ (sI M 43 y1.toNatClampNeg (y2 + y3)) 42 x1.toNatClampNeg) &&& (((1 : Int64) <<< (x1.toInt64 &&& 63)) - 1))))) 17 x1.toNatClampNeg).toNatClampNeg) + 1)) 43 5 (if (gI (sI (sI (sI M 43 y1.toNatClampNeg (y2 + y3)) 43 4 ((gI (sI M 43 y1.toNatClampNeg (y2 + y3)) 43 4) + (f_jd_bitCount_95d88 ((gJ (sI M 43 y1.toNatClampNeg (y2 + y3)) 42 x1.toNatClampNeg) &&& (((1 : Int64) <<< (x1.toInt64 &&& 63)) - 1))))) 44 (gI (sI (sI M 43 y1.toNatClampNeg (y2 + y3)) 43 4 ((gI (sI M 43 y1.toNatClampNeg (y2 + y3)) 43 4) + (f_jd_bitCount_95d88 ((gJ (sI M 43 y1.toNatClampNeg (y2 + y3)) 42 x1.toNatClampNeg) &&& (((1 : Int64) <<< (x1.toInt64 &&& 63)) - 1))))) 17 x1.toNatClampNeg).toNatClampNeg ((gI (sI (sI M 43 y1.toNatClampNeg (y2 + y3)) 43 4 ((gI (sI M 43 y1.toNatClampNeg (y2 + y3)) 43 4) + (f_jd_bitCount_95d88 ((gJ (sI M 43 y1.toNatClampNeg (y2 + y3)) 42 x1.toNatClampNeg) &&& (((1 : Int64) <<< (x1.toInt64 &&& 63)) - 1))))) 44 (gI (sI (sI M 43 y1.toNatClampNeg (y2 + y3)) 43 4 ((gI (sI M 43 y1.toNatClampNeg (y2 + y3)) 43 4) + (f_jd_bitCount_95d88 ((gJ (sI M 43 y1.toNatClampNeg (y2 + y3)) 42 x1.toNatClampNeg) &&& (((1 : Int64) <<< (x1.toInt64 &&& 63)) - 1))))) 17 x1.toNatClampNeg).toNatClampNeg) + 1)) 43 5) < (gI (sI (sI (sI M 43 y1.toNatClampNeg (y2 + y3)) 43 4 ((gI (sI M 43 y1.toNatClampNeg (y2 + y3)) 43 4) + (f_jd_bitCount_95d88 ((gJ (sI M 43 y1.toNatClampNeg (y2 + y3)) 42 x1.toNatClampNeg) &&& (((1 : Int64) <<< (x1.toInt64 &&& 63)) - 1))))) 44 (gI (sI (sI M 43 y1.toNatClampNeg (y2 + y3)) 43 4 ((gI (sI M 43 y1.toNatClampNeg (y2 + y3)) 43 4) + (f_jd_bitCount_95d88 ((gJ (sI M 43 y1.toNatClampNeg (y2 + y3)) 42 x1.toNatClampNeg) &&& (((1 : Int64) <<< (x1.toInt64 &&& 63)) - 1))))) 17 x1.toNatClampNeg).toNatClampNeg ((gI (sI (sI M 43 y1.toNatClampNeg (y2 + y3)) 43 4 ((gI (sI M 43 y1.toNatClampNeg (y2 + y3)) 43 4) + (f_jd_bitCount_95d88 ((gJ (sI M 43 y1.toNatClampNeg (y2 + y3)) 42 x1.toNatClampNeg) &&& (((1 : Int64) <<< (x1.toInt64 &&& 63)) - 1))))) 44 (gI (sI (sI M 43 y1.toNatClampNeg (y2 + y3)) 43 4 ((gI (sI M 43 y1.toNatClampNeg (y2 + y3)) 43 4) + (f_jd_bitCount_95d88 ((gJ (sI M 43 y1.toNatClampNeg (y2 + y3)) 42 x1.toNatClampNeg) &&& (((1 : Int64) <<< (x1.toInt64 &&& 63)) - 1))))) 17 x1.toNatClampNeg).toNatClampNeg) + 1)) 44 (gI (sI (sI M 43 y1.toNatClampNeg (y2 + y3)) 43 4 ((gI (sI M 43 y1.toNatClampNeg (y2 + y3)) 43 4) + (f_jd_bitCount_95d88 ((gJ (sI M 43 y1.toNatClampNeg (y2 + y3)) 42 x1.toNatClampNeg) &&& (((1 : Int64) <<< (x1.toInt64 &&& 63)) - 1))))) 17 x1.toNatClampNeg).toNatClampNeg) then (gI (sI (sI (sI M 43 y1.toNatClampNeg (y2 + y3)) 43 4 ((gI (sI M 43 y1.toNatClampNeg (y2 + y3)) 43 4) + (f_jd_bitCount_95d88 ((gJ (sI M 43 y1.toNatClampNeg (y2 + y3)) 42 x1.toNatClampNeg) &&& (((1 : Int64) <<< (x1.toInt64 &&& 63)) - 1))))) 44 (gI (sI (sI M 43 y1.toNatClampNeg (y2 + y3)) 43 4 ((gI (sI M 43 y1.toNatClampNeg (y2 + y3)) 43 4) + (f_jd_bitCount_95d88 ((gJ (sI M 43 y1.toNatClampNeg (y2 + y3)) 42 x1.toNatClampNeg) &&& (((1 : Int64) <<< (x1.toInt64 &&& 63)) - 1))))) 17 x1.toNatClampNeg).toNatClampNeg ((gI (sI (sI M 43 y1.toNatClampNeg (y2 + y3)) 43 4 ((gI (sI M 43 y1.toNatClampNeg (y2 + y3)) 43 4) + (f_jd_bitCount_95d88 ((gJ (sI M 43 y1.toNatClampNeg (y2 + y3)) 42 x1.toNatClampNeg) &&& (((1 : Int64) <<< (x1.toInt64 &&& 63)) - 1))))) 44 (gI (sI (sI M 43 y1.toNatClampNeg (y2 + y3)) 43 4 ((gI (sI M 43 y1.toNatClampNeg (y2 + y3)) 43 4) + (f_jd_bitCount_95d88 ((gJ (sI M 43 y1.toNatClampNeg (y2 + y3)) 42 x1.toNatClampNeg) &&& (((1 : Int64) <<< (x1.toInt64 &&& 63)) - 1))))) 17 x1.toNatClampNeg).toNatClampNeg) + 1)) 44 (gI (sI (sI M 43 y1.toNatClampNeg (y2 + y3)) 43 4 ((gI (sI M 43 y1.toNatClampNeg (y2 + y3)) 43 4) + (f_jd_bitCount_95d88 ((gJ (sI M 43 y1.toNatClampNeg (y2 + y3)) 42 x1.toNatClampNeg) &&& (((1 : Int64) <<< (x1.toInt64 &&& 63)) - 1))))) 17 x1.toNatClampNeg).toNatClampNeg) else (gI (sI (sI (sI M 43 y1.toNatClampNeg (y2 + y3)) 43 4 ((gI (sI M 43 y1.toNatClampNeg (y2 + y3)) 43 4) + (f_jd_bitCount_95d88 ((gJ (sI M 43 y1.toNatClampNeg (y2 + y3)) 42 x1.toNatClampNeg) &&& (((1 : Int64) <<< (x1.toInt64 &&& 63)) - 1))))) 44 (gI (sI (sI M 43 y1.toNatClampNeg (y2 + y3)) 43 4 ((gI (sI M 43 y1.toNatClampNeg (y2 + y3)) 43 4) + (f_jd_bitCount_95d88 ((gJ (sI M 43 y1.toNatClampNeg (y2 + y3)) 42 x1.toNatClampNeg) &&& (((1 : Int64) <<< (x1.toInt64 &&& 63)) - 1))))) 17 x1.toNatClampNeg).toNatClampNeg ((gI (sI (sI M 43 y1.toNatClampNeg (y2 + y3)) 43 4 ((gI (sI M 43 y1.toNatClampNeg (y2 + y3)) 43 4) + (f_jd_bitCount_95d88 ((gJ (sI M 43 y1.toNatClampNeg (y2 + y3)) 42 x1.toNatClampNeg) &&& (((1 : Int64) <<< (x1.toInt64 &&& 63)) - 1))))) 44 (gI (sI (sI M 43 y1.toNatClampNeg (y2 + y3)) 43 4 ((gI (sI M 43 y1.toNatClampNeg (y2 + y3)) 43 4) + (f_jd_bitCount_95d88 ((gJ (sI M 43 y1.toNatClampNeg (y2 + y3)) 42 x1.toNatClampNeg) &&& (((1 : Int64) <<< (x1.toInt64 &&& 63)) - 1))))) 17 x1.toNatClampNeg).toNatClampNeg) + 1)) 43 5))) hf hk)
theorem w_t_ju_addToDay_32 (x1 : Int32) (y1 : Int32) (y2 : Int32) (y3 : Int32) (M : dM) {Q : mz_P} {o : dM} (hf : t_ju_addToDay_32 x1 y1 y2 y3 M = some o) (hk : mR Q none o) : mW mX2_addToDay 2 Q 32 [some (.ref 39), some (.int x1), none] [.int y3, .int y2, .int y1, .ref 43] M := by
  unfold t_ju_addToDay_32 at hf
  refine y_iadd (n := 33) ⟨dX2_addToDay_32, rfl⟩ ?_
  obtain ⟨hg2, hf⟩ := g_s hf
  refine y_iastore (n := 34) ⟨dX2_addToDay_33, rfl⟩ l_43 hg2 ?_
  refine y_aload_n (i := 0) (n := 35) ⟨dX2_addToDay_34, rfl⟩ rfl ?_
  refine y_getR (n := 38) ⟨dX2_addToDay_35, rfl⟩ kfX2_22 l_39 rfl r_39_7 ?_
  refine y_iconst (n := 39) (v := 3) ⟨dX2_addToDay_38, rfl⟩ ki_3 ?_
  refine y_dup2 (n := 40) ⟨dX2_addToDay_39, rfl⟩ ?_
  refine y_iaload (n := 41) ⟨dX2_addToDay_40, rfl⟩ l_43 (by unfold vp_in; decide) ?_
  refine y_aload_n (i := 0) (n := 42) ⟨dX2_addToDay_41, rfl⟩ rfl ?_
  refine y_getR (n := 45) ⟨dX2_addToDay_42, rfl⟩ kfX2_15 l_39 rfl r_39_5 ?_
  refine y_iload_n (i := 1) (n := 46) ⟨dX2_addToDay_45, rfl⟩ rfl ?_
  obtain ⟨hg3, hf⟩ := g_s hf
  refine y_iaload (n := 47) ⟨dX2_addToDay_46, rfl⟩ l_41 hg3 ?_
  refine y_iconst (n := 48) (v := 1) ⟨dX2_addToDay_47, rfl⟩ ki_1 ?_
  refine y_icmp_ne (t := 55) (n := 51) ⟨dX2_addToDay_48, rfl, rfl⟩ (fun (hc : ¬ ((gI (sI M 43 y1.toNatClampNeg (y2 + y3)) 41 x1.toNatClampNeg) = 1)) => ?_) (fun (hc : (gI (sI M 43 y1.toNatClampNeg (y2 + y3)) 41 x1.toNatClampNeg) = 1) => ?_)
  · replace hf := i_f hc hf
    refine y_iconst (n := 56) (v := 0) ⟨dX2_addToDay_55, rfl⟩ ki_0 ?_
    exact y_wk (L2 := [some (.ref 39), some (.int x1), none]) ⟨Or.inr rfl, Or.inr rfl, Or.inr rfl, trivial⟩ (w_t_ju_addToDay_56 x1 3 (gI (sI M 43 y1.toNatClampNeg (y2 + y3)) 43 3) 0 (sI M 43 y1.toNatClampNeg (y2 + y3)) hf hk)
  · replace hf := i_t hc hf
    refine y_iconst (n := 52) (v := 1) ⟨dX2_addToDay_51, rfl⟩ ki_1 ?_
    refine y_goto (t := 56) ⟨dX2_addToDay_52, rfl, rfl⟩ ?_
    exact y_wk (L2 := [some (.ref 39), some (.int x1), none]) ⟨Or.inr rfl, Or.inr rfl, Or.inr rfl, trivial⟩ (w_t_ju_addToDay_56 x1 3 (gI (sI M 43 y1.toNatClampNeg (y2 + y3)) 43 3) 1 (sI M 43 y1.toNatClampNeg (y2 + y3)) hf hk)
theorem ok_ju_addToDay (a1 : Int32) (M : dM) {o : dM} (hf : f_ju_addToDay a1 M = some o) : mO mX2_addToDay 2 [.ref 39, .int a1] M none o := by
  refine y_ok (by decide +kernel) (Nat.le_of_ble_eq_true rfl) (L0 := [some (.ref 39), some (.int a1), none]) rfl ?_
  have hk := mR_mQ none o
  generalize mQ _ _ = Q at hk ⊢
  unfold f_ju_addToDay at hf
  refine y_aload_n (i := 0) (n := 1) ⟨dX2_addToDay_0, rfl⟩ rfl ?_
  refine y_getR (n := 4) ⟨dX2_addToDay_1, rfl⟩ kfX2_22 l_39 rfl r_39_7 ?_
  refine y_iconst (n := 5) (v := 1) ⟨dX2_addToDay_4, rfl⟩ ki_1 ?_
  refine y_dup2 (n := 6) ⟨dX2_addToDay_5, rfl⟩ ?_
  refine y_iaload (n := 7) ⟨dX2_addToDay_6, rfl⟩ l_43 (by unfold vp_in; decide) ?_
  refine y_iconst (n := 8) (v := 1) ⟨dX2_addToDay_7, rfl⟩ ki_1 ?_
  refine y_iadd (n := 9) ⟨dX2_addToDay_8, rfl⟩ ?_
  refine y_iastore (n := 10) ⟨dX2_addToDay_9, rfl⟩ l_43 (by unfold vp_in; decide) ?_
  refine y_aload_n (i := 0) (n := 11) ⟨dX2_addToDay_10, rfl⟩ rfl ?_
  refine y_getR (n := 14) ⟨dX2_addToDay_11, rfl⟩ kfX2_22 l_39 rfl r_39_7 ?_
  refine y_iconst (n := 15) (v := 2) ⟨dX2_addToDay_14, rfl⟩ ki_2 ?_
  refine y_dup2 (n := 16) ⟨dX2_addToDay_15, rfl⟩ ?_
  refine y_iaload (n := 17) ⟨dX2_addToDay_16, rfl⟩ l_43 (by unfold vp_in; decide) ?_
  refine y_aload_n (i := 0) (n := 18) ⟨dX2_addToDay_17, rfl⟩ rfl ?_
  refine y_getR (n := 21) ⟨dX2_addToDay_18, rfl⟩ kfX2_15 l_39 rfl r_39_5 ?_
  refine y_iload_n (i := 1) (n := 22) ⟨dX2_addToDay_21, rfl⟩ rfl ?_
  obtain ⟨hg1, hf⟩ := g_s hf
  refine y_iaload (n := 23) ⟨dX2_addToDay_22, rfl⟩ l_41 hg1 ?_
  refine y_iconst (n := 24) (v := 2) ⟨dX2_addToDay_23, rfl⟩ ki_2 ?_
  refine y_icmp_ne (t := 31) (n := 27) ⟨dX2_addToDay_24, rfl, rfl⟩ (fun (hc : ¬ ((gI (sI M 43 1 ((gI M 43 1) + 1)) 41 a1.toNatClampNeg) = 2)) => ?_) (fun (hc : (gI (sI M 43 1 ((gI M 43 1) + 1)) 41 a1.toNatClampNeg) = 2) => ?_)
  · replace hf := i_f hc hf
    refine y_iconst (n := 32) (v := 0) ⟨dX2_addToDay_31, rfl⟩ ki_0 ?_
    exact y_wk (L2 := [some (.ref 39), some (.int a1), none]) ⟨Or.inr rfl, Or.inr rfl, Or.inr rfl, trivial⟩ (w_t_ju_addToDay_32 a1 2 (gI (sI M 43 1 ((gI M 43 1) + 1)) 43 2) 0 (sI M 43 1 ((gI M 43 1) + 1)) hf hk)
  · replace hf := i_t hc hf
    refine y_iconst (n := 28) (v := 1) ⟨dX2_addToDay_27, rfl⟩ ki_1 ?_
    refine y_goto (t := 32) ⟨dX2_addToDay_28, rfl, rfl⟩ ?_
    exact y_wk (L2 := [some (.ref 39), some (.int a1), none]) ⟨Or.inr rfl, Or.inr rfl, Or.inr rfl, trivial⟩ (w_t_ju_addToDay_32 a1 2 (gI (sI M 43 1 ((gI M 43 1) + 1)) 43 2) 1 (sI M 43 1 ((gI M 43 1) + 1)) hf hk)
theorem c_ju_addToDay (a1 : Int32) (M : dM) {o : dM} {y : mz_M} {d : Nat} {Q : mz_P} {pc n i : Nat} {L : List (Option Value)} {st : List Value} (h : mz_d y.2.1 pc n 3 (.invokevirtual i)) (hl : mz_ml y.1.cls i yX2_addToDay) (hf : f_ju_addToDay a1 M = some o) (hd : 2 + 1 ≤ d) (hsm : (st.map (fun v => v.category)).sum ≤ 8) (hLr : mz_rL 133 L = true) (hSr : mz_rS 133 st = true) (kk : mW y d Q n L st o) : mW y d Q pc L (.int a1 :: .ref 39 :: st) M :=
  y_callV kmX2_addToDay kvX2_addToDay l_39 (by decide +kernel) (by decide +kernel) h hl (ok_ju_addToDay a1 M hf) (vs := [.int a1]) rfl rfl hd hsm hLr hSr kk
def K_to_papersUpTo_4 (Q : mz_P) (x1 : Int32) (M : dM) : ((Int32 × Int32) ⊕ Int32) → Prop
  | .inl s => mW mX9_papersUpTo 1 Q 4 [some (.ref 12), some (.int x1), some (.int s.1), some (.int s.2)] [] M
  | .inr r => mR Q (some (.int r)) M
noncomputable def b_to_papersUpTo_4_4 (x1 : Int32) (x2 : Int32) (x3 : Int32) (M : dM) : Option ((Int32 × Int32) ⊕ Int32) :=
  if (gI M 12 13) ≤ x3 then
    some (.inr x2)
  else
    gd (vp_in x3 40) <|
    if x1 < (gI M 23 x3.toNatClampNeg) then
      some (.inl (x2, (x3 + 1)))
    else
      some (.inl ((x2 + 1), (x3 + 1)))
noncomputable def l_to_papersUpTo_4 (x1 : Int32) (x2 : Int32) (x3 : Int32) (M : dM) : Option Int32 := lpc (fun s => b_to_papersUpTo_4_4 x1 s.1 s.2 M) (x2, x3)
noncomputable def f_to_papersUpTo (a1 : Int32) (M : dM) : Option Int32 :=
  (l_to_papersUpTo_4 a1 0 0 M).bind fun r4 => some r4
theorem w_b_to_papersUpTo_4_4 (x1 : Int32) (x2 : Int32) (x3 : Int32)  (M : dM) {Q : mz_P} {o : ((Int32 × Int32) ⊕ Int32)} (hf : b_to_papersUpTo_4_4 x1 x2 x3 M = some o) (hk : K_to_papersUpTo_4 Q x1 M o) : mW mX9_papersUpTo 1 Q 4 [some (.ref 12), some (.int x1), some (.int x2), some (.int x3)] [] M := by
  unfold b_to_papersUpTo_4_4 at hf
  refine y_iload_n (i := 3) (n := 5) ⟨dX9_papersUpTo_4, rfl⟩ rfl ?_
  refine y_aload_n (i := 0) (n := 6) ⟨dX9_papersUpTo_5, rfl⟩ rfl ?_
  refine y_getI (n := 9) ⟨dX9_papersUpTo_6, rfl⟩ kfX9_52 l_12 rfl ?_
  refine y_icmp_ge (t := 31) (n := 12) ⟨dX9_papersUpTo_9, rfl, rfl⟩ (fun (hc : (gI M 12 13) ≤ x3) => ?_) (fun (hc : ¬ ((gI M 12 13) ≤ x3)) => ?_)
  · replace hf := i_t hc hf
    refine y_iload_n (i := 2) (n := 32) ⟨dX9_papersUpTo_31, rfl⟩ rfl ?_
    cases hf
    exact y_ireturn (n := 33) ⟨dX9_papersUpTo_32, rfl⟩ rfl rfl hk
  · replace hf := i_f hc hf
    refine y_aload_n (i := 0) (n := 13) ⟨dX9_papersUpTo_12, rfl⟩ rfl ?_
    refine y_getR (n := 16) ⟨dX9_papersUpTo_13, rfl⟩ kfX9_42 l_12 rfl r_12_12 ?_
    refine y_iload_n (i := 3) (n := 17) ⟨dX9_papersUpTo_16, rfl⟩ rfl ?_
    obtain ⟨hg1, hf⟩ := g_s hf
    refine y_iaload (n := 18) ⟨dX9_papersUpTo_17, rfl⟩ l_23 hg1 ?_
    refine y_iload_n (i := 1) (n := 19) ⟨dX9_papersUpTo_18, rfl⟩ rfl ?_
    refine y_icmp_gt (t := 25) (n := 22) ⟨dX9_papersUpTo_19, rfl, rfl⟩ (fun (hc : x1 < (gI M 23 x3.toNatClampNeg)) => ?_) (fun (hc : ¬ (x1 < (gI M 23 x3.toNatClampNeg))) => ?_)
    · replace hf := i_t hc hf
      refine y_iinc (i := 3) (n := 28) (b := (x3 + 1)) (L2 := [some (.ref 12), some (.int x1), some (.int x2), some (.int (x3 + 1))]) ⟨dX9_papersUpTo_25, rfl⟩ rfl (by rw [ki_1]) (by decide) rfl rfl ?_
      refine y_goto (t := 4) ⟨dX9_papersUpTo_28, rfl, rfl⟩ ?_
      cases hf
      exact y_wk (L2 := [some (.ref 12), some (.int x1), some (.int x2), some (.int (x3 + 1))]) ⟨Or.inr rfl, Or.inr rfl, Or.inr rfl, Or.inr rfl, trivial⟩ hk
    · replace hf := i_f hc hf
      refine y_iinc (i := 2) (n := 25) (b := (x2 + 1)) (L2 := [some (.ref 12), some (.int x1), some (.int (x2 + 1)), some (.int x3)]) ⟨dX9_papersUpTo_22, rfl⟩ rfl (by rw [ki_1]) (by decide) rfl rfl ?_
      refine y_iinc (i := 3) (n := 28) (b := (x3 + 1)) (L2 := [some (.ref 12), some (.int x1), some (.int (x2 + 1)), some (.int (x3 + 1))]) ⟨dX9_papersUpTo_25, rfl⟩ rfl (by rw [ki_1]) (by decide) rfl rfl ?_
      refine y_goto (t := 4) ⟨dX9_papersUpTo_28, rfl, rfl⟩ ?_
      cases hf
      exact y_wk (L2 := [some (.ref 12), some (.int x1), some (.int (x2 + 1)), some (.int (x3 + 1))]) ⟨Or.inr rfl, Or.inr rfl, Or.inr rfl, Or.inr rfl, trivial⟩ hk
theorem wl_to_papersUpTo_4 (x1 : Int32) (x2 : Int32) (x3 : Int32) (M : dM) {Q : mz_P} {x : Int32} (hf : l_to_papersUpTo_4 x1 x2 x3 M = some x) (hk : K_to_papersUpTo_4 Q x1 M (.inr x)) : mW mX9_papersUpTo 1 Q 4 [some (.ref 12), some (.int x1), some (.int x2), some (.int x3)] [] M :=
  lpc_wp (σ := (Int32 × Int32)) (ξ := Int32) (s := (x2, x3)) (Wh := fun s => mW mX9_papersUpTo 1 Q 4 [some (.ref 12), some (.int x1), some (.int s.1), some (.int s.2)] [] M) (K := K_to_papersUpTo_4 Q x1 M) (fun _ h => h) (fun s o hb hk => w_b_to_papersUpTo_4_4 x1 s.1 s.2 M hb hk) hf hk
theorem ok_to_papersUpTo (a1 : Int32) (M : dM) {o : Int32} (hf : f_to_papersUpTo a1 M = some o) : mO mX9_papersUpTo 1 [.ref 12, .int a1] M (some (.int o)) M := by
  refine y_ok (by decide +kernel) (Nat.le_of_ble_eq_true rfl) (L0 := [some (.ref 12), some (.int a1), none, none]) rfl ?_
  have hk := mR_mQ (some (.int o)) M
  generalize mQ _ _ = Q at hk ⊢
  unfold f_to_papersUpTo at hf
  refine y_iconst (n := 1) (v := 0) ⟨dX9_papersUpTo_0, rfl⟩ ki_0 ?_
  refine y_istore_n (i := 2) (n := 2) (L2 := [some (.ref 12), some (.int a1), some (.int 0), none]) ⟨dX9_papersUpTo_1, rfl⟩ (by decide) rfl rfl ?_
  refine y_iconst (n := 3) (v := 0) ⟨dX9_papersUpTo_2, rfl⟩ ki_0 ?_
  refine y_istore_n (i := 3) (n := 4) (L2 := [some (.ref 12), some (.int a1), some (.int 0), some (.int 0)]) ⟨dX9_papersUpTo_3, rfl⟩ (by decide) rfl rfl ?_
  obtain ⟨r4, hl3, hf⟩ := b_s hf
  cases hf
  exact y_wk (L2 := [some (.ref 12), some (.int a1), some (.int 0), some (.int 0)]) ⟨Or.inr rfl, Or.inr rfl, Or.inr rfl, Or.inr rfl, trivial⟩ (wl_to_papersUpTo_4 a1 0 0 M hl3 hk)
theorem c_to_papersUpTo (a1 : Int32) (M : dM) {o : Int32} {y : mz_M} {d : Nat} {Q : mz_P} {pc n i : Nat} {L : List (Option Value)} {st : List Value} (h : mz_d y.2.1 pc n 3 (.invokevirtual i)) (hl : mz_ml y.1.cls i yX9_papersUpTo) (hf : f_to_papersUpTo a1 M = some o) (hd : 1 + 1 ≤ d) (hsm : (st.map (fun v => v.category)).sum ≤ 8) (hLr : mz_rL 133 L = true) (hSr : mz_rS 133 st = true) (kk : mW y d Q n L (.int o :: st) M) : mW y d Q pc L (.int a1 :: .ref 12 :: st) M :=
  y_callV kmX9_papersUpTo kvX9_papersUpTo l_12 (by decide +kernel) (by decide +kernel) h hl (ok_to_papersUpTo a1 M hf) (vs := [.int a1]) rfl rfl hd hsm hLr hSr kk
