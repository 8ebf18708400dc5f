noncomputable def f_jd_indexOf_4cfef (s0 : Nat) (a2 : Int32) (a3 : Int32) (a4 : Int32) (M : dM) : Option Int32 :=
  if (f_jd_canEncode a2) = true then
    gd (s0 < 10) <|
    if (if a3 < 0 then 0 else a3) < (if (nI (mz_len.getD s0 0)) < a4 then (nI (mz_len.getD s0 0)) else a4) then
      (f_jd_indexOfChar s0 a2 (if a3 < 0 then 0 else a3) (if (nI (mz_len.getD s0 0)) < a4 then (nI (mz_len.getD s0 0)) else a4) M).bind fun v2 =>
      some v2
    else
      some (-1)
  else
    some (-1)
theorem ok_jd_indexOf_4cfef (s0 : Nat) (a2 : Int32) (a3 : Int32) (a4 : Int32) (M : dM) {o : Int32} (hf : f_jd_indexOf_4cfef s0 a2 a3 a4 M = some o) : mO mJ1_indexOf_4cfef 2 [.ref (2000000 + s0), .int a2, .int a3, .int a4] M (some (.int o)) M := by
  refine y_ok (by decide +kernel) (Nat.le_of_ble_eq_true rfl) (L0 := [some (.ref (2000000 + s0)), some (.int a2), some (.int a3), some (.int a4)]) rfl ?_
  have hk := mR_mQ (some (.int o)) M
  generalize mQ _ _ = Q at hk ⊢
  unfold f_jd_indexOf_4cfef at hf
  refine y_iload_n (i := 1) (n := 1) ⟨dJ1_indexOf_4cfef_0, rfl⟩ rfl ?_
  refine c_jd_canEncode a2 M (n := 4) ⟨dJ1_indexOf_4cfef_1, rfl⟩ klJ1_88 rfl (by decide) (Nat.le_of_ble_eq_true rfl) (rL_c (ro_v _ _) (rL_c rfl (rL_c rfl (rL_c rfl rfl)))) rfl ?_
  refine y_if_ne (t := 9) (n := 7) ⟨dJ1_indexOf_4cfef_4, rfl, rfl⟩ (fun h0 => ?_) (fun h0 => ?_)
  · have hc := bI_1 h0
    replace hf := i_t hc hf
    refine y_iload_n (i := 2) (n := 10) ⟨dJ1_indexOf_4cfef_9, rfl⟩ rfl ?_
    refine y_iconst (n := 11) (v := 0) ⟨dJ1_indexOf_4cfef_10, rfl⟩ ki_0 ?_
    refine y_mmax kcmax ksmax kiMath (n := 14) ⟨dJ1_indexOf_4cfef_11, rfl⟩ (mz_in 761 (by decide +kernel) (by decide +kernel)) (by decide) (Nat.le_of_ble_eq_true rfl) ?_
    refine y_istore_n (i := 2) (n := 15) (L2 := [some (.ref (2000000 + s0)), some (.int a2), some (.int (if a3 < 0 then 0 else a3)), some (.int a4)]) ⟨dJ1_indexOf_4cfef_14, rfl⟩ (by decide) rfl rfl ?_
    refine y_iload_n (i := 3) (n := 16) ⟨dJ1_indexOf_4cfef_15, rfl⟩ rfl ?_
    refine y_aload_n (i := 0) (n := 17) ⟨dJ1_indexOf_4cfef_16, rfl⟩ rfl ?_
    obtain ⟨hg1, hf⟩ := g_s hf
    refine y_btlen hg1 (n := 18) ⟨dJ1_indexOf_4cfef_17, rfl⟩ ?_
    refine y_mmin kcmin ksmin kiMath (n := 21) ⟨dJ1_indexOf_4cfef_18, rfl⟩ (mz_in 764 (by decide +kernel) (by decide +kernel)) (by decide) (Nat.le_of_ble_eq_true rfl) ?_
    refine y_istore_n (i := 3) (n := 22) (L2 := [some (.ref (2000000 + s0)), some (.int a2), some (.int (if a3 < 0 then 0 else a3)), some (.int (if (nI (mz_len.getD s0 0)) < a4 then (nI (mz_len.getD s0 0)) else a4))]) ⟨dJ1_indexOf_4cfef_21, rfl⟩ (by decide) rfl rfl ?_
    refine y_iload_n (i := 2) (n := 23) ⟨dJ1_indexOf_4cfef_22, rfl⟩ rfl ?_
    refine y_iload_n (i := 3) (n := 24) ⟨dJ1_indexOf_4cfef_23, rfl⟩ rfl ?_
    refine y_icmp_lt (t := 29) (n := 27) ⟨dJ1_indexOf_4cfef_24, rfl, rfl⟩ (fun (hc : (if a3 < 0 then 0 else a3) < (if (nI (mz_len.getD s0 0)) < a4 then (nI (mz_len.getD s0 0)) else a4)) => ?_) (fun (hc : ¬ ((if a3 < 0 then 0 else a3) < (if (nI (mz_len.getD s0 0)) < a4 then (nI (mz_len.getD s0 0)) else a4))) => ?_)
    · replace hf := i_t hc hf
      refine y_aload_n (i := 0) (n := 30) ⟨dJ1_indexOf_4cfef_29, rfl⟩ rfl ?_
      refine y_iload_n (i := 1) (n := 31) ⟨dJ1_indexOf_4cfef_30, rfl⟩ rfl ?_
      refine y_iload_n (i := 2) (n := 32) ⟨dJ1_indexOf_4cfef_31, rfl⟩ rfl ?_
      refine y_iload_n (i := 3) (n := 33) ⟨dJ1_indexOf_4cfef_32, rfl⟩ rfl ?_
      obtain ⟨v2, hv3, hf⟩ := b_s hf
      refine c_jd_indexOfChar s0 a2 (if a3 < 0 then 0 else a3) (if (nI (mz_len.getD s0 0)) < a4 then (nI (mz_len.getD s0 0)) else a4) M (n := 36) ⟨dJ1_indexOf_4cfef_33, rfl⟩ klJ1_95 hv3 (by decide) (Nat.le_of_ble_eq_true rfl) (rL_c (ro_v _ _) (rL_c rfl (rL_c rfl (rL_c rfl rfl)))) rfl ?_
      cases hf
      exact y_ireturn (n := 37) ⟨dJ1_indexOf_4cfef_36, rfl⟩ rfl rfl hk
    · replace hf := i_f hc hf
      refine y_iconst (n := 28) (v := (-1)) ⟨dJ1_indexOf_4cfef_27, rfl⟩ ki_m1 ?_
      cases hf
      exact y_ireturn (n := 29) ⟨dJ1_indexOf_4cfef_28, rfl⟩ rfl rfl hk
  · have hc := bI_0 h0
    replace hf := i_f hc hf
    refine y_iconst (n := 8) (v := (-1)) ⟨dJ1_indexOf_4cfef_7, rfl⟩ ki_m1 ?_
    cases hf
    exact y_ireturn (n := 9) ⟨dJ1_indexOf_4cfef_8, rfl⟩ rfl rfl hk
theorem c_jd_indexOf_4cfef (s0 : Nat) (a2 : Int32) (a3 : Int32) (a4 : Int32) (M : dM) {o : Int32} {y : mz_M} {d : Nat} {Q : mz_P} {pc n i : Nat} {L : List (Option Value)} {st : List Value} (h : mz_d y.2.1 pc n 3 (.invokestatic i)) (hl : mz_ml y.1.cls i yJ1_indexOf_4cfef) (hf : f_jd_indexOf_4cfef s0 a2 a3 a4 M = some o) (hd : 2 + 1 ≤ d) (hsm : (st.map (fun v => v.category)).sum ≤ 8) (hLr : mz_rL 133 L = true) (hSr : mz_rS 133 st = true) (kk : mW y d Q n L (.int o :: st) M) : mW y d Q pc L (.int a4 :: .int a3 :: .int a2 :: .ref (2000000 + s0) :: st) M :=
  y_callS kmJ1_indexOf_4cfef ksJ1_indexOf_4cfef h hl (ok_jd_indexOf_4cfef s0 a2 a3 a4 M hf) (vs := [.ref (2000000 + s0), .int a2, .int a3, .int a4]) rfl rfl hd hsm hLr hSr kk
noncomputable def f_jd_indexOf_7cf53 (s0 : Nat) (a1 : Int32) (a2 : Int32) (M : dM) : Option Int32 :=
  gd (s0 < 10) <|
  (f_jd_isLatin1 s0).bind fun v2 =>
  if v2 = true then
    (f_jd_length s0).bind fun v6 =>
    (f_jd_indexOf_4cfef s0 a1 a2 v6 M).bind fun v8 =>
    some v8
  else
    (f_jd_length s0).bind fun v4 =>
    none
theorem ok_jd_indexOf_7cf53 (s0 : Nat) (a1 : Int32) (a2 : Int32) (M : dM) {o : Int32} (hf : f_jd_indexOf_7cf53 s0 a1 a2 M = some o) : mO mJ0_indexOf_7cf53 3 [.ref (1000000 + s0), .int a1, .int a2] M (some (.int o)) M := by
  refine y_ok (by decide +kernel) (Nat.le_of_ble_eq_true rfl) (L0 := [some (.ref (1000000 + s0)), some (.int a1), some (.int a2)]) rfl ?_
  have hk := mR_mQ (some (.int o)) M
  generalize mQ _ _ = Q at hk ⊢
  unfold f_jd_indexOf_7cf53 at hf
  refine y_aload_n (i := 0) (n := 1) ⟨dJ0_indexOf_7cf53_0, rfl⟩ rfl ?_
  obtain ⟨hg1, hf⟩ := g_s hf
  obtain ⟨v2, hv3, hf⟩ := b_s hf
  refine c_jd_isLatin1 s0 M hg1 (n := 4) ⟨dJ0_indexOf_7cf53_1, rfl⟩ klJ0_492 hv3 (by decide) (Nat.le_of_ble_eq_true rfl) (rL_c (ro_s _ _) (rL_c rfl (rL_c rfl rfl))) rfl ?_
  refine y_if_eq (t := 23) (n := 7) ⟨dJ0_indexOf_7cf53_4, rfl, rfl⟩ (fun h0 => ?_) (fun h0 => ?_)
  · have hc := bI_0 h0
    replace hf := i_f hc hf
    refine y_aload_n (i := 0) (n := 24) ⟨dJ0_indexOf_7cf53_23, rfl⟩ rfl ?_
    refine y_strV hg1 (n := 27) ⟨dJ0_indexOf_7cf53_24, rfl⟩ (mz_in 2238 (by decide +kernel) (by decide +kernel)) ?_
    refine y_iload_n (i := 1) (n := 28) ⟨dJ0_indexOf_7cf53_27, rfl⟩ rfl ?_
    refine y_iload_n (i := 2) (n := 29) ⟨dJ0_indexOf_7cf53_28, rfl⟩ rfl ?_
    refine y_aload_n (i := 0) (n := 30) ⟨dJ0_indexOf_7cf53_29, rfl⟩ rfl ?_
    obtain ⟨v4, hv5, hf⟩ := b_s hf
    refine c_jd_length s0 M hg1 (n := 33) ⟨dJ0_indexOf_7cf53_30, rfl⟩ klJ0_505 hv5 (by decide) (Nat.le_of_ble_eq_true rfl) (rL_c (ro_s _ _) (rL_c rfl (rL_c rfl rfl))) (rS_c rfl (rS_c rfl (rS_c (rv_v _ _) rfl))) ?_
    cases hf
  · have hc := bI_1 h0
    replace hf := i_t hc hf
    refine y_aload_n (i := 0) (n := 8) ⟨dJ0_indexOf_7cf53_7, rfl⟩ rfl ?_
    refine y_strV hg1 (n := 11) ⟨dJ0_indexOf_7cf53_8, rfl⟩ (mz_in 2238 (by decide +kernel) (by decide +kernel)) ?_
    refine y_iload_n (i := 1) (n := 12) ⟨dJ0_indexOf_7cf53_11, rfl⟩ rfl ?_
    refine y_iload_n (i := 2) (n := 13) ⟨dJ0_indexOf_7cf53_12, rfl⟩ rfl ?_
    refine y_aload_n (i := 0) (n := 14) ⟨dJ0_indexOf_7cf53_13, rfl⟩ rfl ?_
    obtain ⟨v6, hv7, hf⟩ := b_s hf
    refine c_jd_length s0 M hg1 (n := 17) ⟨dJ0_indexOf_7cf53_14, rfl⟩ klJ0_505 hv7 (by decide) (Nat.le_of_ble_eq_true rfl) (rL_c (ro_s _ _) (rL_c rfl (rL_c rfl rfl))) (rS_c rfl (rS_c rfl (rS_c (rv_v _ _) rfl))) ?_
    obtain ⟨v8, hv9, hf⟩ := b_s hf
    refine c_jd_indexOf_4cfef s0 a1 a2 v6 M (n := 20) ⟨dJ0_indexOf_7cf53_17, rfl⟩ klJ0_637 hv9 (by decide) (Nat.le_of_ble_eq_true rfl) (rL_c (ro_s _ _) (rL_c rfl (rL_c rfl rfl))) rfl ?_
    refine y_goto (t := 36) ⟨dJ0_indexOf_7cf53_20, rfl, rfl⟩ ?_
    cases hf
    exact y_ireturn (n := 37) ⟨dJ0_indexOf_7cf53_36, rfl⟩ rfl rfl hk
theorem c_jd_indexOf_7cf53 (s0 : Nat) (a1 : Int32) (a2 : Int32) (M : dM) {o : Int32} (hs : s0 < 10) {y : mz_M} {d : Nat} {Q : mz_P} {pc n i : Nat} {L : List (Option Value)} {st : List Value} (h : mz_d y.2.1 pc n 3 (.invokevirtual i)) (hl : mz_ml y.1.cls i yJ0_indexOf_7cf53) (hf : f_jd_indexOf_7cf53 s0 a1 a2 M = some o) (hd : 3 + 1 ≤ d) (hsm : (st.map (fun v => v.category)).sum ≤ 8) (hLr : mz_rL 133 L = true) (hSr : mz_rS 133 st = true) (kk : mW y d Q n L (.int o :: st) M) : mW y d Q pc L (.int a2 :: .int a1 :: .ref (1000000 + s0) :: st) M :=
  y_callT kmJ0_indexOf_7cf53 kvJ0_indexOf_7cf53 hs rfl h hl (ok_jd_indexOf_7cf53 s0 a1 a2 M hf) (vs := [.int a1, .int a2]) rfl rfl hd hsm hLr hSr kk
noncomputable def f_jd_indexOf_0f7a4 (s0 : Nat) (a1 : Int32) (M : dM) : Option Int32 :=
  gd (s0 < 10) <|
  (f_jd_indexOf_7cf53 s0 a1 0 M).bind fun v2 =>
  some v2
theorem ok_jd_indexOf_0f7a4 (s0 : Nat) (a1 : Int32) (M : dM) {o : Int32} (hf : f_jd_indexOf_0f7a4 s0 a1 M = some o) : mO mJ0_indexOf_0f7a4 4 [.ref (1000000 + s0), .int a1] M (some (.int o)) M := by
  refine y_ok (by decide +kernel) (Nat.le_of_ble_eq_true rfl) (L0 := [some (.ref (1000000 + s0)), some (.int a1)]) rfl ?_
  have hk := mR_mQ (some (.int o)) M
  generalize mQ _ _ = Q at hk ⊢
  unfold f_jd_indexOf_0f7a4 at hf
  refine y_aload_n (i := 0) (n := 1) ⟨dJ0_indexOf_0f7a4_0, rfl⟩ rfl ?_
  refine y_iload_n (i := 1) (n := 2) ⟨dJ0_indexOf_0f7a4_1, rfl⟩ rfl ?_
  refine y_iconst (n := 3) (v := 0) ⟨dJ0_indexOf_0f7a4_2, rfl⟩ ki_0 ?_
  obtain ⟨hg1, hf⟩ := g_s hf
  obtain ⟨v2, hv3, hf⟩ := b_s hf
  refine c_jd_indexOf_7cf53 s0 a1 0 M hg1 (n := 6) ⟨dJ0_indexOf_0f7a4_3, rfl⟩ klJ0_633 hv3 (by decide) (Nat.le_of_ble_eq_true rfl) (rL_c (ro_s _ _) (rL_c rfl rfl)) rfl ?_
  cases hf
  exact y_ireturn (n := 7) ⟨dJ0_indexOf_0f7a4_6, rfl⟩ rfl rfl hk
theorem c_jd_indexOf_0f7a4 (s0 : Nat) (a1 : Int32) (M : dM) {o : Int32} (hs : s0 < 10) {y : mz_M} {d : Nat} {Q : mz_P} {pc n i : Nat} {L : List (Option Value)} {st : List Value} (h : mz_d y.2.1 pc n 3 (.invokevirtual i)) (hl : mz_ml y.1.cls i yJ0_indexOf_0f7a4) (hf : f_jd_indexOf_0f7a4 s0 a1 M = some o) (hd : 4 + 1 ≤ d) (hsm : (st.map (fun v => v.category)).sum ≤ 8) (hLr : mz_rL 133 L = true) (hSr : mz_rS 133 st = true) (kk : mW y d Q n L (.int o :: st) M) : mW y d Q pc L (.int a1 :: .ref (1000000 + s0) :: st) M :=
  y_callT kmJ0_indexOf_0f7a4 kvJ0_indexOf_0f7a4 hs rfl h hl (ok_jd_indexOf_0f7a4 s0 a1 M hf) (vs := [.int a1]) rfl rfl hd hsm hLr hSr kk
def K_re_advance_8 (Q : mz_P)  : (dM ⊕ dM) → Prop
  | .inl s => mW mX6_advance 5 Q 8 [some (.ref 32)] [] s
  | .inr t => mW mX6_advance 5 Q 60 [some (.ref 32)] [] t
noncomputable def b_re_advance_8_47 (M : dM) : Option (dM ⊕ dM) :=
  some (.inl (sI M 32 4 ((gI M 32 4) + 1)))
noncomputable def b_re_advance_8_8 (M : dM) : Option (dM ⊕ dM) :=
  if (gI M 32 1) ≤ (gI M 32 4) then
    some (.inr M)
  else
    gd (vp_in (gI M 32 4) 1000) <|
    if (gI M 33 (gI M 32 4).toNatClampNeg) = 10 then
      b_re_advance_8_47 M
    else
      if (gI M 33 (gI M 32 4).toNatClampNeg) = 32 then
        b_re_advance_8_47 M
      else
        some (.inr M)
noncomputable def l_re_advance_8 (M : dM) : Option dM := lpc (fun s => b_re_advance_8_8 s) M
noncomputable def t_re_advance_180 (y1 : Int32) (M : dM) : Option dM :=
  some (sI (sI M 32 3 y1) 32 5 ((gI (sI M 32 3 y1) 32 5) + 1))
noncomputable def t_re_advance_157 (M : dM) : Option dM :=
  gd (vp_in (gI M 32 4) 1000) <|
  (f_jd_indexOf_0f7a4 7 (gI M 33 (gI M 32 4).toNatClampNeg) M).bind fun v8 =>
  if v8 < 0 then
    t_re_advance_180 4 M
  else
    t_re_advance_180 3 M
noncomputable def t_re_advance_122 (M : dM) : Option dM :=
  gd (vp_in (gI M 32 4) 1000) <|
  if (gI M 33 (gI M 32 4).toNatClampNeg) < 48 then
    t_re_advance_157 M
  else
    if 57 < (gI M 33 (gI M 32 4).toNatClampNeg) then
      t_re_advance_157 M
    else
      (f_re_readNumber M).bind fun q10 =>
      some q10
noncomputable def t_re_advance_60 (M : dM) : Option dM :=
  if (gI (sI M 32 5 (gI M 32 4)) 32 4) < (gI (sI M 32 5 (gI M 32 4)) 32 1) then
    gd (vp_in (gI (sI M 32 5 (gI M 32 4)) 32 4) 1000) <|
    if (gI (sI M 32 5 (gI M 32 4)) 33 (gI (sI M 32 5 (gI M 32 4)) 32 4).toNatClampNeg) < 97 then
      t_re_advance_122 (sI M 32 5 (gI M 32 4))
    else
      if 122 < (gI (sI M 32 5 (gI M 32 4)) 33 (gI (sI M 32 5 (gI M 32 4)) 32 4).toNatClampNeg) then
        t_re_advance_122 (sI M 32 5 (gI M 32 4))
      else
        (f_re_readWord (sI M 32 5 (gI M 32 4))).bind fun q12 =>
        some q12
  else
    some (sI (sI M 32 5 (gI M 32 4)) 32 3 0)
noncomputable def f_re_advance (M : dM) : Option dM :=
  (l_re_advance_8 (sI M 32 4 (gI M 32 5))).bind fun t2 =>
    t_re_advance_60 t2
theorem w_b_re_advance_8_47   (M : dM) {Q : mz_P} {o : (dM ⊕ dM)} (hf : b_re_advance_8_47 M = some o) (hk : K_re_advance_8 Q  o) : mW mX6_advance 5 Q 47 [some (.ref 32)] [] M := by
  unfold b_re_advance_8_47 at hf
  refine y_aload_n (i := 0) (n := 48) ⟨dX6_advance_47, rfl⟩ rfl ?_
  refine y_dup_r (n := 49) ⟨dX6_advance_48, rfl⟩ ?_
  refine y_getI (n := 52) ⟨dX6_advance_49, rfl⟩ kfX6_158 l_32 rfl ?_
  refine y_iconst (n := 53) (v := 1) ⟨dX6_advance_52, rfl⟩ ki_1 ?_
  refine y_iadd (n := 54) ⟨dX6_advance_53, rfl⟩ ?_
  refine y_putI (n := 57) ⟨dX6_advance_54, rfl⟩ kfX6_158 l_32 (by decide +kernel) rfl ?_
  refine y_goto (t := 8) ⟨dX6_advance_57, rfl, rfl⟩ ?_
  cases hf
  exact y_wk (L2 := [some (.ref 32)]) ⟨Or.inr rfl, trivial⟩ hk
theorem w_b_re_advance_8_8   (M : dM) {Q : mz_P} {o : (dM ⊕ dM)} (hf : b_re_advance_8_8 M = some o) (hk : K_re_advance_8 Q  o) : mW mX6_advance 5 Q 8 [some (.ref 32)] [] M := by
  unfold b_re_advance_8_8 at hf
  refine y_aload_n (i := 0) (n := 9) ⟨dX6_advance_8, rfl⟩ rfl ?_
  refine y_getI (n := 12) ⟨dX6_advance_9, rfl⟩ kfX6_158 l_32 rfl ?_
  refine y_aload_n (i := 0) (n := 13) ⟨dX6_advance_12, rfl⟩ rfl ?_
  refine y_getI (n := 16) ⟨dX6_advance_13, rfl⟩ kfX6_30 l_32 rfl ?_
  refine y_icmp_ge (t := 60) (n := 19) ⟨dX6_advance_16, rfl, rfl⟩ (fun (hc : (gI M 32 1) ≤ (gI M 32 4)) => ?_) (fun (hc : ¬ ((gI M 32 1) ≤ (gI M 32 4))) => ?_)
  · replace hf := i_t hc hf
    cases hf
    exact y_wk (L2 := [some (.ref 32)]) ⟨Or.inr rfl, trivial⟩ hk
  · replace hf := i_f hc hf
    refine y_aload_n (i := 0) (n := 20) ⟨dX6_advance_19, rfl⟩ rfl ?_
    refine y_getR (n := 23) ⟨dX6_advance_20, rfl⟩ kfX6_9 l_32 rfl r_32_0 ?_
    refine y_aload_n (i := 0) (n := 24) ⟨dX6_advance_23, rfl⟩ rfl ?_
    refine y_getI (n := 27) ⟨dX6_advance_24, rfl⟩ kfX6_158 l_32 rfl ?_
    obtain ⟨hg1, hf⟩ := g_s hf
    refine y_caload (n := 28) ⟨dX6_advance_27, rfl⟩ l_33 hg1 ?_
    refine y_bipush (n := 30) (v := 10) ⟨dX6_advance_28, rfl⟩ kb_10 ?_
    refine y_icmp_eq (t := 47) (n := 33) ⟨dX6_advance_30, rfl, rfl⟩ (fun (hc : (gI M 33 (gI M 32 4).toNatClampNeg) = 10) => ?_) (fun (hc : ¬ ((gI M 33 (gI M 32 4).toNatClampNeg) = 10)) => ?_)
    · replace hf := i_t hc hf
      exact y_wk (L2 := [some (.ref 32)]) ⟨Or.inr rfl, trivial⟩ (w_b_re_advance_8_47 M hf hk)
    · replace hf := i_f hc hf
      refine y_aload_n (i := 0) (n := 34) ⟨dX6_advance_33, rfl⟩ rfl ?_
      refine y_getR (n := 37) ⟨dX6_advance_34, rfl⟩ kfX6_9 l_32 rfl r_32_0 ?_
      refine y_aload_n (i := 0) (n := 38) ⟨dX6_advance_37, rfl⟩ rfl ?_
      refine y_getI (n := 41) ⟨dX6_advance_38, rfl⟩ kfX6_158 l_32 rfl ?_
      refine y_caload (n := 42) ⟨dX6_advance_41, rfl⟩ l_33 hg1 ?_
      refine y_bipush (n := 44) (v := 32) ⟨dX6_advance_42, rfl⟩ kb_32 ?_
      refine y_icmp_ne (t := 60) (n := 47) ⟨dX6_advance_44, rfl, rfl⟩ (fun (hc : ¬ ((gI M 33 (gI M 32 4).toNatClampNeg) = 32)) => ?_) (fun (hc : (gI M 33 (gI M 32 4).toNatClampNeg) = 32) => ?_)
      · replace hf := i_f hc hf
        cases hf
        exact y_wk (L2 := [some (.ref 32)]) ⟨Or.inr rfl, trivial⟩ hk
      · replace hf := i_t hc hf
        exact y_wk (L2 := [some (.ref 32)]) ⟨Or.inr rfl, trivial⟩ (w_b_re_advance_8_47 M hf hk)
theorem wl_re_advance_8  (M : dM) {Q : mz_P} {x : dM} (hf : l_re_advance_8 M = some x) (hk : K_re_advance_8 Q  (.inr x)) : mW mX6_advance 5 Q 8 [some (.ref 32)] [] M :=
  lpc_wp (σ := dM) (ξ := dM) (s := M) (Wh := fun s => mW mX6_advance 5 Q 8 [some (.ref 32)] [] s) (K := K_re_advance_8 Q ) (fun _ h => h) (fun s o hb hk => w_b_re_advance_8_8 s hb hk) hf hk
theorem w_t_re_advance_180 (y1 : Int32) (M : dM) {Q : mz_P} {o : dM} (hf : t_re_advance_180 y1 M = some o) (hk : mR Q none o) : mW mX6_advance 5 Q 180 [some (.ref 32)] [.int y1, .ref 32] M := by
  unfold t_re_advance_180 at hf
  refine y_putI (n := 183) ⟨dX6_advance_180, rfl⟩ kfX6_53 l_32 (by decide +kernel) rfl ?_
  refine y_aload_n (i := 0) (n := 184) ⟨dX6_advance_183, rfl⟩ rfl ?_
  refine y_dup_r (n := 185) ⟨dX6_advance_184, rfl⟩ ?_
  refine y_getI (n := 188) ⟨dX6_advance_185, rfl⟩ kfX6_47 l_32 rfl ?_
  refine y_iconst (n := 189) (v := 1) ⟨dX6_advance_188, rfl⟩ ki_1 ?_
  refine y_iadd (n := 190) ⟨dX6_advance_189, rfl⟩ ?_
  refine y_putI (n := 193) ⟨dX6_advance_190, rfl⟩ kfX6_47 l_32 (by decide +kernel) rfl ?_
  cases hf
  exact y_return (n := 194) ⟨dX6_advance_193, rfl⟩ rfl hk
theorem w_t_re_advance_157  (M : dM) {Q : mz_P} {o : dM} (hf : t_re_advance_157 M = some o) (hk : mR Q none o) : mW mX6_advance 5 Q 157 [some (.ref 32)] [] M := by
  unfold t_re_advance_157 at hf
  refine y_aload_n (i := 0) (n := 158) ⟨dX6_advance_157, rfl⟩ rfl ?_
  refine y_ldcS (s := 7) (n := 160) ⟨dX6_advance_158, rfl⟩ (own := "AxesAtDawn$Reader") (tx := "()<=+-*;") rfl rfl ?_
  refine y_aload_n (i := 0) (n := 161) ⟨dX6_advance_160, rfl⟩ rfl ?_
  refine y_getR (n := 164) ⟨dX6_advance_161, rfl⟩ kfX6_9 l_32 rfl r_32_0 ?_
  refine y_aload_n (i := 0) (n := 165) ⟨dX6_advance_164, rfl⟩ rfl ?_
  refine y_getI (n := 168) ⟨dX6_advance_165, rfl⟩ kfX6_158 l_32 rfl ?_
  obtain ⟨hg7, hf⟩ := g_s hf
  refine y_caload (n := 169) ⟨dX6_advance_168, rfl⟩ l_33 hg7 ?_
  obtain ⟨v8, hv9, hf⟩ := b_s hf
  refine c_jd_indexOf_0f7a4 7 (gI M 33 (gI M 32 4).toNatClampNeg) M (by decide) (n := 172) ⟨dX6_advance_169, rfl⟩ klX6_183 hv9 (by decide) (Nat.le_of_ble_eq_true rfl) rfl rfl ?_
  refine y_if_lt (t := 179) (n := 175) ⟨dX6_advance_172, rfl, rfl⟩ (fun (hc : v8 < 0) => ?_) (fun (hc : ¬ (v8 < 0)) => ?_)
  · replace hf := i_t hc hf
    refine y_iconst (n := 180) (v := 4) ⟨dX6_advance_179, rfl⟩ ki_4 ?_
    exact y_wk (L2 := [some (.ref 32)]) ⟨Or.inr rfl, trivial⟩ (w_t_re_advance_180 4 M hf hk)
  · replace hf := i_f hc hf
    refine y_iconst (n := 176) (v := 3) ⟨dX6_advance_175, rfl⟩ ki_3 ?_
    refine y_goto (t := 180) ⟨dX6_advance_176, rfl, rfl⟩ ?_
    exact y_wk (L2 := [some (.ref 32)]) ⟨Or.inr rfl, trivial⟩ (w_t_re_advance_180 3 M hf hk)
theorem w_t_re_advance_122  (M : dM) {Q : mz_P} {o : dM} (hf : t_re_advance_122 M = some o) (hk : mR Q none o) : mW mX6_advance 5 Q 122 [some (.ref 32)] [] M := by
  unfold t_re_advance_122 at hf
  refine y_aload_n (i := 0) (n := 123) ⟨dX6_advance_122, rfl⟩ rfl ?_
  refine y_getR (n := 126) ⟨dX6_advance_123, rfl⟩ kfX6_9 l_32 rfl r_32_0 ?_
  refine y_aload_n (i := 0) (n := 127) ⟨dX6_advance_126, rfl⟩ rfl ?_
  refine y_getI (n := 130) ⟨dX6_advance_127, rfl⟩ kfX6_158 l_32 rfl ?_
  obtain ⟨hg6, hf⟩ := g_s hf
  refine y_caload (n := 131) ⟨dX6_advance_130, rfl⟩ l_33 hg6 ?_
  refine y_bipush (n := 133) (v := 48) ⟨dX6_advance_131, rfl⟩ kb_48 ?_
  refine y_icmp_lt (t := 157) (n := 136) ⟨dX6_advance_133, rfl, rfl⟩ (fun (hc : (gI M 33 (gI M 32 4).toNatClampNeg) < 48) => ?_) (fun (hc : ¬ ((gI M 33 (gI M 32 4).toNatClampNeg) < 48)) => ?_)
  · replace hf := i_t hc hf
    exact y_wk (L2 := [some (.ref 32)]) ⟨Or.inr rfl, trivial⟩ (w_t_re_advance_157 M hf hk)
  · replace hf := i_f hc hf
    refine y_aload_n (i := 0) (n := 137) ⟨dX6_advance_136, rfl⟩ rfl ?_
    refine y_getR (n := 140) ⟨dX6_advance_137, rfl⟩ kfX6_9 l_32 rfl r_32_0 ?_
    refine y_aload_n (i := 0) (n := 141) ⟨dX6_advance_140, rfl⟩ rfl ?_
    refine y_getI (n := 144) ⟨dX6_advance_141, rfl⟩ kfX6_158 l_32 rfl ?_
    refine y_caload (n := 145) ⟨dX6_advance_144, rfl⟩ l_33 hg6 ?_
    refine y_bipush (n := 147) (v := 57) ⟨dX6_advance_145, rfl⟩ kb_57 ?_
    refine y_icmp_gt (t := 157) (n := 150) ⟨dX6_advance_147, rfl, rfl⟩ (fun (hc : 57 < (gI M 33 (gI M 32 4).toNatClampNeg)) => ?_) (fun (hc : ¬ (57 < (gI M 33 (gI M 32 4).toNatClampNeg))) => ?_)
    · replace hf := i_t hc hf
      exact y_wk (L2 := [some (.ref 32)]) ⟨Or.inr rfl, trivial⟩ (w_t_re_advance_157 M hf hk)
    · replace hf := i_f hc hf
      refine y_aload_n (i := 0) (n := 151) ⟨dX6_advance_150, rfl⟩ rfl ?_
      obtain ⟨q10, hv11, hf⟩ := b_s hf
      refine c_re_readNumber M (n := 154) ⟨dX6_advance_151, rfl⟩ klX6_178 hv11 (by decide) (Nat.le_of_ble_eq_true rfl) rfl rfl ?_
      refine y_goto (t := 193) ⟨dX6_advance_154, rfl, rfl⟩ ?_
      cases hf
      exact y_return (n := 194) ⟨dX6_advance_193, rfl⟩ rfl hk
theorem w_t_re_advance_60  (M : dM) {Q : mz_P} {o : dM} (hf : t_re_advance_60 M = some o) (hk : mR Q none o) : mW mX6_advance 5 Q 60 [some (.ref 32)] [] M := by
  unfold t_re_advance_60 at hf
  refine y_aload_n (i := 0) (n := 61) ⟨dX6_advance_60, rfl⟩ rfl ?_
  refine y_aload_n (i := 0) (n := 62) ⟨dX6_advance_61, rfl⟩ rfl ?_
  refine y_getI (n := 65) ⟨dX6_advance_62, rfl⟩ kfX6_158 l_32 rfl ?_
  refine y_putI (n := 68) ⟨dX6_advance_65, rfl⟩ kfX6_47 l_32 (by decide +kernel) rfl ?_
  refine y_aload_n (i := 0) (n := 69) ⟨dX6_advance_68, rfl⟩ rfl ?_
  refine y_getI (n := 72) ⟨dX6_advance_69, rfl⟩ kfX6_158 l_32 rfl ?_
  refine y_aload_n (i := 0) (n := 73) ⟨dX6_advance_72, rfl⟩ rfl ?_
  refine y_getI (n := 76) ⟨dX6_advance_73, rfl⟩ kfX6_30 l_32 rfl ?_
  refine y_icmp_lt (t := 87) (n := 79) ⟨dX6_advance_76, rfl, rfl⟩ (fun (hc : (gI (sI M 32 5 (gI M 32 4)) 32 4) < (gI (sI M 32 5 (gI M 32 4)) 32 1)) => ?_) (fun (hc : ¬ ((gI (sI M 32 5 (gI M 32 4)) 32 4) < (gI (sI M 32 5 (gI M 32 4)) 32 1))) => ?_)
  · replace hf := i_t hc hf
    refine y_aload_n (i := 0) (n := 88) ⟨dX6_advance_87, rfl⟩ rfl ?_
    refine y_getR (n := 91) ⟨dX6_advance_88, rfl⟩ kfX6_9 l_32 rfl r_32_0 ?_
    refine y_aload_n (i := 0) (n := 92) ⟨dX6_advance_91, rfl⟩ rfl ?_
    refine y_getI (n := 95) ⟨dX6_advance_92, rfl⟩ kfX6_158 l_32 rfl ?_
    obtain ⟨hg5, hf⟩ := g_s hf
    refine y_caload (n := 96) ⟨dX6_advance_95, rfl⟩ l_33 hg5 ?_
    refine y_bipush (n := 98) (v := 97) ⟨dX6_advance_96, rfl⟩ kb_97 ?_
    refine y_icmp_lt (t := 122) (n := 101) ⟨dX6_advance_98, rfl, rfl⟩ (fun (hc : (gI (sI M 32 5 (gI M 32 4)) 33 (gI (sI M 32 5 (gI M 32 4)) 32 4).toNatClampNeg) < 97) => ?_) (fun (hc : ¬ ((gI (sI M 32 5 (gI M 32 4)) 33 (gI (sI M 32 5 (gI M 32 4)) 32 4).toNatClampNeg) < 97)) => ?_)
    · replace hf := i_t hc hf
      exact y_wk (L2 := [some (.ref 32)]) ⟨Or.inr rfl, trivial⟩ (w_t_re_advance_122 (sI M 32 5 (gI M 32 4)) hf hk)
    · replace hf := i_f hc hf
      refine y_aload_n (i := 0) (n := 102) ⟨dX6_advance_101, rfl⟩ rfl ?_
      refine y_getR (n := 105) ⟨dX6_advance_102, rfl⟩ kfX6_9 l_32 rfl r_32_0 ?_
      refine y_aload_n (i := 0) (n := 106) ⟨dX6_advance_105, rfl⟩ rfl ?_
      refine y_getI (n := 109) ⟨dX6_advance_106, rfl⟩ kfX6_158 l_32 rfl ?_
      refine y_caload (n := 110) ⟨dX6_advance_109, rfl⟩ l_33 hg5 ?_
      refine y_bipush (n := 112) (v := 122) ⟨dX6_advance_110, rfl⟩ kb_122 ?_
      refine y_icmp_gt (t := 122) (n := 115) ⟨dX6_advance_112, rfl, rfl⟩ (fun (hc : 122 < (gI (sI M 32 5 (gI M 32 4)) 33 (gI (sI M 32 5 (gI M 32 4)) 32 4).toNatClampNeg)) => ?_) (fun (hc : ¬ (122 < (gI (sI M 32 5 (gI M 32 4)) 33 (gI (sI M 32 5 (gI M 32 4)) 32 4).toNatClampNeg))) => ?_)
      · replace hf := i_t hc hf
        exact y_wk (L2 := [some (.ref 32)]) ⟨Or.inr rfl, trivial⟩ (w_t_re_advance_122 (sI M 32 5 (gI M 32 4)) hf hk)
      · replace hf := i_f hc hf
        refine y_aload_n (i := 0) (n := 116) ⟨dX6_advance_115, rfl⟩ rfl ?_
        obtain ⟨q12, hv13, hf⟩ := b_s hf
        refine c_re_readWord (sI M 32 5 (gI M 32 4)) (n := 119) ⟨dX6_advance_116, rfl⟩ klX6_175 hv13 (by decide) (Nat.le_of_ble_eq_true rfl) rfl rfl ?_
        refine y_goto (t := 193) ⟨dX6_advance_119, rfl, rfl⟩ ?_
        cases hf
        exact y_return (n := 194) ⟨dX6_advance_193, rfl⟩ rfl hk
  · replace hf := i_f hc hf
    refine y_aload_n (i := 0) (n := 80) ⟨dX6_advance_79, rfl⟩ rfl ?_
    refine y_iconst (n := 81) (v := 0) ⟨dX6_advance_80, rfl⟩ ki_0 ?_
    refine y_putI (n := 84) ⟨dX6_advance_81, rfl⟩ kfX6_53 l_32 (by decide +kernel) rfl ?_
    refine y_goto (t := 193) ⟨dX6_advance_84, rfl, rfl⟩ ?_
    cases hf
    exact y_return (n := 194) ⟨dX6_advance_193, rfl⟩ rfl hk
theorem ok_re_advance  (M : dM) {o : dM} (hf : f_re_advance M = some o) : mO mX6_advance 5 [.ref 32] M none o := by
  refine y_ok (by decide +kernel) (Nat.le_of_ble_eq_true rfl) (L0 := [some (.ref 32)]) rfl ?_
  have hk := mR_mQ none o
  generalize mQ _ _ = Q at hk ⊢
  unfold f_re_advance at hf
  refine y_aload_n (i := 0) (n := 1) ⟨dX6_advance_0, rfl⟩ rfl ?_
  refine y_aload_n (i := 0) (n := 2) ⟨dX6_advance_1, rfl⟩ rfl ?_
  refine y_getI (n := 5) ⟨dX6_advance_2, rfl⟩ kfX6_47 l_32 rfl ?_
  refine y_putI (n := 8) ⟨dX6_advance_5, rfl⟩ kfX6_158 l_32 (by decide +kernel) rfl ?_
  obtain ⟨t2, hl3, hf⟩ := b_s hf
  refine y_wk (L2 := [some (.ref 32)]) ⟨Or.inr rfl, trivial⟩ (wl_re_advance_8 (sI M 32 4 (gI M 32 5)) hl3 ?_)
  show mW mX6_advance 5 Q 60 [some (.ref 32)] [] t2
  exact y_wk (L2 := [some (.ref 32)]) ⟨Or.inr rfl, trivial⟩ (w_t_re_advance_60 t2 hf hk)
theorem c_re_advance  (M : dM) {o : dM} {y : mz_M} {d : Nat} {Q : mz_P} {pc n i : Nat} {L : List (Option Value)} {st : List Value} (h : mz_d y.2.1 pc n 3 (.invokevirtual i)) (hl : mz_ml y.1.cls i yX6_advance) (hf : f_re_advance M = some o) (hd : 5 + 1 ≤ d) (hsm : (st.map (fun v => v.category)).sum ≤ 8) (hLr : mz_rL 133 L = true) (hSr : mz_rS 133 st = true) (kk : mW y d Q n L st o) : mW y d Q pc L (.ref 32 :: st) M :=
  y_callV kmX6_advance kvX6_advance l_32 (by decide +kernel) (by decide +kernel) h hl (ok_re_advance  M hf) (vs := []) rfl rfl hd hsm hLr hSr kk
noncomputable def f_jd_charAt_3b067 (s0 : Nat) (a2 : Int32) (M : dM) : Option Int32 :=
  gd (s0 < 10) <|
  (jd_checkIndex a2 (nI (mz_len.getD s0 0))).bind fun v2 =>
  gd (vp_in a2 (mz_len.getD s0 0)) <|
  some (((((mz_byt.getD s0 []).getD a2.toNatClampNeg 0) &&& 255).toUInt32 % 65536).toInt32)
theorem ok_jd_charAt_3b067 (s0 : Nat) (a2 : Int32) (M : dM) {o : Int32} (hf : f_jd_charAt_3b067 s0 a2 M = some o) : mO mJ1_charAt_3b067 4 [.ref (2000000 + s0), .int a2] M (some (.int o)) M := by
  refine y_ok (by decide +kernel) (Nat.le_of_ble_eq_true rfl) (L0 := [some (.ref (2000000 + s0)), some (.int a2)]) rfl ?_
  have hk := mR_mQ (some (.int o)) M
  generalize mQ _ _ = Q at hk ⊢
  unfold f_jd_charAt_3b067 at hf
  refine y_iload_n (i := 1) (n := 1) ⟨dJ1_charAt_3b067_0, rfl⟩ rfl ?_
  refine y_aload_n (i := 0) (n := 2) ⟨dJ1_charAt_3b067_1, rfl⟩ rfl ?_
  obtain ⟨hg1, hf⟩ := g_s hf
  refine y_btlen hg1 (n := 3) ⟨dJ1_charAt_3b067_2, rfl⟩ ?_
  obtain ⟨v2, hv3, hf⟩ := b_s hf
  refine c_jd_checkIndex (n := 6) ⟨dJ1_charAt_3b067_3, rfl⟩ klJ1_9 hv3 (by decide) (Nat.le_of_ble_eq_true rfl) (rL_c (ro_v _ _) (rL_c rfl rfl)) rfl ?_
  refine y_aload_n (i := 0) (n := 7) ⟨dJ1_charAt_3b067_6, rfl⟩ rfl ?_
  refine y_iload_n (i := 1) (n := 8) ⟨dJ1_charAt_3b067_7, rfl⟩ rfl ?_
  obtain ⟨hg4, hf⟩ := g_s hf
  refine y_btld hg1 hg4 (n := 9) ⟨dJ1_charAt_3b067_8, rfl⟩ ?_
  refine y_sipush (n := 12) (v := 255) ⟨dJ1_charAt_3b067_9, rfl⟩ ks_255 ?_
  refine y_iand (n := 13) ⟨dJ1_charAt_3b067_12, rfl⟩ ?_
  refine y_i2c (n := 14) ⟨dJ1_charAt_3b067_13, rfl⟩ ?_
  cases hf
  exact y_ireturn (n := 15) ⟨dJ1_charAt_3b067_14, rfl⟩ rfl (pk_nc _) hk
theorem c_jd_charAt_3b067 (s0 : Nat) (a2 : Int32) (M : dM) {o : Int32} {y : mz_M} {d : Nat} {Q : mz_P} {pc n i : Nat} {L : List (Option Value)} {st : List Value} (h : mz_d y.2.1 pc n 3 (.invokestatic i)) (hl : mz_ml y.1.cls i yJ1_charAt_3b067) (hf : f_jd_charAt_3b067 s0 a2 M = some o) (hd : 4 + 1 ≤ d) (hsm : (st.map (fun v => v.category)).sum ≤ 8) (hLr : mz_rL 133 L = true) (hSr : mz_rS 133 st = true) (kk : mW y d Q n L (.int o :: st) M) : mW y d Q pc L (.int a2 :: .ref (2000000 + s0) :: st) M :=
  y_callS kmJ1_charAt_3b067 ksJ1_charAt_3b067 h hl (ok_jd_charAt_3b067 s0 a2 M hf) (vs := [.ref (2000000 + s0), .int a2]) rfl rfl hd hsm hLr hSr kk
noncomputable def f_jd_charAt_5068e (s0 : Nat) (a1 : Int32) (M : dM) : Option Int32 :=
  gd (s0 < 10) <|
  (f_jd_isLatin1 s0).bind fun v2 =>
  if v2 = true then
    (f_jd_charAt_3b067 s0 a1 M).bind fun v4 =>
    gd (narrow .char (.int v4) = .int v4) <|
    some v4
  else
    none
theorem ok_jd_charAt_5068e (s0 : Nat) (a1 : Int32) (M : dM) {o : Int32} (hf : f_jd_charAt_5068e s0 a1 M = some o) : mO mJ0_charAt_5068e 5 [.ref (1000000 + s0), .int a1] M (some (.int o)) M := by
  refine y_ok (by decide +kernel) (Nat.le_of_ble_eq_true rfl) (L0 := [some (.ref (1000000 + s0)), some (.int a1)]) rfl ?_
  have hk := mR_mQ (some (.int o)) M
  generalize mQ _ _ = Q at hk ⊢
  unfold f_jd_charAt_5068e at hf
  refine y_aload_n (i := 0) (n := 1) ⟨dJ0_charAt_5068e_0, rfl⟩ rfl ?_
  obtain ⟨hg1, hf⟩ := g_s hf
  obtain ⟨v2, hv3, hf⟩ := b_s hf
  refine c_jd_isLatin1 s0 M hg1 (n := 4) ⟨dJ0_charAt_5068e_1, rfl⟩ klJ0_492 hv3 (by decide) (Nat.le_of_ble_eq_true rfl) (rL_c (ro_s _ _) (rL_c rfl rfl)) rfl ?_
  refine y_if_eq (t := 16) (n := 7) ⟨dJ0_charAt_5068e_4, rfl, rfl⟩ (fun h0 => ?_) (fun h0 => ?_)
  · have hc := bI_0 h0
    replace hf := i_f hc hf
    refine y_aload_n (i := 0) (n := 17) ⟨dJ0_charAt_5068e_16, rfl⟩ rfl ?_
    refine y_strV hg1 (n := 20) ⟨dJ0_charAt_5068e_17, rfl⟩ (mz_in 2238 (by decide +kernel) (by decide +kernel)) ?_
    refine y_iload_n (i := 1) (n := 21) ⟨dJ0_charAt_5068e_20, rfl⟩ rfl ?_
    cases hf
  · have hc := bI_1 h0
    replace hf := i_t hc hf
    refine y_aload_n (i := 0) (n := 8) ⟨dJ0_charAt_5068e_7, rfl⟩ rfl ?_
    refine y_strV hg1 (n := 11) ⟨dJ0_charAt_5068e_8, rfl⟩ (mz_in 2238 (by decide +kernel) (by decide +kernel)) ?_
    refine y_iload_n (i := 1) (n := 12) ⟨dJ0_charAt_5068e_11, rfl⟩ rfl ?_
    obtain ⟨v4, hv5, hf⟩ := b_s hf
    refine c_jd_charAt_3b067 s0 a1 M (n := 15) ⟨dJ0_charAt_5068e_12, rfl⟩ klJ0_495 hv5 (by decide) (Nat.le_of_ble_eq_true rfl) (rL_c (ro_s _ _) (rL_c rfl rfl)) rfl ?_
    obtain ⟨hg6, hf⟩ := g_s hf
    cases hf
    exact y_ireturn (n := 16) ⟨dJ0_charAt_5068e_15, rfl⟩ rfl hg6 hk
theorem c_jd_charAt_5068e (s0 : Nat) (a1 : Int32) (M : dM) {o : Int32} (hs : s0 < 10) {y : mz_M} {d : Nat} {Q : mz_P} {pc n i : Nat} {L : List (Option Value)} {st : List Value} (h : mz_d y.2.1 pc n 3 (.invokevirtual i)) (hl : mz_ml y.1.cls i yJ0_charAt_5068e) (hf : f_jd_charAt_5068e s0 a1 M = some o) (hd : 5 + 1 ≤ d) (hsm : (st.map (fun v => v.category)).sum ≤ 8) (hLr : mz_rL 133 L = true) (hSr : mz_rS 133 st = true) (kk : mW y d Q n L (.int o :: st) M) : mW y d Q pc L (.int a1 :: .ref (1000000 + s0) :: st) M :=
  y_callT kmJ0_charAt_5068e kvJ0_charAt_5068e hs rfl h hl (ok_jd_charAt_5068e s0 a1 M hf) (vs := [.int a1]) rfl rfl hd hsm hLr hSr kk
def K_re_hasLetters_5 (Q : mz_P) (x1 : Nat) (x2 : Int32) (M : dM) : (Int32 ⊕ Bool) → Prop
  | .inl s => mW mX6_hasLetters 6 Q 5 [some (.ref 32), some (.ref (1000000 + x1)), some (.int x2), some (.int s)] [] M
  | .inr r => mR Q (some (.int (bI r))) M
noncomputable def b_re_hasLetters_5_5 (x1 : Nat) (x2 : Int32) (x3 : Int32) (M : dM) : Option (Int32 ⊕ Bool) :=
  if (gI M 32 5) ≤ x3 then
    some (.inr true)
  else
    gd (vp_in x3 1000) <|
    gd (x1 < 10) <|
    (f_jd_charAt_5068e x1 ((x2 + x3) - (gI M 32 4)) M).bind fun v3 =>
    if (gI M 33 x3.toNatClampNeg) = v3 then
      some (.inl (x3 + 1))
    else
      some (.inr false)
noncomputable def l_re_hasLetters_5 (x1 : Nat) (x2 : Int32) (x3 : Int32) (M : dM) : Option Bool := lpc (fun s => b_re_hasLetters_5_5 x1 x2 s M) x3
noncomputable def f_re_hasLetters (s1 : Nat) (a2 : Int32) (M : dM) : Option Bool :=
  (l_re_hasLetters_5 s1 a2 (gI M 32 4) M).bind fun r7 => some r7
theorem w_b_re_hasLetters_5_5 (x1 : Nat) (x2 : Int32) (x3 : Int32)  (M : dM) {Q : mz_P} {o : (Int32 ⊕ Bool)} (hf : b_re_hasLetters_5_5 x1 x2 x3 M = some o) (hk : K_re_hasLetters_5 Q x1 x2 M o) : mW mX6_hasLetters 6 Q 5 [some (.ref 32), some (.ref (1000000 + x1)), some (.int x2), some (.int x3)] [] M := by
  unfold b_re_hasLetters_5_5 at hf
  refine y_iload_n (i := 3) (n := 6) ⟨dX6_hasLetters_5, rfl⟩ rfl ?_
  refine y_aload_n (i := 0) (n := 7) ⟨dX6_hasLetters_6, rfl⟩ rfl ?_
  refine y_getI (n := 10) ⟨dX6_hasLetters_7, rfl⟩ kfX6_47 l_32 rfl ?_
  refine y_icmp_ge (t := 42) (n := 13) ⟨dX6_hasLetters_10, rfl, rfl⟩ (fun (hc : (gI M 32 5) ≤ x3) => ?_) (fun (hc : ¬ ((gI M 32 5) ≤ x3)) => ?_)
  · replace hf := i_t hc hf
    refine y_iconst (n := 43) (v := 1) ⟨dX6_hasLetters_42, rfl⟩ ki_1 ?_
    cases hf
    exact y_ireturn (n := 44) ⟨dX6_hasLetters_43, rfl⟩ rfl rfl hk
  · replace hf := i_f hc hf
    refine y_aload_n (i := 0) (n := 14) ⟨dX6_hasLetters_13, rfl⟩ rfl ?_
    refine y_getR (n := 17) ⟨dX6_hasLetters_14, rfl⟩ kfX6_9 l_32 rfl r_32_0 ?_
    refine y_iload_n (i := 3) (n := 18) ⟨dX6_hasLetters_17, rfl⟩ rfl ?_
    obtain ⟨hg1, hf⟩ := g_s hf
    refine y_caload (n := 19) ⟨dX6_hasLetters_18, rfl⟩ l_33 hg1 ?_
    refine y_aload_n (i := 1) (n := 20) ⟨dX6_hasLetters_19, rfl⟩ rfl ?_
    refine y_iload_n (i := 2) (n := 21) ⟨dX6_hasLetters_20, rfl⟩ rfl ?_
    refine y_iload_n (i := 3) (n := 22) ⟨dX6_hasLetters_21, rfl⟩ rfl ?_
    refine y_iadd (n := 23) ⟨dX6_hasLetters_22, rfl⟩ ?_
    refine y_aload_n (i := 0) (n := 24) ⟨dX6_hasLetters_23, rfl⟩ rfl ?_
    refine y_getI (n := 27) ⟨dX6_hasLetters_24, rfl⟩ kfX6_158 l_32 rfl ?_
    refine y_isub (n := 28) ⟨dX6_hasLetters_27, rfl⟩ ?_
    obtain ⟨hg2, hf⟩ := g_s hf
    obtain ⟨v3, hv4, hf⟩ := b_s hf
    refine c_jd_charAt_5068e x1 ((x2 + x3) - (gI M 32 4)) M hg2 (n := 31) ⟨dX6_hasLetters_28, rfl⟩ klX6_167 hv4 (by decide) (Nat.le_of_ble_eq_true rfl) (rL_c rfl (rL_c (ro_s _ _) (rL_c rfl (rL_c rfl rfl)))) rfl ?_
    refine y_icmp_eq (t := 36) (n := 34) ⟨dX6_hasLetters_31, rfl, rfl⟩ (fun (hc : (gI M 33 x3.toNatClampNeg) = v3) => ?_) (fun (hc : ¬ ((gI M 33 x3.toNatClampNeg) = v3)) => ?_)
    · replace hf := i_t hc hf
      refine y_iinc (i := 3) (n := 39) (b := (x3 + 1)) (L2 := [some (.ref 32), some (.ref (1000000 + x1)), some (.int x2), some (.int (x3 + 1))]) ⟨dX6_hasLetters_36, rfl⟩ rfl (by rw [ki_1]) (by decide) rfl rfl ?_
      refine y_goto (t := 5) ⟨dX6_hasLetters_39, rfl, rfl⟩ ?_
      cases hf
      exact y_wk (L2 := [some (.ref 32), some (.ref (1000000 + x1)), some (.int x2), some (.int (x3 + 1))]) ⟨Or.inr rfl, Or.inr rfl, Or.inr rfl, Or.inr rfl, trivial⟩ hk
    · replace hf := i_f hc hf
      refine y_iconst (n := 35) (v := 0) ⟨dX6_hasLetters_34, rfl⟩ ki_0 ?_
      cases hf
      exact y_ireturn (n := 36) ⟨dX6_hasLetters_35, rfl⟩ rfl rfl hk
theorem wl_re_hasLetters_5 (x1 : Nat) (x2 : Int32) (x3 : Int32) (M : dM) {Q : mz_P} {x : Bool} (hf : l_re_hasLetters_5 x1 x2 x3 M = some x) (hk : K_re_hasLetters_5 Q x1 x2 M (.inr x)) : mW mX6_hasLetters 6 Q 5 [some (.ref 32), some (.ref (1000000 + x1)), some (.int x2), some (.int x3)] [] M :=
  lpc_wp (σ := Int32) (ξ := Bool) (s := x3) (Wh := fun s => mW mX6_hasLetters 6 Q 5 [some (.ref 32), some (.ref (1000000 + x1)), some (.int x2), some (.int s)] [] M) (K := K_re_hasLetters_5 Q x1 x2 M) (fun _ h => h) (fun s o hb hk => w_b_re_hasLetters_5_5 x1 x2 s M hb hk) hf hk
theorem ok_re_hasLetters (s1 : Nat) (a2 : Int32) (M : dM) {o : Bool} (hf : f_re_hasLetters s1 a2 M = some o) : mO mX6_hasLetters 6 [.ref 32, .ref (1000000 + s1), .int a2] M (some (.int (bI o))) M := by
  refine y_ok (by decide +kernel) (Nat.le_of_ble_eq_true rfl) (L0 := [some (.ref 32), some (.ref (1000000 + s1)), some (.int a2), none]) rfl ?_
  have hk := mR_mQ (some (.int (bI o))) M
  generalize mQ _ _ = Q at hk ⊢
  unfold f_re_hasLetters at hf
  refine y_aload_n (i := 0) (n := 1) ⟨dX6_hasLetters_0, rfl⟩ rfl ?_
  refine y_getI (n := 4) ⟨dX6_hasLetters_1, rfl⟩ kfX6_158 l_32 rfl ?_
  refine y_istore_n (i := 3) (n := 5) (L2 := [some (.ref 32), some (.ref (1000000 + s1)), some (.int a2), some (.int (gI M 32 4))]) ⟨dX6_hasLetters_4, rfl⟩ (by decide) rfl rfl ?_
  obtain ⟨r7, hl6, hf⟩ := b_s hf
  cases hf
  exact y_wk (L2 := [some (.ref 32), some (.ref (1000000 + s1)), some (.int a2), some (.int (gI M 32 4))]) ⟨Or.inr rfl, Or.inr rfl, Or.inr rfl, Or.inr rfl, trivial⟩ (wl_re_hasLetters_5 s1 a2 (gI M 32 4) M hl6 hk)
theorem c_re_hasLetters (s1 : Nat) (a2 : Int32) (M : dM) {o : Bool} {y : mz_M} {d : Nat} {Q : mz_P} {pc n i : Nat} {L : List (Option Value)} {st : List Value} (h : mz_d y.2.1 pc n 3 (.invokevirtual i)) (hl : mz_ml y.1.cls i yX6_hasLetters) (hf : f_re_hasLetters s1 a2 M = some o) (hd : 6 + 1 ≤ d) (hsm : (st.map (fun v => v.category)).sum ≤ 8) (hLr : mz_rL 133 L = true) (hSr : mz_rS 133 st = true) (kk : mW y d Q n L (.int (bI o) :: st) M) : mW y d Q pc L (.int a2 :: .ref (1000000 + s1) :: .ref 32 :: st) M :=
  y_callV kmX6_hasLetters kvX6_hasLetters l_32 (by decide +kernel) (by decide +kernel) h hl (ok_re_hasLetters s1 a2 M hf) (vs := [.ref (1000000 + s1), .int a2]) rfl rfl hd hsm hLr hSr kk
def K_re_wordIn_17 (Q : mz_P) (x1 : Nat) (M : dM) : ((Int32 × Int32 × Int32) ⊕ Int32) → Prop
  | .inl s => mW mX6_wordIn 7 Q 17 [some (.ref 32), some (.ref (1000000 + x1)), some (.int s.1), some (.int s.2.1), some (.int s.2.2)] [] M
  | .inr r => mR Q (some (.int r)) M
noncomputable def b_re_wordIn_17_73 (x1 : Nat) (x2 : Int32) (x4 : Int32) (M : dM) : Option ((Int32 × Int32 × Int32) ⊕ Int32) :=
  some (.inl ((x2 + 1), (x4 + 1), (x4 + 1)))
noncomputable def b_re_wordIn_17_46 (x1 : Nat) (x2 : Int32) (x3 : Int32) (x4 : Int32) (M : dM) : Option ((Int32 × Int32 × Int32) ⊕ Int32) :=
  if (x4 - x3) = ((gI M 32 5) - (gI M 32 4)) then
    (f_re_hasLetters x1 x3 M).bind fun v6 =>
    if v6 = true then
      some (.inr x2)
    else
      b_re_wordIn_17_73 x1 x2 x4 M
  else
    b_re_wordIn_17_73 x1 x2 x4 M
noncomputable def b_re_wordIn_17_17 (x1 : Nat) (x2 : Int32) (x3 : Int32) (x4 : Int32) (M : dM) : Option ((Int32 × Int32 × Int32) ⊕ Int32) :=
  gd (x1 < 10) <|
  (f_jd_length x1).bind fun v2 =>
  if v2 < x4 then
    some (.inr (-1))
  else
    (f_jd_length x1).bind fun v4 =>
    if x4 = v4 then
      b_re_wordIn_17_46 x1 x2 x3 x4 M
    else
      (f_jd_charAt_5068e x1 x4 M).bind fun v8 =>
      if v8 = 32 then
        b_re_wordIn_17_46 x1 x2 x3 x4 M
      else
        some (.inl (x2, x3, (x4 + 1)))
noncomputable def l_re_wordIn_17 (x1 : Nat) (x2 : Int32) (x3 : Int32) (x4 : Int32) (M : dM) : Option Int32 := lpc (fun s => b_re_wordIn_17_17 x1 s.1 s.2.1 s.2.2 M) (x2, x3, x4)
noncomputable def f_re_wordIn (s1 : Nat) (M : dM) : Option Int32 :=
  if (gI M 32 3) = 1 then
    (l_re_wordIn_17 s1 0 0 0 M).bind fun r12 => some r12
  else
    some (-1)
theorem w_b_re_wordIn_17_73 (x1 : Nat) (x2 : Int32) (x4 : Int32)  (M : dM) {Q : mz_P} {o : ((Int32 × Int32 × Int32) ⊕ Int32)} (hf : b_re_wordIn_17_73 x1 x2 x4 M = some o) (hk : K_re_wordIn_17 Q x1 M o) : mW mX6_wordIn 7 Q 73 [some (.ref 32), some (.ref (1000000 + x1)), some (.int x2), none, some (.int x4)] [] M := by
  unfold b_re_wordIn_17_73 at hf
  refine y_iinc (i := 2) (n := 76) (b := (x2 + 1)) (L2 := [some (.ref 32), some (.ref (1000000 + x1)), some (.int (x2 + 1)), none, some (.int x4)]) ⟨dX6_wordIn_73, rfl⟩ rfl (by rw [ki_1]) (by decide) rfl rfl ?_
  refine y_iload (i := 4) (n := 78) ⟨dX6_wordIn_76, rfl⟩ rfl ?_
  refine y_iconst (n := 79) (v := 1) ⟨dX6_wordIn_78, rfl⟩ ki_1 ?_
  refine y_iadd (n := 80) ⟨dX6_wordIn_79, rfl⟩ ?_
  refine y_istore_n (i := 3) (n := 81) (L2 := [some (.ref 32), some (.ref (1000000 + x1)), some (.int (x2 + 1)), some (.int (x4 + 1)), some (.int x4)]) ⟨dX6_wordIn_80, rfl⟩ (by decide) rfl rfl ?_
  refine y_iinc (i := 4) (n := 84) (b := (x4 + 1)) (L2 := [some (.ref 32), some (.ref (1000000 + x1)), some (.int (x2 + 1)), some (.int (x4 + 1)), some (.int (x4 + 1))]) ⟨dX6_wordIn_81, rfl⟩ rfl (by rw [ki_1]) (by decide) rfl rfl ?_
  refine y_goto (t := 17) ⟨dX6_wordIn_84, rfl, rfl⟩ ?_
  cases hf
  exact y_wk (L2 := [some (.ref 32), some (.ref (1000000 + x1)), some (.int (x2 + 1)), some (.int (x4 + 1)), some (.int (x4 + 1))]) ⟨Or.inr rfl, Or.inr rfl, Or.inr rfl, Or.inr rfl, Or.inr rfl, trivial⟩ hk
theorem w_b_re_wordIn_17_46 (x1 : Nat) (x2 : Int32) (x3 : Int32) (x4 : Int32)  (M : dM) {Q : mz_P} {o : ((Int32 × Int32 × Int32) ⊕ Int32)} (hf : b_re_wordIn_17_46 x1 x2 x3 x4 M = some o) (hk : K_re_wordIn_17 Q x1 M o) : mW mX6_wordIn 7 Q 46 [some (.ref 32), some (.ref (1000000 + x1)), some (.int x2), some (.int x3), some (.int x4)] [] M := by
  unfold b_re_wordIn_17_46 at hf
  refine y_iload (i := 4) (n := 48) ⟨dX6_wordIn_46, rfl⟩ rfl ?_
  refine y_iload_n (i := 3) (n := 49) ⟨dX6_wordIn_48, rfl⟩ rfl ?_
  refine y_isub (n := 50) ⟨dX6_wordIn_49, rfl⟩ ?_
  refine y_aload_n (i := 0) (n := 51) ⟨dX6_wordIn_50, rfl⟩ rfl ?_
  refine y_getI (n := 54) ⟨dX6_wordIn_51, rfl⟩ kfX6_47 l_32 rfl ?_
  refine y_aload_n (i := 0) (n := 55) ⟨dX6_wordIn_54, rfl⟩ rfl ?_
  refine y_getI (n := 58) ⟨dX6_wordIn_55, rfl⟩ kfX6_158 l_32 rfl ?_
  refine y_isub (n := 59) ⟨dX6_wordIn_58, rfl⟩ ?_
  refine y_icmp_ne (t := 73) (n := 62) ⟨dX6_wordIn_59, rfl, rfl⟩ (fun (hc : ¬ ((x4 - x3) = ((gI M 32 5) - (gI M 32 4)))) => ?_) (fun (hc : (x4 - x3) = ((gI M 32 5) - (gI M 32 4))) => ?_)
  · replace hf := i_f hc hf
    exact y_wk (L2 := [some (.ref 32), some (.ref (1000000 + x1)), some (.int x2), none, some (.int x4)]) ⟨Or.inr rfl, Or.inr rfl, Or.inr rfl, Or.inl rfl, Or.inr rfl, trivial⟩ (w_b_re_wordIn_17_73 x1 x2 x4 M hf hk)
  · replace hf := i_t hc hf
    refine y_aload_n (i := 0) (n := 63) ⟨dX6_wordIn_62, rfl⟩ rfl ?_
    refine y_aload_n (i := 1) (n := 64) ⟨dX6_wordIn_63, rfl⟩ rfl ?_
    refine y_iload_n (i := 3) (n := 65) ⟨dX6_wordIn_64, rfl⟩ rfl ?_
    obtain ⟨v6, hv7, hf⟩ := b_s hf
    refine c_re_hasLetters x1 x3 M (n := 68) ⟨dX6_wordIn_65, rfl⟩ klX6_171 hv7 (by decide) (Nat.le_of_ble_eq_true rfl) (rL_c rfl (rL_c (ro_s _ _) (rL_c rfl (rL_c rfl (rL_c rfl rfl))))) rfl ?_
    refine y_if_eq (t := 73) (n := 71) ⟨dX6_wordIn_68, rfl, rfl⟩ (fun h0 => ?_) (fun h0 => ?_)
    · have hc := bI_0 h0
      replace hf := i_f hc hf
      exact y_wk (L2 := [some (.ref 32), some (.ref (1000000 + x1)), some (.int x2), none, some (.int x4)]) ⟨Or.inr rfl, Or.inr rfl, Or.inr rfl, Or.inl rfl, Or.inr rfl, trivial⟩ (w_b_re_wordIn_17_73 x1 x2 x4 M hf hk)
    · have hc := bI_1 h0
      replace hf := i_t hc hf
      refine y_iload_n (i := 2) (n := 72) ⟨dX6_wordIn_71, rfl⟩ rfl ?_
      cases hf
      exact y_ireturn (n := 73) ⟨dX6_wordIn_72, rfl⟩ rfl rfl hk
theorem w_b_re_wordIn_17_17 (x1 : Nat) (x2 : Int32) (x3 : Int32) (x4 : Int32)  (M : dM) {Q : mz_P} {o : ((Int32 × Int32 × Int32) ⊕ Int32)} (hf : b_re_wordIn_17_17 x1 x2 x3 x4 M = some o) (hk : K_re_wordIn_17 Q x1 M o) : mW mX6_wordIn 7 Q 17 [some (.ref 32), some (.ref (1000000 + x1)), some (.int x2), some (.int x3), some (.int x4)] [] M := by
  unfold b_re_wordIn_17_17 at hf
  refine y_iload (i := 4) (n := 19) ⟨dX6_wordIn_17, rfl⟩ rfl ?_
  refine y_aload_n (i := 1) (n := 20) ⟨dX6_wordIn_19, rfl⟩ rfl ?_
  obtain ⟨hg1, hf⟩ := g_s hf
  obtain ⟨v2, hv3, hf⟩ := b_s hf
  refine c_jd_length x1 M hg1 (n := 23) ⟨dX6_wordIn_20, rfl⟩ klX6_161 hv3 (by decide) (Nat.le_of_ble_eq_true rfl) (rL_c rfl (rL_c (ro_s _ _) (rL_c rfl (rL_c rfl (rL_c rfl rfl))))) rfl ?_
  refine y_icmp_gt (t := 87) (n := 26) ⟨dX6_wordIn_23, rfl, rfl⟩ (fun (hc : v2 < x4) => ?_) (fun (hc : ¬ (v2 < x4)) => ?_)
  · replace hf := i_t hc hf
    refine y_iconst (n := 88) (v := (-1)) ⟨dX6_wordIn_87, rfl⟩ ki_m1 ?_
    cases hf
    exact y_ireturn (n := 89) ⟨dX6_wordIn_88, rfl⟩ rfl rfl hk
  · replace hf := i_f hc hf
    refine y_iload (i := 4) (n := 28) ⟨dX6_wordIn_26, rfl⟩ rfl ?_
    refine y_aload_n (i := 1) (n := 29) ⟨dX6_wordIn_28, rfl⟩ rfl ?_
    obtain ⟨v4, hv5, hf⟩ := b_s hf
    refine c_jd_length x1 M hg1 (n := 32) ⟨dX6_wordIn_29, rfl⟩ klX6_161 hv5 (by decide) (Nat.le_of_ble_eq_true rfl) (rL_c rfl (rL_c (ro_s _ _) (rL_c rfl (rL_c rfl (rL_c rfl rfl))))) rfl ?_
    refine y_icmp_eq (t := 46) (n := 35) ⟨dX6_wordIn_32, rfl, rfl⟩ (fun (hc : x4 = v4) => ?_) (fun (hc : ¬ (x4 = v4)) => ?_)
    · replace hf := i_t hc hf
      exact y_wk (L2 := [some (.ref 32), some (.ref (1000000 + x1)), some (.int x2), some (.int x3), some (.int x4)]) ⟨Or.inr rfl, Or.inr rfl, Or.inr rfl, Or.inr rfl, Or.inr rfl, trivial⟩ (w_b_re_wordIn_17_46 x1 x2 x3 x4 M hf hk)
    · replace hf := i_f hc hf
      refine y_aload_n (i := 1) (n := 36) ⟨dX6_wordIn_35, rfl⟩ rfl ?_
      refine y_iload (i := 4) (n := 38) ⟨dX6_wordIn_36, rfl⟩ rfl ?_
      obtain ⟨v8, hv9, hf⟩ := b_s hf
      refine c_jd_charAt_5068e x1 x4 M hg1 (n := 41) ⟨dX6_wordIn_38, rfl⟩ klX6_167 hv9 (by decide) (Nat.le_of_ble_eq_true rfl) (rL_c rfl (rL_c (ro_s _ _) (rL_c rfl (rL_c rfl (rL_c rfl rfl))))) rfl ?_
      refine y_bipush (n := 43) (v := 32) ⟨dX6_wordIn_41, rfl⟩ kb_32 ?_
      refine y_icmp_ne (t := 81) (n := 46) ⟨dX6_wordIn_43, rfl, rfl⟩ (fun (hc : ¬ (v8 = 32)) => ?_) (fun (hc : v8 = 32) => ?_)
      · replace hf := i_f hc hf
        refine y_iinc (i := 4) (n := 84) (b := (x4 + 1)) (L2 := [some (.ref 32), some (.ref (1000000 + x1)), some (.int x2), some (.int x3), some (.int (x4 + 1))]) ⟨dX6_wordIn_81, rfl⟩ rfl (by rw [ki_1]) (by decide) rfl rfl ?_
        refine y_goto (t := 17) ⟨dX6_wordIn_84, rfl, rfl⟩ ?_
        cases hf
        exact y_wk (L2 := [some (.ref 32), some (.ref (1000000 + x1)), some (.int x2), some (.int x3), some (.int (x4 + 1))]) ⟨Or.inr rfl, Or.inr rfl, Or.inr rfl, Or.inr rfl, Or.inr rfl, trivial⟩ hk
      · replace hf := i_t hc hf
        exact y_wk (L2 := [some (.ref 32), some (.ref (1000000 + x1)), some (.int x2), some (.int x3), some (.int x4)]) ⟨Or.inr rfl, Or.inr rfl, Or.inr rfl, Or.inr rfl, Or.inr rfl, trivial⟩ (w_b_re_wordIn_17_46 x1 x2 x3 x4 M hf hk)
theorem wl_re_wordIn_17 (x1 : Nat) (x2 : Int32) (x3 : Int32) (x4 : Int32) (M : dM) {Q : mz_P} {x : Int32} (hf : l_re_wordIn_17 x1 x2 x3 x4 M = some x) (hk : K_re_wordIn_17 Q x1 M (.inr x)) : mW mX6_wordIn 7 Q 17 [some (.ref 32), some (.ref (1000000 + x1)), some (.int x2), some (.int x3), some (.int x4)] [] M :=
  lpc_wp (σ := (Int32 × Int32 × Int32)) (ξ := Int32) (s := (x2, x3, x4)) (Wh := fun s => mW mX6_wordIn 7 Q 17 [some (.ref 32), some (.ref (1000000 + x1)), some (.int s.1), some (.int s.2.1), some (.int s.2.2)] [] M) (K := K_re_wordIn_17 Q x1 M) (fun _ h => h) (fun s o hb hk => w_b_re_wordIn_17_17 x1 s.1 s.2.1 s.2.2 M hb hk) hf hk
theorem ok_re_wordIn (s1 : Nat) (M : dM) {o : Int32} (hf : f_re_wordIn s1 M = some o) : mO mX6_wordIn 7 [.ref 32, .ref (1000000 + s1)] M (some (.int o)) M := by
  refine y_ok (by decide +kernel) (Nat.le_of_ble_eq_true rfl) (L0 := [some (.ref 32), some (.ref (1000000 + s1)), none, none, none]) rfl ?_
  have hk := mR_mQ (some (.int o)) M
  generalize mQ _ _ = Q at hk ⊢
  unfold f_re_wordIn at hf
  refine y_aload_n (i := 0) (n := 1) ⟨dX6_wordIn_0, rfl⟩ rfl ?_
  refine y_getI (n := 4) ⟨dX6_wordIn_1, rfl⟩ kfX6_53 l_32 rfl ?_
  refine y_iconst (n := 5) (v := 1) ⟨dX6_wordIn_4, rfl⟩ ki_1 ?_
  refine y_icmp_eq (t := 10) (n := 8) ⟨dX6_wordIn_5, rfl, rfl⟩ (fun (hc : (gI M 32 3) = 1) => ?_) (fun (hc : ¬ ((gI M 32 3) = 1)) => ?_)
  · replace hf := i_t hc hf
    refine y_iconst (n := 11) (v := 0) ⟨dX6_wordIn_10, rfl⟩ ki_0 ?_
    refine y_istore_n (i := 2) (n := 12) (L2 := [some (.ref 32), some (.ref (1000000 + s1)), some (.int 0), none, none]) ⟨dX6_wordIn_11, rfl⟩ (by decide) rfl rfl ?_
    refine y_iconst (n := 13) (v := 0) ⟨dX6_wordIn_12, rfl⟩ ki_0 ?_
    refine y_istore_n (i := 3) (n := 14) (L2 := [some (.ref 32), some (.ref (1000000 + s1)), some (.int 0), some (.int 0), none]) ⟨dX6_wordIn_13, rfl⟩ (by decide) rfl rfl ?_
    refine y_iconst (n := 15) (v := 0) ⟨dX6_wordIn_14, rfl⟩ ki_0 ?_
    refine y_istore (i := 4) (n := 17) (L2 := [some (.ref 32), some (.ref (1000000 + s1)), some (.int 0), some (.int 0), some (.int 0)]) ⟨dX6_wordIn_15, rfl⟩ (by decide) rfl rfl ?_
    obtain ⟨r12, hl11, hf⟩ := b_s hf
    cases hf
    exact y_wk (L2 := [some (.ref 32), some (.ref (1000000 + s1)), some (.int 0), some (.int 0), some (.int 0)]) ⟨Or.inr rfl, Or.inr rfl, Or.inr rfl, Or.inr rfl, Or.inr rfl, trivial⟩ (wl_re_wordIn_17 s1 0 0 0 M hl11 hk)
  · replace hf := i_f hc hf
    refine y_iconst (n := 9) (v := (-1)) ⟨dX6_wordIn_8, rfl⟩ ki_m1 ?_
    cases hf
    exact y_ireturn (n := 10) ⟨dX6_wordIn_9, rfl⟩ rfl rfl hk
theorem c_re_wordIn (s1 : Nat) (M : dM) {o : Int32} {y : mz_M} {d : Nat} {Q : mz_P} {pc n i : Nat} {L : List (Option Value)} {st : List Value} (h : mz_d y.2.1 pc n 3 (.invokevirtual i)) (hl : mz_ml y.1.cls i yX6_wordIn) (hf : f_re_wordIn s1 M = some o) (hd : 7 + 1 ≤ d) (hsm : (st.map (fun v => v.category)).sum ≤ 8) (hLr : mz_rL 133 L = true) (hSr : mz_rS 133 st = true) (kk : mW y d Q n L (.int o :: st) M) : mW y d Q pc L (.ref (1000000 + s1) :: .ref 32 :: st) M :=
  y_callV kmX6_wordIn kvX6_wordIn l_32 (by decide +kernel) (by decide +kernel) h hl (ok_re_wordIn s1 M hf) (vs := [.ref (1000000 + s1)]) rfl rfl hd hsm hLr hSr kk
noncomputable def f_la_isTold_34 (a1 : Int32) (M : dM) : Option Bool :=
  gd (vp_in a1 21) <|
  if (gI M 37 a1.toNatClampNeg) ≤ (gI M 36 a1.toNatClampNeg) then
    some false
  else
    some true
theorem ok_la_isTold_34 (a1 : Int32) (M : dM) {o : Bool} (hf : f_la_isTold_34 a1 M = some o) : mO mX3_isTold 1 [.ref 34, .int a1] M (some (.int (bI o))) M := by
  refine y_ok (by decide +kernel) (Nat.le_of_ble_eq_true rfl) (L0 := [some (.ref 34), some (.int a1)]) rfl ?_
  have hk := mR_mQ (some (.int (bI o))) M
  generalize mQ _ _ = Q at hk ⊢
  unfold f_la_isTold_34 at hf
  refine y_aload_n (i := 0) (n := 1) ⟨dX3_isTold_0, rfl⟩ rfl ?_
  refine y_getR (n := 4) ⟨dX3_isTold_1, rfl⟩ kfX3_18 l_34 rfl r_34_3 ?_
  refine y_iload_n (i := 1) (n := 5) ⟨dX3_isTold_4, rfl⟩ rfl ?_
  obtain ⟨hg1, hf⟩ := g_s hf
  refine y_iaload (n := 6) ⟨dX3_isTold_5, rfl⟩ l_37 hg1 ?_
  refine y_aload_n (i := 0) (n := 7) ⟨dX3_isTold_6, rfl⟩ rfl ?_
  refine y_getR (n := 10) ⟨dX3_isTold_7, rfl⟩ kfX3_15 l_34 rfl r_34_2 ?_
  refine y_iload_n (i := 1) (n := 11) ⟨dX3_isTold_10, rfl⟩ rfl ?_
  refine y_iaload (n := 12) ⟨dX3_isTold_11, rfl⟩ l_36 hg1 ?_
  refine y_icmp_le (t := 19) (n := 15) ⟨dX3_isTold_12, rfl, rfl⟩ (fun (hc : (gI M 37 a1.toNatClampNeg) ≤ (gI M 36 a1.toNatClampNeg)) => ?_) (fun (hc : ¬ ((gI M 37 a1.toNatClampNeg) ≤ (gI M 36 a1.toNatClampNeg))) => ?_)
  · replace hf := i_t hc hf
    refine y_iconst (n := 20) (v := 0) ⟨dX3_isTold_19, rfl⟩ ki_0 ?_
    cases hf
    exact y_ireturn (n := 21) ⟨dX3_isTold_20, rfl⟩ rfl rfl hk
  · replace hf := i_f hc hf
    refine y_iconst (n := 16) (v := 1) ⟨dX3_isTold_15, rfl⟩ ki_1 ?_
    refine y_goto (t := 20) ⟨dX3_isTold_16, rfl, rfl⟩ ?_
    cases hf
    exact y_ireturn (n := 21) ⟨dX3_isTold_20, rfl⟩ rfl rfl hk
theorem c_la_isTold_34 (a1 : Int32) (M : dM) {o : Bool} {y : mz_M} {d : Nat} {Q : mz_P} {pc n i : Nat} {L : List (Option Value)} {st : List Value} (h : mz_d y.2.1 pc n 3 (.invokevirtual i)) (hl : mz_ml y.1.cls i yX3_isTold) (hf : f_la_isTold_34 a1 M = some o) (hd : 1 + 1 ≤ d) (hsm : (st.map (fun v => v.category)).sum ≤ 8) (hLr : mz_rL 133 L = true) (hSr : mz_rS 133 st = true) (kk : mW y d Q n L (.int (bI o) :: st) M) : mW y d Q pc L (.int a1 :: .ref 34 :: st) M :=
  y_callV kmX3_isTold kvX3_isTold l_34 (by decide +kernel) (by decide +kernel) h hl (ok_la_isTold_34 a1 M hf) (vs := [.int a1]) rfl rfl hd hsm hLr hSr kk
noncomputable def f_re_wrong (a1 : Int32) (M : dM) : (Bool × dM) :=
  (false, (sI M 32 7 (a1 + (16 * (gI M 32 4)))))
theorem ok_re_wrong (a1 : Int32) (M : dM) {o : (Bool × dM)} (hf : f_re_wrong a1 M = o) : mO mX6_wrong 1 [.ref 32, .int a1] M (some (.int (bI o.1))) o.2 := by
  refine y_ok (by decide +kernel) (Nat.le_of_ble_eq_true rfl) (L0 := [some (.ref 32), some (.int a1)]) rfl ?_
  have hk := mR_mQ (some (.int (bI o.1))) o.2
  generalize mQ _ _ = Q at hk ⊢
  unfold f_re_wrong at hf
  refine y_aload_n (i := 0) (n := 1) ⟨dX6_wrong_0, rfl⟩ rfl ?_
  refine y_iload_n (i := 1) (n := 2) ⟨dX6_wrong_1, rfl⟩ rfl ?_
  refine y_bipush (n := 4) (v := 16) ⟨dX6_wrong_2, rfl⟩ kb_16 ?_
  refine y_aload_n (i := 0) (n := 5) ⟨dX6_wrong_4, rfl⟩ rfl ?_
  refine y_getI (n := 8) ⟨dX6_wrong_5, rfl⟩ kfX6_158 l_32 rfl ?_
  refine y_imul (n := 9) ⟨dX6_wrong_8, rfl⟩ ?_
  refine y_iadd (n := 10) ⟨dX6_wrong_9, rfl⟩ ?_
  refine y_putI (n := 13) ⟨dX6_wrong_10, rfl⟩ kfX6_37 l_32 (by decide +kernel) rfl ?_
  refine y_iconst (n := 14) (v := 0) ⟨dX6_wrong_13, rfl⟩ ki_0 ?_
  cases hf
  exact y_ireturn (n := 15) ⟨dX6_wrong_14, rfl⟩ rfl rfl hk
theorem c_re_wrong (a1 : Int32) (M : dM) {o : (Bool × dM)} {y : mz_M} {d : Nat} {Q : mz_P} {pc n i : Nat} {L : List (Option Value)} {st : List Value} (h : mz_d y.2.1 pc n 3 (.invokevirtual i)) (hl : mz_ml y.1.cls i yX6_wrong) (hf : f_re_wrong a1 M = o) (hd : 1 + 1 ≤ d) (hsm : (st.map (fun v => v.category)).sum ≤ 8) (hLr : mz_rL 133 L = true) (hSr : mz_rS 133 st = true) (kk : mW y d Q n L (.int (bI o.1) :: st) o.2) : mW y d Q pc L (.int a1 :: .ref 32 :: st) M :=
  y_callV kmX6_wrong kvX6_wrong l_32 (by decide +kernel) (by decide +kernel) h hl (ok_re_wrong a1 M hf) (vs := [.int a1]) rfl rfl hd hsm hLr hSr kk
noncomputable def f_re_takeWord (s1 : Nat) (M : dM) : Option (Bool × dM) :=
  (f_re_wordIn s1 M).bind fun v1 =>
  if v1 = 0 then
    (f_re_advance M).bind fun q3 =>
    some (true, q3)
  else
    some (((f_re_wrong 1 M).1), (f_re_wrong 1 M).2)
theorem ok_re_takeWord (s1 : Nat) (M : dM) {o : (Bool × dM)} (hf : f_re_takeWord s1 M = some o) : mO mX6_takeWord 8 [.ref 32, .ref (1000000 + s1)] M (some (.int (bI o.1))) o.2 := by
  refine y_ok (by decide +kernel) (Nat.le_of_ble_eq_true rfl) (L0 := [some (.ref 32), some (.ref (1000000 + s1))]) rfl ?_
  have hk := mR_mQ (some (.int (bI o.1))) o.2
  generalize mQ _ _ = Q at hk ⊢
  unfold f_re_takeWord at hf
  refine y_aload_n (i := 0) (n := 1) ⟨dX6_takeWord_0, rfl⟩ rfl ?_
  refine y_aload_n (i := 1) (n := 2) ⟨dX6_takeWord_1, rfl⟩ rfl ?_
  obtain ⟨v1, hv2, hf⟩ := b_s hf
  refine c_re_wordIn s1 M (n := 5) ⟨dX6_takeWord_2, rfl⟩ klX6_58 hv2 (by decide) (Nat.le_of_ble_eq_true rfl) (rL_c rfl (rL_c (ro_s _ _) rfl)) rfl ?_
  refine y_if_eq (t := 14) (n := 8) ⟨dX6_takeWord_5, rfl, rfl⟩ (fun (hc : v1 = 0) => ?_) (fun (hc : ¬ (v1 = 0)) => ?_)
  · replace hf := i_t hc hf
    refine y_aload_n (i := 0) (n := 15) ⟨dX6_takeWord_14, rfl⟩ rfl ?_
    obtain ⟨q3, hv4, hf⟩ := b_s hf
    refine c_re_advance M (n := 18) ⟨dX6_takeWord_15, rfl⟩ klX6_50 hv4 (by decide) (Nat.le_of_ble_eq_true rfl) (rL_c rfl (rL_c (ro_s _ _) rfl)) rfl ?_
    refine y_iconst (n := 19) (v := 1) ⟨dX6_takeWord_18, rfl⟩ ki_1 ?_
    cases hf
    exact y_ireturn (n := 20) ⟨dX6_takeWord_19, rfl⟩ rfl rfl hk
  · replace hf := i_f hc hf
    refine y_aload_n (i := 0) (n := 9) ⟨dX6_takeWord_8, rfl⟩ rfl ?_
    refine y_iconst (n := 10) (v := 1) ⟨dX6_takeWord_9, rfl⟩ ki_1 ?_
    refine c_re_wrong 1 M (n := 13) ⟨dX6_takeWord_10, rfl⟩ klX6_81 rfl (by decide) (Nat.le_of_ble_eq_true rfl) (rL_c rfl (rL_c (ro_s _ _) rfl)) rfl ?_
    cases hf
    exact y_ireturn (n := 14) ⟨dX6_takeWord_13, rfl⟩ rfl (bI_n _) hk
theorem c_re_takeWord (s1 : Nat) (M : dM) {o : (Bool × dM)} {y : mz_M} {d : Nat} {Q : mz_P} {pc n i : Nat} {L : List (Option Value)} {st : List Value} (h : mz_d y.2.1 pc n 3 (.invokevirtual i)) (hl : mz_ml y.1.cls i yX6_takeWord) (hf : f_re_takeWord s1 M = some o) (hd : 8 + 1 ≤ d) (hsm : (st.map (fun v => v.category)).sum ≤ 8) (hLr : mz_rL 133 L = true) (hSr : mz_rS 133 st = true) (kk : mW y d Q n L (.int (bI o.1) :: st) o.2) : mW y d Q pc L (.ref (1000000 + s1) :: .ref 32 :: st) M :=
  y_callV kmX6_takeWord kvX6_takeWord l_32 (by decide +kernel) (by decide +kernel) h hl (ok_re_takeWord s1 M hf) (vs := [.ref (1000000 + s1)]) rfl rfl hd hsm hLr hSr kk
noncomputable def f_re_isSign (a1 : Int32) (M : dM) : Option Bool :=
  if (gI M 32 3) = 3 then
    gd (vp_in (gI M 32 4) 1000) <|
    if (gI M 33 (gI M 32 4).toNatClampNeg) = a1 then
      some true
    else
      some false
  else
    some false
theorem ok_re_isSign (a1 : Int32) (M : dM) {o : Bool} (hf : f_re_isSign a1 M = some o) : mO mX6_isSign 1 [.ref 32, .int a1] M (some (.int (bI o))) M := by
  refine y_ok (by decide +kernel) (Nat.le_of_ble_eq_true rfl) (L0 := [some (.ref 32), some (.int a1)]) rfl ?_
  have hk := mR_mQ (some (.int (bI o))) M
  generalize mQ _ _ = Q at hk ⊢
  unfold f_re_isSign at hf
  refine y_aload_n (i := 0) (n := 1) ⟨dX6_isSign_0, rfl⟩ rfl ?_
  refine y_getI (n := 4) ⟨dX6_isSign_1, rfl⟩ kfX6_53 l_32 rfl ?_
  refine y_iconst (n := 5) (v := 3) ⟨dX6_isSign_4, rfl⟩ ki_3 ?_
  refine y_icmp_ne (t := 25) (n := 8) ⟨dX6_isSign_5, rfl, rfl⟩ (fun (hc : ¬ ((gI M 32 3) = 3)) => ?_) (fun (hc : (gI M 32 3) = 3) => ?_)
  · replace hf := i_f hc hf
    refine y_iconst (n := 26) (v := 0) ⟨dX6_isSign_25, rfl⟩ ki_0 ?_
    cases hf
    exact y_ireturn (n := 27) ⟨dX6_isSign_26, rfl⟩ rfl rfl hk
  · replace hf := i_t hc hf
    refine y_aload_n (i := 0) (n := 9) ⟨dX6_isSign_8, rfl⟩ rfl ?_
    refine y_getR (n := 12) ⟨dX6_isSign_9, rfl⟩ kfX6_9 l_32 rfl r_32_0 ?_
    refine y_aload_n (i := 0) (n := 13) ⟨dX6_isSign_12, rfl⟩ rfl ?_
    refine y_getI (n := 16) ⟨dX6_isSign_13, rfl⟩ kfX6_158 l_32 rfl ?_
    obtain ⟨hg1, hf⟩ := g_s hf
    refine y_caload (n := 17) ⟨dX6_isSign_16, rfl⟩ l_33 hg1 ?_
    refine y_iload_n (i := 1) (n := 18) ⟨dX6_isSign_17, rfl⟩ rfl ?_
    refine y_icmp_ne (t := 25) (n := 21) ⟨dX6_isSign_18, rfl, rfl⟩ (fun (hc : ¬ ((gI M 33 (gI M 32 4).toNatClampNeg) = a1)) => ?_) (fun (hc : (gI M 33 (gI M 32 4).toNatClampNeg) = a1) => ?_)
    · replace hf := i_f hc hf
      refine y_iconst (n := 26) (v := 0) ⟨dX6_isSign_25, rfl⟩ ki_0 ?_
      cases hf
      exact y_ireturn (n := 27) ⟨dX6_isSign_26, rfl⟩ rfl rfl hk
    · replace hf := i_t hc hf
      refine y_iconst (n := 22) (v := 1) ⟨dX6_isSign_21, rfl⟩ ki_1 ?_
      refine y_goto (t := 26) ⟨dX6_isSign_22, rfl, rfl⟩ ?_
      cases hf
      exact y_ireturn (n := 27) ⟨dX6_isSign_26, rfl⟩ rfl rfl hk
theorem c_re_isSign (a1 : Int32) (M : dM) {o : Bool} {y : mz_M} {d : Nat} {Q : mz_P} {pc n i : Nat} {L : List (Option Value)} {st : List Value} (h : mz_d y.2.1 pc n 3 (.invokevirtual i)) (hl : mz_ml y.1.cls i yX6_isSign) (hf : f_re_isSign a1 M = some o) (hd : 1 + 1 ≤ d) (hsm : (st.map (fun v => v.category)).sum ≤ 8) (hLr : mz_rL 133 L = true) (hSr : mz_rS 133 st = true) (kk : mW y d Q n L (.int (bI o) :: st) M) : mW y d Q pc L (.int a1 :: .ref 32 :: st) M :=
  y_callV kmX6_isSign kvX6_isSign l_32 (by decide +kernel) (by decide +kernel) h hl (ok_re_isSign a1 M hf) (vs := [.int a1]) rfl rfl hd hsm hLr hSr kk
noncomputable def f_la_addStep (a1 : Int32) (M : dM) : Option dM :=
  if (1000 : Int32) ≤ (gI M 34 1) then
    some M
  else
    gd (vp_in (gI M 34 1) 1000) <|
    some (sI (sI M 35 (gI M 34 1).toNatClampNeg a1) 34 1 ((gI (sI M 35 (gI M 34 1).toNatClampNeg a1) 34 1) + 1))
theorem ok_la_addStep (a1 : Int32) (M : dM) {o : dM} (hf : f_la_addStep a1 M = some o) : mO mX3_addStep 1 [.ref 34, .int a1] M none o := by
  refine y_ok (by decide +kernel) (Nat.le_of_ble_eq_true rfl) (L0 := [some (.ref 34), some (.int a1)]) rfl ?_
  have hk := mR_mQ none o
  generalize mQ _ _ = Q at hk ⊢
  unfold f_la_addStep at hf
  refine y_aload_n (i := 0) (n := 1) ⟨dX3_addStep_0, rfl⟩ rfl ?_
  refine y_getI (n := 4) ⟨dX3_addStep_1, rfl⟩ kfX3_31 l_34 rfl ?_
  refine y_sipush (n := 7) (v := 1000) ⟨dX3_addStep_4, rfl⟩ ks_1000 ?_
  refine y_icmp_ge (t := 30) (n := 10) ⟨dX3_addStep_7, rfl, rfl⟩ (fun (hc : (1000 : Int32) ≤ (gI M 34 1)) => ?_) (fun (hc : ¬ ((1000 : Int32) ≤ (gI M 34 1))) => ?_)
  · replace hf := i_t hc hf
    cases hf
    exact y_return (n := 31) ⟨dX3_addStep_30, rfl⟩ rfl hk
  · replace hf := i_f hc hf
    refine y_aload_n (i := 0) (n := 11) ⟨dX3_addStep_10, rfl⟩ rfl ?_
    refine y_getR (n := 14) ⟨dX3_addStep_11, rfl⟩ kfX3_11 l_34 rfl r_34_0 ?_
    refine y_aload_n (i := 0) (n := 15) ⟨dX3_addStep_14, rfl⟩ rfl ?_
    refine y_getI (n := 18) ⟨dX3_addStep_15, rfl⟩ kfX3_31 l_34 rfl ?_
    refine y_iload_n (i := 1) (n := 19) ⟨dX3_addStep_18, rfl⟩ rfl ?_
    obtain ⟨hg1, hf⟩ := g_s hf
    refine y_iastore (n := 20) ⟨dX3_addStep_19, rfl⟩ l_35 hg1 ?_
    refine y_aload_n (i := 0) (n := 21) ⟨dX3_addStep_20, rfl⟩ rfl ?_
    refine y_dup_r (n := 22) ⟨dX3_addStep_21, rfl⟩ ?_
    refine y_getI (n := 25) ⟨dX3_addStep_22, rfl⟩ kfX3_31 l_34 rfl ?_
    refine y_iconst (n := 26) (v := 1) ⟨dX3_addStep_25, rfl⟩ ki_1 ?_
    refine y_iadd (n := 27) ⟨dX3_addStep_26, rfl⟩ ?_
    refine y_putI (n := 30) ⟨dX3_addStep_27, rfl⟩ kfX3_31 l_34 (by decide +kernel) rfl ?_
    cases hf
    exact y_return (n := 31) ⟨dX3_addStep_30, rfl⟩ rfl hk
theorem c_la_addStep (a1 : Int32) (M : dM) {o : dM} {y : mz_M} {d : Nat} {Q : mz_P} {pc n i : Nat} {L : List (Option Value)} {st : List Value} (h : mz_d y.2.1 pc n 3 (.invokevirtual i)) (hl : mz_ml y.1.cls i yX3_addStep) (hf : f_la_addStep a1 M = some o) (hd : 1 + 1 ≤ d) (hsm : (st.map (fun v => v.category)).sum ≤ 8) (hLr : mz_rL 133 L = true) (hSr : mz_rS 133 st = true) (kk : mW y d Q n L st o) : mW y d Q pc L (.int a1 :: .ref 34 :: st) M :=
  y_callV kmX3_addStep kvX3_addStep l_34 (by decide +kernel) (by decide +kernel) h hl (ok_la_addStep a1 M hf) (vs := [.int a1]) rfl rfl hd hsm hLr hSr kk
noncomputable def f_re_takeSign (a1 : Int32) (M : dM) : Option (Bool × dM) :=
  (f_re_isSign a1 M).bind fun v1 =>
  if v1 = true then
    (f_re_advance M).bind fun q3 =>
    some (true, q3)
  else
    some (((f_re_wrong 1 M).1), (f_re_wrong 1 M).2)
theorem ok_re_takeSign (a1 : Int32) (M : dM) {o : (Bool × dM)} (hf : f_re_takeSign a1 M = some o) : mO mX6_takeSign 6 [.ref 32, .int a1] M (some (.int (bI o.1))) o.2 := by
  refine y_ok (by decide +kernel) (Nat.le_of_ble_eq_true rfl) (L0 := [some (.ref 32), some (.int a1)]) rfl ?_
  have hk := mR_mQ (some (.int (bI o.1))) o.2
  generalize mQ _ _ = Q at hk ⊢
  unfold f_re_takeSign at hf
  refine y_aload_n (i := 0) (n := 1) ⟨dX6_takeSign_0, rfl⟩ rfl ?_
  refine y_iload_n (i := 1) (n := 2) ⟨dX6_takeSign_1, rfl⟩ rfl ?_
  obtain ⟨v1, hv2, hf⟩ := b_s hf
  refine c_re_isSign a1 M (n := 5) ⟨dX6_takeSign_2, rfl⟩ klX6_147 hv2 (by decide) (Nat.le_of_ble_eq_true rfl) rfl rfl ?_
  refine y_if_ne (t := 14) (n := 8) ⟨dX6_takeSign_5, rfl, rfl⟩ (fun h0 => ?_) (fun h0 => ?_)
  · have hc := bI_1 h0
    replace hf := i_t hc hf
    refine y_aload_n (i := 0) (n := 15) ⟨dX6_takeSign_14, rfl⟩ rfl ?_
    obtain ⟨q3, hv4, hf⟩ := b_s hf
    refine c_re_advance M (n := 18) ⟨dX6_takeSign_15, rfl⟩ klX6_50 hv4 (by decide) (Nat.le_of_ble_eq_true rfl) rfl rfl ?_
    refine y_iconst (n := 19) (v := 1) ⟨dX6_takeSign_18, rfl⟩ ki_1 ?_
    cases hf
    exact y_ireturn (n := 20) ⟨dX6_takeSign_19, rfl⟩ rfl rfl hk
  · have hc := bI_0 h0
    replace hf := i_f hc hf
    refine y_aload_n (i := 0) (n := 9) ⟨dX6_takeSign_8, rfl⟩ rfl ?_
    refine y_iconst (n := 10) (v := 1) ⟨dX6_takeSign_9, rfl⟩ ki_1 ?_
    refine c_re_wrong 1 M (n := 13) ⟨dX6_takeSign_10, rfl⟩ klX6_81 rfl (by decide) (Nat.le_of_ble_eq_true rfl) rfl rfl ?_
    cases hf
    exact y_ireturn (n := 14) ⟨dX6_takeSign_13, rfl⟩ rfl (bI_n _) hk
theorem c_re_takeSign (a1 : Int32) (M : dM) {o : (Bool × dM)} {y : mz_M} {d : Nat} {Q : mz_P} {pc n i : Nat} {L : List (Option Value)} {st : List Value} (h : mz_d y.2.1 pc n 3 (.invokevirtual i)) (hl : mz_ml y.1.cls i yX6_takeSign) (hf : f_re_takeSign a1 M = some o) (hd : 6 + 1 ≤ d) (hsm : (st.map (fun v => v.category)).sum ≤ 8) (hLr : mz_rL 133 L = true) (hSr : mz_rS 133 st = true) (kk : mW y d Q n L (.int (bI o.1) :: st) o.2) : mW y d Q pc L (.int a1 :: .ref 32 :: st) M :=
  y_callV kmX6_takeSign kvX6_takeSign l_32 (by decide +kernel) (by decide +kernel) h hl (ok_re_takeSign a1 M hf) (vs := [.int a1]) rfl rfl hd hsm hLr hSr kk
theorem c_re_partR {dr : Nat} {rec : (Int32 → dM → Option (Bool × dM))} (hrec : ∀ (a1 : Int32) (M : dM) (o : (Bool × dM)), rec a1 M = some o → mO mX6_part dr [.ref 32, .int a1] M (some (.int (bI o.1))) o.2) (a1 : Int32) (M : dM) {o : (Bool × dM)} {y : mz_M} {d : Nat} {Q : mz_P} {pc n i : Nat} {L : List (Option Value)} {st : List Value} (h : mz_d y.2.1 pc n 3 (.invokevirtual i)) (hl : mz_ml y.1.cls i yX6_part) (hf : rec a1 M = some o) (hd : dr + 1 ≤ d) (hsm : (st.map (fun v => v.category)).sum ≤ 8) (hLr : mz_rL 133 L = true) (hSr : mz_rS 133 st = true) (kk : mW y d Q n L (.int (bI o.1) :: st) o.2) : mW y d Q pc L (.int a1 :: .ref 32 :: st) M :=
  y_callV kmX6_part kvX6_part l_32 (by decide +kernel) (by decide +kernel) h hl (hrec a1 M o hf) (vs := [.int a1]) rfl rfl hd hsm hLr hSr kk
def K_re_product_12 (dr : Nat) (Q : mz_P) (x1 : Int32) : ((Int32 × dM) ⊕ (Bool × dM)) → Prop
  | .inl s => mW mX6_product (dr + 6) Q 12 [some (.ref 32), some (.int x1), some (.int s.1)] [] s.2
  | .inr r => mR Q (some (.int (bI r.1))) r.2
noncomputable def b_re_product_12_12 (rec : (Int32 → dM → Option (Bool × dM))) (x1 : Int32) (x2 : Int32) (M : dM) : Option ((Int32 × dM) ⊕ (Bool × dM)) :=
  if 1000 ≤ x2 then
    some (.inr (true, M))
  else
    (f_re_isSign 42 M).bind fun v3 =>
    if v3 = true then
      (f_re_advance M).bind fun q5 =>
      (rec x1 q5).bind fun q7 =>
      if q7.1 = true then
        (f_la_addStep 20007 q7.2).bind fun q9 =>
        some (.inl ((x2 + 1), q9))
      else
        some (.inr (false, q7.2))
    else
      some (.inr (true, M))
noncomputable def l_re_product_12 (rec : (Int32 → dM → Option (Bool × dM))) (x1 : Int32) (x2 : Int32) (M : dM) : Option (Bool × dM) := lpc (fun s => b_re_product_12_12 rec x1 s.1 s.2) (x2, M)
noncomputable def f_re_product (rec : (Int32 → dM → Option (Bool × dM))) (a1 : Int32) (M : dM) : Option (Bool × dM) :=
  (rec a1 M).bind fun q1 =>
  if q1.1 = true then
    (l_re_product_12 rec a1 0 q1.2).bind fun r13 => some r13
  else
    some (false, q1.2)
theorem w_b_re_product_12_12 {dr : Nat} (rec : (Int32 → dM → Option (Bool × dM))) (hrec : ∀ (a1 : Int32) (M : dM) (o : (Bool × dM)), rec a1 M = some o → mO mX6_part dr [.ref 32, .int a1] M (some (.int (bI o.1))) o.2) (x1 : Int32) (x2 : Int32)  (M : dM) {Q : mz_P} {o : ((Int32 × dM) ⊕ (Bool × dM))} (hf : b_re_product_12_12 rec x1 x2 M = some o) (hk : K_re_product_12 dr Q x1 o) : mW mX6_product (dr + 6) Q 12 [some (.ref 32), some (.int x1), some (.int x2)] [] M := by
  unfold b_re_product_12_12 at hf
  refine y_iload_n (i := 2) (n := 13) ⟨dX6_product_12, rfl⟩ rfl ?_
  refine y_sipush (n := 16) (v := 1000) ⟨dX6_product_13, rfl⟩ ks_1000 ?_
  refine y_icmp_ge (t := 60) (n := 19) ⟨dX6_product_16, rfl, rfl⟩ (fun (hc : 1000 ≤ x2) => ?_) (fun (hc : ¬ (1000 ≤ x2)) => ?_)
  · replace hf := i_t hc hf
    refine y_iconst (n := 61) (v := 1) ⟨dX6_product_60, rfl⟩ ki_1 ?_
    cases hf
    exact y_ireturn (n := 62) ⟨dX6_product_61, rfl⟩ rfl rfl hk
  · replace hf := i_f hc hf
    refine y_aload_n (i := 0) (n := 20) ⟨dX6_product_19, rfl⟩ rfl ?_
    refine y_bipush (n := 22) (v := 42) ⟨dX6_product_20, rfl⟩ kb_42 ?_
    obtain ⟨v3, hv4, hf⟩ := b_s hf
    refine c_re_isSign 42 M (n := 25) ⟨dX6_product_22, rfl⟩ klX6_147 hv4 (by omega) (Nat.le_of_ble_eq_true rfl) rfl rfl ?_
    refine y_if_ne (t := 30) (n := 28) ⟨dX6_product_25, rfl, rfl⟩ (fun h0 => ?_) (fun h0 => ?_)
    · have hc := bI_1 h0
      replace hf := i_t hc hf
      refine y_aload_n (i := 0) (n := 31) ⟨dX6_product_30, rfl⟩ rfl ?_
      obtain ⟨q5, hv6, hf⟩ := b_s hf
      refine c_re_advance M (n := 34) ⟨dX6_product_31, rfl⟩ klX6_50 hv6 (by omega) (Nat.le_of_ble_eq_true rfl) rfl rfl ?_
      refine y_aload_n (i := 0) (n := 35) ⟨dX6_product_34, rfl⟩ rfl ?_
      refine y_iload_n (i := 1) (n := 36) ⟨dX6_product_35, rfl⟩ rfl ?_
      obtain ⟨q7, hv8, hf⟩ := b_s hf
      refine c_re_partR hrec x1 q5 (n := 39) ⟨dX6_product_36, rfl⟩ klX6_153 hv8 (by omega) (Nat.le_of_ble_eq_true rfl) rfl rfl ?_
      refine y_if_ne (t := 44) (n := 42) ⟨dX6_product_39, rfl, rfl⟩ (fun h0 => ?_) (fun h0 => ?_)
      · have hc := bI_1 h0
        replace hf := i_t hc hf
        refine y_aload_n (i := 0) (n := 45) ⟨dX6_product_44, rfl⟩ rfl ?_
        refine y_getR (n := 48) ⟨dX6_product_45, rfl⟩ kfX6_18 l_32 rfl r_32_2 ?_
        refine y_sipush (n := 51) (v := 20007) ⟨dX6_product_48, rfl⟩ ks_20007 ?_
        obtain ⟨q9, hv10, hf⟩ := b_s hf
        refine c_la_addStep 20007 q7.2 (n := 54) ⟨dX6_product_51, rfl⟩ klX6_140 hv10 (by omega) (Nat.le_of_ble_eq_true rfl) rfl rfl ?_
        refine y_iinc (i := 2) (n := 57) (b := (x2 + 1)) (L2 := [some (.ref 32), some (.int x1), some (.int (x2 + 1))]) ⟨dX6_product_54, rfl⟩ rfl (by rw [ki_1]) (by decide) rfl rfl ?_
        refine y_goto (t := 12) ⟨dX6_product_57, rfl, rfl⟩ ?_
        cases hf
        exact y_wk (L2 := [some (.ref 32), some (.int x1), some (.int (x2 + 1))]) ⟨Or.inr rfl, Or.inr rfl, Or.inr rfl, trivial⟩ hk
      · have hc := bI_0 h0
        replace hf := i_f hc hf
        refine y_iconst (n := 43) (v := 0) ⟨dX6_product_42, rfl⟩ ki_0 ?_
        cases hf
        exact y_ireturn (n := 44) ⟨dX6_product_43, rfl⟩ rfl rfl hk
    · have hc := bI_0 h0
      replace hf := i_f hc hf
      refine y_iconst (n := 29) (v := 1) ⟨dX6_product_28, rfl⟩ ki_1 ?_
      cases hf
      exact y_ireturn (n := 30) ⟨dX6_product_29, rfl⟩ rfl rfl hk
theorem wl_re_product_12 {dr : Nat} (rec : (Int32 → dM → Option (Bool × dM))) (hrec : ∀ (a1 : Int32) (M : dM) (o : (Bool × dM)), rec a1 M = some o → mO mX6_part dr [.ref 32, .int a1] M (some (.int (bI o.1))) o.2) (x1 : Int32) (x2 : Int32) (M : dM) {Q : mz_P} {x : (Bool × dM)} (hf : l_re_product_12 rec x1 x2 M = some x) (hk : K_re_product_12 dr Q x1 (.inr x)) : mW mX6_product (dr + 6) Q 12 [some (.ref 32), some (.int x1), some (.int x2)] [] M :=
  lpc_wp (σ := (Int32 × dM)) (ξ := (Bool × dM)) (s := (x2, M)) (Wh := fun s => mW mX6_product (dr + 6) Q 12 [some (.ref 32), some (.int x1), some (.int s.1)] [] s.2) (K := K_re_product_12 dr Q x1) (fun _ h => h) (fun s o hb hk => w_b_re_product_12_12 rec hrec x1 s.1 s.2 hb hk) hf hk
theorem ok_re_product {dr : Nat} (rec : (Int32 → dM → Option (Bool × dM))) (hrec : ∀ (a1 : Int32) (M : dM) (o : (Bool × dM)), rec a1 M = some o → mO mX6_part dr [.ref 32, .int a1] M (some (.int (bI o.1))) o.2) (a1 : Int32) (M : dM) {o : (Bool × dM)} (hf : f_re_product rec a1 M = some o) : mO mX6_product (dr + 6) [.ref 32, .int a1] M (some (.int (bI o.1))) o.2 := by
  refine y_ok (by decide +kernel) (Nat.le_of_ble_eq_true rfl) (L0 := [some (.ref 32), some (.int a1), none]) rfl ?_
  have hk := mR_mQ (some (.int (bI o.1))) o.2
  generalize mQ _ _ = Q at hk ⊢
  unfold f_re_product at hf
  refine y_aload_n (i := 0) (n := 1) ⟨dX6_product_0, rfl⟩ rfl ?_
  refine y_iload_n (i := 1) (n := 2) ⟨dX6_product_1, rfl⟩ rfl ?_
  obtain ⟨q1, hv2, hf⟩ := b_s hf
  refine c_re_partR hrec a1 M (n := 5) ⟨dX6_product_2, rfl⟩ klX6_153 hv2 (by omega) (Nat.le_of_ble_eq_true rfl) rfl rfl ?_
  refine y_if_ne (t := 10) (n := 8) ⟨dX6_product_5, rfl, rfl⟩ (fun h0 => ?_) (fun h0 => ?_)
  · have hc := bI_1 h0
    replace hf := i_t hc hf
    refine y_iconst (n := 11) (v := 0) ⟨dX6_product_10, rfl⟩ ki_0 ?_
    refine y_istore_n (i := 2) (n := 12) (L2 := [some (.ref 32), some (.int a1), some (.int 0)]) ⟨dX6_product_11, rfl⟩ (by decide) rfl rfl ?_
    obtain ⟨r13, hl12, hf⟩ := b_s hf
    cases hf
    exact y_wk (L2 := [some (.ref 32), some (.int a1), some (.int 0)]) ⟨Or.inr rfl, Or.inr rfl, Or.inr rfl, trivial⟩ (wl_re_product_12 rec hrec a1 0 q1.2 hl12 hk)
  · have hc := bI_0 h0
    replace hf := i_f hc hf
    refine y_iconst (n := 9) (v := 0) ⟨dX6_product_8, rfl⟩ ki_0 ?_
    cases hf
    exact y_ireturn (n := 10) ⟨dX6_product_9, rfl⟩ rfl rfl hk
theorem c_re_product {dr : Nat} (rec : (Int32 → dM → Option (Bool × dM))) (hrec : ∀ (a1 : Int32) (M : dM) (o : (Bool × dM)), rec a1 M = some o → mO mX6_part dr [.ref 32, .int a1] M (some (.int (bI o.1))) o.2) (a1 : Int32) (M : dM) {o : (Bool × dM)} {y : mz_M} {d : Nat} {Q : mz_P} {pc n i : Nat} {L : List (Option Value)} {st : List Value} (h : mz_d y.2.1 pc n 3 (.invokevirtual i)) (hl : mz_ml y.1.cls i yX6_product) (hf : f_re_product rec a1 M = some o) (hd : (dr + 6) + 1 ≤ d) (hsm : (st.map (fun v => v.category)).sum ≤ 8) (hLr : mz_rL 133 L = true) (hSr : mz_rS 133 st = true) (kk : mW y d Q n L (.int (bI o.1) :: st) o.2) : mW y d Q pc L (.int a1 :: .ref 32 :: st) M :=
  y_callV kmX6_product kvX6_product l_32 (by decide +kernel) (by decide +kernel) h hl (ok_re_product rec hrec a1 M hf) (vs := [.int a1]) rfl rfl hd hsm hLr hSr kk
def K_re_sum_12 (dr : Nat) (Q : mz_P) (x1 : Int32) : ((Int32 × dM) ⊕ (Bool × dM)) → Prop
  | .inl s => mW mX6_sum (dr + 7) Q 12 [some (.ref 32), some (.int x1), some (.int s.1), none] [] s.2
  | .inr r => mR Q (some (.int (bI r.1))) r.2
noncomputable def b_re_sum_12_72 (rec : (Int32 → dM → Option (Bool × dM))) (x1 : Int32) (x2 : Int32) (y1 : Int32) (M : dM) : Option ((Int32 × dM) ⊕ (Bool × dM)) :=
  (f_la_addStep y1 M).bind fun q9 =>
  some (.inl ((x2 + 1), q9))
noncomputable def b_re_sum_12_41 (rec : (Int32 → dM → Option (Bool × dM))) (x1 : Int32) (x2 : Int32) (x3 : Int32) (M : dM) : Option ((Int32 × dM) ⊕ (Bool × dM)) :=
  (f_re_advance M).bind fun q5 =>
  (f_re_product rec x1 q5).bind fun q7 =>
  if q7.1 = true then
    if x3 = 0 then
      b_re_sum_12_72 rec x1 x2 20006 q7.2
    else
      b_re_sum_12_72 rec x1 x2 20005 q7.2
  else
    some (.inr (false, q7.2))
noncomputable def b_re_sum_12_12 (rec : (Int32 → dM → Option (Bool × dM))) (x1 : Int32) (x2 : Int32) (M : dM) : Option ((Int32 × dM) ⊕ (Bool × dM)) :=
  if 1000 ≤ x2 then
    some (.inr (true, M))
  else
    (f_re_isSign 43 M).bind fun v3 =>
    if v3 = true then
      b_re_sum_12_41 rec x1 x2 (bI v3) M
    else
      (f_re_isSign 45 M).bind fun v11 =>
      if v11 = true then
        b_re_sum_12_41 rec x1 x2 (bI v3) M
      else
        some (.inr (true, M))
noncomputable def l_re_sum_12 (rec : (Int32 → dM → Option (Bool × dM))) (x1 : Int32) (x2 : Int32) (M : dM) : Option (Bool × dM) := lpc (fun s => b_re_sum_12_12 rec x1 s.1 s.2) (x2, M)
noncomputable def f_re_sum (rec : (Int32 → dM → Option (Bool × dM))) (a1 : Int32) (M : dM) : Option (Bool × dM) :=
  (f_re_product rec a1 M).bind fun q1 =>
  if q1.1 = true then
    (l_re_sum_12 rec a1 0 q1.2).bind fun r15 => some r15
  else
    some (false, q1.2)
theorem w_b_re_sum_12_72 {dr : Nat} (rec : (Int32 → dM → Option (Bool × dM))) (hrec : ∀ (a1 : Int32) (M : dM) (o : (Bool × dM)), rec a1 M = some o → mO mX6_part dr [.ref 32, .int a1] M (some (.int (bI o.1))) o.2) (x1 : Int32) (x2 : Int32) (y1 : Int32)  (M : dM) {Q : mz_P} {o : ((Int32 × dM) ⊕ (Bool × dM))} (hf : b_re_sum_12_72 rec x1 x2 y1 M = some o) (hk : K_re_sum_12 dr Q x1 o) : mW mX6_sum (dr + 7) Q 72 [some (.ref 32), some (.int x1), some (.int x2), none] [.int y1, .ref 34] M := by
  unfold b_re_sum_12_72 at hf
  obtain ⟨q9, hv10, hf⟩ := b_s hf
  refine c_la_addStep y1 M (n := 75) ⟨dX6_sum_72, rfl⟩ klX6_140 hv10 (by omega) (Nat.le_of_ble_eq_true rfl) rfl rfl ?_
  refine y_iinc (i := 2) (n := 78) (b := (x2 + 1)) (L2 := [some (.ref 32), some (.int x1), some (.int (x2 + 1)), none]) ⟨dX6_sum_75, rfl⟩ rfl (by rw [ki_1]) (by decide) rfl rfl ?_
  refine y_goto (t := 12) ⟨dX6_sum_78, rfl, rfl⟩ ?_
  cases hf
  exact y_wk (L2 := [some (.ref 32), some (.int x1), some (.int (x2 + 1)), none]) ⟨Or.inr rfl, Or.inr rfl, Or.inr rfl, Or.inr rfl, trivial⟩ hk
theorem w_b_re_sum_12_41 {dr : Nat} (rec : (Int32 → dM → Option (Bool × dM))) (hrec : ∀ (a1 : Int32) (M : dM) (o : (Bool × dM)), rec a1 M = some o → mO mX6_part dr [.ref 32, .int a1] M (some (.int (bI o.1))) o.2) (x1 : Int32) (x2 : Int32) (x3 : Int32)  (M : dM) {Q : mz_P} {o : ((Int32 × dM) ⊕ (Bool × dM))} (hf : b_re_sum_12_41 rec x1 x2 x3 M = some o) (hk : K_re_sum_12 dr Q x1 o) : mW mX6_sum (dr + 7) Q 41 [some (.ref 32), some (.int x1), some (.int x2), some (.int x3)] [] M := by
  unfold b_re_sum_12_41 at hf
  refine y_aload_n (i := 0) (n := 42) ⟨dX6_sum_41, rfl⟩ rfl ?_
  obtain ⟨q5, hv6, hf⟩ := b_s hf
  refine c_re_advance M (n := 45) ⟨dX6_sum_42, rfl⟩ klX6_50 hv6 (by omega) (Nat.le_of_ble_eq_true rfl) rfl rfl ?_
  refine y_aload_n (i := 0) (n := 46) ⟨dX6_sum_45, rfl⟩ rfl ?_
  refine y_iload_n (i := 1) (n := 47) ⟨dX6_sum_46, rfl⟩ rfl ?_
  obtain ⟨q7, hv8, hf⟩ := b_s hf
  refine c_re_product rec hrec x1 q5 (n := 50) ⟨dX6_sum_47, rfl⟩ klX6_150 hv8 (by omega) (Nat.le_of_ble_eq_true rfl) rfl rfl ?_
  refine y_if_ne (t := 55) (n := 53) ⟨dX6_sum_50, rfl, rfl⟩ (fun h0 => ?_) (fun h0 => ?_)
  · have hc := bI_1 h0
    replace hf := i_t hc hf
    refine y_aload_n (i := 0) (n := 56) ⟨dX6_sum_55, rfl⟩ rfl ?_
    refine y_getR (n := 59) ⟨dX6_sum_56, rfl⟩ kfX6_18 l_32 rfl r_32_2 ?_
    refine y_iload_n (i := 3) (n := 60) ⟨dX6_sum_59, rfl⟩ rfl ?_
    refine y_if_eq (t := 69) (n := 63) ⟨dX6_sum_60, rfl, rfl⟩ (fun (hc : x3 = 0) => ?_) (fun (hc : ¬ (x3 = 0)) => ?_)
    · replace hf := i_t hc hf
      refine y_sipush (n := 72) (v := 20006) ⟨dX6_sum_69, rfl⟩ ks_20006 ?_
      exact y_wk (L2 := [some (.ref 32), some (.int x1), some (.int x2), none]) ⟨Or.inr rfl, Or.inr rfl, Or.inr rfl, Or.inl rfl, trivial⟩ (w_b_re_sum_12_72 rec hrec x1 x2 20006 q7.2 hf hk)
    · replace hf := i_f hc hf
      refine y_sipush (n := 66) (v := 20005) ⟨dX6_sum_63, rfl⟩ ks_20005 ?_
      refine y_goto (t := 72) ⟨dX6_sum_66, rfl, rfl⟩ ?_
      exact y_wk (L2 := [some (.ref 32), some (.int x1), some (.int x2), none]) ⟨Or.inr rfl, Or.inr rfl, Or.inr rfl, Or.inl rfl, trivial⟩ (w_b_re_sum_12_72 rec hrec x1 x2 20005 q7.2 hf hk)
  · have hc := bI_0 h0
    replace hf := i_f hc hf
    refine y_iconst (n := 54) (v := 0) ⟨dX6_sum_53, rfl⟩ ki_0 ?_
    cases hf
    exact y_ireturn (n := 55) ⟨dX6_sum_54, rfl⟩ rfl rfl hk
theorem w_b_re_sum_12_12 {dr : Nat} (rec : (Int32 → dM → Option (Bool × dM))) (hrec : ∀ (a1 : Int32) (M : dM) (o : (Bool × dM)), rec a1 M = some o → mO mX6_part dr [.ref 32, .int a1] M (some (.int (bI o.1))) o.2) (x1 : Int32) (x2 : Int32)  (M : dM) {Q : mz_P} {o : ((Int32 × dM) ⊕ (Bool × dM))} (hf : b_re_sum_12_12 rec x1 x2 M = some o) (hk : K_re_sum_12 dr Q x1 o) : mW mX6_sum (dr + 7) Q 12 [some (.ref 32), some (.int x1), some (.int x2), none] [] M := by
  unfold b_re_sum_12_12 at hf
  refine y_iload_n (i := 2) (n := 13) ⟨dX6_sum_12, rfl⟩ rfl ?_
  refine y_sipush (n := 16) (v := 1000) ⟨dX6_sum_13, rfl⟩ ks_1000 ?_
  refine y_icmp_ge (t := 81) (n := 19) ⟨dX6_sum_16, rfl, rfl⟩ (fun (hc : 1000 ≤ x2) => ?_) (fun (hc : ¬ (1000 ≤ x2)) => ?_)
  · replace hf := i_t hc hf
    refine y_iconst (n := 82) (v := 1) ⟨dX6_sum_81, rfl⟩ ki_1 ?_
    cases hf
    exact y_ireturn (n := 83) ⟨dX6_sum_82, rfl⟩ rfl rfl hk
  · replace hf := i_f hc hf
    refine y_aload_n (i := 0) (n := 20) ⟨dX6_sum_19, rfl⟩ rfl ?_
    refine y_bipush (n := 22) (v := 43) ⟨dX6_sum_20, rfl⟩ kb_43 ?_
    obtain ⟨v3, hv4, hf⟩ := b_s hf
    refine c_re_isSign 43 M (n := 25) ⟨dX6_sum_22, rfl⟩ klX6_147 hv4 (by omega) (Nat.le_of_ble_eq_true rfl) rfl rfl ?_
    refine y_istore_n (i := 3) (n := 26) (L2 := [some (.ref 32), some (.int x1), some (.int x2), some (.int (bI v3))]) ⟨dX6_sum_25, rfl⟩ (by decide) rfl rfl ?_
    refine y_iload_n (i := 3) (n := 27) ⟨dX6_sum_26, rfl⟩ rfl ?_
    refine y_if_ne (t := 41) (n := 30) ⟨dX6_sum_27, rfl, rfl⟩ (fun h0 => ?_) (fun h0 => ?_)
    · have hc := bI_1 h0
      replace hf := i_t hc hf
      exact y_wk (L2 := [some (.ref 32), some (.int x1), some (.int x2), some (.int (bI v3))]) ⟨Or.inr rfl, Or.inr rfl, Or.inr rfl, Or.inr rfl, trivial⟩ (w_b_re_sum_12_41 rec hrec x1 x2 (bI v3) M hf hk)
    · have hc := bI_0 h0
      replace hf := i_f hc hf
      refine y_aload_n (i := 0) (n := 31) ⟨dX6_sum_30, rfl⟩ rfl ?_
      refine y_bipush (n := 33) (v := 45) ⟨dX6_sum_31, rfl⟩ kb_45 ?_
      obtain ⟨v11, hv12, hf⟩ := b_s hf
      refine c_re_isSign 45 M (n := 36) ⟨dX6_sum_33, rfl⟩ klX6_147 hv12 (by omega) (Nat.le_of_ble_eq_true rfl) rfl rfl ?_
      refine y_if_ne (t := 41) (n := 39) ⟨dX6_sum_36, rfl, rfl⟩ (fun h0 => ?_) (fun h0 => ?_)
      · have hc := bI_1 h0
        replace hf := i_t hc hf
        exact y_wk (L2 := [some (.ref 32), some (.int x1), some (.int x2), some (.int (bI v3))]) ⟨Or.inr rfl, Or.inr rfl, Or.inr rfl, Or.inr rfl, trivial⟩ (w_b_re_sum_12_41 rec hrec x1 x2 (bI v3) M hf hk)
      · have hc := bI_0 h0
        replace hf := i_f hc hf
        refine y_iconst (n := 40) (v := 1) ⟨dX6_sum_39, rfl⟩ ki_1 ?_
        cases hf
        exact y_ireturn (n := 41) ⟨dX6_sum_40, rfl⟩ rfl rfl hk
theorem wl_re_sum_12 {dr : Nat} (rec : (Int32 → dM → Option (Bool × dM))) (hrec : ∀ (a1 : Int32) (M : dM) (o : (Bool × dM)), rec a1 M = some o → mO mX6_part dr [.ref 32, .int a1] M (some (.int (bI o.1))) o.2) (x1 : Int32) (x2 : Int32) (M : dM) {Q : mz_P} {x : (Bool × dM)} (hf : l_re_sum_12 rec x1 x2 M = some x) (hk : K_re_sum_12 dr Q x1 (.inr x)) : mW mX6_sum (dr + 7) Q 12 [some (.ref 32), some (.int x1), some (.int x2), none] [] M :=
  lpc_wp (σ := (Int32 × dM)) (ξ := (Bool × dM)) (s := (x2, M)) (Wh := fun s => mW mX6_sum (dr + 7) Q 12 [some (.ref 32), some (.int x1), some (.int s.1), none] [] s.2) (K := K_re_sum_12 dr Q x1) (fun _ h => h) (fun s o hb hk => w_b_re_sum_12_12 rec hrec x1 s.1 s.2 hb hk) hf hk
theorem ok_re_sum {dr : Nat} (rec : (Int32 → dM → Option (Bool × dM))) (hrec : ∀ (a1 : Int32) (M : dM) (o : (Bool × dM)), rec a1 M = some o → mO mX6_part dr [.ref 32, .int a1] M (some (.int (bI o.1))) o.2) (a1 : Int32) (M : dM) {o : (Bool × dM)} (hf : f_re_sum rec a1 M = some o) : mO mX6_sum (dr + 7) [.ref 32, .int a1] M (some (.int (bI o.1))) o.2 := by
  refine y_ok (by decide +kernel) (Nat.le_of_ble_eq_true rfl) (L0 := [some (.ref 32), some (.int a1), none, none]) rfl ?_
  have hk := mR_mQ (some (.int (bI o.1))) o.2
  generalize mQ _ _ = Q at hk ⊢
  unfold f_re_sum at hf
  refine y_aload_n (i := 0) (n := 1) ⟨dX6_sum_0, rfl⟩ rfl ?_
  refine y_iload_n (i := 1) (n := 2) ⟨dX6_sum_1, rfl⟩ rfl ?_
  obtain ⟨q1, hv2, hf⟩ := b_s hf
  refine c_re_product rec hrec a1 M (n := 5) ⟨dX6_sum_2, rfl⟩ klX6_150 hv2 (by omega) (Nat.le_of_ble_eq_true rfl) rfl rfl ?_
  refine y_if_ne (t := 10) (n := 8) ⟨dX6_sum_5, rfl, rfl⟩ (fun h0 => ?_) (fun h0 => ?_)
  · have hc := bI_1 h0
    replace hf := i_t hc hf
    refine y_iconst (n := 11) (v := 0) ⟨dX6_sum_10, rfl⟩ ki_0 ?_
    refine y_istore_n (i := 2) (n := 12) (L2 := [some (.ref 32), some (.int a1), some (.int 0), none]) ⟨dX6_sum_11, rfl⟩ (by decide) rfl rfl ?_
    obtain ⟨r15, hl14, hf⟩ := b_s hf
    cases hf
    exact y_wk (L2 := [some (.ref 32), some (.int a1), some (.int 0), none]) ⟨Or.inr rfl, Or.inr rfl, Or.inr rfl, Or.inr rfl, trivial⟩ (wl_re_sum_12 rec hrec a1 0 q1.2 hl14 hk)
  · have hc := bI_0 h0
    replace hf := i_f hc hf
    refine y_iconst (n := 9) (v := 0) ⟨dX6_sum_8, rfl⟩ ki_0 ?_
    cases hf
    exact y_ireturn (n := 10) ⟨dX6_sum_9, rfl⟩ rfl rfl hk
theorem c_re_sum {dr : Nat} (rec : (Int32 → dM → Option (Bool × dM))) (hrec : ∀ (a1 : Int32) (M : dM) (o : (Bool × dM)), rec a1 M = some o → mO mX6_part dr [.ref 32, .int a1] M (some (.int (bI o.1))) o.2) (a1 : Int32) (M : dM) {o : (Bool × dM)} {y : mz_M} {d : Nat} {Q : mz_P} {pc n i : Nat} {L : List (Option Value)} {st : List Value} (h : mz_d y.2.1 pc n 3 (.invokevirtual i)) (hl : mz_ml y.1.cls i yX6_sum) (hf : f_re_sum rec a1 M = some o) (hd : (dr + 7) + 1 ≤ d) (hsm : (st.map (fun v => v.category)).sum ≤ 8) (hLr : mz_rL 133 L = true) (hSr : mz_rS 133 st = true) (kk : mW y d Q n L (.int (bI o.1) :: st) o.2) : mW y d Q pc L (.int a1 :: .ref 32 :: st) M :=
  y_callV kmX6_sum kvX6_sum l_32 (by decide +kernel) (by decide +kernel) h hl (ok_re_sum rec hrec a1 M hf) (vs := [.int a1]) rfl rfl hd hsm hLr hSr kk
noncomputable def t_re_comparison_63 (rec : (Int32 → dM → Option (Bool × dM))) (y1 : Int32) (M : dM) : Option (Bool × dM) :=
  (f_la_addStep y1 M).bind fun q9 =>
  some (true, q9)
noncomputable def t_re_comparison_32 (rec : (Int32 → dM → Option (Bool × dM))) (x1 : Int32) (x2 : Int32) (M : dM) : Option (Bool × dM) :=
  (f_re_advance M).bind fun q5 =>
  (f_re_sum rec x1 q5).bind fun q7 =>
  if q7.1 = true then
    if x2 = 0 then
      t_re_comparison_63 rec 20004 q7.2
    else
      t_re_comparison_63 rec 20003 q7.2
  else
    some (false, q7.2)
noncomputable def f_re_comparison (rec : (Int32 → dM → Option (Bool × dM))) (a1 : Int32) (M : dM) : Option (Bool × dM) :=
  (f_re_sum rec a1 M).bind fun q1 =>
  if q1.1 = true then
    (f_re_isSign 60 q1.2).bind fun v3 =>
    if v3 = true then
      t_re_comparison_32 rec a1 (bI v3) q1.2
    else
      (f_re_isSign 61 q1.2).bind fun v11 =>
      if v11 = true then
        t_re_comparison_32 rec a1 (bI v3) q1.2
      else
        some (true, q1.2)
  else
    some (false, q1.2)
theorem w_t_re_comparison_63 {dr : Nat} (rec : (Int32 → dM → Option (Bool × dM))) (hrec : ∀ (a1 : Int32) (M : dM) (o : (Bool × dM)), rec a1 M = some o → mO mX6_part dr [.ref 32, .int a1] M (some (.int (bI o.1))) o.2) (y1 : Int32) (M : dM) {Q : mz_P} {o : (Bool × dM)} (hf : t_re_comparison_63 rec y1 M = some o) (hk : mR Q (some (.int (bI o.1))) o.2) : mW mX6_comparison (dr + 8) Q 63 [none, none, none] [.int y1, .ref 34] M := by
  unfold t_re_comparison_63 at hf
  obtain ⟨q9, hv10, hf⟩ := b_s hf
  refine c_la_addStep y1 M (n := 66) ⟨dX6_comparison_63, rfl⟩ klX6_140 hv10 (by omega) (Nat.le_of_ble_eq_true rfl) rfl rfl ?_
  refine y_iconst (n := 67) (v := 1) ⟨dX6_comparison_66, rfl⟩ ki_1 ?_
  cases hf
  exact y_ireturn (n := 68) ⟨dX6_comparison_67, rfl⟩ rfl rfl hk
theorem w_t_re_comparison_32 {dr : Nat} (rec : (Int32 → dM → Option (Bool × dM))) (hrec : ∀ (a1 : Int32) (M : dM) (o : (Bool × dM)), rec a1 M = some o → mO mX6_part dr [.ref 32, .int a1] M (some (.int (bI o.1))) o.2) (x1 : Int32) (x2 : Int32) (M : dM) {Q : mz_P} {o : (Bool × dM)} (hf : t_re_comparison_32 rec x1 x2 M = some o) (hk : mR Q (some (.int (bI o.1))) o.2) : mW mX6_comparison (dr + 8) Q 32 [some (.ref 32), some (.int x1), some (.int x2)] [] M := by
  unfold t_re_comparison_32 at hf
  refine y_aload_n (i := 0) (n := 33) ⟨dX6_comparison_32, rfl⟩ rfl ?_
  obtain ⟨q5, hv6, hf⟩ := b_s hf
  refine c_re_advance M (n := 36) ⟨dX6_comparison_33, rfl⟩ klX6_50 hv6 (by omega) (Nat.le_of_ble_eq_true rfl) rfl rfl ?_
  refine y_aload_n (i := 0) (n := 37) ⟨dX6_comparison_36, rfl⟩ rfl ?_
  refine y_iload_n (i := 1) (n := 38) ⟨dX6_comparison_37, rfl⟩ rfl ?_
  obtain ⟨q7, hv8, hf⟩ := b_s hf
  refine c_re_sum rec hrec x1 q5 (n := 41) ⟨dX6_comparison_38, rfl⟩ klX6_144 hv8 (by omega) (Nat.le_of_ble_eq_true rfl) rfl rfl ?_
  refine y_if_ne (t := 46) (n := 44) ⟨dX6_comparison_41, rfl, rfl⟩ (fun h0 => ?_) (fun h0 => ?_)
  · have hc := bI_1 h0
    replace hf := i_t hc hf
    refine y_aload_n (i := 0) (n := 47) ⟨dX6_comparison_46, rfl⟩ rfl ?_
    refine y_getR (n := 50) ⟨dX6_comparison_47, rfl⟩ kfX6_18 l_32 rfl r_32_2 ?_
    refine y_iload_n (i := 2) (n := 51) ⟨dX6_comparison_50, rfl⟩ rfl ?_
    refine y_if_eq (t := 60) (n := 54) ⟨dX6_comparison_51, rfl, rfl⟩ (fun (hc : x2 = 0) => ?_) (fun (hc : ¬ (x2 = 0)) => ?_)
    · replace hf := i_t hc hf
      refine y_sipush (n := 63) (v := 20004) ⟨dX6_comparison_60, rfl⟩ ks_20004 ?_
      exact y_wk (L2 := [none, none, none]) ⟨Or.inl rfl, Or.inl rfl, Or.inl rfl, trivial⟩ (w_t_re_comparison_63 rec hrec 20004 q7.2 hf hk)
    · replace hf := i_f hc hf
      refine y_sipush (n := 57) (v := 20003) ⟨dX6_comparison_54, rfl⟩ ks_20003 ?_
      refine y_goto (t := 63) ⟨dX6_comparison_57, rfl, rfl⟩ ?_
      exact y_wk (L2 := [none, none, none]) ⟨Or.inl rfl, Or.inl rfl, Or.inl rfl, trivial⟩ (w_t_re_comparison_63 rec hrec 20003 q7.2 hf hk)
  · have hc := bI_0 h0
    replace hf := i_f hc hf
    refine y_iconst (n := 45) (v := 0) ⟨dX6_comparison_44, rfl⟩ ki_0 ?_
    cases hf
    exact y_ireturn (n := 46) ⟨dX6_comparison_45, rfl⟩ rfl rfl hk
theorem ok_re_comparison {dr : Nat} (rec : (Int32 → dM → Option (Bool × dM))) (hrec : ∀ (a1 : Int32) (M : dM) (o : (Bool × dM)), rec a1 M = some o → mO mX6_part dr [.ref 32, .int a1] M (some (.int (bI o.1))) o.2) (a1 : Int32) (M : dM) {o : (Bool × dM)} (hf : f_re_comparison rec a1 M = some o) : mO mX6_comparison (dr + 8) [.ref 32, .int a1] M (some (.int (bI o.1))) o.2 := by
  refine y_ok (by decide +kernel) (Nat.le_of_ble_eq_true rfl) (L0 := [some (.ref 32), some (.int a1), none]) rfl ?_
  have hk := mR_mQ (some (.int (bI o.1))) o.2
  generalize mQ _ _ = Q at hk ⊢
  unfold f_re_comparison at hf
  refine y_aload_n (i := 0) (n := 1) ⟨dX6_comparison_0, rfl⟩ rfl ?_
  refine y_iload_n (i := 1) (n := 2) ⟨dX6_comparison_1, rfl⟩ rfl ?_
  obtain ⟨q1, hv2, hf⟩ := b_s hf
  refine c_re_sum rec hrec a1 M (n := 5) ⟨dX6_comparison_2, rfl⟩ klX6_144 hv2 (by omega) (Nat.le_of_ble_eq_true rfl) rfl rfl ?_
  refine y_if_ne (t := 10) (n := 8) ⟨dX6_comparison_5, rfl, rfl⟩ (fun h0 => ?_) (fun h0 => ?_)
  · have hc := bI_1 h0
    replace hf := i_t hc hf
    refine y_aload_n (i := 0) (n := 11) ⟨dX6_comparison_10, rfl⟩ rfl ?_
    refine y_bipush (n := 13) (v := 60) ⟨dX6_comparison_11, rfl⟩ kb_60 ?_
    obtain ⟨v3, hv4, hf⟩ := b_s hf
    refine c_re_isSign 60 q1.2 (n := 16) ⟨dX6_comparison_13, rfl⟩ klX6_147 hv4 (by omega) (Nat.le_of_ble_eq_true rfl) rfl rfl ?_
    refine y_istore_n (i := 2) (n := 17) (L2 := [some (.ref 32), some (.int a1), some (.int (bI v3))]) ⟨dX6_comparison_16, rfl⟩ (by decide) rfl rfl ?_
    refine y_iload_n (i := 2) (n := 18) ⟨dX6_comparison_17, rfl⟩ rfl ?_
    refine y_if_ne (t := 32) (n := 21) ⟨dX6_comparison_18, rfl, rfl⟩ (fun h0 => ?_) (fun h0 => ?_)
    · have hc := bI_1 h0
      replace hf := i_t hc hf
      exact y_wk (L2 := [some (.ref 32), some (.int a1), some (.int (bI v3))]) ⟨Or.inr rfl, Or.inr rfl, Or.inr rfl, trivial⟩ (w_t_re_comparison_32 rec hrec a1 (bI v3) q1.2 hf hk)
    · have hc := bI_0 h0
      replace hf := i_f hc hf
      refine y_aload_n (i := 0) (n := 22) ⟨dX6_comparison_21, rfl⟩ rfl ?_
      refine y_bipush (n := 24) (v := 61) ⟨dX6_comparison_22, rfl⟩ kb_61 ?_
      obtain ⟨v11, hv12, hf⟩ := b_s hf
      refine c_re_isSign 61 q1.2 (n := 27) ⟨dX6_comparison_24, rfl⟩ klX6_147 hv12 (by omega) (Nat.le_of_ble_eq_true rfl) rfl rfl ?_
      refine y_if_ne (t := 32) (n := 30) ⟨dX6_comparison_27, rfl, rfl⟩ (fun h0 => ?_) (fun h0 => ?_)
      · have hc := bI_1 h0
        replace hf := i_t hc hf
        exact y_wk (L2 := [some (.ref 32), some (.int a1), some (.int (bI v3))]) ⟨Or.inr rfl, Or.inr rfl, Or.inr rfl, trivial⟩ (w_t_re_comparison_32 rec hrec a1 (bI v3) q1.2 hf hk)
      · have hc := bI_0 h0
        replace hf := i_f hc hf
        refine y_iconst (n := 31) (v := 1) ⟨dX6_comparison_30, rfl⟩ ki_1 ?_
        cases hf
        exact y_ireturn (n := 32) ⟨dX6_comparison_31, rfl⟩ rfl rfl hk
  · have hc := bI_0 h0
    replace hf := i_f hc hf
    refine y_iconst (n := 9) (v := 0) ⟨dX6_comparison_8, rfl⟩ ki_0 ?_
    cases hf
    exact y_ireturn (n := 10) ⟨dX6_comparison_9, rfl⟩ rfl rfl hk
theorem c_re_comparison {dr : Nat} (rec : (Int32 → dM → Option (Bool × dM))) (hrec : ∀ (a1 : Int32) (M : dM) (o : (Bool × dM)), rec a1 M = some o → mO mX6_part dr [.ref 32, .int a1] M (some (.int (bI o.1))) o.2) (a1 : Int32) (M : dM) {o : (Bool × dM)} {y : mz_M} {d : Nat} {Q : mz_P} {pc n i : Nat} {L : List (Option Value)} {st : List Value} (h : mz_d y.2.1 pc n 3 (.invokevirtual i)) (hl : mz_ml y.1.cls i yX6_comparison) (hf : f_re_comparison rec a1 M = some o) (hd : (dr + 8) + 1 ≤ d) (hsm : (st.map (fun v => v.category)).sum ≤ 8) (hLr : mz_rL 133 L = true) (hSr : mz_rS 133 st = true) (kk : mW y d Q n L (.int (bI o.1) :: st) o.2) : mW y d Q pc L (.int a1 :: .ref 32 :: st) M :=
  y_callV kmX6_comparison kvX6_comparison l_32 (by decide +kernel) (by decide +kernel) h hl (ok_re_comparison rec hrec a1 M hf) (vs := [.int a1]) rfl rfl hd hsm hLr hSr kk
def K_re_expression_12 (dr : Nat) (Q : mz_P) (x1 : Int32) : ((Int32 × dM) ⊕ (Bool × dM)) → Prop
  | .inl s => mW mX6_expression (dr + 9) Q 12 [some (.ref 32), some (.int x1), some (.int s.1), none] [] s.2
  | .inr r => mR Q (some (.int (bI r.1))) r.2
noncomputable def b_re_expression_12_64 (rec : (Int32 → dM → Option (Bool × dM))) (x1 : Int32) (x2 : Int32) (y1 : Int32) (M : dM) : Option ((Int32 × dM) ⊕ (Bool × dM)) :=
  (f_la_addStep y1 M).bind fun q9 =>
  some (.inl ((x2 + 1), q9))
noncomputable def b_re_expression_12_12 (rec : (Int32 → dM → Option (Bool × dM))) (x1 : Int32) (x2 : Int32) (M : dM) : Option ((Int32 × dM) ⊕ (Bool × dM)) :=
  if 1000 ≤ x2 then
    some (.inr (true, M))
  else
    (f_re_wordIn 5 M).bind fun v3 =>
    if v3 = (-1) then
      some (.inr (true, M))
    else
      (f_re_advance M).bind fun q5 =>
      (f_re_comparison rec x1 q5).bind fun q7 =>
      if q7.1 = true then
        if v3 = 0 then
          b_re_expression_12_64 rec x1 x2 20001 q7.2
        else
          b_re_expression_12_64 rec x1 x2 20002 q7.2
      else
        some (.inr (false, q7.2))
noncomputable def l_re_expression_12 (rec : (Int32 → dM → Option (Bool × dM))) (x1 : Int32) (x2 : Int32) (M : dM) : Option (Bool × dM) := lpc (fun s => b_re_expression_12_12 rec x1 s.1 s.2) (x2, M)
noncomputable def f_re_expression (rec : (Int32 → dM → Option (Bool × dM))) (a1 : Int32) (M : dM) : Option (Bool × dM) :=
  (f_re_comparison rec a1 M).bind fun q1 =>
  if q1.1 = true then
    (l_re_expression_12 rec a1 0 q1.2).bind fun r13 => some r13
  else
    some (false, q1.2)
theorem w_b_re_expression_12_64 {dr : Nat} (rec : (Int32 → dM → Option (Bool × dM))) (hrec : ∀ (a1 : Int32) (M : dM) (o : (Bool × dM)), rec a1 M = some o → mO mX6_part dr [.ref 32, .int a1] M (some (.int (bI o.1))) o.2) (x1 : Int32) (x2 : Int32) (y1 : Int32)  (M : dM) {Q : mz_P} {o : ((Int32 × dM) ⊕ (Bool × dM))} (hf : b_re_expression_12_64 rec x1 x2 y1 M = some o) (hk : K_re_expression_12 dr Q x1 o) : mW mX6_expression (dr + 9) Q 64 [some (.ref 32), some (.int x1), some (.int x2), none] [.int y1, .ref 34] M := by
  unfold b_re_expression_12_64 at hf
  obtain ⟨q9, hv10, hf⟩ := b_s hf
  refine c_la_addStep y1 M (n := 67) ⟨dX6_expression_64, rfl⟩ klX6_140 hv10 (by omega) (Nat.le_of_ble_eq_true rfl) rfl rfl ?_
  refine y_iinc (i := 2) (n := 70) (b := (x2 + 1)) (L2 := [some (.ref 32), some (.int x1), some (.int (x2 + 1)), none]) ⟨dX6_expression_67, rfl⟩ rfl (by rw [ki_1]) (by decide) rfl rfl ?_
  refine y_goto (t := 12) ⟨dX6_expression_70, rfl, rfl⟩ ?_
  cases hf
  exact y_wk (L2 := [some (.ref 32), some (.int x1), some (.int (x2 + 1)), none]) ⟨Or.inr rfl, Or.inr rfl, Or.inr rfl, Or.inr rfl, trivial⟩ hk
theorem w_b_re_expression_12_12 {dr : Nat} (rec : (Int32 → dM → Option (Bool × dM))) (hrec : ∀ (a1 : Int32) (M : dM) (o : (Bool × dM)), rec a1 M = some o → mO mX6_part dr [.ref 32, .int a1] M (some (.int (bI o.1))) o.2) (x1 : Int32) (x2 : Int32)  (M : dM) {Q : mz_P} {o : ((Int32 × dM) ⊕ (Bool × dM))} (hf : b_re_expression_12_12 rec x1 x2 M = some o) (hk : K_re_expression_12 dr Q x1 o) : mW mX6_expression (dr + 9) Q 12 [some (.ref 32), some (.int x1), some (.int x2), none] [] M := by
  unfold b_re_expression_12_12 at hf
  refine y_iload_n (i := 2) (n := 13) ⟨dX6_expression_12, rfl⟩ rfl ?_
  refine y_sipush (n := 16) (v := 1000) ⟨dX6_expression_13, rfl⟩ ks_1000 ?_
  refine y_icmp_ge (t := 73) (n := 19) ⟨dX6_expression_16, rfl, rfl⟩ (fun (hc : 1000 ≤ x2) => ?_) (fun (hc : ¬ (1000 ≤ x2)) => ?_)
  · replace hf := i_t hc hf
    refine y_iconst (n := 74) (v := 1) ⟨dX6_expression_73, rfl⟩ ki_1 ?_
    cases hf
    exact y_ireturn (n := 75) ⟨dX6_expression_74, rfl⟩ rfl rfl hk
  · replace hf := i_f hc hf
    refine y_aload_n (i := 0) (n := 20) ⟨dX6_expression_19, rfl⟩ rfl ?_
    refine y_ldcS (s := 5) (n := 22) ⟨dX6_expression_20, rfl⟩ (own := "AxesAtDawn$Reader") (tx := "and or") rfl rfl ?_
    obtain ⟨v3, hv4, hf⟩ := b_s hf
    refine c_re_wordIn 5 M (n := 25) ⟨dX6_expression_22, rfl⟩ klX6_58 hv4 (by omega) (Nat.le_of_ble_eq_true rfl) rfl rfl ?_
    refine y_istore_n (i := 3) (n := 26) (L2 := [some (.ref 32), some (.int x1), some (.int x2), some (.int v3)]) ⟨dX6_expression_25, rfl⟩ (by decide) rfl rfl ?_
    refine y_iload_n (i := 3) (n := 27) ⟨dX6_expression_26, rfl⟩ rfl ?_
    refine y_iconst (n := 28) (v := (-1)) ⟨dX6_expression_27, rfl⟩ ki_m1 ?_
    refine y_icmp_ne (t := 33) (n := 31) ⟨dX6_expression_28, rfl, rfl⟩ (fun (hc : ¬ (v3 = (-1))) => ?_) (fun (hc : v3 = (-1)) => ?_)
    · replace hf := i_f hc hf
      refine y_aload_n (i := 0) (n := 34) ⟨dX6_expression_33, rfl⟩ rfl ?_
      obtain ⟨q5, hv6, hf⟩ := b_s hf
      refine c_re_advance M (n := 37) ⟨dX6_expression_34, rfl⟩ klX6_50 hv6 (by omega) (Nat.le_of_ble_eq_true rfl) rfl rfl ?_
      refine y_aload_n (i := 0) (n := 38) ⟨dX6_expression_37, rfl⟩ rfl ?_
      refine y_iload_n (i := 1) (n := 39) ⟨dX6_expression_38, rfl⟩ rfl ?_
      obtain ⟨q7, hv8, hf⟩ := b_s hf
      refine c_re_comparison rec hrec x1 q5 (n := 42) ⟨dX6_expression_39, rfl⟩ klX6_135 hv8 (by omega) (Nat.le_of_ble_eq_true rfl) rfl rfl ?_
      refine y_if_ne (t := 47) (n := 45) ⟨dX6_expression_42, rfl, rfl⟩ (fun h0 => ?_) (fun h0 => ?_)
      · have hc := bI_1 h0
        replace hf := i_t hc hf
        refine y_aload_n (i := 0) (n := 48) ⟨dX6_expression_47, rfl⟩ rfl ?_
        refine y_getR (n := 51) ⟨dX6_expression_48, rfl⟩ kfX6_18 l_32 rfl r_32_2 ?_
        refine y_iload_n (i := 3) (n := 52) ⟨dX6_expression_51, rfl⟩ rfl ?_
        refine y_if_ne (t := 61) (n := 55) ⟨dX6_expression_52, rfl, rfl⟩ (fun (hc : ¬ (v3 = 0)) => ?_) (fun (hc : v3 = 0) => ?_)
        · replace hf := i_f hc hf
          refine y_sipush (n := 64) (v := 20002) ⟨dX6_expression_61, rfl⟩ ks_20002 ?_
          exact y_wk (L2 := [some (.ref 32), some (.int x1), some (.int x2), none]) ⟨Or.inr rfl, Or.inr rfl, Or.inr rfl, Or.inl rfl, trivial⟩ (w_b_re_expression_12_64 rec hrec x1 x2 20002 q7.2 hf hk)
        · replace hf := i_t hc hf
          refine y_sipush (n := 58) (v := 20001) ⟨dX6_expression_55, rfl⟩ ks_20001 ?_
          refine y_goto (t := 64) ⟨dX6_expression_58, rfl, rfl⟩ ?_
          exact y_wk (L2 := [some (.ref 32), some (.int x1), some (.int x2), none]) ⟨Or.inr rfl, Or.inr rfl, Or.inr rfl, Or.inl rfl, trivial⟩ (w_b_re_expression_12_64 rec hrec x1 x2 20001 q7.2 hf hk)
      · have hc := bI_0 h0
        replace hf := i_f hc hf
        refine y_iconst (n := 46) (v := 0) ⟨dX6_expression_45, rfl⟩ ki_0 ?_
        cases hf
        exact y_ireturn (n := 47) ⟨dX6_expression_46, rfl⟩ rfl rfl hk
    · replace hf := i_t hc hf
      refine y_iconst (n := 32) (v := 1) ⟨dX6_expression_31, rfl⟩ ki_1 ?_
      cases hf
      exact y_ireturn (n := 33) ⟨dX6_expression_32, rfl⟩ rfl rfl hk
theorem wl_re_expression_12 {dr : Nat} (rec : (Int32 → dM → Option (Bool × dM))) (hrec : ∀ (a1 : Int32) (M : dM) (o : (Bool × dM)), rec a1 M = some o → mO mX6_part dr [.ref 32, .int a1] M (some (.int (bI o.1))) o.2) (x1 : Int32) (x2 : Int32) (M : dM) {Q : mz_P} {x : (Bool × dM)} (hf : l_re_expression_12 rec x1 x2 M = some x) (hk : K_re_expression_12 dr Q x1 (.inr x)) : mW mX6_expression (dr + 9) Q 12 [some (.ref 32), some (.int x1), some (.int x2), none] [] M :=
  lpc_wp (σ := (Int32 × dM)) (ξ := (Bool × dM)) (s := (x2, M)) (Wh := fun s => mW mX6_expression (dr + 9) Q 12 [some (.ref 32), some (.int x1), some (.int s.1), none] [] s.2) (K := K_re_expression_12 dr Q x1) (fun _ h => h) (fun s o hb hk => w_b_re_expression_12_12 rec hrec x1 s.1 s.2 hb hk) hf hk
theorem ok_re_expression {dr : Nat} (rec : (Int32 → dM → Option (Bool × dM))) (hrec : ∀ (a1 : Int32) (M : dM) (o : (Bool × dM)), rec a1 M = some o → mO mX6_part dr [.ref 32, .int a1] M (some (.int (bI o.1))) o.2) (a1 : Int32) (M : dM) {o : (Bool × dM)} (hf : f_re_expression rec a1 M = some o) : mO mX6_expression (dr + 9) [.ref 32, .int a1] M (some (.int (bI o.1))) o.2 := by
  refine y_ok (by decide +kernel) (Nat.le_of_ble_eq_true rfl) (L0 := [some (.ref 32), some (.int a1), none, none]) rfl ?_
  have hk := mR_mQ (some (.int (bI o.1))) o.2
  generalize mQ _ _ = Q at hk ⊢
  unfold f_re_expression at hf
  refine y_aload_n (i := 0) (n := 1) ⟨dX6_expression_0, rfl⟩ rfl ?_
  refine y_iload_n (i := 1) (n := 2) ⟨dX6_expression_1, rfl⟩ rfl ?_
  obtain ⟨q1, hv2, hf⟩ := b_s hf
  refine c_re_comparison rec hrec a1 M (n := 5) ⟨dX6_expression_2, rfl⟩ klX6_135 hv2 (by omega) (Nat.le_of_ble_eq_true rfl) rfl rfl ?_
  refine y_if_ne (t := 10) (n := 8) ⟨dX6_expression_5, rfl, rfl⟩ (fun h0 => ?_) (fun h0 => ?_)
  · have hc := bI_1 h0
    replace hf := i_t hc hf
    refine y_iconst (n := 11) (v := 0) ⟨dX6_expression_10, rfl⟩ ki_0 ?_
    refine y_istore_n (i := 2) (n := 12) (L2 := [some (.ref 32), some (.int a1), some (.int 0), none]) ⟨dX6_expression_11, rfl⟩ (by decide) rfl rfl ?_
    obtain ⟨r13, hl12, hf⟩ := b_s hf
    cases hf
    exact y_wk (L2 := [some (.ref 32), some (.int a1), some (.int 0), none]) ⟨Or.inr rfl, Or.inr rfl, Or.inr rfl, Or.inr rfl, trivial⟩ (wl_re_expression_12 rec hrec a1 0 q1.2 hl12 hk)
  · have hc := bI_0 h0
    replace hf := i_f hc hf
    refine y_iconst (n := 9) (v := 0) ⟨dX6_expression_8, rfl⟩ ki_0 ?_
    cases hf
    exact y_ireturn (n := 10) ⟨dX6_expression_9, rfl⟩ rfl rfl hk
theorem c_re_expression {dr : Nat} (rec : (Int32 → dM → Option (Bool × dM))) (hrec : ∀ (a1 : Int32) (M : dM) (o : (Bool × dM)), rec a1 M = some o → mO mX6_part dr [.ref 32, .int a1] M (some (.int (bI o.1))) o.2) (a1 : Int32) (M : dM) {o : (Bool × dM)} {y : mz_M} {d : Nat} {Q : mz_P} {pc n i : Nat} {L : List (Option Value)} {st : List Value} (h : mz_d y.2.1 pc n 3 (.invokevirtual i)) (hl : mz_ml y.1.cls i yX6_expression) (hf : f_re_expression rec a1 M = some o) (hd : (dr + 9) + 1 ≤ d) (hsm : (st.map (fun v => v.category)).sum ≤ 8) (hLr : mz_rL 133 L = true) (hSr : mz_rS 133 st = true) (kk : mW y d Q n L (.int (bI o.1) :: st) o.2) : mW y d Q pc L (.int a1 :: .ref 32 :: st) M :=
  y_callV kmX6_expression kvX6_expression l_32 (by decide +kernel) (by decide +kernel) h hl (ok_re_expression rec hrec a1 M hf) (vs := [.int a1]) rfl rfl hd hsm hLr hSr kk
noncomputable def t_re_part_112 (rec : (Int32 → dM → Option (Bool × dM))) (x1 : Int32) (x2 : Int32) (x3 : Int32) (M : dM) : Option (Bool × dM) :=
  (f_re_advance M).bind fun q7 =>
  if x2 = 0 then
    if x3 = 0 then
      some (true, q7)
    else
      (rec (x1 + 1) q7).bind fun q9 =>
      if q9.1 = true then
        (f_la_addStep 20000 q9.2).bind fun q11 =>
        some (true, q11)
      else
        some (false, q9.2)
  else
    (f_re_expression rec (x1 + 1) q7).bind fun q13 =>
    if q13.1 = true then
      (f_re_takeSign 41 q13.2).bind fun q15 =>
      if q15.1 = true then
        some (true, q15.2)
      else
        some (false, q15.2)
    else
      some (false, q13.2)
noncomputable def t_re_part_60 (rec : (Int32 → dM → Option (Bool × dM))) (x1 : Int32) (x2 : Int32) (x3 : Int32) (x4 : Int32) (M : dM) : Option (Bool × dM) :=
  if x1 < 5 then
    if (gI M 32 3) = 2 then
      (f_la_addStep (gI M 32 6) M).bind fun q19 =>
      t_re_part_112 rec x1 x2 x3 q19
    else
      if x4 = (-1) then
        t_re_part_112 rec x1 x2 x3 M
      else
        (f_la_addStep (10000 + x4) M).bind fun q17 =>
        t_re_part_112 rec x1 x2 x3 q17
  else
    some (((f_re_wrong 5 M).1), (f_re_wrong 5 M).2)
noncomputable def t_re_part_21 (rec : (Int32 → dM → Option (Bool × dM))) (x1 : Int32) (x2 : Int32) (y0 : Int32) (M : dM) : Option (Bool × dM) :=
  (f_re_wordIn M.2.2 M).bind fun v5 =>
  if x2 = 0 then
    if y0 = 0 then
      if v5 = (-1) then
        if (gI M 32 3) = 2 then
          t_re_part_60 rec x1 x2 y0 v5 M
        else
          some (((f_re_wrong 1 M).1), (f_re_wrong 1 M).2)
      else
        t_re_part_60 rec x1 x2 y0 v5 M
    else
      t_re_part_60 rec x1 x2 y0 v5 M
  else
    t_re_part_60 rec x1 x2 y0 v5 M
noncomputable def f_re_part (rec : (Int32 → dM → Option (Bool × dM))) (a1 : Int32) (M : dM) : Option (Bool × dM) :=
  (f_re_isSign 40 M).bind fun v1 =>
  (f_re_wordIn 6 M).bind fun v3 =>
  if v3 = 0 then
    t_re_part_21 rec a1 (bI v1) 1 M
  else
    t_re_part_21 rec a1 (bI v1) 0 M
theorem w_t_re_part_112 {dr : Nat} (rec : (Int32 → dM → Option (Bool × dM))) (hrec : ∀ (a1 : Int32) (M : dM) (o : (Bool × dM)), rec a1 M = some o → mO mX6_part dr [.ref 32, .int a1] M (some (.int (bI o.1))) o.2) (x1 : Int32) (x2 : Int32) (x3 : Int32) (M : dM) {Q : mz_P} {o : (Bool × dM)} (hf : t_re_part_112 rec x1 x2 x3 M = some o) (hk : mR Q (some (.int (bI o.1))) o.2) : mW mX6_part (dr + 10) Q 112 [some (.ref 32), some (.int x1), some (.int x2), some (.int x3), none] [] M := by
  unfold t_re_part_112 at hf
  refine y_aload_n (i := 0) (n := 113) ⟨dX6_part_112, rfl⟩ rfl ?_
  obtain ⟨q7, hv8, hf⟩ := b_s hf
  refine c_re_advance M (n := 116) ⟨dX6_part_113, rfl⟩ klX6_50 hv8 (by omega) (Nat.le_of_ble_eq_true rfl) rfl rfl ?_
  refine y_iload_n (i := 2) (n := 117) ⟨dX6_part_116, rfl⟩ rfl ?_
  refine y_if_eq (t := 145) (n := 120) ⟨dX6_part_117, rfl, rfl⟩ (fun (hc : x2 = 0) => ?_) (fun (hc : ¬ (x2 = 0)) => ?_)
  · replace hf := i_t hc hf
    refine y_iload_n (i := 3) (n := 146) ⟨dX6_part_145, rfl⟩ rfl ?_
    refine y_if_eq (t := 171) (n := 149) ⟨dX6_part_146, rfl, rfl⟩ (fun (hc : x3 = 0) => ?_) (fun (hc : ¬ (x3 = 0)) => ?_)
    · replace hf := i_t hc hf
      refine y_iconst (n := 172) (v := 1) ⟨dX6_part_171, rfl⟩ ki_1 ?_
      cases hf
      exact y_ireturn (n := 173) ⟨dX6_part_172, rfl⟩ rfl rfl hk
    · replace hf := i_f hc hf
      refine y_aload_n (i := 0) (n := 150) ⟨dX6_part_149, rfl⟩ rfl ?_
      refine y_iload_n (i := 1) (n := 151) ⟨dX6_part_150, rfl⟩ rfl ?_
      refine y_iconst (n := 152) (v := 1) ⟨dX6_part_151, rfl⟩ ki_1 ?_
      refine y_iadd (n := 153) ⟨dX6_part_152, rfl⟩ ?_
      obtain ⟨q9, hv10, hf⟩ := b_s hf
      refine c_re_partR hrec (x1 + 1) q7 (n := 156) ⟨dX6_part_153, rfl⟩ klX6_153 hv10 (by omega) (Nat.le_of_ble_eq_true rfl) rfl rfl ?_
      refine y_if_ne (t := 161) (n := 159) ⟨dX6_part_156, rfl, rfl⟩ (fun h0 => ?_) (fun h0 => ?_)
      · have hc := bI_1 h0
        replace hf := i_t hc hf
        refine y_aload_n (i := 0) (n := 162) ⟨dX6_part_161, rfl⟩ rfl ?_
        refine y_getR (n := 165) ⟨dX6_part_162, rfl⟩ kfX6_18 l_32 rfl r_32_2 ?_
        refine y_sipush (n := 168) (v := 20000) ⟨dX6_part_165, rfl⟩ ks_20000 ?_
        obtain ⟨q11, hv12, hf⟩ := b_s hf
        refine c_la_addStep 20000 q9.2 (n := 171) ⟨dX6_part_168, rfl⟩ klX6_140 hv12 (by omega) (Nat.le_of_ble_eq_true rfl) rfl rfl ?_
        refine y_iconst (n := 172) (v := 1) ⟨dX6_part_171, rfl⟩ ki_1 ?_
        cases hf
        exact y_ireturn (n := 173) ⟨dX6_part_172, rfl⟩ rfl rfl hk
      · have hc := bI_0 h0
        replace hf := i_f hc hf
        refine y_iconst (n := 160) (v := 0) ⟨dX6_part_159, rfl⟩ ki_0 ?_
        cases hf
        exact y_ireturn (n := 161) ⟨dX6_part_160, rfl⟩ rfl rfl hk
  · replace hf := i_f hc hf
    refine y_aload_n (i := 0) (n := 121) ⟨dX6_part_120, rfl⟩ rfl ?_
    refine y_iload_n (i := 1) (n := 122) ⟨dX6_part_121, rfl⟩ rfl ?_
    refine y_iconst (n := 123) (v := 1) ⟨dX6_part_122, rfl⟩ ki_1 ?_
    refine y_iadd (n := 124) ⟨dX6_part_123, rfl⟩ ?_
    obtain ⟨q13, hv14, hf⟩ := b_s hf
    refine c_re_expression rec hrec (x1 + 1) q7 (n := 127) ⟨dX6_part_124, rfl⟩ klX6_129 hv14 (by omega) (Nat.le_of_ble_eq_true rfl) rfl rfl ?_
    refine y_if_eq (t := 143) (n := 130) ⟨dX6_part_127, rfl, rfl⟩ (fun h0 => ?_) (fun h0 => ?_)
    · have hc := bI_0 h0
      replace hf := i_f hc hf
      refine y_iconst (n := 144) (v := 0) ⟨dX6_part_143, rfl⟩ ki_0 ?_
      cases hf
      exact y_ireturn (n := 145) ⟨dX6_part_144, rfl⟩ rfl rfl hk
    · have hc := bI_1 h0
      replace hf := i_t hc hf
      refine y_aload_n (i := 0) (n := 131) ⟨dX6_part_130, rfl⟩ rfl ?_
      refine y_bipush (n := 133) (v := 41) ⟨dX6_part_131, rfl⟩ kb_41 ?_
      obtain ⟨q15, hv16, hf⟩ := b_s hf
      refine c_re_takeSign 41 q13.2 (n := 136) ⟨dX6_part_133, rfl⟩ klX6_115 hv16 (by omega) (Nat.le_of_ble_eq_true rfl) rfl rfl ?_
      refine y_if_eq (t := 143) (n := 139) ⟨dX6_part_136, rfl, rfl⟩ (fun h0 => ?_) (fun h0 => ?_)
      · have hc := bI_0 h0
        replace hf := i_f hc hf
        refine y_iconst (n := 144) (v := 0) ⟨dX6_part_143, rfl⟩ ki_0 ?_
        cases hf
        exact y_ireturn (n := 145) ⟨dX6_part_144, rfl⟩ rfl rfl hk
      · have hc := bI_1 h0
        replace hf := i_t hc hf
        refine y_iconst (n := 140) (v := 1) ⟨dX6_part_139, rfl⟩ ki_1 ?_
        refine y_goto (t := 144) ⟨dX6_part_140, rfl, rfl⟩ ?_
        cases hf
        exact y_ireturn (n := 145) ⟨dX6_part_144, rfl⟩ rfl rfl hk
theorem w_t_re_part_60 {dr : Nat} (rec : (Int32 → dM → Option (Bool × dM))) (hrec : ∀ (a1 : Int32) (M : dM) (o : (Bool × dM)), rec a1 M = some o → mO mX6_part dr [.ref 32, .int a1] M (some (.int (bI o.1))) o.2) (x1 : Int32) (x2 : Int32) (x3 : Int32) (x4 : Int32) (M : dM) {Q : mz_P} {o : (Bool × dM)} (hf : t_re_part_60 rec x1 x2 x3 x4 M = some o) (hk : mR Q (some (.int (bI o.1))) o.2) : mW mX6_part (dr + 10) Q 60 [some (.ref 32), some (.int x1), some (.int x2), some (.int x3), some (.int x4)] [] M := by
  unfold t_re_part_60 at hf
  refine y_iload_n (i := 1) (n := 61) ⟨dX6_part_60, rfl⟩ rfl ?_
  refine y_iconst (n := 62) (v := 5) ⟨dX6_part_61, rfl⟩ ki_5 ?_
  refine y_icmp_lt (t := 71) (n := 65) ⟨dX6_part_62, rfl, rfl⟩ (fun (hc : x1 < 5) => ?_) (fun (hc : ¬ (x1 < 5)) => ?_)
  · replace hf := i_t hc hf
    refine y_aload_n (i := 0) (n := 72) ⟨dX6_part_71, rfl⟩ rfl ?_
    refine y_getI (n := 75) ⟨dX6_part_72, rfl⟩ kfX6_53 l_32 rfl ?_
    refine y_iconst (n := 76) (v := 2) ⟨dX6_part_75, rfl⟩ ki_2 ?_
    refine y_icmp_ne (t := 93) (n := 79) ⟨dX6_part_76, rfl, rfl⟩ (fun (hc : ¬ ((gI M 32 3) = 2)) => ?_) (fun (hc : (gI M 32 3) = 2) => ?_)
    · replace hf := i_f hc hf
      refine y_iload (i := 4) (n := 95) ⟨dX6_part_93, rfl⟩ rfl ?_
      refine y_iconst (n := 96) (v := (-1)) ⟨dX6_part_95, rfl⟩ ki_m1 ?_
      refine y_icmp_eq (t := 112) (n := 99) ⟨dX6_part_96, rfl, rfl⟩ (fun (hc : x4 = (-1)) => ?_) (fun (hc : ¬ (x4 = (-1))) => ?_)
      · replace hf := i_t hc hf
        exact y_wk (L2 := [some (.ref 32), some (.int x1), some (.int x2), some (.int x3), none]) ⟨Or.inr rfl, Or.inr rfl, Or.inr rfl, Or.inr rfl, Or.inl rfl, trivial⟩ (w_t_re_part_112 rec hrec x1 x2 x3 M hf hk)
      · replace hf := i_f hc hf
        refine y_aload_n (i := 0) (n := 100) ⟨dX6_part_99, rfl⟩ rfl ?_
        refine y_getR (n := 103) ⟨dX6_part_100, rfl⟩ kfX6_18 l_32 rfl r_32_2 ?_
        refine y_sipush (n := 106) (v := 10000) ⟨dX6_part_103, rfl⟩ ks_10000 ?_
        refine y_iload (i := 4) (n := 108) ⟨dX6_part_106, rfl⟩ rfl ?_
        refine y_iadd (n := 109) ⟨dX6_part_108, rfl⟩ ?_
        obtain ⟨q17, hv18, hf⟩ := b_s hf
        refine c_la_addStep (10000 + x4) M (n := 112) ⟨dX6_part_109, rfl⟩ klX6_140 hv18 (by omega) (Nat.le_of_ble_eq_true rfl) rfl rfl ?_
        exact y_wk (L2 := [some (.ref 32), some (.int x1), some (.int x2), some (.int x3), none]) ⟨Or.inr rfl, Or.inr rfl, Or.inr rfl, Or.inr rfl, Or.inl rfl, trivial⟩ (w_t_re_part_112 rec hrec x1 x2 x3 q17 hf hk)
    · replace hf := i_t hc hf
      refine y_aload_n (i := 0) (n := 80) ⟨dX6_part_79, rfl⟩ rfl ?_
      refine y_getR (n := 83) ⟨dX6_part_80, rfl⟩ kfX6_18 l_32 rfl r_32_2 ?_
      refine y_aload_n (i := 0) (n := 84) ⟨dX6_part_83, rfl⟩ rfl ?_
      refine y_getI (n := 87) ⟨dX6_part_84, rfl⟩ kfX6_104 l_32 rfl ?_
      obtain ⟨q19, hv20, hf⟩ := b_s hf
      refine c_la_addStep (gI M 32 6) M (n := 90) ⟨dX6_part_87, rfl⟩ klX6_140 hv20 (by omega) (Nat.le_of_ble_eq_true rfl) rfl rfl ?_
      refine y_goto (t := 112) ⟨dX6_part_90, rfl, rfl⟩ ?_
      exact y_wk (L2 := [some (.ref 32), some (.int x1), some (.int x2), some (.int x3), none]) ⟨Or.inr rfl, Or.inr rfl, Or.inr rfl, Or.inr rfl, Or.inl rfl, trivial⟩ (w_t_re_part_112 rec hrec x1 x2 x3 q19 hf hk)
  · replace hf := i_f hc hf
    refine y_aload_n (i := 0) (n := 66) ⟨dX6_part_65, rfl⟩ rfl ?_
    refine y_iconst (n := 67) (v := 5) ⟨dX6_part_66, rfl⟩ ki_5 ?_
    refine c_re_wrong 5 M (n := 70) ⟨dX6_part_67, rfl⟩ klX6_81 rfl (by omega) (Nat.le_of_ble_eq_true rfl) rfl rfl ?_
    cases hf
    exact y_ireturn (n := 71) ⟨dX6_part_70, rfl⟩ rfl (bI_n _) hk
theorem w_t_re_part_21 {dr : Nat} (rec : (Int32 → dM → Option (Bool × dM))) (hrec : ∀ (a1 : Int32) (M : dM) (o : (Bool × dM)), rec a1 M = some o → mO mX6_part dr [.ref 32, .int a1] M (some (.int (bI o.1))) o.2) (x1 : Int32) (x2 : Int32) (y0 : Int32) (M : dM) {Q : mz_P} {o : (Bool × dM)} (hf : t_re_part_21 rec x1 x2 y0 M = some o) (hk : mR Q (some (.int (bI o.1))) o.2) : mW mX6_part (dr + 10) Q 21 [some (.ref 32), some (.int x1), some (.int x2), none, none] [.int y0] M := by
  unfold t_re_part_21 at hf
  refine y_istore_n (i := 3) (n := 22) (L2 := [some (.ref 32), some (.int x1), some (.int x2), some (.int y0), none]) ⟨dX6_part_21, rfl⟩ (by decide) rfl rfl ?_
  refine y_aload_n (i := 0) (n := 23) ⟨dX6_part_22, rfl⟩ rfl ?_
  refine y_aload_n (i := 0) (n := 24) ⟨dX6_part_23, rfl⟩ rfl ?_
  refine y_getW (n := 27) ⟨dX6_part_24, rfl⟩ kfX6_24 ?_
  obtain ⟨v5, hv6, hf⟩ := b_s hf
  refine c_re_wordIn M.2.2 M (n := 30) ⟨dX6_part_27, rfl⟩ klX6_58 hv6 (by omega) (Nat.le_of_ble_eq_true rfl) rfl rfl ?_
  refine y_istore (i := 4) (n := 32) (L2 := [some (.ref 32), some (.int x1), some (.int x2), some (.int y0), some (.int v5)]) ⟨dX6_part_30, rfl⟩ (by decide) rfl rfl ?_
  refine y_iload_n (i := 2) (n := 33) ⟨dX6_part_32, rfl⟩ rfl ?_
  refine y_if_ne (t := 60) (n := 36) ⟨dX6_part_33, rfl, rfl⟩ (fun (hc : ¬ (x2 = 0)) => ?_) (fun (hc : x2 = 0) => ?_)
  · replace hf := i_f hc hf
    exact y_wk (L2 := [some (.ref 32), some (.int x1), some (.int x2), some (.int y0), some (.int v5)]) ⟨Or.inr rfl, Or.inr rfl, Or.inr rfl, Or.inr rfl, Or.inr rfl, trivial⟩ (w_t_re_part_60 rec hrec x1 x2 y0 v5 M hf hk)
  · replace hf := i_t hc hf
    refine y_iload_n (i := 3) (n := 37) ⟨dX6_part_36, rfl⟩ rfl ?_
    refine y_if_ne (t := 60) (n := 40) ⟨dX6_part_37, rfl, rfl⟩ (fun (hc : ¬ (y0 = 0)) => ?_) (fun (hc : y0 = 0) => ?_)
    · replace hf := i_f hc hf
      exact y_wk (L2 := [some (.ref 32), some (.int x1), some (.int x2), some (.int y0), some (.int v5)]) ⟨Or.inr rfl, Or.inr rfl, Or.inr rfl, Or.inr rfl, Or.inr rfl, trivial⟩ (w_t_re_part_60 rec hrec x1 x2 y0 v5 M hf hk)
    · replace hf := i_t hc hf
      refine y_iload (i := 4) (n := 42) ⟨dX6_part_40, rfl⟩ rfl ?_
      refine y_iconst (n := 43) (v := (-1)) ⟨dX6_part_42, rfl⟩ ki_m1 ?_
      refine y_icmp_ne (t := 60) (n := 46) ⟨dX6_part_43, rfl, rfl⟩ (fun (hc : ¬ (v5 = (-1))) => ?_) (fun (hc : v5 = (-1)) => ?_)
      · replace hf := i_f hc hf
        exact y_wk (L2 := [some (.ref 32), some (.int x1), some (.int x2), some (.int y0), some (.int v5)]) ⟨Or.inr rfl, Or.inr rfl, Or.inr rfl, Or.inr rfl, Or.inr rfl, trivial⟩ (w_t_re_part_60 rec hrec x1 x2 y0 v5 M hf hk)
      · replace hf := i_t hc hf
        refine y_aload_n (i := 0) (n := 47) ⟨dX6_part_46, rfl⟩ rfl ?_
        refine y_getI (n := 50) ⟨dX6_part_47, rfl⟩ kfX6_53 l_32 rfl ?_
        refine y_iconst (n := 51) (v := 2) ⟨dX6_part_50, rfl⟩ ki_2 ?_
        refine y_icmp_eq (t := 60) (n := 54) ⟨dX6_part_51, rfl, rfl⟩ (fun (hc : (gI M 32 3) = 2) => ?_) (fun (hc : ¬ ((gI M 32 3) = 2)) => ?_)
        · replace hf := i_t hc hf
          exact y_wk (L2 := [some (.ref 32), some (.int x1), some (.int x2), some (.int y0), some (.int v5)]) ⟨Or.inr rfl, Or.inr rfl, Or.inr rfl, Or.inr rfl, Or.inr rfl, trivial⟩ (w_t_re_part_60 rec hrec x1 x2 y0 v5 M hf hk)
        · replace hf := i_f hc hf
          refine y_aload_n (i := 0) (n := 55) ⟨dX6_part_54, rfl⟩ rfl ?_
          refine y_iconst (n := 56) (v := 1) ⟨dX6_part_55, rfl⟩ ki_1 ?_
          refine c_re_wrong 1 M (n := 59) ⟨dX6_part_56, rfl⟩ klX6_81 rfl (by omega) (Nat.le_of_ble_eq_true rfl) rfl rfl ?_
          cases hf
          exact y_ireturn (n := 60) ⟨dX6_part_59, rfl⟩ rfl (bI_n _) hk
theorem ok_re_part {dr : Nat} (rec : (Int32 → dM → Option (Bool × dM))) (hrec : ∀ (a1 : Int32) (M : dM) (o : (Bool × dM)), rec a1 M = some o → mO mX6_part dr [.ref 32, .int a1] M (some (.int (bI o.1))) o.2) (a1 : Int32) (M : dM) {o : (Bool × dM)} (hf : f_re_part rec a1 M = some o) : mO mX6_part (dr + 10) [.ref 32, .int a1] M (some (.int (bI o.1))) o.2 := by
  refine y_ok (by decide +kernel) (Nat.le_of_ble_eq_true rfl) (L0 := [some (.ref 32), some (.int a1), none, none, none]) rfl ?_
  have hk := mR_mQ (some (.int (bI o.1))) o.2
  generalize mQ _ _ = Q at hk ⊢
  unfold f_re_part at hf
  refine y_aload_n (i := 0) (n := 1) ⟨dX6_part_0, rfl⟩ rfl ?_
  refine y_bipush (n := 3) (v := 40) ⟨dX6_part_1, rfl⟩ kb_40 ?_
  obtain ⟨v1, hv2, hf⟩ := b_s hf
  refine c_re_isSign 40 M (n := 6) ⟨dX6_part_3, rfl⟩ klX6_147 hv2 (by omega) (Nat.le_of_ble_eq_true rfl) rfl rfl ?_
  refine y_istore_n (i := 2) (n := 7) (L2 := [some (.ref 32), some (.int a1), some (.int (bI v1)), none, none]) ⟨dX6_part_6, rfl⟩ (by decide) rfl rfl ?_
  refine y_aload_n (i := 0) (n := 8) ⟨dX6_part_7, rfl⟩ rfl ?_
  refine y_ldcS (s := 6) (n := 10) ⟨dX6_part_8, rfl⟩ (own := "AxesAtDawn$Reader") (tx := "not") rfl rfl ?_
  obtain ⟨v3, hv4, hf⟩ := b_s hf
  refine c_re_wordIn 6 M (n := 13) ⟨dX6_part_10, rfl⟩ klX6_58 hv4 (by omega) (Nat.le_of_ble_eq_true rfl) rfl rfl ?_
  refine y_if_ne (t := 20) (n := 16) ⟨dX6_part_13, rfl, rfl⟩ (fun (hc : ¬ (v3 = 0)) => ?_) (fun (hc : v3 = 0) => ?_)
  · replace hf := i_f hc hf
    refine y_iconst (n := 21) (v := 0) ⟨dX6_part_20, rfl⟩ ki_0 ?_
    exact y_wk (L2 := [some (.ref 32), some (.int a1), some (.int (bI v1)), none, none]) ⟨Or.inr rfl, Or.inr rfl, Or.inr rfl, Or.inr rfl, Or.inr rfl, trivial⟩ (w_t_re_part_21 rec hrec a1 (bI v1) 0 M hf hk)
  · replace hf := i_t hc hf
    refine y_iconst (n := 17) (v := 1) ⟨dX6_part_16, rfl⟩ ki_1 ?_
    refine y_goto (t := 21) ⟨dX6_part_17, rfl, rfl⟩ ?_
    exact y_wk (L2 := [some (.ref 32), some (.int a1), some (.int (bI v1)), none, none]) ⟨Or.inr rfl, Or.inr rfl, Or.inr rfl, Or.inr rfl, Or.inr rfl, trivial⟩ (w_t_re_part_21 rec hrec a1 (bI v1) 1 M hf hk)
noncomputable def fr_re_part : Nat → Int32 → dM → Option (Bool × dM)
  | 0 => fun _ _ => none
  | n + 1 => f_re_part (fr_re_part n)
theorem okr_re_part : ∀ (n : Nat) (a1 : Int32) (M : dM) (o : (Bool × dM)), fr_re_part n a1 M = some o → mO mX6_part (10 * n) [.ref 32, .int a1] M (some (.int (bI o.1))) o.2
  | 0, _, _, _, h => by cases h
  | n + 1, a1, M, o, h => by
    have e : 10 * (n + 1) = 10 * n + 10 := by omega
    rw [e]
    exact ok_re_part (fr_re_part n) (okr_re_part n) a1 M h
theorem c_re_part (a1 : Int32) (M : dM) {o : (Bool × dM)} {y : mz_M} {d : Nat} {Q : mz_P} {pc n i : Nat} {L : List (Option Value)} {st : List Value} (h : mz_d y.2.1 pc n 3 (.invokevirtual i)) (hl : mz_ml y.1.cls i yX6_part) (hf : fr_re_part 8 a1 M = some o) (hd : 80 + 1 ≤ d) (hsm : (st.map (fun v => v.category)).sum ≤ 8) (hLr : mz_rL 133 L = true) (hSr : mz_rS 133 st = true) (kk : mW y d Q n L (.int (bI o.1) :: st) o.2) : mW y d Q pc L (.int a1 :: .ref 32 :: st) M :=
  y_callV kmX6_part kvX6_part l_32 (by decide +kernel) (by decide +kernel) h hl (okr_re_part 8 a1 M o hf) (vs := [.int a1]) rfl rfl hd hsm hLr hSr kk
theorem c_re_product8 (a1 : Int32) (M : dM) {o : (Bool × dM)} {y : mz_M} {d : Nat} {Q : mz_P} {pc n i : Nat} {L : List (Option Value)} {st : List Value} (h : mz_d y.2.1 pc n 3 (.invokevirtual i)) (hl : mz_ml y.1.cls i yX6_product) (hf : f_re_product (fr_re_part 8) a1 M = some o) (hd : (80 + 6) + 1 ≤ d) (hsm : (st.map (fun v => v.category)).sum ≤ 8) (hLr : mz_rL 133 L = true) (hSr : mz_rS 133 st = true) (kk : mW y d Q n L (.int (bI o.1) :: st) o.2) : mW y d Q pc L (.int a1 :: .ref 32 :: st) M :=
  y_callV kmX6_product kvX6_product l_32 (by decide +kernel) (by decide +kernel) h hl (ok_re_product (dr := 80) (fr_re_part 8) (okr_re_part 8) a1 M hf) (vs := [.int a1]) rfl rfl hd hsm hLr hSr kk
theorem c_re_sum8 (a1 : Int32) (M : dM) {o : (Bool × dM)} {y : mz_M} {d : Nat} {Q : mz_P} {pc n i : Nat} {L : List (Option Value)} {st : List Value} (h : mz_d y.2.1 pc n 3 (.invokevirtual i)) (hl : mz_ml y.1.cls i yX6_sum) (hf : f_re_sum (fr_re_part 8) a1 M = some o) (hd : (80 + 7) + 1 ≤ d) (hsm : (st.map (fun v => v.category)).sum ≤ 8) (hLr : mz_rL 133 L = true) (hSr : mz_rS 133 st = true) (kk : mW y d Q n L (.int (bI o.1) :: st) o.2) : mW y d Q pc L (.int a1 :: .ref 32 :: st) M :=
  y_callV kmX6_sum kvX6_sum l_32 (by decide +kernel) (by decide +kernel) h hl (ok_re_sum (dr := 80) (fr_re_part 8) (okr_re_part 8) a1 M hf) (vs := [.int a1]) rfl rfl hd hsm hLr hSr kk
theorem c_re_comparison8 (a1 : Int32) (M : dM) {o : (Bool × dM)} {y : mz_M} {d : Nat} {Q : mz_P} {pc n i : Nat} {L : List (Option Value)} {st : List Value} (h : mz_d y.2.1 pc n 3 (.invokevirtual i)) (hl : mz_ml y.1.cls i yX6_comparison) (hf : f_re_comparison (fr_re_part 8) a1 M = some o) (hd : (80 + 8) + 1 ≤ d) (hsm : (st.map (fun v => v.category)).sum ≤ 8) (hLr : mz_rL 133 L = true) (hSr : mz_rS 133 st = true) (kk : mW y d Q n L (.int (bI o.1) :: st) o.2) : mW y d Q pc L (.int a1 :: .ref 32 :: st) M :=
  y_callV kmX6_comparison kvX6_comparison l_32 (by decide +kernel) (by decide +kernel) h hl (ok_re_comparison (dr := 80) (fr_re_part 8) (okr_re_part 8) a1 M hf) (vs := [.int a1]) rfl rfl hd hsm hLr hSr kk
theorem c_re_expression8 (a1 : Int32) (M : dM) {o : (Bool × dM)} {y : mz_M} {d : Nat} {Q : mz_P} {pc n i : Nat} {L : List (Option Value)} {st : List Value} (h : mz_d y.2.1 pc n 3 (.invokevirtual i)) (hl : mz_ml y.1.cls i yX6_expression) (hf : f_re_expression (fr_re_part 8) a1 M = some o) (hd : (80 + 9) + 1 ≤ d) (hsm : (st.map (fun v => v.category)).sum ≤ 8) (hLr : mz_rL 133 L = true) (hSr : mz_rS 133 st = true) (kk : mW y d Q n L (.int (bI o.1) :: st) o.2) : mW y d Q pc L (.int a1 :: .ref 32 :: st) M :=
  y_callV kmX6_expression kvX6_expression l_32 (by decide +kernel) (by decide +kernel) h hl (ok_re_expression (dr := 80) (fr_re_part 8) (okr_re_part 8) a1 M hf) (vs := [.int a1]) rfl rfl hd hsm hLr hSr kk
noncomputable def f_re_wholeE (a1 : Int32) (s2 : Nat) (M : dM) : Option (Bool × dM) :=
  gd (vp_in a1 21) <|
  (f_re_expression (fr_re_part 8) 0 (sI (sW M s2) 36 a1.toNatClampNeg (gI (sW M s2) 34 1))).bind fun q2 =>
  if q2.1 = true then
    (f_re_takeSign 59 (sI q2.2 37 a1.toNatClampNeg (gI q2.2 34 1))).bind fun q4 =>
    some (q4.1, q4.2)
  else
    some (false, q2.2)
theorem ok_re_wholeE (a1 : Int32) (s2 : Nat) (M : dM) {o : (Bool × dM)} (hf : f_re_wholeE a1 s2 M = some o) : mO mX6_wholeE 90 [.ref 32, .int a1, .ref (1000000 + s2)] M (some (.int (bI o.1))) o.2 := by
  refine y_ok (by decide +kernel) (Nat.le_of_ble_eq_true rfl) (L0 := [some (.ref 32), some (.int a1), some (.ref (1000000 + s2))]) rfl ?_
  have hk := mR_mQ (some (.int (bI o.1))) o.2
  generalize mQ _ _ = Q at hk ⊢
  unfold f_re_wholeE at hf
  refine y_aload_n (i := 0) (n := 1) ⟨dX6_wholeE_0, rfl⟩ rfl ?_
  refine y_aload_n (i := 2) (n := 2) ⟨dX6_wholeE_1, rfl⟩ rfl ?_
  refine y_putW (n := 5) ⟨dX6_wholeE_2, rfl⟩ kfX6_24 ?_
  refine y_aload_n (i := 0) (n := 6) ⟨dX6_wholeE_5, rfl⟩ rfl ?_
  refine y_getR (n := 9) ⟨dX6_wholeE_6, rfl⟩ kfX6_18 l_32 rfl r_32_2 ?_
  refine y_getR (n := 12) ⟨dX6_wholeE_9, rfl⟩ kfX6_124 l_34 rfl r_34_2 ?_
  refine y_iload_n (i := 1) (n := 13) ⟨dX6_wholeE_12, rfl⟩ rfl ?_
  refine y_aload_n (i := 0) (n := 14) ⟨dX6_wholeE_13, rfl⟩ rfl ?_
  refine y_getR (n := 17) ⟨dX6_wholeE_14, rfl⟩ kfX6_18 l_32 rfl r_32_2 ?_
  refine y_getI (n := 20) ⟨dX6_wholeE_17, rfl⟩ kfX6_128 l_34 rfl ?_
  obtain ⟨hg1, hf⟩ := g_s hf
  refine y_iastore (n := 21) ⟨dX6_wholeE_20, rfl⟩ l_36 hg1 ?_
  refine y_aload_n (i := 0) (n := 22) ⟨dX6_wholeE_21, rfl⟩ rfl ?_
  refine y_iconst (n := 23) (v := 0) ⟨dX6_wholeE_22, rfl⟩ ki_0 ?_
  obtain ⟨q2, hv3, hf⟩ := b_s hf
  refine c_re_expression8 0 (sI (sW M s2) 36 a1.toNatClampNeg (gI (sW M s2) 34 1)) (n := 26) ⟨dX6_wholeE_23, rfl⟩ klX6_129 hv3 (by decide) (Nat.le_of_ble_eq_true rfl) (rL_c rfl (rL_c rfl (rL_c (ro_s _ _) rfl))) rfl ?_
  refine y_if_ne (t := 31) (n := 29) ⟨dX6_wholeE_26, rfl, rfl⟩ (fun h0 => ?_) (fun h0 => ?_)
  · have hc := bI_1 h0
    replace hf := i_t hc hf
    refine y_aload_n (i := 0) (n := 32) ⟨dX6_wholeE_31, rfl⟩ rfl ?_
    refine y_getR (n := 35) ⟨dX6_wholeE_32, rfl⟩ kfX6_18 l_32 rfl r_32_2 ?_
    refine y_getR (n := 38) ⟨dX6_wholeE_35, rfl⟩ kfX6_132 l_34 rfl r_34_3 ?_
    refine y_iload_n (i := 1) (n := 39) ⟨dX6_wholeE_38, rfl⟩ rfl ?_
    refine y_aload_n (i := 0) (n := 40) ⟨dX6_wholeE_39, rfl⟩ rfl ?_
    refine y_getR (n := 43) ⟨dX6_wholeE_40, rfl⟩ kfX6_18 l_32 rfl r_32_2 ?_
    refine y_getI (n := 46) ⟨dX6_wholeE_43, rfl⟩ kfX6_128 l_34 rfl ?_
    refine y_iastore (n := 47) ⟨dX6_wholeE_46, rfl⟩ l_37 hg1 ?_
    refine y_aload_n (i := 0) (n := 48) ⟨dX6_wholeE_47, rfl⟩ rfl ?_
    refine y_bipush (n := 50) (v := 59) ⟨dX6_wholeE_48, rfl⟩ kb_59 ?_
    obtain ⟨q4, hv5, hf⟩ := b_s hf
    refine c_re_takeSign 59 (sI q2.2 37 a1.toNatClampNeg (gI q2.2 34 1)) (n := 53) ⟨dX6_wholeE_50, rfl⟩ klX6_115 hv5 (by decide) (Nat.le_of_ble_eq_true rfl) (rL_c rfl (rL_c rfl (rL_c (ro_s _ _) rfl))) rfl ?_
    cases hf
    exact y_ireturn (n := 54) ⟨dX6_wholeE_53, rfl⟩ rfl (bI_n _) hk
  · have hc := bI_0 h0
    replace hf := i_f hc hf
    refine y_iconst (n := 30) (v := 0) ⟨dX6_wholeE_29, rfl⟩ ki_0 ?_
    cases hf
    exact y_ireturn (n := 31) ⟨dX6_wholeE_30, rfl⟩ rfl rfl hk
theorem c_re_wholeE (a1 : Int32) (s2 : Nat) (M : dM) {o : (Bool × dM)} {y : mz_M} {d : Nat} {Q : mz_P} {pc n i : Nat} {L : List (Option Value)} {st : List Value} (h : mz_d y.2.1 pc n 3 (.invokevirtual i)) (hl : mz_ml y.1.cls i yX6_wholeE) (hf : f_re_wholeE a1 s2 M = some o) (hd : 90 + 1 ≤ d) (hsm : (st.map (fun v => v.category)).sum ≤ 8) (hLr : mz_rL 133 L = true) (hSr : mz_rS 133 st = true) (kk : mW y d Q n L (.int (bI o.1) :: st) o.2) : mW y d Q pc L (.ref (1000000 + s2) :: .int a1 :: .ref 32 :: st) M :=
  y_callV kmX6_wholeE kvX6_wholeE l_32 (by decide +kernel) (by decide +kernel) h hl (ok_re_wholeE a1 s2 M hf) (vs := [.int a1, .ref (1000000 + s2)]) rfl rfl hd hsm hLr hSr kk
noncomputable def f_re_enoughLine (M : dM) : Option (Bool × dM) :=
  (f_la_isTold_34 20 M).bind fun v1 =>
  if v1 = true then
    some (((f_re_wrong 3 M).1), (f_re_wrong 3 M).2)
  else
    (f_re_advance M).bind fun q3 =>
    (f_re_takeWord 3 q3).bind fun q5 =>
    if q5.1 = true then
      (f_re_wholeE 20 1 q5.2).bind fun q7 =>
      if q7.1 = true then
        some (true, q7.2)
      else
        some (false, q7.2)
    else
      some (false, q5.2)
theorem ok_re_enoughLine  (M : dM) {o : (Bool × dM)} (hf : f_re_enoughLine M = some o) : mO mX6_enoughLine 91 [.ref 32] M (some (.int (bI o.1))) o.2 := by
  refine y_ok (by decide +kernel) (Nat.le_of_ble_eq_true rfl) (L0 := [some (.ref 32)]) rfl ?_
  have hk := mR_mQ (some (.int (bI o.1))) o.2
  generalize mQ _ _ = Q at hk ⊢
  unfold f_re_enoughLine at hf
  refine y_aload_n (i := 0) (n := 1) ⟨dX6_enoughLine_0, rfl⟩ rfl ?_
  refine y_getR (n := 4) ⟨dX6_enoughLine_1, rfl⟩ kfX6_18 l_32 rfl r_32_2 ?_
  refine y_bipush (n := 6) (v := 20) ⟨dX6_enoughLine_4, rfl⟩ kb_20 ?_
  obtain ⟨v1, hv2, hf⟩ := b_s hf
  refine c_la_isTold_34 20 M (n := 9) ⟨dX6_enoughLine_6, rfl⟩ klX6_107 hv2 (by decide) (Nat.le_of_ble_eq_true rfl) rfl rfl ?_
  refine y_if_eq (t := 18) (n := 12) ⟨dX6_enoughLine_9, rfl, rfl⟩ (fun h0 => ?_) (fun h0 => ?_)
  · have hc := bI_0 h0
    replace hf := i_f hc hf
    refine y_aload_n (i := 0) (n := 19) ⟨dX6_enoughLine_18, rfl⟩ rfl ?_
    obtain ⟨q3, hv4, hf⟩ := b_s hf
    refine c_re_advance M (n := 22) ⟨dX6_enoughLine_19, rfl⟩ klX6_50 hv4 (by decide) (Nat.le_of_ble_eq_true rfl) rfl rfl ?_
    refine y_aload_n (i := 0) (n := 23) ⟨dX6_enoughLine_22, rfl⟩ rfl ?_
    refine y_ldcS (s := 3) (n := 25) ⟨dX6_enoughLine_23, rfl⟩ (own := "AxesAtDawn$Reader") (tx := "when") rfl rfl ?_
    obtain ⟨q5, hv6, hf⟩ := b_s hf
    refine c_re_takeWord 3 q3 (n := 28) ⟨dX6_enoughLine_25, rfl⟩ klX6_90 hv6 (by decide) (Nat.le_of_ble_eq_true rfl) rfl rfl ?_
    refine y_if_eq (t := 46) (n := 31) ⟨dX6_enoughLine_28, rfl, rfl⟩ (fun h0 => ?_) (fun h0 => ?_)
    · have hc := bI_0 h0
      replace hf := i_f hc hf
      refine y_iconst (n := 47) (v := 0) ⟨dX6_enoughLine_46, rfl⟩ ki_0 ?_
      cases hf
      exact y_ireturn (n := 48) ⟨dX6_enoughLine_47, rfl⟩ rfl rfl hk
    · have hc := bI_1 h0
      replace hf := i_t hc hf
      refine y_aload_n (i := 0) (n := 32) ⟨dX6_enoughLine_31, rfl⟩ rfl ?_
      refine y_bipush (n := 34) (v := 20) ⟨dX6_enoughLine_32, rfl⟩ kb_20 ?_
      refine y_ldcS (s := 1) (n := 36) ⟨dX6_enoughLine_34, rfl⟩ (own := "AxesAtDawn$Reader") (tx := "day finds barred odd pairs most dawns papers") rfl rfl ?_
      obtain ⟨q7, hv8, hf⟩ := b_s hf
      refine c_re_wholeE 20 1 q5.2 (n := 39) ⟨dX6_enoughLine_36, rfl⟩ klX6_94 hv8 (by decide) (Nat.le_of_ble_eq_true rfl) rfl rfl ?_
      refine y_if_eq (t := 46) (n := 42) ⟨dX6_enoughLine_39, rfl, rfl⟩ (fun h0 => ?_) (fun h0 => ?_)
      · have hc := bI_0 h0
        replace hf := i_f hc hf
        refine y_iconst (n := 47) (v := 0) ⟨dX6_enoughLine_46, rfl⟩ ki_0 ?_
        cases hf
        exact y_ireturn (n := 48) ⟨dX6_enoughLine_47, rfl⟩ rfl rfl hk
      · have hc := bI_1 h0
        replace hf := i_t hc hf
        refine y_iconst (n := 43) (v := 1) ⟨dX6_enoughLine_42, rfl⟩ ki_1 ?_
        refine y_goto (t := 47) ⟨dX6_enoughLine_43, rfl, rfl⟩ ?_
        cases hf
        exact y_ireturn (n := 48) ⟨dX6_enoughLine_47, rfl⟩ rfl rfl hk
  · have hc := bI_1 h0
    replace hf := i_t hc hf
    refine y_aload_n (i := 0) (n := 13) ⟨dX6_enoughLine_12, rfl⟩ rfl ?_
    refine y_iconst (n := 14) (v := 3) ⟨dX6_enoughLine_13, rfl⟩ ki_3 ?_
    refine c_re_wrong 3 M (n := 17) ⟨dX6_enoughLine_14, rfl⟩ klX6_81 rfl (by decide) (Nat.le_of_ble_eq_true rfl) rfl rfl ?_
    cases hf
    exact y_ireturn (n := 18) ⟨dX6_enoughLine_17, rfl⟩ rfl (bI_n _) hk
theorem c_re_enoughLine  (M : dM) {o : (Bool × dM)} {y : mz_M} {d : Nat} {Q : mz_P} {pc n i : Nat} {L : List (Option Value)} {st : List Value} (h : mz_d y.2.1 pc n 3 (.invokevirtual i)) (hl : mz_ml y.1.cls i yX6_enoughLine) (hf : f_re_enoughLine M = some o) (hd : 91 + 1 ≤ d) (hsm : (st.map (fun v => v.category)).sum ≤ 8) (hLr : mz_rL 133 L = true) (hSr : mz_rS 133 st = true) (kk : mW y d Q n L (.int (bI o.1) :: st) o.2) : mW y d Q pc L (.ref 32 :: st) M :=
  y_callV kmX6_enoughLine kvX6_enoughLine l_32 (by decide +kernel) (by decide +kernel) h hl (ok_re_enoughLine  M hf) (vs := []) rfl rfl hd hsm hLr hSr kk
noncomputable def f_re_isNumberUpTo (a1 : Int32) (M : dM) : (Bool × dM) :=
  if (gI M 32 3) = 2 then
    if (gI M 32 6) ≤ a1 then
      (true, M)
    else
      if ((f_re_wrong 4 M).1) = true then
        (true, (f_re_wrong 4 M).2)
      else
        (false, (f_re_wrong 4 M).2)
  else
    (((f_re_wrong 1 M).1), (f_re_wrong 1 M).2)
theorem ok_re_isNumberUpTo (a1 : Int32) (M : dM) {o : (Bool × dM)} (hf : f_re_isNumberUpTo a1 M = o) : mO mX6_isNumberUpTo 2 [.ref 32, .int a1] M (some (.int (bI o.1))) o.2 := by
  refine y_ok (by decide +kernel) (Nat.le_of_ble_eq_true rfl) (L0 := [some (.ref 32), some (.int a1)]) rfl ?_
  have hk := mR_mQ (some (.int (bI o.1))) o.2
  generalize mQ _ _ = Q at hk ⊢
  unfold f_re_isNumberUpTo at hf
  refine y_aload_n (i := 0) (n := 1) ⟨dX6_isNumberUpTo_0, rfl⟩ rfl ?_
  refine y_getI (n := 4) ⟨dX6_isNumberUpTo_1, rfl⟩ kfX6_53 l_32 rfl ?_
  refine y_iconst (n := 5) (v := 2) ⟨dX6_isNumberUpTo_4, rfl⟩ ki_2 ?_
  refine y_icmp_eq (t := 14) (n := 8) ⟨dX6_isNumberUpTo_5, rfl, rfl⟩ (fun (hc : (gI M 32 3) = 2) => ?_) (fun (hc : ¬ ((gI M 32 3) = 2)) => ?_)
  · replace hf := i_t hc hf
    refine y_aload_n (i := 0) (n := 15) ⟨dX6_isNumberUpTo_14, rfl⟩ rfl ?_
    refine y_getI (n := 18) ⟨dX6_isNumberUpTo_15, rfl⟩ kfX6_104 l_32 rfl ?_
    refine y_iload_n (i := 1) (n := 19) ⟨dX6_isNumberUpTo_18, rfl⟩ rfl ?_
    refine y_icmp_le (t := 30) (n := 22) ⟨dX6_isNumberUpTo_19, rfl, rfl⟩ (fun (hc : (gI M 32 6) ≤ a1) => ?_) (fun (hc : ¬ ((gI M 32 6) ≤ a1)) => ?_)
    · replace hf := i_t hc hf
      refine y_iconst (n := 31) (v := 1) ⟨dX6_isNumberUpTo_30, rfl⟩ ki_1 ?_
      refine y_goto (t := 35) ⟨dX6_isNumberUpTo_31, rfl, rfl⟩ ?_
      cases hf
      exact y_ireturn (n := 36) ⟨dX6_isNumberUpTo_35, rfl⟩ rfl rfl hk
    · replace hf := i_f hc hf
      refine y_aload_n (i := 0) (n := 23) ⟨dX6_isNumberUpTo_22, rfl⟩ rfl ?_
      refine y_iconst (n := 24) (v := 4) ⟨dX6_isNumberUpTo_23, rfl⟩ ki_4 ?_
      refine c_re_wrong 4 M (n := 27) ⟨dX6_isNumberUpTo_24, rfl⟩ klX6_81 rfl (by decide) (Nat.le_of_ble_eq_true rfl) rfl rfl ?_
      refine y_if_eq (t := 34) (n := 30) ⟨dX6_isNumberUpTo_27, rfl, rfl⟩ (fun h0 => ?_) (fun h0 => ?_)
      · have hc := bI_0 h0
        replace hf := i_f hc hf
        refine y_iconst (n := 35) (v := 0) ⟨dX6_isNumberUpTo_34, rfl⟩ ki_0 ?_
        cases hf
        exact y_ireturn (n := 36) ⟨dX6_isNumberUpTo_35, rfl⟩ rfl rfl hk
      · have hc := bI_1 h0
        replace hf := i_t hc hf
        refine y_iconst (n := 31) (v := 1) ⟨dX6_isNumberUpTo_30, rfl⟩ ki_1 ?_
        refine y_goto (t := 35) ⟨dX6_isNumberUpTo_31, rfl, rfl⟩ ?_
        cases hf
        exact y_ireturn (n := 36) ⟨dX6_isNumberUpTo_35, rfl⟩ rfl rfl hk
  · replace hf := i_f hc hf
    refine y_aload_n (i := 0) (n := 9) ⟨dX6_isNumberUpTo_8, rfl⟩ rfl ?_
    refine y_iconst (n := 10) (v := 1) ⟨dX6_isNumberUpTo_9, rfl⟩ ki_1 ?_
    refine c_re_wrong 1 M (n := 13) ⟨dX6_isNumberUpTo_10, rfl⟩ klX6_81 rfl (by decide) (Nat.le_of_ble_eq_true rfl) rfl rfl ?_
    cases hf
    exact y_ireturn (n := 14) ⟨dX6_isNumberUpTo_13, rfl⟩ rfl (bI_n _) hk
theorem c_re_isNumberUpTo (a1 : Int32) (M : dM) {o : (Bool × dM)} {y : mz_M} {d : Nat} {Q : mz_P} {pc n i : Nat} {L : List (Option Value)} {st : List Value} (h : mz_d y.2.1 pc n 3 (.invokevirtual i)) (hl : mz_ml y.1.cls i yX6_isNumberUpTo) (hf : f_re_isNumberUpTo a1 M = o) (hd : 2 + 1 ≤ d) (hsm : (st.map (fun v => v.category)).sum ≤ 8) (hLr : mz_rL 133 L = true) (hSr : mz_rS 133 st = true) (kk : mW y d Q n L (.int (bI o.1) :: st) o.2) : mW y d Q pc L (.int a1 :: .ref 32 :: st) M :=
  y_callV kmX6_isNumberUpTo kvX6_isNumberUpTo l_32 (by decide +kernel) (by decide +kernel) h hl (ok_re_isNumberUpTo a1 M hf) (vs := [.int a1]) rfl rfl hd hsm hLr hSr kk
noncomputable def f_re_farLine (M : dM) : Option (Bool × dM) :=
  if (gI M 32 9) = 0 then
    (f_re_advance (sI M 32 9 1)).bind fun q1 =>
    if ((f_re_isNumberUpTo 999 q1).1) = true then
      (f_re_advance (sI ((f_re_isNumberUpTo 999 q1).2) 34 7 (gI ((f_re_isNumberUpTo 999 q1).2) 32 6))).bind fun q4 =>
      (f_re_takeSign 59 q4).bind fun q6 =>
      some (q6.1, q6.2)
    else
      some (false, (f_re_isNumberUpTo 999 q1).2)
  else
    some (((f_re_wrong 3 M).1), (f_re_wrong 3 M).2)
theorem ok_re_farLine  (M : dM) {o : (Bool × dM)} (hf : f_re_farLine M = some o) : mO mX6_farLine 7 [.ref 32] M (some (.int (bI o.1))) o.2 := by
  refine y_ok (by decide +kernel) (Nat.le_of_ble_eq_true rfl) (L0 := [some (.ref 32)]) rfl ?_
  have hk := mR_mQ (some (.int (bI o.1))) o.2
  generalize mQ _ _ = Q at hk ⊢
  unfold f_re_farLine at hf
  refine y_aload_n (i := 0) (n := 1) ⟨dX6_farLine_0, rfl⟩ rfl ?_
  refine y_getI (n := 4) ⟨dX6_farLine_1, rfl⟩ kfX6_44 l_32 rfl ?_
  refine y_if_eq (t := 13) (n := 7) ⟨dX6_farLine_4, rfl, rfl⟩ (fun (hc : (gI M 32 9) = 0) => ?_) (fun (hc : ¬ ((gI M 32 9) = 0)) => ?_)
  · replace hf := i_t hc hf
    refine y_aload_n (i := 0) (n := 14) ⟨dX6_farLine_13, rfl⟩ rfl ?_
    refine y_iconst (n := 15) (v := 1) ⟨dX6_farLine_14, rfl⟩ ki_1 ?_
    refine y_putZ (n := 18) ⟨dX6_farLine_15, rfl⟩ kfX6_44 l_32 (by decide +kernel) rfl (by decide) ?_
    refine y_aload_n (i := 0) (n := 19) ⟨dX6_farLine_18, rfl⟩ rfl ?_
    obtain ⟨q1, hv2, hf⟩ := b_s hf
    refine c_re_advance (sI M 32 9 1) (n := 22) ⟨dX6_farLine_19, rfl⟩ klX6_50 hv2 (by decide) (Nat.le_of_ble_eq_true rfl) rfl rfl ?_
    refine y_aload_n (i := 0) (n := 23) ⟨dX6_farLine_22, rfl⟩ rfl ?_
    refine y_sipush (n := 26) (v := 999) ⟨dX6_farLine_23, rfl⟩ ks_999 ?_
    refine c_re_isNumberUpTo 999 q1 (n := 29) ⟨dX6_farLine_26, rfl⟩ klX6_101 rfl (by decide) (Nat.le_of_ble_eq_true rfl) rfl rfl ?_
    refine y_if_ne (t := 34) (n := 32) ⟨dX6_farLine_29, rfl, rfl⟩ (fun h0 => ?_) (fun h0 => ?_)
    · have hc := bI_1 h0
      replace hf := i_t hc hf
      refine y_aload_n (i := 0) (n := 35) ⟨dX6_farLine_34, rfl⟩ rfl ?_
      refine y_getR (n := 38) ⟨dX6_farLine_35, rfl⟩ kfX6_18 l_32 rfl r_32_2 ?_
      refine y_aload_n (i := 0) (n := 39) ⟨dX6_farLine_38, rfl⟩ rfl ?_
      refine y_getI (n := 42) ⟨dX6_farLine_39, rfl⟩ kfX6_104 l_32 rfl ?_
      refine y_putI (n := 45) ⟨dX6_farLine_42, rfl⟩ kfX6_119 l_34 (by decide +kernel) rfl ?_
      refine y_aload_n (i := 0) (n := 46) ⟨dX6_farLine_45, rfl⟩ rfl ?_
      obtain ⟨q4, hv5, hf⟩ := b_s hf
      refine c_re_advance (sI ((f_re_isNumberUpTo 999 q1).2) 34 7 (gI ((f_re_isNumberUpTo 999 q1).2) 32 6)) (n := 49) ⟨dX6_farLine_46, rfl⟩ klX6_50 hv5 (by decide) (Nat.le_of_ble_eq_true rfl) rfl rfl ?_
      refine y_aload_n (i := 0) (n := 50) ⟨dX6_farLine_49, rfl⟩ rfl ?_
      refine y_bipush (n := 52) (v := 59) ⟨dX6_farLine_50, rfl⟩ kb_59 ?_
      obtain ⟨q6, hv7, hf⟩ := b_s hf
      refine c_re_takeSign 59 q4 (n := 55) ⟨dX6_farLine_52, rfl⟩ klX6_115 hv7 (by decide) (Nat.le_of_ble_eq_true rfl) rfl rfl ?_
      cases hf
      exact y_ireturn (n := 56) ⟨dX6_farLine_55, rfl⟩ rfl (bI_n _) hk
    · have hc := bI_0 h0
      replace hf := i_f hc hf
      refine y_iconst (n := 33) (v := 0) ⟨dX6_farLine_32, rfl⟩ ki_0 ?_
      cases hf
      exact y_ireturn (n := 34) ⟨dX6_farLine_33, rfl⟩ rfl rfl hk
  · replace hf := i_f hc hf
    refine y_aload_n (i := 0) (n := 8) ⟨dX6_farLine_7, rfl⟩ rfl ?_
    refine y_iconst (n := 9) (v := 3) ⟨dX6_farLine_8, rfl⟩ ki_3 ?_
    refine c_re_wrong 3 M (n := 12) ⟨dX6_farLine_9, rfl⟩ klX6_81 rfl (by decide) (Nat.le_of_ble_eq_true rfl) rfl rfl ?_
    cases hf
    exact y_ireturn (n := 13) ⟨dX6_farLine_12, rfl⟩ rfl (bI_n _) hk
theorem c_re_farLine  (M : dM) {o : (Bool × dM)} {y : mz_M} {d : Nat} {Q : mz_P} {pc n i : Nat} {L : List (Option Value)} {st : List Value} (h : mz_d y.2.1 pc n 3 (.invokevirtual i)) (hl : mz_ml y.1.cls i yX6_farLine) (hf : f_re_farLine M = some o) (hd : 7 + 1 ≤ d) (hsm : (st.map (fun v => v.category)).sum ≤ 8) (hLr : mz_rL 133 L = true) (hSr : mz_rS 133 st = true) (kk : mW y d Q n L (.int (bI o.1) :: st) o.2) : mW y d Q pc L (.ref 32 :: st) M :=
  y_callV kmX6_farLine kvX6_farLine l_32 (by decide +kernel) (by decide +kernel) h hl (ok_re_farLine  M hf) (vs := []) rfl rfl hd hsm hLr hSr kk
noncomputable def f_re_sinceLine (M : dM) : Option (Bool × dM) :=
  if (gI M 32 8) = 0 then
    (f_re_advance (sI M 32 8 1)).bind fun q1 =>
    if ((f_re_isNumberUpTo 9 q1).1) = true then
      (f_re_advance (sI ((f_re_isNumberUpTo 9 q1).2) 34 6 (gI ((f_re_isNumberUpTo 9 q1).2) 32 6))).bind fun q4 =>
      (f_re_takeSign 59 q4).bind fun q6 =>
      some (q6.1, q6.2)
    else
      some (false, (f_re_isNumberUpTo 9 q1).2)
  else
    some (((f_re_wrong 3 M).1), (f_re_wrong 3 M).2)
theorem ok_re_sinceLine  (M : dM) {o : (Bool × dM)} (hf : f_re_sinceLine M = some o) : mO mX6_sinceLine 7 [.ref 32] M (some (.int (bI o.1))) o.2 := by
  refine y_ok (by decide +kernel) (Nat.le_of_ble_eq_true rfl) (L0 := [some (.ref 32)]) rfl ?_
  have hk := mR_mQ (some (.int (bI o.1))) o.2
  generalize mQ _ _ = Q at hk ⊢
  unfold f_re_sinceLine at hf
  refine y_aload_n (i := 0) (n := 1) ⟨dX6_sinceLine_0, rfl⟩ rfl ?_
  refine y_getI (n := 4) ⟨dX6_sinceLine_1, rfl⟩ kfX6_40 l_32 rfl ?_
  refine y_if_eq (t := 13) (n := 7) ⟨dX6_sinceLine_4, rfl, rfl⟩ (fun (hc : (gI M 32 8) = 0) => ?_) (fun (hc : ¬ ((gI M 32 8) = 0)) => ?_)
  · replace hf := i_t hc hf
    refine y_aload_n (i := 0) (n := 14) ⟨dX6_sinceLine_13, rfl⟩ rfl ?_
    refine y_iconst (n := 15) (v := 1) ⟨dX6_sinceLine_14, rfl⟩ ki_1 ?_
    refine y_putZ (n := 18) ⟨dX6_sinceLine_15, rfl⟩ kfX6_40 l_32 (by decide +kernel) rfl (by decide) ?_
    refine y_aload_n (i := 0) (n := 19) ⟨dX6_sinceLine_18, rfl⟩ rfl ?_
    obtain ⟨q1, hv2, hf⟩ := b_s hf
    refine c_re_advance (sI M 32 8 1) (n := 22) ⟨dX6_sinceLine_19, rfl⟩ klX6_50 hv2 (by decide) (Nat.le_of_ble_eq_true rfl) rfl rfl ?_
    refine y_aload_n (i := 0) (n := 23) ⟨dX6_sinceLine_22, rfl⟩ rfl ?_
    refine y_bipush (n := 25) (v := 9) ⟨dX6_sinceLine_23, rfl⟩ kb_9 ?_
    refine c_re_isNumberUpTo 9 q1 (n := 28) ⟨dX6_sinceLine_25, rfl⟩ klX6_101 rfl (by decide) (Nat.le_of_ble_eq_true rfl) rfl rfl ?_
    refine y_if_ne (t := 33) (n := 31) ⟨dX6_sinceLine_28, rfl, rfl⟩ (fun h0 => ?_) (fun h0 => ?_)
    · have hc := bI_1 h0
      replace hf := i_t hc hf
      refine y_aload_n (i := 0) (n := 34) ⟨dX6_sinceLine_33, rfl⟩ rfl ?_
      refine y_getR (n := 37) ⟨dX6_sinceLine_34, rfl⟩ kfX6_18 l_32 rfl r_32_2 ?_
      refine y_aload_n (i := 0) (n := 38) ⟨dX6_sinceLine_37, rfl⟩ rfl ?_
      refine y_getI (n := 41) ⟨dX6_sinceLine_38, rfl⟩ kfX6_104 l_32 rfl ?_
      refine y_putI (n := 44) ⟨dX6_sinceLine_41, rfl⟩ kfX6_112 l_34 (by decide +kernel) rfl ?_
      refine y_aload_n (i := 0) (n := 45) ⟨dX6_sinceLine_44, rfl⟩ rfl ?_
      obtain ⟨q4, hv5, hf⟩ := b_s hf
      refine c_re_advance (sI ((f_re_isNumberUpTo 9 q1).2) 34 6 (gI ((f_re_isNumberUpTo 9 q1).2) 32 6)) (n := 48) ⟨dX6_sinceLine_45, rfl⟩ klX6_50 hv5 (by decide) (Nat.le_of_ble_eq_true rfl) rfl rfl ?_
      refine y_aload_n (i := 0) (n := 49) ⟨dX6_sinceLine_48, rfl⟩ rfl ?_
      refine y_bipush (n := 51) (v := 59) ⟨dX6_sinceLine_49, rfl⟩ kb_59 ?_
      obtain ⟨q6, hv7, hf⟩ := b_s hf
      refine c_re_takeSign 59 q4 (n := 54) ⟨dX6_sinceLine_51, rfl⟩ klX6_115 hv7 (by decide) (Nat.le_of_ble_eq_true rfl) rfl rfl ?_
      cases hf
      exact y_ireturn (n := 55) ⟨dX6_sinceLine_54, rfl⟩ rfl (bI_n _) hk
    · have hc := bI_0 h0
      replace hf := i_f hc hf
      refine y_iconst (n := 32) (v := 0) ⟨dX6_sinceLine_31, rfl⟩ ki_0 ?_
      cases hf
      exact y_ireturn (n := 33) ⟨dX6_sinceLine_32, rfl⟩ rfl rfl hk
  · replace hf := i_f hc hf
    refine y_aload_n (i := 0) (n := 8) ⟨dX6_sinceLine_7, rfl⟩ rfl ?_
    refine y_iconst (n := 9) (v := 3) ⟨dX6_sinceLine_8, rfl⟩ ki_3 ?_
    refine c_re_wrong 3 M (n := 12) ⟨dX6_sinceLine_9, rfl⟩ klX6_81 rfl (by decide) (Nat.le_of_ble_eq_true rfl) rfl rfl ?_
    cases hf
    exact y_ireturn (n := 13) ⟨dX6_sinceLine_12, rfl⟩ rfl (bI_n _) hk
theorem c_re_sinceLine  (M : dM) {o : (Bool × dM)} {y : mz_M} {d : Nat} {Q : mz_P} {pc n i : Nat} {L : List (Option Value)} {st : List Value} (h : mz_d y.2.1 pc n 3 (.invokevirtual i)) (hl : mz_ml y.1.cls i yX6_sinceLine) (hf : f_re_sinceLine M = some o) (hd : 7 + 1 ≤ d) (hsm : (st.map (fun v => v.category)).sum ≤ 8) (hLr : mz_rL 133 L = true) (hSr : mz_rS 133 st = true) (kk : mW y d Q n L (.int (bI o.1) :: st) o.2) : mW y d Q pc L (.ref 32 :: st) M :=
  y_callV kmX6_sinceLine kvX6_sinceLine l_32 (by decide +kernel) (by decide +kernel) h hl (ok_re_sinceLine  M hf) (vs := []) rfl rfl hd hsm hLr hSr kk
noncomputable def f_re_ruleLine (M : dM) : Option (Bool × dM) :=
  (f_re_advance M).bind fun q1 =>
  if ((f_re_isNumberUpTo 7 q1).1) = true then
    (f_la_isTold_34 (12 + (gI ((f_re_isNumberUpTo 7 q1).2) 32 6)) ((f_re_isNumberUpTo 7 q1).2)).bind fun v4 =>
    if v4 = true then
      some (((f_re_wrong 3 ((f_re_isNumberUpTo 7 q1).2)).1), (f_re_wrong 3 ((f_re_isNumberUpTo 7 q1).2)).2)
    else
      (f_re_advance ((f_re_isNumberUpTo 7 q1).2)).bind fun q6 =>
      (f_re_takeWord 4 q6).bind fun q8 =>
      if q8.1 = true then
        (f_re_wholeE (12 + (gI ((f_re_isNumberUpTo 7 q1).2) 32 6)) 0 q8.2).bind fun q10 =>
        if q10.1 = true then
          some (true, q10.2)
        else
          some (false, q10.2)
      else
        some (false, q8.2)
  else
    some (false, (f_re_isNumberUpTo 7 q1).2)
theorem ok_re_ruleLine  (M : dM) {o : (Bool × dM)} (hf : f_re_ruleLine M = some o) : mO mX6_ruleLine 91 [.ref 32] M (some (.int (bI o.1))) o.2 := by
  refine y_ok (by decide +kernel) (Nat.le_of_ble_eq_true rfl) (L0 := [some (.ref 32), none]) rfl ?_
  have hk := mR_mQ (some (.int (bI o.1))) o.2
  generalize mQ _ _ = Q at hk ⊢
  unfold f_re_ruleLine at hf
  refine y_aload_n (i := 0) (n := 1) ⟨dX6_ruleLine_0, rfl⟩ rfl ?_
  obtain ⟨q1, hv2, hf⟩ := b_s hf
  refine c_re_advance M (n := 4) ⟨dX6_ruleLine_1, rfl⟩ klX6_50 hv2 (by decide) (Nat.le_of_ble_eq_true rfl) rfl rfl ?_
  refine y_aload_n (i := 0) (n := 5) ⟨dX6_ruleLine_4, rfl⟩ rfl ?_
  refine y_bipush (n := 7) (v := 7) ⟨dX6_ruleLine_5, rfl⟩ kb_7 ?_
  refine c_re_isNumberUpTo 7 q1 (n := 10) ⟨dX6_ruleLine_7, rfl⟩ klX6_101 rfl (by decide) (Nat.le_of_ble_eq_true rfl) rfl rfl ?_
  refine y_if_ne (t := 15) (n := 13) ⟨dX6_ruleLine_10, rfl, rfl⟩ (fun h0 => ?_) (fun h0 => ?_)
  · have hc := bI_1 h0
    replace hf := i_t hc hf
    refine y_bipush (n := 17) (v := 12) ⟨dX6_ruleLine_15, rfl⟩ kb_12 ?_
    refine y_aload_n (i := 0) (n := 18) ⟨dX6_ruleLine_17, rfl⟩ rfl ?_
    refine y_getI (n := 21) ⟨dX6_ruleLine_18, rfl⟩ kfX6_104 l_32 rfl ?_
    refine y_iadd (n := 22) ⟨dX6_ruleLine_21, rfl⟩ ?_
    refine y_istore_n (i := 1) (n := 23) (L2 := [some (.ref 32), some (.int (12 + (gI ((f_re_isNumberUpTo 7 q1).2) 32 6)))]) ⟨dX6_ruleLine_22, rfl⟩ (by decide) rfl rfl ?_
    refine y_aload_n (i := 0) (n := 24) ⟨dX6_ruleLine_23, rfl⟩ rfl ?_
    refine y_getR (n := 27) ⟨dX6_ruleLine_24, rfl⟩ kfX6_18 l_32 rfl r_32_2 ?_
    refine y_iload_n (i := 1) (n := 28) ⟨dX6_ruleLine_27, rfl⟩ rfl ?_
    obtain ⟨v4, hv5, hf⟩ := b_s hf
    refine c_la_isTold_34 (12 + (gI ((f_re_isNumberUpTo 7 q1).2) 32 6)) ((f_re_isNumberUpTo 7 q1).2) (n := 31) ⟨dX6_ruleLine_28, rfl⟩ klX6_107 hv5 (by decide) (Nat.le_of_ble_eq_true rfl) rfl rfl ?_
    refine y_if_eq (t := 40) (n := 34) ⟨dX6_ruleLine_31, rfl, rfl⟩ (fun h0 => ?_) (fun h0 => ?_)
    · have hc := bI_0 h0
      replace hf := i_f hc hf
      refine y_aload_n (i := 0) (n := 41) ⟨dX6_ruleLine_40, rfl⟩ rfl ?_
      obtain ⟨q6, hv7, hf⟩ := b_s hf
      refine c_re_advance ((f_re_isNumberUpTo 7 q1).2) (n := 44) ⟨dX6_ruleLine_41, rfl⟩ klX6_50 hv7 (by decide) (Nat.le_of_ble_eq_true rfl) rfl rfl ?_
      refine y_aload_n (i := 0) (n := 45) ⟨dX6_ruleLine_44, rfl⟩ rfl ?_
      refine y_ldcS (s := 4) (n := 47) ⟨dX6_ruleLine_45, rfl⟩ (own := "AxesAtDawn$Reader") (tx := "stops") rfl rfl ?_
      obtain ⟨q8, hv9, hf⟩ := b_s hf
      refine c_re_takeWord 4 q6 (n := 50) ⟨dX6_ruleLine_47, rfl⟩ klX6_90 hv9 (by decide) (Nat.le_of_ble_eq_true rfl) rfl rfl ?_
      refine y_if_eq (t := 67) (n := 53) ⟨dX6_ruleLine_50, rfl, rfl⟩ (fun h0 => ?_) (fun h0 => ?_)
      · have hc := bI_0 h0
        replace hf := i_f hc hf
        refine y_iconst (n := 68) (v := 0) ⟨dX6_ruleLine_67, rfl⟩ ki_0 ?_
        cases hf
        exact y_ireturn (n := 69) ⟨dX6_ruleLine_68, rfl⟩ rfl rfl hk
      · have hc := bI_1 h0
        replace hf := i_t hc hf
        refine y_aload_n (i := 0) (n := 54) ⟨dX6_ruleLine_53, rfl⟩ rfl ?_
        refine y_iload_n (i := 1) (n := 55) ⟨dX6_ruleLine_54, rfl⟩ rfl ?_
        refine y_ldcS (s := 0) (n := 57) ⟨dX6_ruleLine_55, rfl⟩ (own := "AxesAtDawn$Reader") (tx := "rust under soil hole worn fresh turned clean age layer hour stone first alone dawn others twins") rfl rfl ?_
        obtain ⟨q10, hv11, hf⟩ := b_s hf
        refine c_re_wholeE (12 + (gI ((f_re_isNumberUpTo 7 q1).2) 32 6)) 0 q8.2 (n := 60) ⟨dX6_ruleLine_57, rfl⟩ klX6_94 hv11 (by decide) (Nat.le_of_ble_eq_true rfl) rfl rfl ?_
        refine y_if_eq (t := 67) (n := 63) ⟨dX6_ruleLine_60, rfl, rfl⟩ (fun h0 => ?_) (fun h0 => ?_)
        · have hc := bI_0 h0
          replace hf := i_f hc hf
          refine y_iconst (n := 68) (v := 0) ⟨dX6_ruleLine_67, rfl⟩ ki_0 ?_
          cases hf
          exact y_ireturn (n := 69) ⟨dX6_ruleLine_68, rfl⟩ rfl rfl hk
        · have hc := bI_1 h0
          replace hf := i_t hc hf
          refine y_iconst (n := 64) (v := 1) ⟨dX6_ruleLine_63, rfl⟩ ki_1 ?_
          refine y_goto (t := 68) ⟨dX6_ruleLine_64, rfl, rfl⟩ ?_
          cases hf
          exact y_ireturn (n := 69) ⟨dX6_ruleLine_68, rfl⟩ rfl rfl hk
    · have hc := bI_1 h0
      replace hf := i_t hc hf
      refine y_aload_n (i := 0) (n := 35) ⟨dX6_ruleLine_34, rfl⟩ rfl ?_
      refine y_iconst (n := 36) (v := 3) ⟨dX6_ruleLine_35, rfl⟩ ki_3 ?_
      refine c_re_wrong 3 ((f_re_isNumberUpTo 7 q1).2) (n := 39) ⟨dX6_ruleLine_36, rfl⟩ klX6_81 rfl (by decide) (Nat.le_of_ble_eq_true rfl) rfl rfl ?_
      cases hf
      exact y_ireturn (n := 40) ⟨dX6_ruleLine_39, rfl⟩ rfl (bI_n _) hk
  · have hc := bI_0 h0
    replace hf := i_f hc hf
    refine y_iconst (n := 14) (v := 0) ⟨dX6_ruleLine_13, rfl⟩ ki_0 ?_
    cases hf
    exact y_ireturn (n := 15) ⟨dX6_ruleLine_14, rfl⟩ rfl rfl hk
theorem c_re_ruleLine  (M : dM) {o : (Bool × dM)} {y : mz_M} {d : Nat} {Q : mz_P} {pc n i : Nat} {L : List (Option Value)} {st : List Value} (h : mz_d y.2.1 pc n 3 (.invokevirtual i)) (hl : mz_ml y.1.cls i yX6_ruleLine) (hf : f_re_ruleLine M = some o) (hd : 91 + 1 ≤ d) (hsm : (st.map (fun v => v.category)).sum ≤ 8) (hLr : mz_rL 133 L = true) (hSr : mz_rS 133 st = true) (kk : mW y d Q n L (.int (bI o.1) :: st) o.2) : mW y d Q pc L (.ref 32 :: st) M :=
  y_callV kmX6_ruleLine kvX6_ruleLine l_32 (by decide +kernel) (by decide +kernel) h hl (ok_re_ruleLine  M hf) (vs := []) rfl rfl hd hsm hLr hSr kk
noncomputable def f_re_oddLine (M : dM) : Option (Bool × dM) :=
  if (gI M 34 5) < 6 then
    (f_re_advance M).bind fun q1 =>
    (f_re_takeWord 3 q1).bind fun q3 =>
    if q3.1 = true then
      (f_re_wholeE (6 + (gI q3.2 34 5)) 0 q3.2).bind fun q5 =>
      if q5.1 = true then
        some (true, (sI q5.2 34 5 ((gI q5.2 34 5) + 1)))
      else
        some (false, q5.2)
    else
      some (false, q3.2)
  else
    some (((f_re_wrong 5 M).1), (f_re_wrong 5 M).2)
theorem ok_re_oddLine  (M : dM) {o : (Bool × dM)} (hf : f_re_oddLine M = some o) : mO mX6_oddLine 91 [.ref 32] M (some (.int (bI o.1))) o.2 := by
  refine y_ok (by decide +kernel) (Nat.le_of_ble_eq_true rfl) (L0 := [some (.ref 32)]) rfl ?_
  have hk := mR_mQ (some (.int (bI o.1))) o.2
  generalize mQ _ _ = Q at hk ⊢
  unfold f_re_oddLine at hf
  refine y_aload_n (i := 0) (n := 1) ⟨dX6_oddLine_0, rfl⟩ rfl ?_
  refine y_getR (n := 4) ⟨dX6_oddLine_1, rfl⟩ kfX6_18 l_32 rfl r_32_2 ?_
  refine y_getI (n := 7) ⟨dX6_oddLine_4, rfl⟩ kfX6_98 l_34 rfl ?_
  refine y_bipush (n := 9) (v := 6) ⟨dX6_oddLine_7, rfl⟩ kb_6 ?_
  refine y_icmp_lt (t := 18) (n := 12) ⟨dX6_oddLine_9, rfl, rfl⟩ (fun (hc : (gI M 34 5) < 6) => ?_) (fun (hc : ¬ ((gI M 34 5) < 6)) => ?_)
  · replace hf := i_t hc hf
    refine y_aload_n (i := 0) (n := 19) ⟨dX6_oddLine_18, rfl⟩ rfl ?_
    obtain ⟨q1, hv2, hf⟩ := b_s hf
    refine c_re_advance M (n := 22) ⟨dX6_oddLine_19, rfl⟩ klX6_50 hv2 (by decide) (Nat.le_of_ble_eq_true rfl) rfl rfl ?_
    refine y_aload_n (i := 0) (n := 23) ⟨dX6_oddLine_22, rfl⟩ rfl ?_
    refine y_ldcS (s := 3) (n := 25) ⟨dX6_oddLine_23, rfl⟩ (own := "AxesAtDawn$Reader") (tx := "when") rfl rfl ?_
    obtain ⟨q3, hv4, hf⟩ := b_s hf
    refine c_re_takeWord 3 q1 (n := 28) ⟨dX6_oddLine_25, rfl⟩ klX6_90 hv4 (by decide) (Nat.le_of_ble_eq_true rfl) rfl rfl ?_
    refine y_if_eq (t := 50) (n := 31) ⟨dX6_oddLine_28, rfl, rfl⟩ (fun h0 => ?_) (fun h0 => ?_)
    · have hc := bI_0 h0
      replace hf := i_f hc hf
      refine y_iconst (n := 51) (v := 0) ⟨dX6_oddLine_50, rfl⟩ ki_0 ?_
      cases hf
      exact y_ireturn (n := 52) ⟨dX6_oddLine_51, rfl⟩ rfl rfl hk
    · have hc := bI_1 h0
      replace hf := i_t hc hf
      refine y_aload_n (i := 0) (n := 32) ⟨dX6_oddLine_31, rfl⟩ rfl ?_
      refine y_bipush (n := 34) (v := 6) ⟨dX6_oddLine_32, rfl⟩ kb_6 ?_
      refine y_aload_n (i := 0) (n := 35) ⟨dX6_oddLine_34, rfl⟩ rfl ?_
      refine y_getR (n := 38) ⟨dX6_oddLine_35, rfl⟩ kfX6_18 l_32 rfl r_32_2 ?_
      refine y_getI (n := 41) ⟨dX6_oddLine_38, rfl⟩ kfX6_98 l_34 rfl ?_
      refine y_iadd (n := 42) ⟨dX6_oddLine_41, rfl⟩ ?_
      refine y_ldcS (s := 0) (n := 44) ⟨dX6_oddLine_42, rfl⟩ (own := "AxesAtDawn$Reader") (tx := "rust under soil hole worn fresh turned clean age layer hour stone first alone dawn others twins") rfl rfl ?_
      obtain ⟨q5, hv6, hf⟩ := b_s hf
      refine c_re_wholeE (6 + (gI q3.2 34 5)) 0 q3.2 (n := 47) ⟨dX6_oddLine_44, rfl⟩ klX6_94 hv6 (by decide) (Nat.le_of_ble_eq_true rfl) rfl rfl ?_
      refine y_if_ne (t := 52) (n := 50) ⟨dX6_oddLine_47, rfl, rfl⟩ (fun h0 => ?_) (fun h0 => ?_)
      · have hc := bI_1 h0
        replace hf := i_t hc hf
        refine y_aload_n (i := 0) (n := 53) ⟨dX6_oddLine_52, rfl⟩ rfl ?_
        refine y_getR (n := 56) ⟨dX6_oddLine_53, rfl⟩ kfX6_18 l_32 rfl r_32_2 ?_
        refine y_dup_r (n := 57) ⟨dX6_oddLine_56, rfl⟩ ?_
        refine y_getI (n := 60) ⟨dX6_oddLine_57, rfl⟩ kfX6_98 l_34 rfl ?_
        refine y_iconst (n := 61) (v := 1) ⟨dX6_oddLine_60, rfl⟩ ki_1 ?_
        refine y_iadd (n := 62) ⟨dX6_oddLine_61, rfl⟩ ?_
        refine y_putI (n := 65) ⟨dX6_oddLine_62, rfl⟩ kfX6_98 l_34 (by decide +kernel) rfl ?_
        refine y_iconst (n := 66) (v := 1) ⟨dX6_oddLine_65, rfl⟩ ki_1 ?_
        cases hf
        exact y_ireturn (n := 67) ⟨dX6_oddLine_66, rfl⟩ rfl rfl hk
      · have hc := bI_0 h0
        replace hf := i_f hc hf
        refine y_iconst (n := 51) (v := 0) ⟨dX6_oddLine_50, rfl⟩ ki_0 ?_
        cases hf
        exact y_ireturn (n := 52) ⟨dX6_oddLine_51, rfl⟩ rfl rfl hk
  · replace hf := i_f hc hf
    refine y_aload_n (i := 0) (n := 13) ⟨dX6_oddLine_12, rfl⟩ rfl ?_
    refine y_iconst (n := 14) (v := 5) ⟨dX6_oddLine_13, rfl⟩ ki_5 ?_
    refine c_re_wrong 5 M (n := 17) ⟨dX6_oddLine_14, rfl⟩ klX6_81 rfl (by decide) (Nat.le_of_ble_eq_true rfl) rfl rfl ?_
    cases hf
    exact y_ireturn (n := 18) ⟨dX6_oddLine_17, rfl⟩ rfl (bI_n _) hk
theorem c_re_oddLine  (M : dM) {o : (Bool × dM)} {y : mz_M} {d : Nat} {Q : mz_P} {pc n i : Nat} {L : List (Option Value)} {st : List Value} (h : mz_d y.2.1 pc n 3 (.invokevirtual i)) (hl : mz_ml y.1.cls i yX6_oddLine) (hf : f_re_oddLine M = some o) (hd : 91 + 1 ≤ d) (hsm : (st.map (fun v => v.category)).sum ≤ 8) (hLr : mz_rL 133 L = true) (hSr : mz_rS 133 st = true) (kk : mW y d Q n L (.int (bI o.1) :: st) o.2) : mW y d Q pc L (.ref 32 :: st) M :=
  y_callV kmX6_oddLine kvX6_oddLine l_32 (by decide +kernel) (by decide +kernel) h hl (ok_re_oddLine  M hf) (vs := []) rfl rfl hd hsm hLr hSr kk
noncomputable def f_re_barLine (M : dM) : Option (Bool × dM) :=
  if (gI M 34 4) < 6 then
    (f_re_advance M).bind fun q1 =>
    (f_re_takeWord 3 q1).bind fun q3 =>
    if q3.1 = true then
      (f_re_wholeE (0 + (gI q3.2 34 4)) 0 q3.2).bind fun q5 =>
      if q5.1 = true then
        some (true, (sI q5.2 34 4 ((gI q5.2 34 4) + 1)))
      else
        some (false, q5.2)
    else
      some (false, q3.2)
  else
    some (((f_re_wrong 5 M).1), (f_re_wrong 5 M).2)
theorem ok_re_barLine  (M : dM) {o : (Bool × dM)} (hf : f_re_barLine M = some o) : mO mX6_barLine 91 [.ref 32] M (some (.int (bI o.1))) o.2 := by
  refine y_ok (by decide +kernel) (Nat.le_of_ble_eq_true rfl) (L0 := [some (.ref 32)]) rfl ?_
  have hk := mR_mQ (some (.int (bI o.1))) o.2
  generalize mQ _ _ = Q at hk ⊢
  unfold f_re_barLine at hf
  refine y_aload_n (i := 0) (n := 1) ⟨dX6_barLine_0, rfl⟩ rfl ?_
  refine y_getR (n := 4) ⟨dX6_barLine_1, rfl⟩ kfX6_18 l_32 rfl r_32_2 ?_
  refine y_getI (n := 7) ⟨dX6_barLine_4, rfl⟩ kfX6_85 l_34 rfl ?_
  refine y_bipush (n := 9) (v := 6) ⟨dX6_barLine_7, rfl⟩ kb_6 ?_
  refine y_icmp_lt (t := 18) (n := 12) ⟨dX6_barLine_9, rfl, rfl⟩ (fun (hc : (gI M 34 4) < 6) => ?_) (fun (hc : ¬ ((gI M 34 4) < 6)) => ?_)
  · replace hf := i_t hc hf
    refine y_aload_n (i := 0) (n := 19) ⟨dX6_barLine_18, rfl⟩ rfl ?_
    obtain ⟨q1, hv2, hf⟩ := b_s hf
    refine c_re_advance M (n := 22) ⟨dX6_barLine_19, rfl⟩ klX6_50 hv2 (by decide) (Nat.le_of_ble_eq_true rfl) rfl rfl ?_
    refine y_aload_n (i := 0) (n := 23) ⟨dX6_barLine_22, rfl⟩ rfl ?_
    refine y_ldcS (s := 3) (n := 25) ⟨dX6_barLine_23, rfl⟩ (own := "AxesAtDawn$Reader") (tx := "when") rfl rfl ?_
    obtain ⟨q3, hv4, hf⟩ := b_s hf
    refine c_re_takeWord 3 q1 (n := 28) ⟨dX6_barLine_25, rfl⟩ klX6_90 hv4 (by decide) (Nat.le_of_ble_eq_true rfl) rfl rfl ?_
    refine y_if_eq (t := 49) (n := 31) ⟨dX6_barLine_28, rfl, rfl⟩ (fun h0 => ?_) (fun h0 => ?_)
    · have hc := bI_0 h0
      replace hf := i_f hc hf
      refine y_iconst (n := 50) (v := 0) ⟨dX6_barLine_49, rfl⟩ ki_0 ?_
      cases hf
      exact y_ireturn (n := 51) ⟨dX6_barLine_50, rfl⟩ rfl rfl hk
    · have hc := bI_1 h0
      replace hf := i_t hc hf
      refine y_aload_n (i := 0) (n := 32) ⟨dX6_barLine_31, rfl⟩ rfl ?_
      refine y_iconst (n := 33) (v := 0) ⟨dX6_barLine_32, rfl⟩ ki_0 ?_
      refine y_aload_n (i := 0) (n := 34) ⟨dX6_barLine_33, rfl⟩ rfl ?_
      refine y_getR (n := 37) ⟨dX6_barLine_34, rfl⟩ kfX6_18 l_32 rfl r_32_2 ?_
      refine y_getI (n := 40) ⟨dX6_barLine_37, rfl⟩ kfX6_85 l_34 rfl ?_
      refine y_iadd (n := 41) ⟨dX6_barLine_40, rfl⟩ ?_
      refine y_ldcS (s := 0) (n := 43) ⟨dX6_barLine_41, rfl⟩ (own := "AxesAtDawn$Reader") (tx := "rust under soil hole worn fresh turned clean age layer hour stone first alone dawn others twins") rfl rfl ?_
      obtain ⟨q5, hv6, hf⟩ := b_s hf
      refine c_re_wholeE (0 + (gI q3.2 34 4)) 0 q3.2 (n := 46) ⟨dX6_barLine_43, rfl⟩ klX6_94 hv6 (by decide) (Nat.le_of_ble_eq_true rfl) rfl rfl ?_
      refine y_if_ne (t := 51) (n := 49) ⟨dX6_barLine_46, rfl, rfl⟩ (fun h0 => ?_) (fun h0 => ?_)
      · have hc := bI_1 h0
        replace hf := i_t hc hf
        refine y_aload_n (i := 0) (n := 52) ⟨dX6_barLine_51, rfl⟩ rfl ?_
        refine y_getR (n := 55) ⟨dX6_barLine_52, rfl⟩ kfX6_18 l_32 rfl r_32_2 ?_
        refine y_dup_r (n := 56) ⟨dX6_barLine_55, rfl⟩ ?_
        refine y_getI (n := 59) ⟨dX6_barLine_56, rfl⟩ kfX6_85 l_34 rfl ?_
        refine y_iconst (n := 60) (v := 1) ⟨dX6_barLine_59, rfl⟩ ki_1 ?_
        refine y_iadd (n := 61) ⟨dX6_barLine_60, rfl⟩ ?_
        refine y_putI (n := 64) ⟨dX6_barLine_61, rfl⟩ kfX6_85 l_34 (by decide +kernel) rfl ?_
        refine y_iconst (n := 65) (v := 1) ⟨dX6_barLine_64, rfl⟩ ki_1 ?_
        cases hf
        exact y_ireturn (n := 66) ⟨dX6_barLine_65, rfl⟩ rfl rfl hk
      · have hc := bI_0 h0
        replace hf := i_f hc hf
        refine y_iconst (n := 50) (v := 0) ⟨dX6_barLine_49, rfl⟩ ki_0 ?_
        cases hf
        exact y_ireturn (n := 51) ⟨dX6_barLine_50, rfl⟩ rfl rfl hk
  · replace hf := i_f hc hf
    refine y_aload_n (i := 0) (n := 13) ⟨dX6_barLine_12, rfl⟩ rfl ?_
    refine y_iconst (n := 14) (v := 5) ⟨dX6_barLine_13, rfl⟩ ki_5 ?_
    refine c_re_wrong 5 M (n := 17) ⟨dX6_barLine_14, rfl⟩ klX6_81 rfl (by decide) (Nat.le_of_ble_eq_true rfl) rfl rfl ?_
    cases hf
    exact y_ireturn (n := 18) ⟨dX6_barLine_17, rfl⟩ rfl (bI_n _) hk
theorem c_re_barLine  (M : dM) {o : (Bool × dM)} {y : mz_M} {d : Nat} {Q : mz_P} {pc n i : Nat} {L : List (Option Value)} {st : List Value} (h : mz_d y.2.1 pc n 3 (.invokevirtual i)) (hl : mz_ml y.1.cls i yX6_barLine) (hf : f_re_barLine M = some o) (hd : 91 + 1 ≤ d) (hsm : (st.map (fun v => v.category)).sum ≤ 8) (hLr : mz_rL 133 L = true) (hSr : mz_rS 133 st = true) (kk : mW y d Q n L (.int (bI o.1) :: st) o.2) : mW y d Q pc L (.ref 32 :: st) M :=
  y_callV kmX6_barLine kvX6_barLine l_32 (by decide +kernel) (by decide +kernel) h hl (ok_re_barLine  M hf) (vs := []) rfl rfl hd hsm hLr hSr kk
def K_re_readLaw_35 (Q : mz_P)  : ((Int32 × Int32 × dM) ⊕ (Int32 × dM)) → Prop
  | .inl s => mW mX6_readLaw 92 Q 35 [some (.ref 32), some (.int s.1), some (.int s.2.1)] [] s.2.2
  | .inr r => mR Q (some (.int r.1)) r.2
noncomputable def b_re_readLaw_35_156 (M : dM) : Option ((Int32 × Int32 × dM) ⊕ (Int32 × dM)) :=
  some (.inr ((gI (sI M 32 1 0) 32 7), (sI M 32 1 0)))
noncomputable def b_re_readLaw_35_35 (x1 : Int32) (x2 : Int32) (M : dM) : Option ((Int32 × Int32 × dM) ⊕ (Int32 × dM)) :=
  if 1000 < x2 then
    b_re_readLaw_35_156 M
  else
    if (gI M 32 3) = 0 then
      b_re_readLaw_35_156 M
    else
      if x1 = 0 then
        b_re_readLaw_35_156 M
      else
        (f_re_wordIn 2 M).bind fun v5 =>
        if v5 = 0 then
          (f_re_barLine M).bind fun q7 =>
          some (.inl ((bI q7.1), (x2 + 1), q7.2))
        else
        if v5 = 1 then
          (f_re_oddLine M).bind fun q9 =>
          some (.inl ((bI q9.1), (x2 + 1), q9.2))
        else
        if v5 = 2 then
          (f_re_ruleLine M).bind fun q11 =>
          some (.inl ((bI q11.1), (x2 + 1), q11.2))
        else
        if v5 = 3 then
          (f_re_sinceLine M).bind fun q13 =>
          some (.inl ((bI q13.1), (x2 + 1), q13.2))
        else
        if v5 = 4 then
          (f_re_farLine M).bind fun q15 =>
          some (.inl ((bI q15.1), (x2 + 1), q15.2))
        else
        if v5 = 5 then
          (f_re_enoughLine M).bind fun q17 =>
          some (.inl ((bI q17.1), (x2 + 1), q17.2))
        else
        some (.inl ((bI ((f_re_wrong 1 M).1)), (x2 + 1), (f_re_wrong 1 M).2))
noncomputable def l_re_readLaw_35 (x1 : Int32) (x2 : Int32) (M : dM) : Option (Int32 × dM) := lpc (fun s => b_re_readLaw_35_35 s.1 s.2.1 s.2.2) (x1, x2, M)
noncomputable def f_re_readLaw (M : dM) : Option (Int32 × dM) :=
  (f_la_empty M).bind fun q1 =>
  (f_re_advance (sI (sI (sI (sI q1 32 7 0) 32 8 0) 32 9 0) 32 5 0)).bind fun q3 =>
  (l_re_readLaw_35 1 0 q3).bind fun r22 => some r22
theorem w_b_re_readLaw_35_156   (M : dM) {Q : mz_P} {o : ((Int32 × Int32 × dM) ⊕ (Int32 × dM))} (hf : b_re_readLaw_35_156 M = some o) (hk : K_re_readLaw_35 Q  o) : mW mX6_readLaw 92 Q 156 [some (.ref 32), none, none] [] M := by
  unfold b_re_readLaw_35_156 at hf
  refine y_aload_n (i := 0) (n := 157) ⟨dX6_readLaw_156, rfl⟩ rfl ?_
  refine y_iconst (n := 158) (v := 0) ⟨dX6_readLaw_157, rfl⟩ ki_0 ?_
  refine y_putI (n := 161) ⟨dX6_readLaw_158, rfl⟩ kfX6_30 l_32 (by decide +kernel) rfl ?_
  refine y_aload_n (i := 0) (n := 162) ⟨dX6_readLaw_161, rfl⟩ rfl ?_
  refine y_getI (n := 165) ⟨dX6_readLaw_162, rfl⟩ kfX6_37 l_32 rfl ?_
  cases hf
  exact y_ireturn (n := 166) ⟨dX6_readLaw_165, rfl⟩ rfl rfl hk
theorem w_b_re_readLaw_35_35 (x1 : Int32) (x2 : Int32)  (M : dM) {Q : mz_P} {o : ((Int32 × Int32 × dM) ⊕ (Int32 × dM))} (hf : b_re_readLaw_35_35 x1 x2 M = some o) (hk : K_re_readLaw_35 Q  o) : mW mX6_readLaw 92 Q 35 [some (.ref 32), some (.int x1), some (.int x2)] [] M := by
  unfold b_re_readLaw_35_35 at hf
  refine y_iload_n (i := 2) (n := 36) ⟨dX6_readLaw_35, rfl⟩ rfl ?_
  refine y_sipush (n := 39) (v := 1000) ⟨dX6_readLaw_36, rfl⟩ ks_1000 ?_
  refine y_icmp_gt (t := 156) (n := 42) ⟨dX6_readLaw_39, rfl, rfl⟩ (fun (hc : 1000 < x2) => ?_) (fun (hc : ¬ (1000 < x2)) => ?_)
  · replace hf := i_t hc hf
    exact y_wk (L2 := [some (.ref 32), none, none]) ⟨Or.inr rfl, Or.inl rfl, Or.inl rfl, trivial⟩ (w_b_re_readLaw_35_156 M hf hk)
  · replace hf := i_f hc hf
    refine y_aload_n (i := 0) (n := 43) ⟨dX6_readLaw_42, rfl⟩ rfl ?_
    refine y_getI (n := 46) ⟨dX6_readLaw_43, rfl⟩ kfX6_53 l_32 rfl ?_
    refine y_if_eq (t := 156) (n := 49) ⟨dX6_readLaw_46, rfl, rfl⟩ (fun (hc : (gI M 32 3) = 0) => ?_) (fun (hc : ¬ ((gI M 32 3) = 0)) => ?_)
    · replace hf := i_t hc hf
      exact y_wk (L2 := [some (.ref 32), none, none]) ⟨Or.inr rfl, Or.inl rfl, Or.inl rfl, trivial⟩ (w_b_re_readLaw_35_156 M hf hk)
    · replace hf := i_f hc hf
      refine y_iload_n (i := 1) (n := 50) ⟨dX6_readLaw_49, rfl⟩ rfl ?_
      refine y_if_eq (t := 156) (n := 53) ⟨dX6_readLaw_50, rfl, rfl⟩ (fun (hc : x1 = 0) => ?_) (fun (hc : ¬ (x1 = 0)) => ?_)
      · replace hf := i_t hc hf
        exact y_wk (L2 := [some (.ref 32), none, none]) ⟨Or.inr rfl, Or.inl rfl, Or.inl rfl, trivial⟩ (w_b_re_readLaw_35_156 M hf hk)
      · replace hf := i_f hc hf
        refine y_aload_n (i := 0) (n := 54) ⟨dX6_readLaw_53, rfl⟩ rfl ?_
        refine y_ldcS (s := 2) (n := 56) ⟨dX6_readLaw_54, rfl⟩ (own := "AxesAtDawn$Reader") (tx := "bar odd rule since far enough") rfl rfl ?_
        obtain ⟨v5, hv6, hf⟩ := b_s hf
        refine c_re_wordIn 2 M (n := 59) ⟨dX6_readLaw_56, rfl⟩ klX6_58 hv6 (by decide) (Nat.le_of_ble_eq_true rfl) rfl rfl ?_
        by_cases hc0 : v5 = 0
        · replace hf := i_t hc0 hf
          refine y_tabIn (t := 96) (off := 37) dX6_readLaw_59 (sw_lo hc0 (by decide)) (sw_hi hc0 (by decide)) (sw_at hc0 (by decide)) rfl ?_
          refine y_aload_n (i := 0) (n := 97) ⟨dX6_readLaw_96, rfl⟩ rfl ?_
          obtain ⟨q7, hv8, hf⟩ := b_s hf
          refine c_re_barLine M (n := 100) ⟨dX6_readLaw_97, rfl⟩ klX6_62 hv8 (by decide) (Nat.le_of_ble_eq_true rfl) rfl rfl ?_
          refine y_istore_n (i := 1) (n := 101) (L2 := [some (.ref 32), some (.int (bI q7.1)), some (.int x2)]) ⟨dX6_readLaw_100, rfl⟩ (by decide) rfl rfl ?_
          refine y_goto (t := 150) ⟨dX6_readLaw_101, rfl, rfl⟩ ?_
          refine y_iinc (i := 2) (n := 153) (b := (x2 + 1)) (L2 := [some (.ref 32), some (.int (bI q7.1)), some (.int (x2 + 1))]) ⟨dX6_readLaw_150, rfl⟩ rfl (by rw [ki_1]) (by decide) rfl rfl ?_
          refine y_goto (t := 35) ⟨dX6_readLaw_153, rfl, rfl⟩ ?_
          cases hf
          exact y_wk (L2 := [some (.ref 32), some (.int (bI q7.1)), some (.int (x2 + 1))]) ⟨Or.inr rfl, Or.inr rfl, Or.inr rfl, trivial⟩ hk
        replace hf := i_f hc0 hf
        by_cases hc1 : v5 = 1
        · replace hf := i_t hc1 hf
          refine y_tabIn (t := 104) (off := 45) dX6_readLaw_59 (sw_lo hc1 (by decide)) (sw_hi hc1 (by decide)) (sw_at hc1 (by decide)) rfl ?_
          refine y_aload_n (i := 0) (n := 105) ⟨dX6_readLaw_104, rfl⟩ rfl ?_
          obtain ⟨q9, hv10, hf⟩ := b_s hf
          refine c_re_oddLine M (n := 108) ⟨dX6_readLaw_105, rfl⟩ klX6_66 hv10 (by decide) (Nat.le_of_ble_eq_true rfl) rfl rfl ?_
          refine y_istore_n (i := 1) (n := 109) (L2 := [some (.ref 32), some (.int (bI q9.1)), some (.int x2)]) ⟨dX6_readLaw_108, rfl⟩ (by decide) rfl rfl ?_
          refine y_goto (t := 150) ⟨dX6_readLaw_109, rfl, rfl⟩ ?_
          refine y_iinc (i := 2) (n := 153) (b := (x2 + 1)) (L2 := [some (.ref 32), some (.int (bI q9.1)), some (.int (x2 + 1))]) ⟨dX6_readLaw_150, rfl⟩ rfl (by rw [ki_1]) (by decide) rfl rfl ?_
          refine y_goto (t := 35) ⟨dX6_readLaw_153, rfl, rfl⟩ ?_
          cases hf
          exact y_wk (L2 := [some (.ref 32), some (.int (bI q9.1)), some (.int (x2 + 1))]) ⟨Or.inr rfl, Or.inr rfl, Or.inr rfl, trivial⟩ hk
        replace hf := i_f hc1 hf
        by_cases hc2 : v5 = 2
        · replace hf := i_t hc2 hf
          refine y_tabIn (t := 112) (off := 53) dX6_readLaw_59 (sw_lo hc2 (by decide)) (sw_hi hc2 (by decide)) (sw_at hc2 (by decide)) rfl ?_
          refine y_aload_n (i := 0) (n := 113) ⟨dX6_readLaw_112, rfl⟩ rfl ?_
          obtain ⟨q11, hv12, hf⟩ := b_s hf
          refine c_re_ruleLine M (n := 116) ⟨dX6_readLaw_113, rfl⟩ klX6_69 hv12 (by decide) (Nat.le_of_ble_eq_true rfl) rfl rfl ?_
          refine y_istore_n (i := 1) (n := 117) (L2 := [some (.ref 32), some (.int (bI q11.1)), some (.int x2)]) ⟨dX6_readLaw_116, rfl⟩ (by decide) rfl rfl ?_
          refine y_goto (t := 150) ⟨dX6_readLaw_117, rfl, rfl⟩ ?_
          refine y_iinc (i := 2) (n := 153) (b := (x2 + 1)) (L2 := [some (.ref 32), some (.int (bI q11.1)), some (.int (x2 + 1))]) ⟨dX6_readLaw_150, rfl⟩ rfl (by rw [ki_1]) (by decide) rfl rfl ?_
          refine y_goto (t := 35) ⟨dX6_readLaw_153, rfl, rfl⟩ ?_
          cases hf
          exact y_wk (L2 := [some (.ref 32), some (.int (bI q11.1)), some (.int (x2 + 1))]) ⟨Or.inr rfl, Or.inr rfl, Or.inr rfl, trivial⟩ hk
        replace hf := i_f hc2 hf
        by_cases hc3 : v5 = 3
        · replace hf := i_t hc3 hf
          refine y_tabIn (t := 120) (off := 61) dX6_readLaw_59 (sw_lo hc3 (by decide)) (sw_hi hc3 (by decide)) (sw_at hc3 (by decide)) rfl ?_
          refine y_aload_n (i := 0) (n := 121) ⟨dX6_readLaw_120, rfl⟩ rfl ?_
          obtain ⟨q13, hv14, hf⟩ := b_s hf
          refine c_re_sinceLine M (n := 124) ⟨dX6_readLaw_121, rfl⟩ klX6_72 hv14 (by decide) (Nat.le_of_ble_eq_true rfl) rfl rfl ?_
          refine y_istore_n (i := 1) (n := 125) (L2 := [some (.ref 32), some (.int (bI q13.1)), some (.int x2)]) ⟨dX6_readLaw_124, rfl⟩ (by decide) rfl rfl ?_
          refine y_goto (t := 150) ⟨dX6_readLaw_125, rfl, rfl⟩ ?_
          refine y_iinc (i := 2) (n := 153) (b := (x2 + 1)) (L2 := [some (.ref 32), some (.int (bI q13.1)), some (.int (x2 + 1))]) ⟨dX6_readLaw_150, rfl⟩ rfl (by rw [ki_1]) (by decide) rfl rfl ?_
          refine y_goto (t := 35) ⟨dX6_readLaw_153, rfl, rfl⟩ ?_
          cases hf
          exact y_wk (L2 := [some (.ref 32), some (.int (bI q13.1)), some (.int (x2 + 1))]) ⟨Or.inr rfl, Or.inr rfl, Or.inr rfl, trivial⟩ hk
        replace hf := i_f hc3 hf
        by_cases hc4 : v5 = 4
        · replace hf := i_t hc4 hf
          refine y_tabIn (t := 128) (off := 69) dX6_readLaw_59 (sw_lo hc4 (by decide)) (sw_hi hc4 (by decide)) (sw_at hc4 (by decide)) rfl ?_
          refine y_aload_n (i := 0) (n := 129) ⟨dX6_readLaw_128, rfl⟩ rfl ?_
          obtain ⟨q15, hv16, hf⟩ := b_s hf
          refine c_re_farLine M (n := 132) ⟨dX6_readLaw_129, rfl⟩ klX6_75 hv16 (by decide) (Nat.le_of_ble_eq_true rfl) rfl rfl ?_
          refine y_istore_n (i := 1) (n := 133) (L2 := [some (.ref 32), some (.int (bI q15.1)), some (.int x2)]) ⟨dX6_readLaw_132, rfl⟩ (by decide) rfl rfl ?_
          refine y_goto (t := 150) ⟨dX6_readLaw_133, rfl, rfl⟩ ?_
          refine y_iinc (i := 2) (n := 153) (b := (x2 + 1)) (L2 := [some (.ref 32), some (.int (bI q15.1)), some (.int (x2 + 1))]) ⟨dX6_readLaw_150, rfl⟩ rfl (by rw [ki_1]) (by decide) rfl rfl ?_
          refine y_goto (t := 35) ⟨dX6_readLaw_153, rfl, rfl⟩ ?_
          cases hf
          exact y_wk (L2 := [some (.ref 32), some (.int (bI q15.1)), some (.int (x2 + 1))]) ⟨Or.inr rfl, Or.inr rfl, Or.inr rfl, trivial⟩ hk
        replace hf := i_f hc4 hf
        by_cases hc5 : v5 = 5
        · replace hf := i_t hc5 hf
          refine y_tabIn (t := 136) (off := 77) dX6_readLaw_59 (sw_lo hc5 (by decide)) (sw_hi hc5 (by decide)) (sw_at hc5 (by decide)) rfl ?_
          refine y_aload_n (i := 0) (n := 137) ⟨dX6_readLaw_136, rfl⟩ rfl ?_
          obtain ⟨q17, hv18, hf⟩ := b_s hf
          refine c_re_enoughLine M (n := 140) ⟨dX6_readLaw_137, rfl⟩ klX6_78 hv18 (by decide) (Nat.le_of_ble_eq_true rfl) rfl rfl ?_
          refine y_istore_n (i := 1) (n := 141) (L2 := [some (.ref 32), some (.int (bI q17.1)), some (.int x2)]) ⟨dX6_readLaw_140, rfl⟩ (by decide) rfl rfl ?_
          refine y_goto (t := 150) ⟨dX6_readLaw_141, rfl, rfl⟩ ?_
          refine y_iinc (i := 2) (n := 153) (b := (x2 + 1)) (L2 := [some (.ref 32), some (.int (bI q17.1)), some (.int (x2 + 1))]) ⟨dX6_readLaw_150, rfl⟩ rfl (by rw [ki_1]) (by decide) rfl rfl ?_
          refine y_goto (t := 35) ⟨dX6_readLaw_153, rfl, rfl⟩ ?_
          cases hf
          exact y_wk (L2 := [some (.ref 32), some (.int (bI q17.1)), some (.int (x2 + 1))]) ⟨Or.inr rfl, Or.inr rfl, Or.inr rfl, trivial⟩ hk
        replace hf := i_f hc5 hf
        refine y_tabOut (t := 144) dX6_readLaw_59 (sw_out (lo := 0) (cs := [0, 1, 2, 3, 4, 5]) (by decide) (by decide) ⟨hc0, hc1, hc2, hc3, hc4, hc5, trivial⟩) rfl ?_
        refine y_aload_n (i := 0) (n := 145) ⟨dX6_readLaw_144, rfl⟩ rfl ?_
        refine y_iconst (n := 146) (v := 1) ⟨dX6_readLaw_145, rfl⟩ ki_1 ?_
        refine c_re_wrong 1 M (n := 149) ⟨dX6_readLaw_146, rfl⟩ klX6_81 rfl (by decide) (Nat.le_of_ble_eq_true rfl) rfl rfl ?_
        refine y_istore_n (i := 1) (n := 150) (L2 := [some (.ref 32), some (.int (bI ((f_re_wrong 1 M).1))), some (.int x2)]) ⟨dX6_readLaw_149, rfl⟩ (by decide) rfl rfl ?_
        refine y_iinc (i := 2) (n := 153) (b := (x2 + 1)) (L2 := [some (.ref 32), some (.int (bI ((f_re_wrong 1 M).1))), some (.int (x2 + 1))]) ⟨dX6_readLaw_150, rfl⟩ rfl (by rw [ki_1]) (by decide) rfl rfl ?_
        refine y_goto (t := 35) ⟨dX6_readLaw_153, rfl, rfl⟩ ?_
        cases hf
        exact y_wk (L2 := [some (.ref 32), some (.int (bI ((f_re_wrong 1 M).1))), some (.int (x2 + 1))]) ⟨Or.inr rfl, Or.inr rfl, Or.inr rfl, trivial⟩ hk
theorem wl_re_readLaw_35 (x1 : Int32) (x2 : Int32) (M : dM) {Q : mz_P} {x : (Int32 × dM)} (hf : l_re_readLaw_35 x1 x2 M = some x) (hk : K_re_readLaw_35 Q  (.inr x)) : mW mX6_readLaw 92 Q 35 [some (.ref 32), some (.int x1), some (.int x2)] [] M :=
  lpc_wp (σ := (Int32 × Int32 × dM)) (ξ := (Int32 × dM)) (s := (x1, x2, M)) (Wh := fun s => mW mX6_readLaw 92 Q 35 [some (.ref 32), some (.int s.1), some (.int s.2.1)] [] s.2.2) (K := K_re_readLaw_35 Q ) (fun _ h => h) (fun s o hb hk => w_b_re_readLaw_35_35 s.1 s.2.1 s.2.2 hb hk) hf hk
theorem ok_re_readLaw  (M : dM) {o : (Int32 × dM)} (hf : f_re_readLaw M = some o) : mO mX6_readLaw 92 [.ref 32] M (some (.int o.1)) o.2 := by
  refine y_ok (by decide +kernel) (Nat.le_of_ble_eq_true rfl) (L0 := [some (.ref 32), none, none]) rfl ?_
  have hk := mR_mQ (some (.int o.1)) o.2
  generalize mQ _ _ = Q at hk ⊢
  unfold f_re_readLaw at hf
  refine y_aload_n (i := 0) (n := 1) ⟨dX6_readLaw_0, rfl⟩ rfl ?_
  refine y_getR (n := 4) ⟨dX6_readLaw_1, rfl⟩ kfX6_18 l_32 rfl r_32_2 ?_
  obtain ⟨q1, hv2, hf⟩ := b_s hf
  refine c_la_empty M (n := 7) ⟨dX6_readLaw_4, rfl⟩ klX6_34 hv2 (by decide) (Nat.le_of_ble_eq_true rfl) rfl rfl ?_
  refine y_aload_n (i := 0) (n := 8) ⟨dX6_readLaw_7, rfl⟩ rfl ?_
  refine y_iconst (n := 9) (v := 0) ⟨dX6_readLaw_8, rfl⟩ ki_0 ?_
  refine y_putI (n := 12) ⟨dX6_readLaw_9, rfl⟩ kfX6_37 l_32 (by decide +kernel) rfl ?_
  refine y_aload_n (i := 0) (n := 13) ⟨dX6_readLaw_12, rfl⟩ rfl ?_
  refine y_iconst (n := 14) (v := 0) ⟨dX6_readLaw_13, rfl⟩ ki_0 ?_
  refine y_putZ (n := 17) ⟨dX6_readLaw_14, rfl⟩ kfX6_40 l_32 (by decide +kernel) rfl (by decide) ?_
  refine y_aload_n (i := 0) (n := 18) ⟨dX6_readLaw_17, rfl⟩ rfl ?_
  refine y_iconst (n := 19) (v := 0) ⟨dX6_readLaw_18, rfl⟩ ki_0 ?_
  refine y_putZ (n := 22) ⟨dX6_readLaw_19, rfl⟩ kfX6_44 l_32 (by decide +kernel) rfl (by decide) ?_
  refine y_aload_n (i := 0) (n := 23) ⟨dX6_readLaw_22, rfl⟩ rfl ?_
  refine y_iconst (n := 24) (v := 0) ⟨dX6_readLaw_23, rfl⟩ ki_0 ?_
  refine y_putI (n := 27) ⟨dX6_readLaw_24, rfl⟩ kfX6_47 l_32 (by decide +kernel) rfl ?_
  refine y_aload_n (i := 0) (n := 28) ⟨dX6_readLaw_27, rfl⟩ rfl ?_
  obtain ⟨q3, hv4, hf⟩ := b_s hf
  refine c_re_advance (sI (sI (sI (sI q1 32 7 0) 32 8 0) 32 9 0) 32 5 0) (n := 31) ⟨dX6_readLaw_28, rfl⟩ klX6_50 hv4 (by decide) (Nat.le_of_ble_eq_true rfl) rfl rfl ?_
  refine y_iconst (n := 32) (v := 1) ⟨dX6_readLaw_31, rfl⟩ ki_1 ?_
  refine y_istore_n (i := 1) (n := 33) (L2 := [some (.ref 32), some (.int 1), none]) ⟨dX6_readLaw_32, rfl⟩ (by decide) rfl rfl ?_
  refine y_iconst (n := 34) (v := 0) ⟨dX6_readLaw_33, rfl⟩ ki_0 ?_
  refine y_istore_n (i := 2) (n := 35) (L2 := [some (.ref 32), some (.int 1), some (.int 0)]) ⟨dX6_readLaw_34, rfl⟩ (by decide) rfl rfl ?_
  obtain ⟨r22, hl21, hf⟩ := b_s hf
  cases hf
  exact y_wk (L2 := [some (.ref 32), some (.int 1), some (.int 0)]) ⟨Or.inr rfl, Or.inr rfl, Or.inr rfl, trivial⟩ (wl_re_readLaw_35 1 0 q3 hl21 hk)
theorem c_re_readLaw  (M : dM) {o : (Int32 × dM)} {y : mz_M} {d : Nat} {Q : mz_P} {pc n i : Nat} {L : List (Option Value)} {st : List Value} (h : mz_d y.2.1 pc n 3 (.invokevirtual i)) (hl : mz_ml y.1.cls i yX6_readLaw) (hf : f_re_readLaw M = some o) (hd : 92 + 1 ≤ d) (hsm : (st.map (fun v => v.category)).sum ≤ 8) (hLr : mz_rL 133 L = true) (hSr : mz_rS 133 st = true) (kk : mW y d Q n L (.int o.1 :: st) o.2) : mW y d Q pc L (.ref 32 :: st) M :=
  y_callV kmX6_readLaw kvX6_readLaw l_32 (by decide +kernel) (by decide +kernel) h hl (ok_re_readLaw  M hf) (vs := []) rfl rfl hd hsm hLr hSr kk
