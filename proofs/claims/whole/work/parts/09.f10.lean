noncomputable def t_mo_readsE_12 (x1 : Int32) (y1 : Int32) (M : dM) : Option (Bool × dM) :=
  gd (y1 = 0 ∨ y1 = 1) <|
  gd (vp_in x1 21) <|
  (f_mo_reads (sI (sI M 66 38 y1) 86 x1.toNatClampNeg (gI (sI M 66 38 y1) 66 37))).bind fun q3 =>
  if q3.1 = true then
    some (true, (sI (sI q3.2 87 x1.toNatClampNeg (gI q3.2 66 37)) 85 x1.toNatClampNeg 1))
  else
    some (false, q3.2)
noncomputable def f_mo_readsE (a1 : Int32) (M : dM) : Option (Bool × dM) :=
  if a1 = 20 then
    t_mo_readsE_12 a1 1 M
  else
    t_mo_readsE_12 a1 0 M
theorem w_t_mo_readsE_12 (x1 : Int32) (y1 : Int32) (M : dM) {Q : mz_P} {o : (Bool × dM)} (hf : t_mo_readsE_12 x1 y1 M = some o) (hk : mR Q (some (.int (bI o.1))) o.2) : mW mX12_readsE 4 Q 12 [some (.ref 66), some (.int x1)] [.int y1, .ref 66] M := by
  unfold t_mo_readsE_12 at hf
  obtain ⟨hg1, hf⟩ := g_s hf
  refine y_putZ (n := 15) ⟨dX12_readsE_12, rfl⟩ kfX12_343 l_66 (by decide +kernel) rfl hg1 ?_
  refine y_aload_n (i := 0) (n := 16) ⟨dX12_readsE_15, rfl⟩ rfl ?_
  refine y_getR (n := 19) ⟨dX12_readsE_16, rfl⟩ kfX12_68 l_66 rfl r_66_30 ?_
  refine y_iload_n (i := 1) (n := 20) ⟨dX12_readsE_19, rfl⟩ rfl ?_
  refine y_aload_n (i := 0) (n := 21) ⟨dX12_readsE_20, rfl⟩ rfl ?_
  refine y_getI (n := 24) ⟨dX12_readsE_21, rfl⟩ kfX12_290 l_66 rfl ?_
  obtain ⟨hg2, hf⟩ := g_s hf
  refine y_iastore (n := 25) ⟨dX12_readsE_24, rfl⟩ l_86 hg2 ?_
  refine y_aload_n (i := 0) (n := 26) ⟨dX12_readsE_25, rfl⟩ rfl ?_
  obtain ⟨q3, hv4, hf⟩ := b_s hf
  refine c_mo_reads (sI (sI M 66 38 y1) 86 x1.toNatClampNeg (gI (sI M 66 38 y1) 66 37)) (n := 29) ⟨dX12_readsE_26, rfl⟩ klX12_380 hv4 (by decide) (Nat.le_of_ble_eq_true rfl) rfl rfl ?_
  refine y_if_ne (t := 34) (n := 32) ⟨dX12_readsE_29, rfl, rfl⟩ (fun h0 => ?_) (fun h0 => ?_)
  · have hc := bI_1 h0
    replace hf := i_t hc hf
    refine y_aload_n (i := 0) (n := 35) ⟨dX12_readsE_34, rfl⟩ rfl ?_
    refine y_getR (n := 38) ⟨dX12_readsE_35, rfl⟩ kfX12_71 l_66 rfl r_66_31 ?_
    refine y_iload_n (i := 1) (n := 39) ⟨dX12_readsE_38, rfl⟩ rfl ?_
    refine y_aload_n (i := 0) (n := 40) ⟨dX12_readsE_39, rfl⟩ rfl ?_
    refine y_getI (n := 43) ⟨dX12_readsE_40, rfl⟩ kfX12_290 l_66 rfl ?_
    refine y_iastore (n := 44) ⟨dX12_readsE_43, rfl⟩ l_87 hg2 ?_
    refine y_aload_n (i := 0) (n := 45) ⟨dX12_readsE_44, rfl⟩ rfl ?_
    refine y_getR (n := 48) ⟨dX12_readsE_45, rfl⟩ kfX12_65 l_66 rfl r_66_29 ?_
    refine y_iload_n (i := 1) (n := 49) ⟨dX12_readsE_48, rfl⟩ rfl ?_
    refine y_iconst (n := 50) (v := 1) ⟨dX12_readsE_49, rfl⟩ ki_1 ?_
    refine y_bastore (x' := 1) (n := 51) ⟨dX12_readsE_50, rfl⟩ l_85 hg2 rfl ?_
    refine y_iconst (n := 52) (v := 1) ⟨dX12_readsE_51, rfl⟩ ki_1 ?_
    cases hf
    exact y_ireturn (n := 53) ⟨dX12_readsE_52, rfl⟩ rfl rfl hk
  · have hc := bI_0 h0
    replace hf := i_f hc hf
    refine y_iconst (n := 33) (v := 0) ⟨dX12_readsE_32, rfl⟩ ki_0 ?_
    cases hf
    exact y_ireturn (n := 34) ⟨dX12_readsE_33, rfl⟩ rfl rfl hk
theorem ok_mo_readsE (a1 : Int32) (M : dM) {o : (Bool × dM)} (hf : f_mo_readsE a1 M = some o) : mO mX12_readsE 4 [.ref 66, .int a1] M (some (.int (bI o.1))) o.2 := by
  refine y_ok (by decide +kernel) (Nat.le_of_ble_eq_true rfl) (L0 := [some (.ref 66), some (.int a1)]) rfl ?_
  have hk := mR_mQ (some (.int (bI o.1))) o.2
  generalize mQ _ _ = Q at hk ⊢
  unfold f_mo_readsE at hf
  refine y_aload_n (i := 0) (n := 1) ⟨dX12_readsE_0, rfl⟩ rfl ?_
  refine y_iload_n (i := 1) (n := 2) ⟨dX12_readsE_1, rfl⟩ rfl ?_
  refine y_bipush (n := 4) (v := 20) ⟨dX12_readsE_2, rfl⟩ kb_20 ?_
  refine y_icmp_ne (t := 11) (n := 7) ⟨dX12_readsE_4, rfl, rfl⟩ (fun (hc : ¬ (a1 = 20)) => ?_) (fun (hc : a1 = 20) => ?_)
  · replace hf := i_f hc hf
    refine y_iconst (n := 12) (v := 0) ⟨dX12_readsE_11, rfl⟩ ki_0 ?_
    exact y_wk (L2 := [some (.ref 66), some (.int a1)]) ⟨Or.inr rfl, Or.inr rfl, trivial⟩ (w_t_mo_readsE_12 a1 0 M hf hk)
  · replace hf := i_t hc hf
    refine y_iconst (n := 8) (v := 1) ⟨dX12_readsE_7, rfl⟩ ki_1 ?_
    refine y_goto (t := 12) ⟨dX12_readsE_8, rfl, rfl⟩ ?_
    exact y_wk (L2 := [some (.ref 66), some (.int a1)]) ⟨Or.inr rfl, Or.inr rfl, trivial⟩ (w_t_mo_readsE_12 a1 1 M hf hk)
theorem c_mo_readsE (a1 : Int32) (M : dM) {o : (Bool × dM)} {y : mz_M} {d : Nat} {Q : mz_P} {pc n i : Nat} {L : List (Option Value)} {st : List Value} (h : mz_d y.2.1 pc n 3 (.invokevirtual i)) (hl : mz_ml y.1.cls i yX12_readsE) (hf : f_mo_readsE a1 M = some o) (hd : 4 + 1 ≤ d) (hsm : (st.map (fun v => v.category)).sum ≤ 8) (hLr : mz_rL 133 L = true) (hSr : mz_rS 133 st = true) (kk : mW y d Q n L (.int (bI o.1) :: st) o.2) : mW y d Q pc L (.int a1 :: .ref 66 :: st) M :=
  y_callV kmX12_readsE kvX12_readsE l_66 (by decide +kernel) (by decide +kernel) h hl (ok_mo_readsE a1 M hf) (vs := [.int a1]) rfl rfl hd hsm hLr hSr kk
noncomputable def f_mo_readsRule (M : dM) : Option (Bool × dM) :=
  if (gI M 66 22) = 2 then
    if (gI M 66 24) ≤ 7 then
      gd (vp_in (12 + (gI M 66 24)) 21) <|
      if (gI M 85 (12 + (gI M 66 24)).toNatClampNeg) = 0 then
        (f_mo_nextToken M).bind fun q2 =>
        if (f_mo_isWord 10502425 q2) = true then
          (f_mo_nextToken q2).bind fun q4 =>
          (f_mo_readsE (12 + (gI M 66 24)) q4).bind fun q6 =>
          some (q6.1, q6.2)
        else
          some (((f_mo_fails 1 q2).1), (f_mo_fails 1 q2).2)
      else
        some (((f_mo_fails 3 M).1), (f_mo_fails 3 M).2)
    else
      some (((f_mo_fails 4 M).1), (f_mo_fails 4 M).2)
  else
    some (((f_mo_fails 1 M).1), (f_mo_fails 1 M).2)
theorem ok_mo_readsRule  (M : dM) {o : (Bool × dM)} (hf : f_mo_readsRule M = some o) : mO mX12_readsRule 5 [.ref 66] M (some (.int (bI o.1))) o.2 := by
  refine y_ok (by decide +kernel) (Nat.le_of_ble_eq_true rfl) (L0 := [some (.ref 66), none]) rfl ?_
  have hk := mR_mQ (some (.int (bI o.1))) o.2
  generalize mQ _ _ = Q at hk ⊢
  unfold f_mo_readsRule at hf
  refine y_aload_n (i := 0) (n := 1) ⟨dX12_readsRule_0, rfl⟩ rfl ?_
  refine y_getI (n := 4) ⟨dX12_readsRule_1, rfl⟩ kfX12_277 l_66 rfl ?_
  refine y_iconst (n := 5) (v := 2) ⟨dX12_readsRule_4, rfl⟩ ki_2 ?_
  refine y_icmp_eq (t := 14) (n := 8) ⟨dX12_readsRule_5, rfl, rfl⟩ (fun (hc : (gI M 66 22) = 2) => ?_) (fun (hc : ¬ ((gI M 66 22) = 2)) => ?_)
  · replace hf := i_t hc hf
    refine y_aload_n (i := 0) (n := 15) ⟨dX12_readsRule_14, rfl⟩ rfl ?_
    refine y_getI (n := 18) ⟨dX12_readsRule_15, rfl⟩ kfX12_274 l_66 rfl ?_
    refine y_bipush (n := 20) (v := 7) ⟨dX12_readsRule_18, rfl⟩ kb_7 ?_
    refine y_icmp_le (t := 29) (n := 23) ⟨dX12_readsRule_20, rfl, rfl⟩ (fun (hc : (gI M 66 24) ≤ 7) => ?_) (fun (hc : ¬ ((gI M 66 24) ≤ 7)) => ?_)
    · replace hf := i_t hc hf
      refine y_aload_n (i := 0) (n := 30) ⟨dX12_readsRule_29, rfl⟩ rfl ?_
      refine y_getR (n := 33) ⟨dX12_readsRule_30, rfl⟩ kfX12_65 l_66 rfl r_66_29 ?_
      refine y_bipush (n := 35) (v := 12) ⟨dX12_readsRule_33, rfl⟩ kb_12 ?_
      refine y_aload_n (i := 0) (n := 36) ⟨dX12_readsRule_35, rfl⟩ rfl ?_
      refine y_getI (n := 39) ⟨dX12_readsRule_36, rfl⟩ kfX12_274 l_66 rfl ?_
      refine y_iadd (n := 40) ⟨dX12_readsRule_39, rfl⟩ ?_
      obtain ⟨hg1, hf⟩ := g_s hf
      refine y_baload (n := 41) ⟨dX12_readsRule_40, rfl⟩ l_85 hg1 ?_
      refine y_if_eq (t := 50) (n := 44) ⟨dX12_readsRule_41, rfl, rfl⟩ (fun (hc : (gI M 85 (12 + (gI M 66 24)).toNatClampNeg) = 0) => ?_) (fun (hc : ¬ ((gI M 85 (12 + (gI M 66 24)).toNatClampNeg) = 0)) => ?_)
      · replace hf := i_t hc hf
        refine y_bipush (n := 52) (v := 12) ⟨dX12_readsRule_50, rfl⟩ kb_12 ?_
        refine y_aload_n (i := 0) (n := 53) ⟨dX12_readsRule_52, rfl⟩ rfl ?_
        refine y_getI (n := 56) ⟨dX12_readsRule_53, rfl⟩ kfX12_274 l_66 rfl ?_
        refine y_iadd (n := 57) ⟨dX12_readsRule_56, rfl⟩ ?_
        refine y_istore_n (i := 1) (n := 58) (L2 := [some (.ref 66), some (.int (12 + (gI M 66 24)))]) ⟨dX12_readsRule_57, rfl⟩ (by decide) rfl rfl ?_
        refine y_aload_n (i := 0) (n := 59) ⟨dX12_readsRule_58, rfl⟩ rfl ?_
        obtain ⟨q2, hv3, hf⟩ := b_s hf
        refine c_mo_nextToken M (n := 62) ⟨dX12_readsRule_59, rfl⟩ klX12_373 hv3 (by decide) (Nat.le_of_ble_eq_true rfl) rfl rfl ?_
        refine y_aload_n (i := 0) (n := 63) ⟨dX12_readsRule_62, rfl⟩ rfl ?_
        refine y_ldc2 (n := 66) ⟨dX12_readsRule_63, rfl⟩ kcX12_389 ?_
        refine c_mo_isWord 10502425 q2 (n := 69) ⟨dX12_readsRule_66, rfl⟩ klX12_359 rfl (by decide) (Nat.le_of_ble_eq_true rfl) rfl rfl ?_
        refine y_if_ne (t := 78) (n := 72) ⟨dX12_readsRule_69, rfl, rfl⟩ (fun h0 => ?_) (fun h0 => ?_)
        · have hc := bI_1 h0
          replace hf := i_t hc hf
          refine y_aload_n (i := 0) (n := 79) ⟨dX12_readsRule_78, rfl⟩ rfl ?_
          obtain ⟨q4, hv5, hf⟩ := b_s hf
          refine c_mo_nextToken q2 (n := 82) ⟨dX12_readsRule_79, rfl⟩ klX12_373 hv5 (by decide) (Nat.le_of_ble_eq_true rfl) rfl rfl ?_
          refine y_aload_n (i := 0) (n := 83) ⟨dX12_readsRule_82, rfl⟩ rfl ?_
          refine y_iload_n (i := 1) (n := 84) ⟨dX12_readsRule_83, rfl⟩ rfl ?_
          obtain ⟨q6, hv7, hf⟩ := b_s hf
          refine c_mo_readsE (12 + (gI M 66 24)) q4 (n := 87) ⟨dX12_readsRule_84, rfl⟩ klX12_386 hv7 (by decide) (Nat.le_of_ble_eq_true rfl) rfl rfl ?_
          cases hf
          exact y_ireturn (n := 88) ⟨dX12_readsRule_87, rfl⟩ rfl (bI_n _) hk
        · have hc := bI_0 h0
          replace hf := i_f hc hf
          refine y_aload_n (i := 0) (n := 73) ⟨dX12_readsRule_72, rfl⟩ rfl ?_
          refine y_iconst (n := 74) (v := 1) ⟨dX12_readsRule_73, rfl⟩ ki_1 ?_
          refine c_mo_fails 1 q2 (n := 77) ⟨dX12_readsRule_74, rfl⟩ klX12_366 rfl (by decide) (Nat.le_of_ble_eq_true rfl) rfl rfl ?_
          cases hf
          exact y_ireturn (n := 78) ⟨dX12_readsRule_77, rfl⟩ rfl (bI_n _) hk
      · replace hf := i_f hc hf
        refine y_aload_n (i := 0) (n := 45) ⟨dX12_readsRule_44, rfl⟩ rfl ?_
        refine y_iconst (n := 46) (v := 3) ⟨dX12_readsRule_45, rfl⟩ ki_3 ?_
        refine c_mo_fails 3 M (n := 49) ⟨dX12_readsRule_46, rfl⟩ klX12_366 rfl (by decide) (Nat.le_of_ble_eq_true rfl) rfl rfl ?_
        cases hf
        exact y_ireturn (n := 50) ⟨dX12_readsRule_49, rfl⟩ rfl (bI_n _) hk
    · replace hf := i_f hc hf
      refine y_aload_n (i := 0) (n := 24) ⟨dX12_readsRule_23, rfl⟩ rfl ?_
      refine y_iconst (n := 25) (v := 4) ⟨dX12_readsRule_24, rfl⟩ ki_4 ?_
      refine c_mo_fails 4 M (n := 28) ⟨dX12_readsRule_25, rfl⟩ klX12_366 rfl (by decide) (Nat.le_of_ble_eq_true rfl) rfl rfl ?_
      cases hf
      exact y_ireturn (n := 29) ⟨dX12_readsRule_28, rfl⟩ rfl (bI_n _) hk
  · replace hf := i_f hc hf
    refine y_aload_n (i := 0) (n := 9) ⟨dX12_readsRule_8, rfl⟩ rfl ?_
    refine y_iconst (n := 10) (v := 1) ⟨dX12_readsRule_9, rfl⟩ ki_1 ?_
    refine c_mo_fails 1 M (n := 13) ⟨dX12_readsRule_10, rfl⟩ klX12_366 rfl (by decide) (Nat.le_of_ble_eq_true rfl) rfl rfl ?_
    cases hf
    exact y_ireturn (n := 14) ⟨dX12_readsRule_13, rfl⟩ rfl (bI_n _) hk
theorem c_mo_readsRule  (M : dM) {o : (Bool × dM)} {y : mz_M} {d : Nat} {Q : mz_P} {pc n i : Nat} {L : List (Option Value)} {st : List Value} (h : mz_d y.2.1 pc n 3 (.invokevirtual i)) (hl : mz_ml y.1.cls i yX12_readsRule) (hf : f_mo_readsRule M = some o) (hd : 5 + 1 ≤ d) (hsm : (st.map (fun v => v.category)).sum ≤ 8) (hLr : mz_rL 133 L = true) (hSr : mz_rS 133 st = true) (kk : mW y d Q n L (.int (bI o.1) :: st) o.2) : mW y d Q pc L (.ref 66 :: st) M :=
  y_callV kmX12_readsRule kvX12_readsRule l_66 (by decide +kernel) (by decide +kernel) h hl (ok_mo_readsRule  M hf) (vs := []) rfl rfl hd hsm hLr hSr kk
noncomputable def t_mo_readsNumber_62 (M : dM) : Option (Bool × dM) :=
  (f_mo_nextToken M).bind fun q1 =>
  (f_mo_isSign 59 q1).bind fun v3 =>
  if v3 = true then
    (f_mo_nextToken q1).bind fun q5 =>
    some (true, q5)
  else
    some (((f_mo_fails 1 q1).1), (f_mo_fails 1 q1).2)
noncomputable def t_mo_readsNumber_30 (x1 : Int32) (y0 : Int32) (y1 : Int32) (M : dM) : Option (Bool × dM) :=
  if y0 ≤ y1 then
    if x1 = 0 then
      t_mo_readsNumber_62 (sI M 66 35 (gI M 66 24))
    else
      t_mo_readsNumber_62 (sI M 66 34 (gI M 66 24))
  else
    some (((f_mo_fails 4 M).1), (f_mo_fails 4 M).2)
noncomputable def f_mo_readsNumber (a1 : Int32) (M : dM) : Option (Bool × dM) :=
  if (gI M 66 22) = 2 then
    if a1 = 0 then
      t_mo_readsNumber_30 a1 (gI M 66 24) 999 M
    else
      t_mo_readsNumber_30 a1 (gI M 66 24) 9 M
  else
    some (((f_mo_fails 1 M).1), (f_mo_fails 1 M).2)
theorem w_t_mo_readsNumber_62  (M : dM) {Q : mz_P} {o : (Bool × dM)} (hf : t_mo_readsNumber_62 M = some o) (hk : mR Q (some (.int (bI o.1))) o.2) : mW mX12_readsNumber 3 Q 62 [some (.ref 66), none] [] M := by
  unfold t_mo_readsNumber_62 at hf
  refine y_aload_n (i := 0) (n := 63) ⟨dX12_readsNumber_62, rfl⟩ rfl ?_
  obtain ⟨q1, hv2, hf⟩ := b_s hf
  refine c_mo_nextToken M (n := 66) ⟨dX12_readsNumber_63, rfl⟩ klX12_373 hv2 (by decide) (Nat.le_of_ble_eq_true rfl) rfl rfl ?_
  refine y_aload_n (i := 0) (n := 67) ⟨dX12_readsNumber_66, rfl⟩ rfl ?_
  refine y_bipush (n := 69) (v := 59) ⟨dX12_readsNumber_67, rfl⟩ kb_59 ?_
  obtain ⟨v3, hv4, hf⟩ := b_s hf
  refine c_mo_isSign 59 q1 (n := 72) ⟨dX12_readsNumber_69, rfl⟩ klX12_363 hv4 (by decide) (Nat.le_of_ble_eq_true rfl) rfl rfl ?_
  refine y_if_ne (t := 81) (n := 75) ⟨dX12_readsNumber_72, rfl, rfl⟩ (fun h0 => ?_) (fun h0 => ?_)
  · have hc := bI_1 h0
    replace hf := i_t hc hf
    refine y_aload_n (i := 0) (n := 82) ⟨dX12_readsNumber_81, rfl⟩ rfl ?_
    obtain ⟨q5, hv6, hf⟩ := b_s hf
    refine c_mo_nextToken q1 (n := 85) ⟨dX12_readsNumber_82, rfl⟩ klX12_373 hv6 (by decide) (Nat.le_of_ble_eq_true rfl) rfl rfl ?_
    refine y_iconst (n := 86) (v := 1) ⟨dX12_readsNumber_85, rfl⟩ ki_1 ?_
    cases hf
    exact y_ireturn (n := 87) ⟨dX12_readsNumber_86, rfl⟩ rfl rfl hk
  · have hc := bI_0 h0
    replace hf := i_f hc hf
    refine y_aload_n (i := 0) (n := 76) ⟨dX12_readsNumber_75, rfl⟩ rfl ?_
    refine y_iconst (n := 77) (v := 1) ⟨dX12_readsNumber_76, rfl⟩ ki_1 ?_
    refine c_mo_fails 1 q1 (n := 80) ⟨dX12_readsNumber_77, rfl⟩ klX12_366 rfl (by decide) (Nat.le_of_ble_eq_true rfl) rfl rfl ?_
    cases hf
    exact y_ireturn (n := 81) ⟨dX12_readsNumber_80, rfl⟩ rfl (bI_n _) hk
theorem w_t_mo_readsNumber_30 (x1 : Int32) (y0 : Int32) (y1 : Int32) (M : dM) {Q : mz_P} {o : (Bool × dM)} (hf : t_mo_readsNumber_30 x1 y0 y1 M = some o) (hk : mR Q (some (.int (bI o.1))) o.2) : mW mX12_readsNumber 3 Q 30 [some (.ref 66), some (.int x1)] [.int y1, .int y0] M := by
  unfold t_mo_readsNumber_30 at hf
  refine y_icmp_le (t := 39) (n := 33) ⟨dX12_readsNumber_30, rfl, rfl⟩ (fun (hc : y0 ≤ y1) => ?_) (fun (hc : ¬ (y0 ≤ y1)) => ?_)
  · replace hf := i_t hc hf
    refine y_iload_n (i := 1) (n := 40) ⟨dX12_readsNumber_39, rfl⟩ rfl ?_
    refine y_if_eq (t := 54) (n := 43) ⟨dX12_readsNumber_40, rfl, rfl⟩ (fun (hc : x1 = 0) => ?_) (fun (hc : ¬ (x1 = 0)) => ?_)
    · replace hf := i_t hc hf
      refine y_aload_n (i := 0) (n := 55) ⟨dX12_readsNumber_54, rfl⟩ rfl ?_
      refine y_aload_n (i := 0) (n := 56) ⟨dX12_readsNumber_55, rfl⟩ rfl ?_
      refine y_getI (n := 59) ⟨dX12_readsNumber_56, rfl⟩ kfX12_274 l_66 rfl ?_
      refine y_putI (n := 62) ⟨dX12_readsNumber_59, rfl⟩ kfX12_394 l_66 (by decide +kernel) rfl ?_
      exact y_wk (L2 := [some (.ref 66), none]) ⟨Or.inr rfl, Or.inl rfl, trivial⟩ (w_t_mo_readsNumber_62 (sI M 66 35 (gI M 66 24)) hf hk)
    · replace hf := i_f hc hf
      refine y_aload_n (i := 0) (n := 44) ⟨dX12_readsNumber_43, rfl⟩ rfl ?_
      refine y_aload_n (i := 0) (n := 45) ⟨dX12_readsNumber_44, rfl⟩ rfl ?_
      refine y_getI (n := 48) ⟨dX12_readsNumber_45, rfl⟩ kfX12_274 l_66 rfl ?_
      refine y_putI (n := 51) ⟨dX12_readsNumber_48, rfl⟩ kfX12_391 l_66 (by decide +kernel) rfl ?_
      refine y_goto (t := 62) ⟨dX12_readsNumber_51, rfl, rfl⟩ ?_
      exact y_wk (L2 := [some (.ref 66), none]) ⟨Or.inr rfl, Or.inl rfl, trivial⟩ (w_t_mo_readsNumber_62 (sI M 66 34 (gI M 66 24)) hf hk)
  · replace hf := i_f hc hf
    refine y_aload_n (i := 0) (n := 34) ⟨dX12_readsNumber_33, rfl⟩ rfl ?_
    refine y_iconst (n := 35) (v := 4) ⟨dX12_readsNumber_34, rfl⟩ ki_4 ?_
    refine c_mo_fails 4 M (n := 38) ⟨dX12_readsNumber_35, rfl⟩ klX12_366 rfl (by decide) (Nat.le_of_ble_eq_true rfl) rfl rfl ?_
    cases hf
    exact y_ireturn (n := 39) ⟨dX12_readsNumber_38, rfl⟩ rfl (bI_n _) hk
theorem ok_mo_readsNumber (a1 : Int32) (M : dM) {o : (Bool × dM)} (hf : f_mo_readsNumber a1 M = some o) : mO mX12_readsNumber 3 [.ref 66, .int a1] M (some (.int (bI o.1))) o.2 := by
  refine y_ok (by decide +kernel) (Nat.le_of_ble_eq_true rfl) (L0 := [some (.ref 66), some (.int a1)]) rfl ?_
  have hk := mR_mQ (some (.int (bI o.1))) o.2
  generalize mQ _ _ = Q at hk ⊢
  unfold f_mo_readsNumber at hf
  refine y_aload_n (i := 0) (n := 1) ⟨dX12_readsNumber_0, rfl⟩ rfl ?_
  refine y_getI (n := 4) ⟨dX12_readsNumber_1, rfl⟩ kfX12_277 l_66 rfl ?_
  refine y_iconst (n := 5) (v := 2) ⟨dX12_readsNumber_4, rfl⟩ ki_2 ?_
  refine y_icmp_eq (t := 14) (n := 8) ⟨dX12_readsNumber_5, rfl, rfl⟩ (fun (hc : (gI M 66 22) = 2) => ?_) (fun (hc : ¬ ((gI M 66 22) = 2)) => ?_)
  · replace hf := i_t hc hf
    refine y_aload_n (i := 0) (n := 15) ⟨dX12_readsNumber_14, rfl⟩ rfl ?_
    refine y_getI (n := 18) ⟨dX12_readsNumber_15, rfl⟩ kfX12_274 l_66 rfl ?_
    refine y_iload_n (i := 1) (n := 19) ⟨dX12_readsNumber_18, rfl⟩ rfl ?_
    refine y_if_eq (t := 27) (n := 22) ⟨dX12_readsNumber_19, rfl, rfl⟩ (fun (hc : a1 = 0) => ?_) (fun (hc : ¬ (a1 = 0)) => ?_)
    · replace hf := i_t hc hf
      refine y_sipush (n := 30) (v := 999) ⟨dX12_readsNumber_27, rfl⟩ ks_999 ?_
      exact y_wk (L2 := [some (.ref 66), some (.int a1)]) ⟨Or.inr rfl, Or.inr rfl, trivial⟩ (w_t_mo_readsNumber_30 a1 (gI M 66 24) 999 M hf hk)
    · replace hf := i_f hc hf
      refine y_bipush (n := 24) (v := 9) ⟨dX12_readsNumber_22, rfl⟩ kb_9 ?_
      refine y_goto (t := 30) ⟨dX12_readsNumber_24, rfl, rfl⟩ ?_
      exact y_wk (L2 := [some (.ref 66), some (.int a1)]) ⟨Or.inr rfl, Or.inr rfl, trivial⟩ (w_t_mo_readsNumber_30 a1 (gI M 66 24) 9 M hf hk)
  · replace hf := i_f hc hf
    refine y_aload_n (i := 0) (n := 9) ⟨dX12_readsNumber_8, rfl⟩ rfl ?_
    refine y_iconst (n := 10) (v := 1) ⟨dX12_readsNumber_9, rfl⟩ ki_1 ?_
    refine c_mo_fails 1 M (n := 13) ⟨dX12_readsNumber_10, rfl⟩ klX12_366 rfl (by decide) (Nat.le_of_ble_eq_true rfl) rfl rfl ?_
    cases hf
    exact y_ireturn (n := 14) ⟨dX12_readsNumber_13, rfl⟩ rfl (bI_n _) hk
theorem c_mo_readsNumber (a1 : Int32) (M : dM) {o : (Bool × dM)} {y : mz_M} {d : Nat} {Q : mz_P} {pc n i : Nat} {L : List (Option Value)} {st : List Value} (h : mz_d y.2.1 pc n 3 (.invokevirtual i)) (hl : mz_ml y.1.cls i yX12_readsNumber) (hf : f_mo_readsNumber a1 M = some o) (hd : 3 + 1 ≤ d) (hsm : (st.map (fun v => v.category)).sum ≤ 8) (hLr : mz_rL 133 L = true) (hSr : mz_rS 133 st = true) (kk : mW y d Q n L (.int (bI o.1) :: st) o.2) : mW y d Q pc L (.int a1 :: .ref 66 :: st) M :=
  y_callV kmX12_readsNumber kvX12_readsNumber l_66 (by decide +kernel) (by decide +kernel) h hl (ok_mo_readsNumber a1 M hf) (vs := [.int a1]) rfl rfl hd hsm hLr hSr kk
noncomputable def f_mo_readsWhen (a1 : Int32) (M : dM) : Option (Bool × dM) :=
  if (f_mo_isWord 458690 M) = true then
    (f_mo_nextToken M).bind fun q1 =>
    (f_mo_readsE a1 q1).bind fun q3 =>
    some (q3.1, q3.2)
  else
    some (((f_mo_fails 1 M).1), (f_mo_fails 1 M).2)
theorem ok_mo_readsWhen (a1 : Int32) (M : dM) {o : (Bool × dM)} (hf : f_mo_readsWhen a1 M = some o) : mO mX12_readsWhen 5 [.ref 66, .int a1] M (some (.int (bI o.1))) o.2 := by
  refine y_ok (by decide +kernel) (Nat.le_of_ble_eq_true rfl) (L0 := [some (.ref 66), some (.int a1)]) rfl ?_
  have hk := mR_mQ (some (.int (bI o.1))) o.2
  generalize mQ _ _ = Q at hk ⊢
  unfold f_mo_readsWhen at hf
  refine y_aload_n (i := 0) (n := 1) ⟨dX12_readsWhen_0, rfl⟩ rfl ?_
  refine y_ldc2 (n := 4) ⟨dX12_readsWhen_1, rfl⟩ kcX12_384 ?_
  refine c_mo_isWord 458690 M (n := 7) ⟨dX12_readsWhen_4, rfl⟩ klX12_359 rfl (by decide) (Nat.le_of_ble_eq_true rfl) rfl rfl ?_
  refine y_if_ne (t := 16) (n := 10) ⟨dX12_readsWhen_7, rfl, rfl⟩ (fun h0 => ?_) (fun h0 => ?_)
  · have hc := bI_1 h0
    replace hf := i_t hc hf
    refine y_aload_n (i := 0) (n := 17) ⟨dX12_readsWhen_16, rfl⟩ rfl ?_
    obtain ⟨q1, hv2, hf⟩ := b_s hf
    refine c_mo_nextToken M (n := 20) ⟨dX12_readsWhen_17, rfl⟩ klX12_373 hv2 (by decide) (Nat.le_of_ble_eq_true rfl) rfl rfl ?_
    refine y_aload_n (i := 0) (n := 21) ⟨dX12_readsWhen_20, rfl⟩ rfl ?_
    refine y_iload_n (i := 1) (n := 22) ⟨dX12_readsWhen_21, rfl⟩ rfl ?_
    obtain ⟨q3, hv4, hf⟩ := b_s hf
    refine c_mo_readsE a1 q1 (n := 25) ⟨dX12_readsWhen_22, rfl⟩ klX12_386 hv4 (by decide) (Nat.le_of_ble_eq_true rfl) rfl rfl ?_
    cases hf
    exact y_ireturn (n := 26) ⟨dX12_readsWhen_25, rfl⟩ rfl (bI_n _) hk
  · have hc := bI_0 h0
    replace hf := i_f hc hf
    refine y_aload_n (i := 0) (n := 11) ⟨dX12_readsWhen_10, rfl⟩ rfl ?_
    refine y_iconst (n := 12) (v := 1) ⟨dX12_readsWhen_11, rfl⟩ ki_1 ?_
    refine c_mo_fails 1 M (n := 15) ⟨dX12_readsWhen_12, rfl⟩ klX12_366 rfl (by decide) (Nat.le_of_ble_eq_true rfl) rfl rfl ?_
    cases hf
    exact y_ireturn (n := 16) ⟨dX12_readsWhen_15, rfl⟩ rfl (bI_n _) hk
theorem c_mo_readsWhen (a1 : Int32) (M : dM) {o : (Bool × dM)} {y : mz_M} {d : Nat} {Q : mz_P} {pc n i : Nat} {L : List (Option Value)} {st : List Value} (h : mz_d y.2.1 pc n 3 (.invokevirtual i)) (hl : mz_ml y.1.cls i yX12_readsWhen) (hf : f_mo_readsWhen a1 M = some o) (hd : 5 + 1 ≤ d) (hsm : (st.map (fun v => v.category)).sum ≤ 8) (hLr : mz_rL 133 L = true) (hSr : mz_rS 133 st = true) (kk : mW y d Q n L (.int (bI o.1) :: st) o.2) : mW y d Q pc L (.int a1 :: .ref 66 :: st) M :=
  y_callV kmX12_readsWhen kvX12_readsWhen l_66 (by decide +kernel) (by decide +kernel) h hl (ok_mo_readsWhen a1 M hf) (vs := [.int a1]) rfl rfl hd hsm hLr hSr kk
def K_mo_readsAll_23 (Q : mz_P) (x1 : Int32) (x2 : Int32) (x3 : Int32) (x4 : Int32) : ((Int32 × dM) ⊕ dM) → Prop
  | .inl s => mW mX12_readsAll 6 Q 23 [some (.ref 66), some (.int x1), some (.int x2), some (.int x3), some (.int x4), some (.int s.1), none, none, none, none, none, none] [] s.2
  | .inr t => mW mX12_readsAll 6 Q 44 [some (.ref 66), some (.int x1), some (.int x2), some (.int x3), some (.int x4), none, none, none, none, none, none, none] [] t
noncomputable def b_mo_readsAll_23_23 (x1 : Int32) (x2 : Int32) (x3 : Int32) (x4 : Int32) (x5 : Int32) (M : dM) : Option ((Int32 × dM) ⊕ dM) :=
  if 21 ≤ x5 then
    some (.inr M)
  else
    gd (vp_in x5 21) <|
    some (.inl ((x5 + 1), (sI M 85 x5.toNatClampNeg 0)))
noncomputable def l_mo_readsAll_23 (x1 : Int32) (x2 : Int32) (x3 : Int32) (x4 : Int32) (x5 : Int32) (M : dM) : Option dM := lpc (fun s => b_mo_readsAll_23_23 x1 x2 x3 x4 s.1 s.2) (x5, M)
def K_mo_readsAll_73 (Q : mz_P)  : ((Int32 × Int32 × Int32 × Int32 × dM) ⊕ (Bool × dM)) → Prop
  | .inl s => mW mX12_readsAll 6 Q 73 [some (.ref 66), some (.int s.1), some (.int s.2.1), some (.int s.2.2.1), some (.int s.2.2.2.1), none, none, none, none, none, none, none] [] s.2.2.2.2
  | .inr r => mR Q (some (.int (bI r.1))) r.2
noncomputable def b_mo_readsAll_73_352 (x2 : Int32) (x3 : Int32) (x4 : Int32) (x6 : Int32) (y0 : Int32) (y1 : Int32) (M : dM) : Option ((Int32 × Int32 × Int32 × Int32 × dM) ⊕ (Bool × dM)) :=
  if x6 = 0 then
    some (.inl ((y0 + y1), (x2 + 0), x3, x4, M))
  else
    some (.inl ((y0 + y1), (x2 + 1), x3, x4, M))
noncomputable def b_mo_readsAll_73_332 (x1 : Int32) (x2 : Int32) (x3 : Int32) (x4 : Int32) (x5 : Int32) (x6 : Int32) (y0 : Int32) (M : dM) : Option ((Int32 × Int32 × Int32 × Int32 × dM) ⊕ (Bool × dM)) :=
  if y0 = 0 then
    some (.inr (false, M))
  else
    if x5 = 0 then
      b_mo_readsAll_73_352 x2 x3 x4 x6 x1 0 M
    else
      b_mo_readsAll_73_352 x2 x3 x4 x6 x1 1 M
noncomputable def b_mo_readsAll_73_296 (x1 : Int32) (x2 : Int32) (x3 : Int32) (x4 : Int32) (x5 : Int32) (x6 : Int32) (x8 : Int32) (M : dM) : Option ((Int32 × Int32 × Int32 × Int32 × dM) ⊕ (Bool × dM)) :=
  (f_mo_readsNumber x8 M).bind fun q9 =>
  b_mo_readsAll_73_332 x1 x2 x3 x4 x5 x6 (bI q9.1) q9.2
noncomputable def b_mo_readsAll_73_329 (x1 : Int32) (x2 : Int32) (x3 : Int32) (x4 : Int32) (x5 : Int32) (x6 : Int32) (y1 : Int32) (M : dM) : Option ((Int32 × Int32 × Int32 × Int32 × dM) ⊕ (Bool × dM)) :=
  (f_mo_readsWhen y1 M).bind fun q11 =>
  b_mo_readsAll_73_332 x1 x2 x3 x4 x5 x6 (bI q11.1) q11.2
noncomputable def b_mo_readsAll_73_272 (x1 : Int32) (x2 : Int32) (x3 : Int32) (x5 : Int32) (x6 : Int32) (x7 : Int32) (x8 : Int32) (x9 : Int32) (y0 : Int32) (M : dM) : Option ((Int32 × Int32 × Int32 × Int32 × dM) ⊕ (Bool × dM)) :=
  if x7 = 0 then
    if x8 = 0 then
      if x9 = 0 then
        if x5 = 0 then
          if x6 = 0 then
            b_mo_readsAll_73_329 x1 x2 x3 y0 x5 x6 20 M
          else
            b_mo_readsAll_73_329 x1 x2 x3 y0 x5 x6 (6 + x2) M
        else
          b_mo_readsAll_73_329 x1 x2 x3 y0 x5 x6 x1 M
      else
        b_mo_readsAll_73_296 x1 x2 x3 y0 x5 x6 x8 M
    else
      b_mo_readsAll_73_296 x1 x2 x3 y0 x5 x6 x8 M
  else
    (f_mo_readsRule M).bind fun q13 =>
    b_mo_readsAll_73_332 x1 x2 x3 y0 x5 x6 (bI q13.1) q13.2
noncomputable def b_mo_readsAll_73_267 (x1 : Int32) (x2 : Int32) (x3 : Int32) (x5 : Int32) (x6 : Int32) (x7 : Int32) (x8 : Int32) (x9 : Int32) (M : dM) : Option ((Int32 × Int32 × Int32 × Int32 × dM) ⊕ (Bool × dM)) :=
  b_mo_readsAll_73_272 x1 x2 x3 x5 x6 x7 x8 x9 1 M
noncomputable def b_mo_readsAll_73_256 (x1 : Int32) (x2 : Int32) (x4 : Int32) (x5 : Int32) (x6 : Int32) (x7 : Int32) (x8 : Int32) (x9 : Int32) (y0 : Int32) (M : dM) : Option ((Int32 × Int32 × Int32 × Int32 × dM) ⊕ (Bool × dM)) :=
  if x4 = 0 then
    if x9 = 0 then
      b_mo_readsAll_73_272 x1 x2 y0 x5 x6 x7 x8 x9 0 M
    else
      b_mo_readsAll_73_267 x1 x2 y0 x5 x6 x7 x8 x9 M
  else
    b_mo_readsAll_73_267 x1 x2 y0 x5 x6 x7 x8 x9 M
noncomputable def b_mo_readsAll_73_251 (x1 : Int32) (x2 : Int32) (x4 : Int32) (x5 : Int32) (x6 : Int32) (x7 : Int32) (x8 : Int32) (x9 : Int32) (M : dM) : Option ((Int32 × Int32 × Int32 × Int32 × dM) ⊕ (Bool × dM)) :=
  b_mo_readsAll_73_256 x1 x2 x4 x5 x6 x7 x8 x9 1 M
noncomputable def b_mo_readsAll_73_238 (x1 : Int32) (x2 : Int32) (x3 : Int32) (x4 : Int32) (x5 : Int32) (x6 : Int32) (x7 : Int32) (x8 : Int32) (x9 : Int32) (M : dM) : Option ((Int32 × Int32 × Int32 × Int32 × dM) ⊕ (Bool × dM)) :=
  (f_mo_nextToken M).bind fun q7 =>
  if x3 = 0 then
    if x8 = 0 then
      b_mo_readsAll_73_256 x1 x2 x4 x5 x6 x7 x8 x9 0 q7
    else
      b_mo_readsAll_73_251 x1 x2 x4 x5 x6 x7 x8 x9 q7
  else
    b_mo_readsAll_73_251 x1 x2 x4 x5 x6 x7 x8 x9 q7
noncomputable def b_mo_readsAll_73_232 (M : dM) : Option ((Int32 × Int32 × Int32 × Int32 × dM) ⊕ (Bool × dM)) :=
  some (.inr (((f_mo_fails 5 M).1), (f_mo_fails 5 M).2))
noncomputable def b_mo_readsAll_73_221 (x1 : Int32) (x2 : Int32) (x3 : Int32) (x4 : Int32) (x5 : Int32) (x6 : Int32) (x7 : Int32) (x8 : Int32) (x9 : Int32) (M : dM) : Option ((Int32 × Int32 × Int32 × Int32 × dM) ⊕ (Bool × dM)) :=
  if x6 = 0 then
    b_mo_readsAll_73_238 x1 x2 x3 x4 x5 x6 x7 x8 x9 M
  else
    if x2 = 6 then
      b_mo_readsAll_73_232 M
    else
      b_mo_readsAll_73_238 x1 x2 x3 x4 x5 x6 x7 x8 x9 M
noncomputable def b_mo_readsAll_73_210 (x1 : Int32) (x2 : Int32) (x3 : Int32) (x4 : Int32) (x5 : Int32) (x6 : Int32) (x7 : Int32) (x8 : Int32) (x9 : Int32) (M : dM) : Option ((Int32 × Int32 × Int32 × Int32 × dM) ⊕ (Bool × dM)) :=
  if x5 = 0 then
    b_mo_readsAll_73_221 x1 x2 x3 x4 x5 x6 x7 x8 x9 M
  else
    if x1 = 6 then
      b_mo_readsAll_73_232 M
    else
      b_mo_readsAll_73_221 x1 x2 x3 x4 x5 x6 x7 x8 x9 M
noncomputable def b_mo_readsAll_73_204 (M : dM) : Option ((Int32 × Int32 × Int32 × Int32 × dM) ⊕ (Bool × dM)) :=
  some (.inr (((f_mo_fails 3 M).1), (f_mo_fails 3 M).2))
noncomputable def b_mo_readsAll_73_189 (x1 : Int32) (x2 : Int32) (x3 : Int32) (x4 : Int32) (x5 : Int32) (x6 : Int32) (x7 : Int32) (x8 : Int32) (x9 : Int32) (x10 : Int32) (M : dM) : Option ((Int32 × Int32 × Int32 × Int32 × dM) ⊕ (Bool × dM)) :=
  if x10 = 0 then
    b_mo_readsAll_73_210 x1 x2 x3 x4 x5 x6 x7 x8 x9 M
  else
    if (gI M 85 20) = 0 then
      b_mo_readsAll_73_210 x1 x2 x3 x4 x5 x6 x7 x8 x9 M
    else
      b_mo_readsAll_73_204 M
noncomputable def b_mo_readsAll_73_179 (x1 : Int32) (x2 : Int32) (x3 : Int32) (x4 : Int32) (x5 : Int32) (x6 : Int32) (x7 : Int32) (x8 : Int32) (x9 : Int32) (x10 : Int32) (M : dM) : Option ((Int32 × Int32 × Int32 × Int32 × dM) ⊕ (Bool × dM)) :=
  if x9 = 0 then
    b_mo_readsAll_73_189 x1 x2 x3 x4 x5 x6 x7 x8 x9 x10 M
  else
    if x4 = 0 then
      b_mo_readsAll_73_189 x1 x2 x3 x4 x5 x6 x7 x8 x9 x10 M
    else
      b_mo_readsAll_73_204 M
noncomputable def b_mo_readsAll_73_170 (x1 : Int32) (x2 : Int32) (x3 : Int32) (x4 : Int32) (x5 : Int32) (x6 : Int32) (x7 : Int32) (x8 : Int32) (x9 : Int32) (x10 : Int32) (M : dM) : Option ((Int32 × Int32 × Int32 × Int32 × dM) ⊕ (Bool × dM)) :=
  if x8 = 0 then
    b_mo_readsAll_73_179 x1 x2 x3 x4 x5 x6 x7 x8 x9 x10 M
  else
    if x3 = 0 then
      b_mo_readsAll_73_179 x1 x2 x3 x4 x5 x6 x7 x8 x9 x10 M
    else
      b_mo_readsAll_73_204 M
noncomputable def b_mo_readsAll_73_73 (x1 : Int32) (x2 : Int32) (x3 : Int32) (x4 : Int32) (M : dM) : Option ((Int32 × Int32 × Int32 × Int32 × dM) ⊕ (Bool × dM)) :=
  if (gI M 66 22) = 0 then
    some (.inr (true, M))
  else
    if (f_mo_isWord 1503 M) = true then
      b_mo_readsAll_73_170 x1 x2 x3 x4 (bI (f_mo_isWord 1503 M)) (bI (f_mo_isWord 11047 M)) (bI (f_mo_isWord 369932 M)) (bI (f_mo_isWord 10284818 M)) (bI (f_mo_isWord 4419 M)) (bI (f_mo_isWord 79495460 M)) M
    else
      if (f_mo_isWord 11047 M) = true then
        b_mo_readsAll_73_170 x1 x2 x3 x4 (bI (f_mo_isWord 1503 M)) (bI (f_mo_isWord 11047 M)) (bI (f_mo_isWord 369932 M)) (bI (f_mo_isWord 10284818 M)) (bI (f_mo_isWord 4419 M)) (bI (f_mo_isWord 79495460 M)) M
      else
        if (f_mo_isWord 369932 M) = true then
          b_mo_readsAll_73_170 x1 x2 x3 x4 (bI (f_mo_isWord 1503 M)) (bI (f_mo_isWord 11047 M)) (bI (f_mo_isWord 369932 M)) (bI (f_mo_isWord 10284818 M)) (bI (f_mo_isWord 4419 M)) (bI (f_mo_isWord 79495460 M)) M
        else
          if (f_mo_isWord 10284818 M) = true then
            b_mo_readsAll_73_170 x1 x2 x3 x4 (bI (f_mo_isWord 1503 M)) (bI (f_mo_isWord 11047 M)) (bI (f_mo_isWord 369932 M)) (bI (f_mo_isWord 10284818 M)) (bI (f_mo_isWord 4419 M)) (bI (f_mo_isWord 79495460 M)) M
          else
            if (f_mo_isWord 4419 M) = true then
              b_mo_readsAll_73_170 x1 x2 x3 x4 (bI (f_mo_isWord 1503 M)) (bI (f_mo_isWord 11047 M)) (bI (f_mo_isWord 369932 M)) (bI (f_mo_isWord 10284818 M)) (bI (f_mo_isWord 4419 M)) (bI (f_mo_isWord 79495460 M)) M
            else
              if (f_mo_isWord 79495460 M) = true then
                b_mo_readsAll_73_170 x1 x2 x3 x4 (bI (f_mo_isWord 1503 M)) (bI (f_mo_isWord 11047 M)) (bI (f_mo_isWord 369932 M)) (bI (f_mo_isWord 10284818 M)) (bI (f_mo_isWord 4419 M)) (bI (f_mo_isWord 79495460 M)) M
              else
                some (.inr (((f_mo_fails 1 M).1), (f_mo_fails 1 M).2))
noncomputable def l_mo_readsAll_73 (x1 : Int32) (x2 : Int32) (x3 : Int32) (x4 : Int32) (M : dM) : Option (Bool × dM) := lpc (fun s => b_mo_readsAll_73_73 s.1 s.2.1 s.2.2.1 s.2.2.2.1 s.2.2.2.2) (x1, x2, x3, x4, M)
noncomputable def f_mo_readsAll (M : dM) : Option (Bool × dM) :=
  (l_mo_readsAll_23 0 0 0 0 0 (sI (sI M 66 34 3) 66 35 100)).bind fun t2 =>
    (f_mo_nextToken (sI (sI (sI (sI t2 66 37 1000) 66 19 (gI (sI t2 66 37 1000) 66 17)) 66 17 0) 66 20 0)).bind fun q5 =>
    (l_mo_readsAll_73 0 0 0 0 q5).bind fun r20 => some r20
theorem w_b_mo_readsAll_23_23 (x1 : Int32) (x2 : Int32) (x3 : Int32) (x4 : Int32) (x5 : Int32)  (M : dM) {Q : mz_P} {o : ((Int32 × dM) ⊕ dM)} (hf : b_mo_readsAll_23_23 x1 x2 x3 x4 x5 M = some o) (hk : K_mo_readsAll_23 Q x1 x2 x3 x4 o) : mW mX12_readsAll 6 Q 23 [some (.ref 66), some (.int x1), some (.int x2), some (.int x3), some (.int x4), some (.int x5), none, none, none, none, none, none] [] M := by
  unfold b_mo_readsAll_23_23 at hf
  refine y_iload (i := 5) (n := 25) ⟨dX12_readsAll_23, rfl⟩ rfl ?_
  refine y_bipush (n := 27) (v := 21) ⟨dX12_readsAll_25, rfl⟩ kb_21 ?_
  refine y_icmp_ge (t := 44) (n := 30) ⟨dX12_readsAll_27, rfl, rfl⟩ (fun (hc : 21 ≤ x5) => ?_) (fun (hc : ¬ (21 ≤ x5)) => ?_)
  · replace hf := i_t hc hf
    cases hf
    exact y_wk (L2 := [some (.ref 66), some (.int x1), some (.int x2), some (.int x3), some (.int x4), none, none, none, none, none, none, none]) ⟨Or.inr rfl, Or.inr rfl, Or.inr rfl, Or.inr rfl, Or.inr rfl, Or.inl rfl, Or.inr rfl, Or.inr rfl, Or.inr rfl, Or.inr rfl, Or.inr rfl, Or.inr rfl, trivial⟩ hk
  · replace hf := i_f hc hf
    refine y_aload_n (i := 0) (n := 31) ⟨dX12_readsAll_30, rfl⟩ rfl ?_
    refine y_getR (n := 34) ⟨dX12_readsAll_31, rfl⟩ kfX12_65 l_66 rfl r_66_29 ?_
    refine y_iload (i := 5) (n := 36) ⟨dX12_readsAll_34, rfl⟩ rfl ?_
    refine y_iconst (n := 37) (v := 0) ⟨dX12_readsAll_36, rfl⟩ ki_0 ?_
    obtain ⟨hg1, hf⟩ := g_s hf
    refine y_bastore (x' := 0) (n := 38) ⟨dX12_readsAll_37, rfl⟩ l_85 hg1 rfl ?_
    refine y_iinc (i := 5) (n := 41) (b := (x5 + 1)) (L2 := [some (.ref 66), some (.int x1), some (.int x2), some (.int x3), some (.int x4), some (.int (x5 + 1)), none, none, none, none, none, none]) ⟨dX12_readsAll_38, rfl⟩ rfl (by rw [ki_1]) (by decide) rfl rfl ?_
    refine y_goto (t := 23) ⟨dX12_readsAll_41, rfl, rfl⟩ ?_
    cases hf
    exact y_wk (L2 := [some (.ref 66), some (.int x1), some (.int x2), some (.int x3), some (.int x4), some (.int (x5 + 1)), none, none, none, none, none, none]) ⟨Or.inr rfl, Or.inr rfl, Or.inr rfl, Or.inr rfl, Or.inr rfl, Or.inr rfl, Or.inr rfl, Or.inr rfl, Or.inr rfl, Or.inr rfl, Or.inr rfl, Or.inr rfl, trivial⟩ hk
theorem wl_mo_readsAll_23 (x1 : Int32) (x2 : Int32) (x3 : Int32) (x4 : Int32) (x5 : Int32) (M : dM) {Q : mz_P} {x : dM} (hf : l_mo_readsAll_23 x1 x2 x3 x4 x5 M = some x) (hk : K_mo_readsAll_23 Q x1 x2 x3 x4 (.inr x)) : mW mX12_readsAll 6 Q 23 [some (.ref 66), some (.int x1), some (.int x2), some (.int x3), some (.int x4), some (.int x5), none, none, none, none, none, none] [] M :=
  lpc_wp (σ := (Int32 × dM)) (ξ := dM) (s := (x5, M)) (Wh := fun s => mW mX12_readsAll 6 Q 23 [some (.ref 66), some (.int x1), some (.int x2), some (.int x3), some (.int x4), some (.int s.1), none, none, none, none, none, none] [] s.2) (K := K_mo_readsAll_23 Q x1 x2 x3 x4) (fun _ h => h) (fun s o hb hk => w_b_mo_readsAll_23_23 x1 x2 x3 x4 s.1 s.2 hb hk) hf hk
theorem w_b_mo_readsAll_73_352 (x2 : Int32) (x3 : Int32) (x4 : Int32) (x6 : Int32) (y0 : Int32) (y1 : Int32)  (M : dM) {Q : mz_P} {o : ((Int32 × Int32 × Int32 × Int32 × dM) ⊕ (Bool × dM))} (hf : b_mo_readsAll_73_352 x2 x3 x4 x6 y0 y1 M = some o) (hk : K_mo_readsAll_73 Q  o) : mW mX12_readsAll 6 Q 352 [some (.ref 66), none, some (.int x2), some (.int x3), some (.int x4), none, some (.int x6), none, none, none, none, none] [.int y1, .int y0] M := by
  unfold b_mo_readsAll_73_352 at hf
  refine y_iadd (n := 353) ⟨dX12_readsAll_352, rfl⟩ ?_
  refine y_istore_n (i := 1) (n := 354) (L2 := [some (.ref 66), some (.int (y0 + y1)), some (.int x2), some (.int x3), some (.int x4), none, some (.int x6), none, none, none, none, none]) ⟨dX12_readsAll_353, rfl⟩ (by decide) rfl rfl ?_
  refine y_iload_n (i := 2) (n := 355) ⟨dX12_readsAll_354, rfl⟩ rfl ?_
  refine y_iload (i := 6) (n := 357) ⟨dX12_readsAll_355, rfl⟩ rfl ?_
  refine y_if_eq (t := 364) (n := 360) ⟨dX12_readsAll_357, rfl, rfl⟩ (fun (hc : x6 = 0) => ?_) (fun (hc : ¬ (x6 = 0)) => ?_)
  · replace hf := i_t hc hf
    refine y_iconst (n := 365) (v := 0) ⟨dX12_readsAll_364, rfl⟩ ki_0 ?_
    refine y_iadd (n := 366) ⟨dX12_readsAll_365, rfl⟩ ?_
    refine y_istore_n (i := 2) (n := 367) (L2 := [some (.ref 66), some (.int (y0 + y1)), some (.int (x2 + 0)), some (.int x3), some (.int x4), none, some (.int x6), none, none, none, none, none]) ⟨dX12_readsAll_366, rfl⟩ (by decide) rfl rfl ?_
    refine y_goto (t := 73) ⟨dX12_readsAll_367, rfl, rfl⟩ ?_
    cases hf
    exact y_wk (L2 := [some (.ref 66), some (.int (y0 + y1)), some (.int (x2 + 0)), some (.int x3), some (.int x4), none, none, none, none, none, none, none]) ⟨Or.inr rfl, Or.inr rfl, Or.inr rfl, Or.inr rfl, Or.inr rfl, Or.inr rfl, Or.inl rfl, Or.inr rfl, Or.inr rfl, Or.inr rfl, Or.inr rfl, Or.inr rfl, trivial⟩ hk
  · replace hf := i_f hc hf
    refine y_iconst (n := 361) (v := 1) ⟨dX12_readsAll_360, rfl⟩ ki_1 ?_
    refine y_goto (t := 365) ⟨dX12_readsAll_361, rfl, rfl⟩ ?_
    refine y_iadd (n := 366) ⟨dX12_readsAll_365, rfl⟩ ?_
    refine y_istore_n (i := 2) (n := 367) (L2 := [some (.ref 66), some (.int (y0 + y1)), some (.int (x2 + 1)), some (.int x3), some (.int x4), none, some (.int x6), none, none, none, none, none]) ⟨dX12_readsAll_366, rfl⟩ (by decide) rfl rfl ?_
    refine y_goto (t := 73) ⟨dX12_readsAll_367, rfl, rfl⟩ ?_
    cases hf
    exact y_wk (L2 := [some (.ref 66), some (.int (y0 + y1)), some (.int (x2 + 1)), some (.int x3), some (.int x4), none, none, none, none, none, none, none]) ⟨Or.inr rfl, Or.inr rfl, Or.inr rfl, Or.inr rfl, Or.inr rfl, Or.inr rfl, Or.inl rfl, Or.inr rfl, Or.inr rfl, Or.inr rfl, Or.inr rfl, Or.inr rfl, trivial⟩ hk
theorem w_b_mo_readsAll_73_332 (x1 : Int32) (x2 : Int32) (x3 : Int32) (x4 : Int32) (x5 : Int32) (x6 : Int32) (y0 : Int32)  (M : dM) {Q : mz_P} {o : ((Int32 × Int32 × Int32 × Int32 × dM) ⊕ (Bool × dM))} (hf : b_mo_readsAll_73_332 x1 x2 x3 x4 x5 x6 y0 M = some o) (hk : K_mo_readsAll_73 Q  o) : mW mX12_readsAll 6 Q 332 [some (.ref 66), some (.int x1), some (.int x2), some (.int x3), some (.int x4), some (.int x5), some (.int x6), none, none, none, none, none] [.int y0] M := by
  unfold b_mo_readsAll_73_332 at hf
  refine y_istore (i := 11) (n := 334) (L2 := [some (.ref 66), some (.int x1), some (.int x2), some (.int x3), some (.int x4), some (.int x5), some (.int x6), none, none, none, none, some (.int y0)]) ⟨dX12_readsAll_332, rfl⟩ (by decide) rfl rfl ?_
  refine y_iload (i := 11) (n := 336) ⟨dX12_readsAll_334, rfl⟩ rfl ?_
  refine y_if_ne (t := 341) (n := 339) ⟨dX12_readsAll_336, rfl, rfl⟩ (fun (hc : ¬ (y0 = 0)) => ?_) (fun (hc : y0 = 0) => ?_)
  · replace hf := i_f hc hf
    refine y_iload_n (i := 1) (n := 342) ⟨dX12_readsAll_341, rfl⟩ rfl ?_
    refine y_iload (i := 5) (n := 344) ⟨dX12_readsAll_342, rfl⟩ rfl ?_
    refine y_if_eq (t := 351) (n := 347) ⟨dX12_readsAll_344, rfl, rfl⟩ (fun (hc : x5 = 0) => ?_) (fun (hc : ¬ (x5 = 0)) => ?_)
    · replace hf := i_t hc hf
      refine y_iconst (n := 352) (v := 0) ⟨dX12_readsAll_351, rfl⟩ ki_0 ?_
      exact y_wk (L2 := [some (.ref 66), none, some (.int x2), some (.int x3), some (.int x4), none, some (.int x6), none, none, none, none, none]) ⟨Or.inr rfl, Or.inl rfl, Or.inr rfl, Or.inr rfl, Or.inr rfl, Or.inl rfl, Or.inr rfl, Or.inr rfl, Or.inr rfl, Or.inr rfl, Or.inr rfl, Or.inl rfl, trivial⟩ (w_b_mo_readsAll_73_352 x2 x3 x4 x6 x1 0 M hf hk)
    · replace hf := i_f hc hf
      refine y_iconst (n := 348) (v := 1) ⟨dX12_readsAll_347, rfl⟩ ki_1 ?_
      refine y_goto (t := 352) ⟨dX12_readsAll_348, rfl, rfl⟩ ?_
      exact y_wk (L2 := [some (.ref 66), none, some (.int x2), some (.int x3), some (.int x4), none, some (.int x6), none, none, none, none, none]) ⟨Or.inr rfl, Or.inl rfl, Or.inr rfl, Or.inr rfl, Or.inr rfl, Or.inl rfl, Or.inr rfl, Or.inr rfl, Or.inr rfl, Or.inr rfl, Or.inr rfl, Or.inl rfl, trivial⟩ (w_b_mo_readsAll_73_352 x2 x3 x4 x6 x1 1 M hf hk)
  · replace hf := i_t hc hf
    refine y_iconst (n := 340) (v := 0) ⟨dX12_readsAll_339, rfl⟩ ki_0 ?_
    cases hf
    exact y_ireturn (n := 341) ⟨dX12_readsAll_340, rfl⟩ rfl rfl hk
theorem w_b_mo_readsAll_73_296 (x1 : Int32) (x2 : Int32) (x3 : Int32) (x4 : Int32) (x5 : Int32) (x6 : Int32) (x8 : Int32)  (M : dM) {Q : mz_P} {o : ((Int32 × Int32 × Int32 × Int32 × dM) ⊕ (Bool × dM))} (hf : b_mo_readsAll_73_296 x1 x2 x3 x4 x5 x6 x8 M = some o) (hk : K_mo_readsAll_73 Q  o) : mW mX12_readsAll 6 Q 296 [some (.ref 66), some (.int x1), some (.int x2), some (.int x3), some (.int x4), some (.int x5), some (.int x6), none, some (.int x8), none, none, none] [] M := by
  unfold b_mo_readsAll_73_296 at hf
  refine y_aload_n (i := 0) (n := 297) ⟨dX12_readsAll_296, rfl⟩ rfl ?_
  refine y_iload (i := 8) (n := 299) ⟨dX12_readsAll_297, rfl⟩ rfl ?_
  obtain ⟨q9, hv10, hf⟩ := b_s hf
  refine c_mo_readsNumber x8 M (n := 302) ⟨dX12_readsAll_299, rfl⟩ klX12_410 hv10 (by decide) (Nat.le_of_ble_eq_true rfl) rfl rfl ?_
  refine y_goto (t := 332) ⟨dX12_readsAll_302, rfl, rfl⟩ ?_
  exact y_wk (L2 := [some (.ref 66), some (.int x1), some (.int x2), some (.int x3), some (.int x4), some (.int x5), some (.int x6), none, none, none, none, none]) ⟨Or.inr rfl, Or.inr rfl, Or.inr rfl, Or.inr rfl, Or.inr rfl, Or.inr rfl, Or.inr rfl, Or.inr rfl, Or.inl rfl, Or.inr rfl, Or.inr rfl, Or.inr rfl, trivial⟩ (w_b_mo_readsAll_73_332 x1 x2 x3 x4 x5 x6 (bI q9.1) q9.2 hf hk)
theorem w_b_mo_readsAll_73_329 (x1 : Int32) (x2 : Int32) (x3 : Int32) (x4 : Int32) (x5 : Int32) (x6 : Int32) (y1 : Int32)  (M : dM) {Q : mz_P} {o : ((Int32 × Int32 × Int32 × Int32 × dM) ⊕ (Bool × dM))} (hf : b_mo_readsAll_73_329 x1 x2 x3 x4 x5 x6 y1 M = some o) (hk : K_mo_readsAll_73 Q  o) : mW mX12_readsAll 6 Q 329 [some (.ref 66), some (.int x1), some (.int x2), some (.int x3), some (.int x4), some (.int x5), some (.int x6), none, none, none, none, none] [.int y1, .ref 66] M := by
  unfold b_mo_readsAll_73_329 at hf
  obtain ⟨q11, hv12, hf⟩ := b_s hf
  refine c_mo_readsWhen y1 M (n := 332) ⟨dX12_readsAll_329, rfl⟩ klX12_414 hv12 (by decide) (Nat.le_of_ble_eq_true rfl) rfl rfl ?_
  exact y_wk (L2 := [some (.ref 66), some (.int x1), some (.int x2), some (.int x3), some (.int x4), some (.int x5), some (.int x6), none, none, none, none, none]) ⟨Or.inr rfl, Or.inr rfl, Or.inr rfl, Or.inr rfl, Or.inr rfl, Or.inr rfl, Or.inr rfl, Or.inr rfl, Or.inr rfl, Or.inr rfl, Or.inr rfl, Or.inr rfl, trivial⟩ (w_b_mo_readsAll_73_332 x1 x2 x3 x4 x5 x6 (bI q11.1) q11.2 hf hk)
theorem w_b_mo_readsAll_73_272 (x1 : Int32) (x2 : Int32) (x3 : Int32) (x5 : Int32) (x6 : Int32) (x7 : Int32) (x8 : Int32) (x9 : Int32) (y0 : Int32)  (M : dM) {Q : mz_P} {o : ((Int32 × Int32 × Int32 × Int32 × dM) ⊕ (Bool × dM))} (hf : b_mo_readsAll_73_272 x1 x2 x3 x5 x6 x7 x8 x9 y0 M = some o) (hk : K_mo_readsAll_73 Q  o) : mW mX12_readsAll 6 Q 272 [some (.ref 66), some (.int x1), some (.int x2), some (.int x3), none, some (.int x5), some (.int x6), some (.int x7), some (.int x8), some (.int x9), none, none] [.int y0] M := by
  unfold b_mo_readsAll_73_272 at hf
  refine y_istore (i := 4) (n := 274) (L2 := [some (.ref 66), some (.int x1), some (.int x2), some (.int x3), some (.int y0), some (.int x5), some (.int x6), some (.int x7), some (.int x8), some (.int x9), none, none]) ⟨dX12_readsAll_272, rfl⟩ (by decide) rfl rfl ?_
  refine y_iload (i := 7) (n := 276) ⟨dX12_readsAll_274, rfl⟩ rfl ?_
  refine y_if_eq (t := 286) (n := 279) ⟨dX12_readsAll_276, rfl, rfl⟩ (fun (hc : x7 = 0) => ?_) (fun (hc : ¬ (x7 = 0)) => ?_)
  · replace hf := i_t hc hf
    refine y_iload (i := 8) (n := 288) ⟨dX12_readsAll_286, rfl⟩ rfl ?_
    refine y_if_ne (t := 296) (n := 291) ⟨dX12_readsAll_288, rfl, rfl⟩ (fun (hc : ¬ (x8 = 0)) => ?_) (fun (hc : x8 = 0) => ?_)
    · replace hf := i_f hc hf
      exact y_wk (L2 := [some (.ref 66), some (.int x1), some (.int x2), some (.int x3), some (.int y0), some (.int x5), some (.int x6), none, some (.int x8), none, none, none]) ⟨Or.inr rfl, Or.inr rfl, Or.inr rfl, Or.inr rfl, Or.inr rfl, Or.inr rfl, Or.inr rfl, Or.inl rfl, Or.inr rfl, Or.inl rfl, Or.inr rfl, Or.inr rfl, trivial⟩ (w_b_mo_readsAll_73_296 x1 x2 x3 y0 x5 x6 x8 M hf hk)
    · replace hf := i_t hc hf
      refine y_iload (i := 9) (n := 293) ⟨dX12_readsAll_291, rfl⟩ rfl ?_
      refine y_if_eq (t := 305) (n := 296) ⟨dX12_readsAll_293, rfl, rfl⟩ (fun (hc : x9 = 0) => ?_) (fun (hc : ¬ (x9 = 0)) => ?_)
      · replace hf := i_t hc hf
        refine y_aload_n (i := 0) (n := 306) ⟨dX12_readsAll_305, rfl⟩ rfl ?_
        refine y_iload (i := 5) (n := 308) ⟨dX12_readsAll_306, rfl⟩ rfl ?_
        refine y_if_eq (t := 315) (n := 311) ⟨dX12_readsAll_308, rfl, rfl⟩ (fun (hc : x5 = 0) => ?_) (fun (hc : ¬ (x5 = 0)) => ?_)
        · replace hf := i_t hc hf
          refine y_iload (i := 6) (n := 317) ⟨dX12_readsAll_315, rfl⟩ rfl ?_
          refine y_if_eq (t := 327) (n := 320) ⟨dX12_readsAll_317, rfl, rfl⟩ (fun (hc : x6 = 0) => ?_) (fun (hc : ¬ (x6 = 0)) => ?_)
          · replace hf := i_t hc hf
            refine y_bipush (n := 329) (v := 20) ⟨dX12_readsAll_327, rfl⟩ kb_20 ?_
            exact y_wk (L2 := [some (.ref 66), some (.int x1), some (.int x2), some (.int x3), some (.int y0), some (.int x5), some (.int x6), none, none, none, none, none]) ⟨Or.inr rfl, Or.inr rfl, Or.inr rfl, Or.inr rfl, Or.inr rfl, Or.inr rfl, Or.inr rfl, Or.inl rfl, Or.inl rfl, Or.inl rfl, Or.inr rfl, Or.inr rfl, trivial⟩ (w_b_mo_readsAll_73_329 x1 x2 x3 y0 x5 x6 20 M hf hk)
          · replace hf := i_f hc hf
            refine y_bipush (n := 322) (v := 6) ⟨dX12_readsAll_320, rfl⟩ kb_6 ?_
            refine y_iload_n (i := 2) (n := 323) ⟨dX12_readsAll_322, rfl⟩ rfl ?_
            refine y_iadd (n := 324) ⟨dX12_readsAll_323, rfl⟩ ?_
            refine y_goto (t := 329) ⟨dX12_readsAll_324, rfl, rfl⟩ ?_
            exact y_wk (L2 := [some (.ref 66), some (.int x1), some (.int x2), some (.int x3), some (.int y0), some (.int x5), some (.int x6), none, none, none, none, none]) ⟨Or.inr rfl, Or.inr rfl, Or.inr rfl, Or.inr rfl, Or.inr rfl, Or.inr rfl, Or.inr rfl, Or.inl rfl, Or.inl rfl, Or.inl rfl, Or.inr rfl, Or.inr rfl, trivial⟩ (w_b_mo_readsAll_73_329 x1 x2 x3 y0 x5 x6 (6 + x2) M hf hk)
        · replace hf := i_f hc hf
          refine y_iload_n (i := 1) (n := 312) ⟨dX12_readsAll_311, rfl⟩ rfl ?_
          refine y_goto (t := 329) ⟨dX12_readsAll_312, rfl, rfl⟩ ?_
          exact y_wk (L2 := [some (.ref 66), some (.int x1), some (.int x2), some (.int x3), some (.int y0), some (.int x5), some (.int x6), none, none, none, none, none]) ⟨Or.inr rfl, Or.inr rfl, Or.inr rfl, Or.inr rfl, Or.inr rfl, Or.inr rfl, Or.inr rfl, Or.inl rfl, Or.inl rfl, Or.inl rfl, Or.inr rfl, Or.inr rfl, trivial⟩ (w_b_mo_readsAll_73_329 x1 x2 x3 y0 x5 x6 x1 M hf hk)
      · replace hf := i_f hc hf
        exact y_wk (L2 := [some (.ref 66), some (.int x1), some (.int x2), some (.int x3), some (.int y0), some (.int x5), some (.int x6), none, some (.int x8), none, none, none]) ⟨Or.inr rfl, Or.inr rfl, Or.inr rfl, Or.inr rfl, Or.inr rfl, Or.inr rfl, Or.inr rfl, Or.inl rfl, Or.inr rfl, Or.inl rfl, Or.inr rfl, Or.inr rfl, trivial⟩ (w_b_mo_readsAll_73_296 x1 x2 x3 y0 x5 x6 x8 M hf hk)
  · replace hf := i_f hc hf
    refine y_aload_n (i := 0) (n := 280) ⟨dX12_readsAll_279, rfl⟩ rfl ?_
    obtain ⟨q13, hv14, hf⟩ := b_s hf
    refine c_mo_readsRule M (n := 283) ⟨dX12_readsAll_280, rfl⟩ klX12_407 hv14 (by decide) (Nat.le_of_ble_eq_true rfl) rfl rfl ?_
    refine y_goto (t := 332) ⟨dX12_readsAll_283, rfl, rfl⟩ ?_
    exact y_wk (L2 := [some (.ref 66), some (.int x1), some (.int x2), some (.int x3), some (.int y0), some (.int x5), some (.int x6), none, none, none, none, none]) ⟨Or.inr rfl, Or.inr rfl, Or.inr rfl, Or.inr rfl, Or.inr rfl, Or.inr rfl, Or.inr rfl, Or.inl rfl, Or.inl rfl, Or.inl rfl, Or.inr rfl, Or.inr rfl, trivial⟩ (w_b_mo_readsAll_73_332 x1 x2 x3 y0 x5 x6 (bI q13.1) q13.2 hf hk)
theorem w_b_mo_readsAll_73_267 (x1 : Int32) (x2 : Int32) (x3 : Int32) (x5 : Int32) (x6 : Int32) (x7 : Int32) (x8 : Int32) (x9 : Int32)  (M : dM) {Q : mz_P} {o : ((Int32 × Int32 × Int32 × Int32 × dM) ⊕ (Bool × dM))} (hf : b_mo_readsAll_73_267 x1 x2 x3 x5 x6 x7 x8 x9 M = some o) (hk : K_mo_readsAll_73 Q  o) : mW mX12_readsAll 6 Q 267 [some (.ref 66), some (.int x1), some (.int x2), some (.int x3), none, some (.int x5), some (.int x6), some (.int x7), some (.int x8), some (.int x9), none, none] [] M := by
  unfold b_mo_readsAll_73_267 at hf
  refine y_iconst (n := 268) (v := 1) ⟨dX12_readsAll_267, rfl⟩ ki_1 ?_
  refine y_goto (t := 272) ⟨dX12_readsAll_268, rfl, rfl⟩ ?_
  exact y_wk (L2 := [some (.ref 66), some (.int x1), some (.int x2), some (.int x3), none, some (.int x5), some (.int x6), some (.int x7), some (.int x8), some (.int x9), none, none]) ⟨Or.inr rfl, Or.inr rfl, Or.inr rfl, Or.inr rfl, Or.inr rfl, Or.inr rfl, Or.inr rfl, Or.inr rfl, Or.inr rfl, Or.inr rfl, Or.inr rfl, Or.inr rfl, trivial⟩ (w_b_mo_readsAll_73_272 x1 x2 x3 x5 x6 x7 x8 x9 1 M hf hk)
theorem w_b_mo_readsAll_73_256 (x1 : Int32) (x2 : Int32) (x4 : Int32) (x5 : Int32) (x6 : Int32) (x7 : Int32) (x8 : Int32) (x9 : Int32) (y0 : Int32)  (M : dM) {Q : mz_P} {o : ((Int32 × Int32 × Int32 × Int32 × dM) ⊕ (Bool × dM))} (hf : b_mo_readsAll_73_256 x1 x2 x4 x5 x6 x7 x8 x9 y0 M = some o) (hk : K_mo_readsAll_73 Q  o) : mW mX12_readsAll 6 Q 256 [some (.ref 66), some (.int x1), some (.int x2), none, some (.int x4), some (.int x5), some (.int x6), some (.int x7), some (.int x8), some (.int x9), none, none] [.int y0] M := by
  unfold b_mo_readsAll_73_256 at hf
  refine y_istore_n (i := 3) (n := 257) (L2 := [some (.ref 66), some (.int x1), some (.int x2), some (.int y0), some (.int x4), some (.int x5), some (.int x6), some (.int x7), some (.int x8), some (.int x9), none, none]) ⟨dX12_readsAll_256, rfl⟩ (by decide) rfl rfl ?_
  refine y_iload (i := 4) (n := 259) ⟨dX12_readsAll_257, rfl⟩ rfl ?_
  refine y_if_ne (t := 267) (n := 262) ⟨dX12_readsAll_259, rfl, rfl⟩ (fun (hc : ¬ (x4 = 0)) => ?_) (fun (hc : x4 = 0) => ?_)
  · replace hf := i_f hc hf
    exact y_wk (L2 := [some (.ref 66), some (.int x1), some (.int x2), some (.int y0), none, some (.int x5), some (.int x6), some (.int x7), some (.int x8), some (.int x9), none, none]) ⟨Or.inr rfl, Or.inr rfl, Or.inr rfl, Or.inr rfl, Or.inl rfl, Or.inr rfl, Or.inr rfl, Or.inr rfl, Or.inr rfl, Or.inr rfl, Or.inr rfl, Or.inr rfl, trivial⟩ (w_b_mo_readsAll_73_267 x1 x2 y0 x5 x6 x7 x8 x9 M hf hk)
  · replace hf := i_t hc hf
    refine y_iload (i := 9) (n := 264) ⟨dX12_readsAll_262, rfl⟩ rfl ?_
    refine y_if_eq (t := 271) (n := 267) ⟨dX12_readsAll_264, rfl, rfl⟩ (fun (hc : x9 = 0) => ?_) (fun (hc : ¬ (x9 = 0)) => ?_)
    · replace hf := i_t hc hf
      refine y_iconst (n := 272) (v := 0) ⟨dX12_readsAll_271, rfl⟩ ki_0 ?_
      exact y_wk (L2 := [some (.ref 66), some (.int x1), some (.int x2), some (.int y0), none, some (.int x5), some (.int x6), some (.int x7), some (.int x8), some (.int x9), none, none]) ⟨Or.inr rfl, Or.inr rfl, Or.inr rfl, Or.inr rfl, Or.inl rfl, Or.inr rfl, Or.inr rfl, Or.inr rfl, Or.inr rfl, Or.inr rfl, Or.inr rfl, Or.inr rfl, trivial⟩ (w_b_mo_readsAll_73_272 x1 x2 y0 x5 x6 x7 x8 x9 0 M hf hk)
    · replace hf := i_f hc hf
      exact y_wk (L2 := [some (.ref 66), some (.int x1), some (.int x2), some (.int y0), none, some (.int x5), some (.int x6), some (.int x7), some (.int x8), some (.int x9), none, none]) ⟨Or.inr rfl, Or.inr rfl, Or.inr rfl, Or.inr rfl, Or.inl rfl, Or.inr rfl, Or.inr rfl, Or.inr rfl, Or.inr rfl, Or.inr rfl, Or.inr rfl, Or.inr rfl, trivial⟩ (w_b_mo_readsAll_73_267 x1 x2 y0 x5 x6 x7 x8 x9 M hf hk)
theorem w_b_mo_readsAll_73_251 (x1 : Int32) (x2 : Int32) (x4 : Int32) (x5 : Int32) (x6 : Int32) (x7 : Int32) (x8 : Int32) (x9 : Int32)  (M : dM) {Q : mz_P} {o : ((Int32 × Int32 × Int32 × Int32 × dM) ⊕ (Bool × dM))} (hf : b_mo_readsAll_73_251 x1 x2 x4 x5 x6 x7 x8 x9 M = some o) (hk : K_mo_readsAll_73 Q  o) : mW mX12_readsAll 6 Q 251 [some (.ref 66), some (.int x1), some (.int x2), none, some (.int x4), some (.int x5), some (.int x6), some (.int x7), some (.int x8), some (.int x9), none, none] [] M := by
  unfold b_mo_readsAll_73_251 at hf
  refine y_iconst (n := 252) (v := 1) ⟨dX12_readsAll_251, rfl⟩ ki_1 ?_
  refine y_goto (t := 256) ⟨dX12_readsAll_252, rfl, rfl⟩ ?_
  exact y_wk (L2 := [some (.ref 66), some (.int x1), some (.int x2), none, some (.int x4), some (.int x5), some (.int x6), some (.int x7), some (.int x8), some (.int x9), none, none]) ⟨Or.inr rfl, Or.inr rfl, Or.inr rfl, Or.inr rfl, Or.inr rfl, Or.inr rfl, Or.inr rfl, Or.inr rfl, Or.inr rfl, Or.inr rfl, Or.inr rfl, Or.inr rfl, trivial⟩ (w_b_mo_readsAll_73_256 x1 x2 x4 x5 x6 x7 x8 x9 1 M hf hk)
theorem w_b_mo_readsAll_73_238 (x1 : Int32) (x2 : Int32) (x3 : Int32) (x4 : Int32) (x5 : Int32) (x6 : Int32) (x7 : Int32) (x8 : Int32) (x9 : Int32)  (M : dM) {Q : mz_P} {o : ((Int32 × Int32 × Int32 × Int32 × dM) ⊕ (Bool × dM))} (hf : b_mo_readsAll_73_238 x1 x2 x3 x4 x5 x6 x7 x8 x9 M = some o) (hk : K_mo_readsAll_73 Q  o) : mW mX12_readsAll 6 Q 238 [some (.ref 66), some (.int x1), some (.int x2), some (.int x3), some (.int x4), some (.int x5), some (.int x6), some (.int x7), some (.int x8), some (.int x9), none, none] [] M := by
  unfold b_mo_readsAll_73_238 at hf
  refine y_aload_n (i := 0) (n := 239) ⟨dX12_readsAll_238, rfl⟩ rfl ?_
  obtain ⟨q7, hv8, hf⟩ := b_s hf
  refine c_mo_nextToken M (n := 242) ⟨dX12_readsAll_239, rfl⟩ klX12_373 hv8 (by decide) (Nat.le_of_ble_eq_true rfl) rfl rfl ?_
  refine y_iload_n (i := 3) (n := 243) ⟨dX12_readsAll_242, rfl⟩ rfl ?_
  refine y_if_ne (t := 251) (n := 246) ⟨dX12_readsAll_243, rfl, rfl⟩ (fun (hc : ¬ (x3 = 0)) => ?_) (fun (hc : x3 = 0) => ?_)
  · replace hf := i_f hc hf
    exact y_wk (L2 := [some (.ref 66), some (.int x1), some (.int x2), none, some (.int x4), some (.int x5), some (.int x6), some (.int x7), some (.int x8), some (.int x9), none, none]) ⟨Or.inr rfl, Or.inr rfl, Or.inr rfl, Or.inl rfl, Or.inr rfl, Or.inr rfl, Or.inr rfl, Or.inr rfl, Or.inr rfl, Or.inr rfl, Or.inr rfl, Or.inr rfl, trivial⟩ (w_b_mo_readsAll_73_251 x1 x2 x4 x5 x6 x7 x8 x9 q7 hf hk)
  · replace hf := i_t hc hf
    refine y_iload (i := 8) (n := 248) ⟨dX12_readsAll_246, rfl⟩ rfl ?_
    refine y_if_eq (t := 255) (n := 251) ⟨dX12_readsAll_248, rfl, rfl⟩ (fun (hc : x8 = 0) => ?_) (fun (hc : ¬ (x8 = 0)) => ?_)
    · replace hf := i_t hc hf
      refine y_iconst (n := 256) (v := 0) ⟨dX12_readsAll_255, rfl⟩ ki_0 ?_
      exact y_wk (L2 := [some (.ref 66), some (.int x1), some (.int x2), none, some (.int x4), some (.int x5), some (.int x6), some (.int x7), some (.int x8), some (.int x9), none, none]) ⟨Or.inr rfl, Or.inr rfl, Or.inr rfl, Or.inl rfl, Or.inr rfl, Or.inr rfl, Or.inr rfl, Or.inr rfl, Or.inr rfl, Or.inr rfl, Or.inr rfl, Or.inr rfl, trivial⟩ (w_b_mo_readsAll_73_256 x1 x2 x4 x5 x6 x7 x8 x9 0 q7 hf hk)
    · replace hf := i_f hc hf
      exact y_wk (L2 := [some (.ref 66), some (.int x1), some (.int x2), none, some (.int x4), some (.int x5), some (.int x6), some (.int x7), some (.int x8), some (.int x9), none, none]) ⟨Or.inr rfl, Or.inr rfl, Or.inr rfl, Or.inl rfl, Or.inr rfl, Or.inr rfl, Or.inr rfl, Or.inr rfl, Or.inr rfl, Or.inr rfl, Or.inr rfl, Or.inr rfl, trivial⟩ (w_b_mo_readsAll_73_251 x1 x2 x4 x5 x6 x7 x8 x9 q7 hf hk)
theorem w_b_mo_readsAll_73_232   (M : dM) {Q : mz_P} {o : ((Int32 × Int32 × Int32 × Int32 × dM) ⊕ (Bool × dM))} (hf : b_mo_readsAll_73_232 M = some o) (hk : K_mo_readsAll_73 Q  o) : mW mX12_readsAll 6 Q 232 [some (.ref 66), none, none, none, none, none, none, none, none, none, none, none] [] M := by
  unfold b_mo_readsAll_73_232 at hf
  refine y_aload_n (i := 0) (n := 233) ⟨dX12_readsAll_232, rfl⟩ rfl ?_
  refine y_iconst (n := 234) (v := 5) ⟨dX12_readsAll_233, rfl⟩ ki_5 ?_
  refine c_mo_fails 5 M (n := 237) ⟨dX12_readsAll_234, rfl⟩ klX12_366 rfl (by decide) (Nat.le_of_ble_eq_true rfl) rfl rfl ?_
  cases hf
  exact y_ireturn (n := 238) ⟨dX12_readsAll_237, rfl⟩ rfl (bI_n _) hk
theorem w_b_mo_readsAll_73_221 (x1 : Int32) (x2 : Int32) (x3 : Int32) (x4 : Int32) (x5 : Int32) (x6 : Int32) (x7 : Int32) (x8 : Int32) (x9 : Int32)  (M : dM) {Q : mz_P} {o : ((Int32 × Int32 × Int32 × Int32 × dM) ⊕ (Bool × dM))} (hf : b_mo_readsAll_73_221 x1 x2 x3 x4 x5 x6 x7 x8 x9 M = some o) (hk : K_mo_readsAll_73 Q  o) : mW mX12_readsAll 6 Q 221 [some (.ref 66), some (.int x1), some (.int x2), some (.int x3), some (.int x4), some (.int x5), some (.int x6), some (.int x7), some (.int x8), some (.int x9), none, none] [] M := by
  unfold b_mo_readsAll_73_221 at hf
  refine y_iload (i := 6) (n := 223) ⟨dX12_readsAll_221, rfl⟩ rfl ?_
  refine y_if_eq (t := 238) (n := 226) ⟨dX12_readsAll_223, rfl, rfl⟩ (fun (hc : x6 = 0) => ?_) (fun (hc : ¬ (x6 = 0)) => ?_)
  · replace hf := i_t hc hf
    exact y_wk (L2 := [some (.ref 66), some (.int x1), some (.int x2), some (.int x3), some (.int x4), some (.int x5), some (.int x6), some (.int x7), some (.int x8), some (.int x9), none, none]) ⟨Or.inr rfl, Or.inr rfl, Or.inr rfl, Or.inr rfl, Or.inr rfl, Or.inr rfl, Or.inr rfl, Or.inr rfl, Or.inr rfl, Or.inr rfl, Or.inr rfl, Or.inr rfl, trivial⟩ (w_b_mo_readsAll_73_238 x1 x2 x3 x4 x5 x6 x7 x8 x9 M hf hk)
  · replace hf := i_f hc hf
    refine y_iload_n (i := 2) (n := 227) ⟨dX12_readsAll_226, rfl⟩ rfl ?_
    refine y_bipush (n := 229) (v := 6) ⟨dX12_readsAll_227, rfl⟩ kb_6 ?_
    refine y_icmp_ne (t := 238) (n := 232) ⟨dX12_readsAll_229, rfl, rfl⟩ (fun (hc : ¬ (x2 = 6)) => ?_) (fun (hc : x2 = 6) => ?_)
    · replace hf := i_f hc hf
      exact y_wk (L2 := [some (.ref 66), some (.int x1), some (.int x2), some (.int x3), some (.int x4), some (.int x5), some (.int x6), some (.int x7), some (.int x8), some (.int x9), none, none]) ⟨Or.inr rfl, Or.inr rfl, Or.inr rfl, Or.inr rfl, Or.inr rfl, Or.inr rfl, Or.inr rfl, Or.inr rfl, Or.inr rfl, Or.inr rfl, Or.inr rfl, Or.inr rfl, trivial⟩ (w_b_mo_readsAll_73_238 x1 x2 x3 x4 x5 x6 x7 x8 x9 M hf hk)
    · replace hf := i_t hc hf
      exact y_wk (L2 := [some (.ref 66), none, none, none, none, none, none, none, none, none, none, none]) ⟨Or.inr rfl, Or.inl rfl, Or.inl rfl, Or.inl rfl, Or.inl rfl, Or.inl rfl, Or.inl rfl, Or.inl rfl, Or.inl rfl, Or.inl rfl, Or.inr rfl, Or.inr rfl, trivial⟩ (w_b_mo_readsAll_73_232 M hf hk)
theorem w_b_mo_readsAll_73_210 (x1 : Int32) (x2 : Int32) (x3 : Int32) (x4 : Int32) (x5 : Int32) (x6 : Int32) (x7 : Int32) (x8 : Int32) (x9 : Int32)  (M : dM) {Q : mz_P} {o : ((Int32 × Int32 × Int32 × Int32 × dM) ⊕ (Bool × dM))} (hf : b_mo_readsAll_73_210 x1 x2 x3 x4 x5 x6 x7 x8 x9 M = some o) (hk : K_mo_readsAll_73 Q  o) : mW mX12_readsAll 6 Q 210 [some (.ref 66), some (.int x1), some (.int x2), some (.int x3), some (.int x4), some (.int x5), some (.int x6), some (.int x7), some (.int x8), some (.int x9), none, none] [] M := by
  unfold b_mo_readsAll_73_210 at hf
  refine y_iload (i := 5) (n := 212) ⟨dX12_readsAll_210, rfl⟩ rfl ?_
  refine y_if_eq (t := 221) (n := 215) ⟨dX12_readsAll_212, rfl, rfl⟩ (fun (hc : x5 = 0) => ?_) (fun (hc : ¬ (x5 = 0)) => ?_)
  · replace hf := i_t hc hf
    exact y_wk (L2 := [some (.ref 66), some (.int x1), some (.int x2), some (.int x3), some (.int x4), some (.int x5), some (.int x6), some (.int x7), some (.int x8), some (.int x9), none, none]) ⟨Or.inr rfl, Or.inr rfl, Or.inr rfl, Or.inr rfl, Or.inr rfl, Or.inr rfl, Or.inr rfl, Or.inr rfl, Or.inr rfl, Or.inr rfl, Or.inr rfl, Or.inr rfl, trivial⟩ (w_b_mo_readsAll_73_221 x1 x2 x3 x4 x5 x6 x7 x8 x9 M hf hk)
  · replace hf := i_f hc hf
    refine y_iload_n (i := 1) (n := 216) ⟨dX12_readsAll_215, rfl⟩ rfl ?_
    refine y_bipush (n := 218) (v := 6) ⟨dX12_readsAll_216, rfl⟩ kb_6 ?_
    refine y_icmp_eq (t := 232) (n := 221) ⟨dX12_readsAll_218, rfl, rfl⟩ (fun (hc : x1 = 6) => ?_) (fun (hc : ¬ (x1 = 6)) => ?_)
    · replace hf := i_t hc hf
      exact y_wk (L2 := [some (.ref 66), none, none, none, none, none, none, none, none, none, none, none]) ⟨Or.inr rfl, Or.inl rfl, Or.inl rfl, Or.inl rfl, Or.inl rfl, Or.inl rfl, Or.inl rfl, Or.inl rfl, Or.inl rfl, Or.inl rfl, Or.inr rfl, Or.inr rfl, trivial⟩ (w_b_mo_readsAll_73_232 M hf hk)
    · replace hf := i_f hc hf
      exact y_wk (L2 := [some (.ref 66), some (.int x1), some (.int x2), some (.int x3), some (.int x4), some (.int x5), some (.int x6), some (.int x7), some (.int x8), some (.int x9), none, none]) ⟨Or.inr rfl, Or.inr rfl, Or.inr rfl, Or.inr rfl, Or.inr rfl, Or.inr rfl, Or.inr rfl, Or.inr rfl, Or.inr rfl, Or.inr rfl, Or.inr rfl, Or.inr rfl, trivial⟩ (w_b_mo_readsAll_73_221 x1 x2 x3 x4 x5 x6 x7 x8 x9 M hf hk)
theorem w_b_mo_readsAll_73_204   (M : dM) {Q : mz_P} {o : ((Int32 × Int32 × Int32 × Int32 × dM) ⊕ (Bool × dM))} (hf : b_mo_readsAll_73_204 M = some o) (hk : K_mo_readsAll_73 Q  o) : mW mX12_readsAll 6 Q 204 [some (.ref 66), none, none, none, none, none, none, none, none, none, none, none] [] M := by
  unfold b_mo_readsAll_73_204 at hf
  refine y_aload_n (i := 0) (n := 205) ⟨dX12_readsAll_204, rfl⟩ rfl ?_
  refine y_iconst (n := 206) (v := 3) ⟨dX12_readsAll_205, rfl⟩ ki_3 ?_
  refine c_mo_fails 3 M (n := 209) ⟨dX12_readsAll_206, rfl⟩ klX12_366 rfl (by decide) (Nat.le_of_ble_eq_true rfl) rfl rfl ?_
  cases hf
  exact y_ireturn (n := 210) ⟨dX12_readsAll_209, rfl⟩ rfl (bI_n _) hk
theorem w_b_mo_readsAll_73_189 (x1 : Int32) (x2 : Int32) (x3 : Int32) (x4 : Int32) (x5 : Int32) (x6 : Int32) (x7 : Int32) (x8 : Int32) (x9 : Int32) (x10 : Int32)  (M : dM) {Q : mz_P} {o : ((Int32 × Int32 × Int32 × Int32 × dM) ⊕ (Bool × dM))} (hf : b_mo_readsAll_73_189 x1 x2 x3 x4 x5 x6 x7 x8 x9 x10 M = some o) (hk : K_mo_readsAll_73 Q  o) : mW mX12_readsAll 6 Q 189 [some (.ref 66), some (.int x1), some (.int x2), some (.int x3), some (.int x4), some (.int x5), some (.int x6), some (.int x7), some (.int x8), some (.int x9), some (.int x10), none] [] M := by
  unfold b_mo_readsAll_73_189 at hf
  refine y_iload (i := 10) (n := 191) ⟨dX12_readsAll_189, rfl⟩ rfl ?_
  refine y_if_eq (t := 210) (n := 194) ⟨dX12_readsAll_191, rfl, rfl⟩ (fun (hc : x10 = 0) => ?_) (fun (hc : ¬ (x10 = 0)) => ?_)
  · replace hf := i_t hc hf
    exact y_wk (L2 := [some (.ref 66), some (.int x1), some (.int x2), some (.int x3), some (.int x4), some (.int x5), some (.int x6), some (.int x7), some (.int x8), some (.int x9), none, none]) ⟨Or.inr rfl, Or.inr rfl, Or.inr rfl, Or.inr rfl, Or.inr rfl, Or.inr rfl, Or.inr rfl, Or.inr rfl, Or.inr rfl, Or.inr rfl, Or.inl rfl, Or.inr rfl, trivial⟩ (w_b_mo_readsAll_73_210 x1 x2 x3 x4 x5 x6 x7 x8 x9 M hf hk)
  · replace hf := i_f hc hf
    refine y_aload_n (i := 0) (n := 195) ⟨dX12_readsAll_194, rfl⟩ rfl ?_
    refine y_getR (n := 198) ⟨dX12_readsAll_195, rfl⟩ kfX12_65 l_66 rfl r_66_29 ?_
    refine y_bipush (n := 200) (v := 20) ⟨dX12_readsAll_198, rfl⟩ kb_20 ?_
    refine y_baload (n := 201) ⟨dX12_readsAll_200, rfl⟩ l_85 (by unfold vp_in; decide) ?_
    refine y_if_eq (t := 210) (n := 204) ⟨dX12_readsAll_201, rfl, rfl⟩ (fun (hc : (gI M 85 20) = 0) => ?_) (fun (hc : ¬ ((gI M 85 20) = 0)) => ?_)
    · replace hf := i_t hc hf
      exact y_wk (L2 := [some (.ref 66), some (.int x1), some (.int x2), some (.int x3), some (.int x4), some (.int x5), some (.int x6), some (.int x7), some (.int x8), some (.int x9), none, none]) ⟨Or.inr rfl, Or.inr rfl, Or.inr rfl, Or.inr rfl, Or.inr rfl, Or.inr rfl, Or.inr rfl, Or.inr rfl, Or.inr rfl, Or.inr rfl, Or.inl rfl, Or.inr rfl, trivial⟩ (w_b_mo_readsAll_73_210 x1 x2 x3 x4 x5 x6 x7 x8 x9 M hf hk)
    · replace hf := i_f hc hf
      exact y_wk (L2 := [some (.ref 66), none, none, none, none, none, none, none, none, none, none, none]) ⟨Or.inr rfl, Or.inl rfl, Or.inl rfl, Or.inl rfl, Or.inl rfl, Or.inl rfl, Or.inl rfl, Or.inl rfl, Or.inl rfl, Or.inl rfl, Or.inl rfl, Or.inr rfl, trivial⟩ (w_b_mo_readsAll_73_204 M hf hk)
theorem w_b_mo_readsAll_73_179 (x1 : Int32) (x2 : Int32) (x3 : Int32) (x4 : Int32) (x5 : Int32) (x6 : Int32) (x7 : Int32) (x8 : Int32) (x9 : Int32) (x10 : Int32)  (M : dM) {Q : mz_P} {o : ((Int32 × Int32 × Int32 × Int32 × dM) ⊕ (Bool × dM))} (hf : b_mo_readsAll_73_179 x1 x2 x3 x4 x5 x6 x7 x8 x9 x10 M = some o) (hk : K_mo_readsAll_73 Q  o) : mW mX12_readsAll 6 Q 179 [some (.ref 66), some (.int x1), some (.int x2), some (.int x3), some (.int x4), some (.int x5), some (.int x6), some (.int x7), some (.int x8), some (.int x9), some (.int x10), none] [] M := by
  unfold b_mo_readsAll_73_179 at hf
  refine y_iload (i := 9) (n := 181) ⟨dX12_readsAll_179, rfl⟩ rfl ?_
  refine y_if_eq (t := 189) (n := 184) ⟨dX12_readsAll_181, rfl, rfl⟩ (fun (hc : x9 = 0) => ?_) (fun (hc : ¬ (x9 = 0)) => ?_)
  · replace hf := i_t hc hf
    exact y_wk (L2 := [some (.ref 66), some (.int x1), some (.int x2), some (.int x3), some (.int x4), some (.int x5), some (.int x6), some (.int x7), some (.int x8), some (.int x9), some (.int x10), none]) ⟨Or.inr rfl, Or.inr rfl, Or.inr rfl, Or.inr rfl, Or.inr rfl, Or.inr rfl, Or.inr rfl, Or.inr rfl, Or.inr rfl, Or.inr rfl, Or.inr rfl, Or.inr rfl, trivial⟩ (w_b_mo_readsAll_73_189 x1 x2 x3 x4 x5 x6 x7 x8 x9 x10 M hf hk)
  · replace hf := i_f hc hf
    refine y_iload (i := 4) (n := 186) ⟨dX12_readsAll_184, rfl⟩ rfl ?_
    refine y_if_ne (t := 204) (n := 189) ⟨dX12_readsAll_186, rfl, rfl⟩ (fun (hc : ¬ (x4 = 0)) => ?_) (fun (hc : x4 = 0) => ?_)
    · replace hf := i_f hc hf
      exact y_wk (L2 := [some (.ref 66), none, none, none, none, none, none, none, none, none, none, none]) ⟨Or.inr rfl, Or.inl rfl, Or.inl rfl, Or.inl rfl, Or.inl rfl, Or.inl rfl, Or.inl rfl, Or.inl rfl, Or.inl rfl, Or.inl rfl, Or.inl rfl, Or.inr rfl, trivial⟩ (w_b_mo_readsAll_73_204 M hf hk)
    · replace hf := i_t hc hf
      exact y_wk (L2 := [some (.ref 66), some (.int x1), some (.int x2), some (.int x3), some (.int x4), some (.int x5), some (.int x6), some (.int x7), some (.int x8), some (.int x9), some (.int x10), none]) ⟨Or.inr rfl, Or.inr rfl, Or.inr rfl, Or.inr rfl, Or.inr rfl, Or.inr rfl, Or.inr rfl, Or.inr rfl, Or.inr rfl, Or.inr rfl, Or.inr rfl, Or.inr rfl, trivial⟩ (w_b_mo_readsAll_73_189 x1 x2 x3 x4 x5 x6 x7 x8 x9 x10 M hf hk)
theorem w_b_mo_readsAll_73_170 (x1 : Int32) (x2 : Int32) (x3 : Int32) (x4 : Int32) (x5 : Int32) (x6 : Int32) (x7 : Int32) (x8 : Int32) (x9 : Int32) (x10 : Int32)  (M : dM) {Q : mz_P} {o : ((Int32 × Int32 × Int32 × Int32 × dM) ⊕ (Bool × dM))} (hf : b_mo_readsAll_73_170 x1 x2 x3 x4 x5 x6 x7 x8 x9 x10 M = some o) (hk : K_mo_readsAll_73 Q  o) : mW mX12_readsAll 6 Q 170 [some (.ref 66), some (.int x1), some (.int x2), some (.int x3), some (.int x4), some (.int x5), some (.int x6), some (.int x7), some (.int x8), some (.int x9), some (.int x10), none] [] M := by
  unfold b_mo_readsAll_73_170 at hf
  refine y_iload (i := 8) (n := 172) ⟨dX12_readsAll_170, rfl⟩ rfl ?_
  refine y_if_eq (t := 179) (n := 175) ⟨dX12_readsAll_172, rfl, rfl⟩ (fun (hc : x8 = 0) => ?_) (fun (hc : ¬ (x8 = 0)) => ?_)
  · replace hf := i_t hc hf
    exact y_wk (L2 := [some (.ref 66), some (.int x1), some (.int x2), some (.int x3), some (.int x4), some (.int x5), some (.int x6), some (.int x7), some (.int x8), some (.int x9), some (.int x10), none]) ⟨Or.inr rfl, Or.inr rfl, Or.inr rfl, Or.inr rfl, Or.inr rfl, Or.inr rfl, Or.inr rfl, Or.inr rfl, Or.inr rfl, Or.inr rfl, Or.inr rfl, Or.inr rfl, trivial⟩ (w_b_mo_readsAll_73_179 x1 x2 x3 x4 x5 x6 x7 x8 x9 x10 M hf hk)
  · replace hf := i_f hc hf
    refine y_iload_n (i := 3) (n := 176) ⟨dX12_readsAll_175, rfl⟩ rfl ?_
    refine y_if_ne (t := 204) (n := 179) ⟨dX12_readsAll_176, rfl, rfl⟩ (fun (hc : ¬ (x3 = 0)) => ?_) (fun (hc : x3 = 0) => ?_)
    · replace hf := i_f hc hf
      exact y_wk (L2 := [some (.ref 66), none, none, none, none, none, none, none, none, none, none, none]) ⟨Or.inr rfl, Or.inl rfl, Or.inl rfl, Or.inl rfl, Or.inl rfl, Or.inl rfl, Or.inl rfl, Or.inl rfl, Or.inl rfl, Or.inl rfl, Or.inl rfl, Or.inr rfl, trivial⟩ (w_b_mo_readsAll_73_204 M hf hk)
    · replace hf := i_t hc hf
      exact y_wk (L2 := [some (.ref 66), some (.int x1), some (.int x2), some (.int x3), some (.int x4), some (.int x5), some (.int x6), some (.int x7), some (.int x8), some (.int x9), some (.int x10), none]) ⟨Or.inr rfl, Or.inr rfl, Or.inr rfl, Or.inr rfl, Or.inr rfl, Or.inr rfl, Or.inr rfl, Or.inr rfl, Or.inr rfl, Or.inr rfl, Or.inr rfl, Or.inr rfl, trivial⟩ (w_b_mo_readsAll_73_179 x1 x2 x3 x4 x5 x6 x7 x8 x9 x10 M hf hk)
theorem w_b_mo_readsAll_73_73 (x1 : Int32) (x2 : Int32) (x3 : Int32) (x4 : Int32)  (M : dM) {Q : mz_P} {o : ((Int32 × Int32 × Int32 × Int32 × dM) ⊕ (Bool × dM))} (hf : b_mo_readsAll_73_73 x1 x2 x3 x4 M = some o) (hk : K_mo_readsAll_73 Q  o) : mW mX12_readsAll 6 Q 73 [some (.ref 66), some (.int x1), some (.int x2), some (.int x3), some (.int x4), none, none, none, none, none, none, none] [] M := by
  unfold b_mo_readsAll_73_73 at hf
  refine y_aload_n (i := 0) (n := 74) ⟨dX12_readsAll_73, rfl⟩ rfl ?_
  refine y_getI (n := 77) ⟨dX12_readsAll_74, rfl⟩ kfX12_277 l_66 rfl ?_
  refine y_if_eq (t := 370) (n := 80) ⟨dX12_readsAll_77, rfl, rfl⟩ (fun (hc : (gI M 66 22) = 0) => ?_) (fun (hc : ¬ ((gI M 66 22) = 0)) => ?_)
  · replace hf := i_t hc hf
    refine y_iconst (n := 371) (v := 1) ⟨dX12_readsAll_370, rfl⟩ ki_1 ?_
    cases hf
    exact y_ireturn (n := 372) ⟨dX12_readsAll_371, rfl⟩ rfl rfl hk
  · replace hf := i_f hc hf
    refine y_aload_n (i := 0) (n := 81) ⟨dX12_readsAll_80, rfl⟩ rfl ?_
    refine y_ldc2 (n := 84) ⟨dX12_readsAll_81, rfl⟩ kcX12_397 ?_
    refine c_mo_isWord 1503 M (n := 87) ⟨dX12_readsAll_84, rfl⟩ klX12_359 rfl (by decide) (Nat.le_of_ble_eq_true rfl) rfl rfl ?_
    refine y_istore (i := 5) (n := 89) (L2 := [some (.ref 66), some (.int x1), some (.int x2), some (.int x3), some (.int x4), some (.int (bI (f_mo_isWord 1503 M))), none, none, none, none, none, none]) ⟨dX12_readsAll_87, rfl⟩ (by decide) rfl rfl ?_
    refine y_aload_n (i := 0) (n := 90) ⟨dX12_readsAll_89, rfl⟩ rfl ?_
    refine y_ldc2 (n := 93) ⟨dX12_readsAll_90, rfl⟩ kcX12_299 ?_
    refine c_mo_isWord 11047 M (n := 96) ⟨dX12_readsAll_93, rfl⟩ klX12_359 rfl (by decide) (Nat.le_of_ble_eq_true rfl) rfl rfl ?_
    refine y_istore (i := 6) (n := 98) (L2 := [some (.ref 66), some (.int x1), some (.int x2), some (.int x3), some (.int x4), some (.int (bI (f_mo_isWord 1503 M))), some (.int (bI (f_mo_isWord 11047 M))), none, none, none, none, none]) ⟨dX12_readsAll_96, rfl⟩ (by decide) rfl rfl ?_
    refine y_aload_n (i := 0) (n := 99) ⟨dX12_readsAll_98, rfl⟩ rfl ?_
    refine y_ldc2 (n := 102) ⟨dX12_readsAll_99, rfl⟩ kcX12_399 ?_
    refine c_mo_isWord 369932 M (n := 105) ⟨dX12_readsAll_102, rfl⟩ klX12_359 rfl (by decide) (Nat.le_of_ble_eq_true rfl) rfl rfl ?_
    refine y_istore (i := 7) (n := 107) (L2 := [some (.ref 66), some (.int x1), some (.int x2), some (.int x3), some (.int x4), some (.int (bI (f_mo_isWord 1503 M))), some (.int (bI (f_mo_isWord 11047 M))), some (.int (bI (f_mo_isWord 369932 M))), none, none, none, none]) ⟨dX12_readsAll_105, rfl⟩ (by decide) rfl rfl ?_
    refine y_aload_n (i := 0) (n := 108) ⟨dX12_readsAll_107, rfl⟩ rfl ?_
    refine y_ldc2 (n := 111) ⟨dX12_readsAll_108, rfl⟩ kcX12_401 ?_
    refine c_mo_isWord 10284818 M (n := 114) ⟨dX12_readsAll_111, rfl⟩ klX12_359 rfl (by decide) (Nat.le_of_ble_eq_true rfl) rfl rfl ?_
    refine y_istore (i := 8) (n := 116) (L2 := [some (.ref 66), some (.int x1), some (.int x2), some (.int x3), some (.int x4), some (.int (bI (f_mo_isWord 1503 M))), some (.int (bI (f_mo_isWord 11047 M))), some (.int (bI (f_mo_isWord 369932 M))), some (.int (bI (f_mo_isWord 10284818 M))), none, none, none]) ⟨dX12_readsAll_114, rfl⟩ (by decide) rfl rfl ?_
    refine y_aload_n (i := 0) (n := 117) ⟨dX12_readsAll_116, rfl⟩ rfl ?_
    refine y_ldc2 (n := 120) ⟨dX12_readsAll_117, rfl⟩ kcX12_403 ?_
    refine c_mo_isWord 4419 M (n := 123) ⟨dX12_readsAll_120, rfl⟩ klX12_359 rfl (by decide) (Nat.le_of_ble_eq_true rfl) rfl rfl ?_
    refine y_istore (i := 9) (n := 125) (L2 := [some (.ref 66), some (.int x1), some (.int x2), some (.int x3), some (.int x4), some (.int (bI (f_mo_isWord 1503 M))), some (.int (bI (f_mo_isWord 11047 M))), some (.int (bI (f_mo_isWord 369932 M))), some (.int (bI (f_mo_isWord 10284818 M))), some (.int (bI (f_mo_isWord 4419 M))), none, none]) ⟨dX12_readsAll_123, rfl⟩ (by decide) rfl rfl ?_
    refine y_aload_n (i := 0) (n := 126) ⟨dX12_readsAll_125, rfl⟩ rfl ?_
    refine y_ldc2 (n := 129) ⟨dX12_readsAll_126, rfl⟩ kcX12_405 ?_
    refine c_mo_isWord 79495460 M (n := 132) ⟨dX12_readsAll_129, rfl⟩ klX12_359 rfl (by decide) (Nat.le_of_ble_eq_true rfl) rfl rfl ?_
    refine y_istore (i := 10) (n := 134) (L2 := [some (.ref 66), some (.int x1), some (.int x2), some (.int x3), some (.int x4), some (.int (bI (f_mo_isWord 1503 M))), some (.int (bI (f_mo_isWord 11047 M))), some (.int (bI (f_mo_isWord 369932 M))), some (.int (bI (f_mo_isWord 10284818 M))), some (.int (bI (f_mo_isWord 4419 M))), some (.int (bI (f_mo_isWord 79495460 M))), none]) ⟨dX12_readsAll_132, rfl⟩ (by decide) rfl rfl ?_
    refine y_iload (i := 5) (n := 136) ⟨dX12_readsAll_134, rfl⟩ rfl ?_
    refine y_if_ne (t := 170) (n := 139) ⟨dX12_readsAll_136, rfl, rfl⟩ (fun h0 => ?_) (fun h0 => ?_)
    · have hc := bI_1 h0
      replace hf := i_t hc hf
      exact y_wk (L2 := [some (.ref 66), some (.int x1), some (.int x2), some (.int x3), some (.int x4), some (.int (bI (f_mo_isWord 1503 M))), some (.int (bI (f_mo_isWord 11047 M))), some (.int (bI (f_mo_isWord 369932 M))), some (.int (bI (f_mo_isWord 10284818 M))), some (.int (bI (f_mo_isWord 4419 M))), some (.int (bI (f_mo_isWord 79495460 M))), none]) ⟨Or.inr rfl, Or.inr rfl, Or.inr rfl, Or.inr rfl, Or.inr rfl, Or.inr rfl, Or.inr rfl, Or.inr rfl, Or.inr rfl, Or.inr rfl, Or.inr rfl, Or.inr rfl, trivial⟩ (w_b_mo_readsAll_73_170 x1 x2 x3 x4 (bI (f_mo_isWord 1503 M)) (bI (f_mo_isWord 11047 M)) (bI (f_mo_isWord 369932 M)) (bI (f_mo_isWord 10284818 M)) (bI (f_mo_isWord 4419 M)) (bI (f_mo_isWord 79495460 M)) M hf hk)
    · have hc := bI_0 h0
      replace hf := i_f hc hf
      refine y_iload (i := 6) (n := 141) ⟨dX12_readsAll_139, rfl⟩ rfl ?_
      refine y_if_ne (t := 170) (n := 144) ⟨dX12_readsAll_141, rfl, rfl⟩ (fun h0 => ?_) (fun h0 => ?_)
      · have hc := bI_1 h0
        replace hf := i_t hc hf
        exact y_wk (L2 := [some (.ref 66), some (.int x1), some (.int x2), some (.int x3), some (.int x4), some (.int (bI (f_mo_isWord 1503 M))), some (.int (bI (f_mo_isWord 11047 M))), some (.int (bI (f_mo_isWord 369932 M))), some (.int (bI (f_mo_isWord 10284818 M))), some (.int (bI (f_mo_isWord 4419 M))), some (.int (bI (f_mo_isWord 79495460 M))), none]) ⟨Or.inr rfl, Or.inr rfl, Or.inr rfl, Or.inr rfl, Or.inr rfl, Or.inr rfl, Or.inr rfl, Or.inr rfl, Or.inr rfl, Or.inr rfl, Or.inr rfl, Or.inr rfl, trivial⟩ (w_b_mo_readsAll_73_170 x1 x2 x3 x4 (bI (f_mo_isWord 1503 M)) (bI (f_mo_isWord 11047 M)) (bI (f_mo_isWord 369932 M)) (bI (f_mo_isWord 10284818 M)) (bI (f_mo_isWord 4419 M)) (bI (f_mo_isWord 79495460 M)) M hf hk)
      · have hc := bI_0 h0
        replace hf := i_f hc hf
        refine y_iload (i := 7) (n := 146) ⟨dX12_readsAll_144, rfl⟩ rfl ?_
        refine y_if_ne (t := 170) (n := 149) ⟨dX12_readsAll_146, rfl, rfl⟩ (fun h0 => ?_) (fun h0 => ?_)
        · have hc := bI_1 h0
          replace hf := i_t hc hf
          exact y_wk (L2 := [some (.ref 66), some (.int x1), some (.int x2), some (.int x3), some (.int x4), some (.int (bI (f_mo_isWord 1503 M))), some (.int (bI (f_mo_isWord 11047 M))), some (.int (bI (f_mo_isWord 369932 M))), some (.int (bI (f_mo_isWord 10284818 M))), some (.int (bI (f_mo_isWord 4419 M))), some (.int (bI (f_mo_isWord 79495460 M))), none]) ⟨Or.inr rfl, Or.inr rfl, Or.inr rfl, Or.inr rfl, Or.inr rfl, Or.inr rfl, Or.inr rfl, Or.inr rfl, Or.inr rfl, Or.inr rfl, Or.inr rfl, Or.inr rfl, trivial⟩ (w_b_mo_readsAll_73_170 x1 x2 x3 x4 (bI (f_mo_isWord 1503 M)) (bI (f_mo_isWord 11047 M)) (bI (f_mo_isWord 369932 M)) (bI (f_mo_isWord 10284818 M)) (bI (f_mo_isWord 4419 M)) (bI (f_mo_isWord 79495460 M)) M hf hk)
        · have hc := bI_0 h0
          replace hf := i_f hc hf
          refine y_iload (i := 8) (n := 151) ⟨dX12_readsAll_149, rfl⟩ rfl ?_
          refine y_if_ne (t := 170) (n := 154) ⟨dX12_readsAll_151, rfl, rfl⟩ (fun h0 => ?_) (fun h0 => ?_)
          · have hc := bI_1 h0
            replace hf := i_t hc hf
            exact y_wk (L2 := [some (.ref 66), some (.int x1), some (.int x2), some (.int x3), some (.int x4), some (.int (bI (f_mo_isWord 1503 M))), some (.int (bI (f_mo_isWord 11047 M))), some (.int (bI (f_mo_isWord 369932 M))), some (.int (bI (f_mo_isWord 10284818 M))), some (.int (bI (f_mo_isWord 4419 M))), some (.int (bI (f_mo_isWord 79495460 M))), none]) ⟨Or.inr rfl, Or.inr rfl, Or.inr rfl, Or.inr rfl, Or.inr rfl, Or.inr rfl, Or.inr rfl, Or.inr rfl, Or.inr rfl, Or.inr rfl, Or.inr rfl, Or.inr rfl, trivial⟩ (w_b_mo_readsAll_73_170 x1 x2 x3 x4 (bI (f_mo_isWord 1503 M)) (bI (f_mo_isWord 11047 M)) (bI (f_mo_isWord 369932 M)) (bI (f_mo_isWord 10284818 M)) (bI (f_mo_isWord 4419 M)) (bI (f_mo_isWord 79495460 M)) M hf hk)
          · have hc := bI_0 h0
            replace hf := i_f hc hf
            refine y_iload (i := 9) (n := 156) ⟨dX12_readsAll_154, rfl⟩ rfl ?_
            refine y_if_ne (t := 170) (n := 159) ⟨dX12_readsAll_156, rfl, rfl⟩ (fun h0 => ?_) (fun h0 => ?_)
            · have hc := bI_1 h0
              replace hf := i_t hc hf
              exact y_wk (L2 := [some (.ref 66), some (.int x1), some (.int x2), some (.int x3), some (.int x4), some (.int (bI (f_mo_isWord 1503 M))), some (.int (bI (f_mo_isWord 11047 M))), some (.int (bI (f_mo_isWord 369932 M))), some (.int (bI (f_mo_isWord 10284818 M))), some (.int (bI (f_mo_isWord 4419 M))), some (.int (bI (f_mo_isWord 79495460 M))), none]) ⟨Or.inr rfl, Or.inr rfl, Or.inr rfl, Or.inr rfl, Or.inr rfl, Or.inr rfl, Or.inr rfl, Or.inr rfl, Or.inr rfl, Or.inr rfl, Or.inr rfl, Or.inr rfl, trivial⟩ (w_b_mo_readsAll_73_170 x1 x2 x3 x4 (bI (f_mo_isWord 1503 M)) (bI (f_mo_isWord 11047 M)) (bI (f_mo_isWord 369932 M)) (bI (f_mo_isWord 10284818 M)) (bI (f_mo_isWord 4419 M)) (bI (f_mo_isWord 79495460 M)) M hf hk)
            · have hc := bI_0 h0
              replace hf := i_f hc hf
              refine y_iload (i := 10) (n := 161) ⟨dX12_readsAll_159, rfl⟩ rfl ?_
              refine y_if_ne (t := 170) (n := 164) ⟨dX12_readsAll_161, rfl, rfl⟩ (fun h0 => ?_) (fun h0 => ?_)
              · have hc := bI_1 h0
                replace hf := i_t hc hf
                exact y_wk (L2 := [some (.ref 66), some (.int x1), some (.int x2), some (.int x3), some (.int x4), some (.int (bI (f_mo_isWord 1503 M))), some (.int (bI (f_mo_isWord 11047 M))), some (.int (bI (f_mo_isWord 369932 M))), some (.int (bI (f_mo_isWord 10284818 M))), some (.int (bI (f_mo_isWord 4419 M))), some (.int (bI (f_mo_isWord 79495460 M))), none]) ⟨Or.inr rfl, Or.inr rfl, Or.inr rfl, Or.inr rfl, Or.inr rfl, Or.inr rfl, Or.inr rfl, Or.inr rfl, Or.inr rfl, Or.inr rfl, Or.inr rfl, Or.inr rfl, trivial⟩ (w_b_mo_readsAll_73_170 x1 x2 x3 x4 (bI (f_mo_isWord 1503 M)) (bI (f_mo_isWord 11047 M)) (bI (f_mo_isWord 369932 M)) (bI (f_mo_isWord 10284818 M)) (bI (f_mo_isWord 4419 M)) (bI (f_mo_isWord 79495460 M)) M hf hk)
              · have hc := bI_0 h0
                replace hf := i_f hc hf
                refine y_aload_n (i := 0) (n := 165) ⟨dX12_readsAll_164, rfl⟩ rfl ?_
                refine y_iconst (n := 166) (v := 1) ⟨dX12_readsAll_165, rfl⟩ ki_1 ?_
                refine c_mo_fails 1 M (n := 169) ⟨dX12_readsAll_166, rfl⟩ klX12_366 rfl (by decide) (Nat.le_of_ble_eq_true rfl) rfl rfl ?_
                cases hf
                exact y_ireturn (n := 170) ⟨dX12_readsAll_169, rfl⟩ rfl (bI_n _) hk
theorem wl_mo_readsAll_73 (x1 : Int32) (x2 : Int32) (x3 : Int32) (x4 : Int32) (M : dM) {Q : mz_P} {x : (Bool × dM)} (hf : l_mo_readsAll_73 x1 x2 x3 x4 M = some x) (hk : K_mo_readsAll_73 Q  (.inr x)) : mW mX12_readsAll 6 Q 73 [some (.ref 66), some (.int x1), some (.int x2), some (.int x3), some (.int x4), none, none, none, none, none, none, none] [] M :=
  lpc_wp (σ := (Int32 × Int32 × Int32 × Int32 × dM)) (ξ := (Bool × dM)) (s := (x1, x2, x3, x4, M)) (Wh := fun s => mW mX12_readsAll 6 Q 73 [some (.ref 66), some (.int s.1), some (.int s.2.1), some (.int s.2.2.1), some (.int s.2.2.2.1), none, none, none, none, none, none, none] [] s.2.2.2.2) (K := K_mo_readsAll_73 Q ) (fun _ h => h) (fun s o hb hk => w_b_mo_readsAll_73_73 s.1 s.2.1 s.2.2.1 s.2.2.2.1 s.2.2.2.2 hb hk) hf hk
theorem ok_mo_readsAll  (M : dM) {o : (Bool × dM)} (hf : f_mo_readsAll M = some o) : mO mX12_readsAll 6 [.ref 66] M (some (.int (bI o.1))) o.2 := by
  refine y_ok (by decide +kernel) (Nat.le_of_ble_eq_true rfl) (L0 := [some (.ref 66), none, none, none, none, none, none, none, none, none, none, none]) rfl ?_
  have hk := mR_mQ (some (.int (bI o.1))) o.2
  generalize mQ _ _ = Q at hk ⊢
  unfold f_mo_readsAll at hf
  refine y_iconst (n := 1) (v := 0) ⟨dX12_readsAll_0, rfl⟩ ki_0 ?_
  refine y_istore_n (i := 1) (n := 2) (L2 := [some (.ref 66), some (.int 0), none, none, none, none, none, none, none, none, none, none]) ⟨dX12_readsAll_1, rfl⟩ (by decide) rfl rfl ?_
  refine y_iconst (n := 3) (v := 0) ⟨dX12_readsAll_2, rfl⟩ ki_0 ?_
  refine y_istore_n (i := 2) (n := 4) (L2 := [some (.ref 66), some (.int 0), some (.int 0), none, none, none, none, none, none, none, none, none]) ⟨dX12_readsAll_3, rfl⟩ (by decide) rfl rfl ?_
  refine y_iconst (n := 5) (v := 0) ⟨dX12_readsAll_4, rfl⟩ ki_0 ?_
  refine y_istore_n (i := 3) (n := 6) (L2 := [some (.ref 66), some (.int 0), some (.int 0), some (.int 0), none, none, none, none, none, none, none, none]) ⟨dX12_readsAll_5, rfl⟩ (by decide) rfl rfl ?_
  refine y_iconst (n := 7) (v := 0) ⟨dX12_readsAll_6, rfl⟩ ki_0 ?_
  refine y_istore (i := 4) (n := 9) (L2 := [some (.ref 66), some (.int 0), some (.int 0), some (.int 0), some (.int 0), none, none, none, none, none, none, none]) ⟨dX12_readsAll_7, rfl⟩ (by decide) rfl rfl ?_
  refine y_aload_n (i := 0) (n := 10) ⟨dX12_readsAll_9, rfl⟩ rfl ?_
  refine y_iconst (n := 11) (v := 3) ⟨dX12_readsAll_10, rfl⟩ ki_3 ?_
  refine y_putI (n := 14) ⟨dX12_readsAll_11, rfl⟩ kfX12_391 l_66 (by decide +kernel) rfl ?_
  refine y_aload_n (i := 0) (n := 15) ⟨dX12_readsAll_14, rfl⟩ rfl ?_
  refine y_bipush (n := 17) (v := 100) ⟨dX12_readsAll_15, rfl⟩ kb_100 ?_
  refine y_putI (n := 20) ⟨dX12_readsAll_17, rfl⟩ kfX12_394 l_66 (by decide +kernel) rfl ?_
  refine y_iconst (n := 21) (v := 0) ⟨dX12_readsAll_20, rfl⟩ ki_0 ?_
  refine y_istore (i := 5) (n := 23) (L2 := [some (.ref 66), some (.int 0), some (.int 0), some (.int 0), some (.int 0), some (.int 0), none, none, none, none, none, none]) ⟨dX12_readsAll_21, rfl⟩ (by decide) rfl rfl ?_
  obtain ⟨t2, hl3, hf⟩ := b_s hf
  refine y_wk (L2 := [some (.ref 66), some (.int 0), some (.int 0), some (.int 0), some (.int 0), some (.int 0), none, none, none, none, none, none]) ⟨Or.inr rfl, Or.inr rfl, Or.inr rfl, Or.inr rfl, Or.inr rfl, Or.inr rfl, Or.inr rfl, Or.inr rfl, Or.inr rfl, Or.inr rfl, Or.inr rfl, Or.inr rfl, trivial⟩ (wl_mo_readsAll_23 0 0 0 0 0 (sI (sI M 66 34 3) 66 35 100) hl3 ?_)
  show mW mX12_readsAll 6 Q 44 [some (.ref 66), some (.int 0), some (.int 0), some (.int 0), some (.int 0), none, none, none, none, none, none, none] [] t2
  refine y_aload_n (i := 0) (n := 45) ⟨dX12_readsAll_44, rfl⟩ rfl ?_
  refine y_sipush (n := 48) (v := 1000) ⟨dX12_readsAll_45, rfl⟩ ks_1000 ?_
  refine y_putI (n := 51) ⟨dX12_readsAll_48, rfl⟩ kfX12_290 l_66 (by decide +kernel) rfl ?_
  refine y_aload_n (i := 0) (n := 52) ⟨dX12_readsAll_51, rfl⟩ rfl ?_
  refine y_aload_n (i := 0) (n := 53) ⟨dX12_readsAll_52, rfl⟩ rfl ?_
  refine y_getI (n := 56) ⟨dX12_readsAll_53, rfl⟩ kfX12_258 l_66 rfl ?_
  refine y_putI (n := 59) ⟨dX12_readsAll_56, rfl⟩ kfX12_261 l_66 (by decide +kernel) rfl ?_
  refine y_aload_n (i := 0) (n := 60) ⟨dX12_readsAll_59, rfl⟩ rfl ?_
  refine y_iconst (n := 61) (v := 0) ⟨dX12_readsAll_60, rfl⟩ ki_0 ?_
  refine y_putI (n := 64) ⟨dX12_readsAll_61, rfl⟩ kfX12_258 l_66 (by decide +kernel) rfl ?_
  refine y_aload_n (i := 0) (n := 65) ⟨dX12_readsAll_64, rfl⟩ rfl ?_
  refine y_iconst (n := 66) (v := 0) ⟨dX12_readsAll_65, rfl⟩ ki_0 ?_
  refine y_putI (n := 69) ⟨dX12_readsAll_66, rfl⟩ kfX12_264 l_66 (by decide +kernel) rfl ?_
  refine y_aload_n (i := 0) (n := 70) ⟨dX12_readsAll_69, rfl⟩ rfl ?_
  obtain ⟨q5, hv6, hf⟩ := b_s hf
  refine c_mo_nextToken (sI (sI (sI (sI t2 66 37 1000) 66 19 (gI (sI t2 66 37 1000) 66 17)) 66 17 0) 66 20 0) (n := 73) ⟨dX12_readsAll_70, rfl⟩ klX12_373 hv6 (by decide) (Nat.le_of_ble_eq_true rfl) rfl rfl ?_
  obtain ⟨r20, hl19, hf⟩ := b_s hf
  cases hf
  exact y_wk (L2 := [some (.ref 66), some (.int 0), some (.int 0), some (.int 0), some (.int 0), none, none, none, none, none, none, none]) ⟨Or.inr rfl, Or.inr rfl, Or.inr rfl, Or.inr rfl, Or.inr rfl, Or.inr rfl, Or.inr rfl, Or.inr rfl, Or.inr rfl, Or.inr rfl, Or.inr rfl, Or.inr rfl, trivial⟩ (wl_mo_readsAll_73 0 0 0 0 q5 hl19 hk)
theorem c_mo_readsAll  (M : dM) {o : (Bool × dM)} {y : mz_M} {d : Nat} {Q : mz_P} {pc n i : Nat} {L : List (Option Value)} {st : List Value} (h : mz_d y.2.1 pc n 3 (.invokevirtual i)) (hl : mz_ml y.1.cls i yX12_readsAll) (hf : f_mo_readsAll M = some o) (hd : 6 + 1 ≤ d) (hsm : (st.map (fun v => v.category)).sum ≤ 8) (hLr : mz_rL 133 L = true) (hSr : mz_rS 133 st = true) (kk : mW y d Q n L (.int (bI o.1) :: st) o.2) : mW y d Q pc L (.ref 66 :: st) M :=
  y_callV kmX12_readsAll kvX12_readsAll l_66 (by decide +kernel) (by decide +kernel) h hl (ok_mo_readsAll  M hf) (vs := []) rfl rfl hd hsm hLr hSr kk
def K_mo_law_19 (Q : mz_P)  : ((Int32 × dM) ⊕ dM) → Prop
  | .inl s => mW mX12_law 7 Q 19 [some (.ref 66), some (.int s.1)] [] s.2
  | .inr t => mW mX12_law 7 Q 75 [some (.ref 66), none] [] t
noncomputable def b_mo_law_19_19 (x1 : Int32) (M : dM) : Option ((Int32 × dM) ⊕ dM) :=
  if 21 ≤ x1 then
    some (.inr M)
  else
    gd (vp_in x1 21) <|
    some (.inl ((x1 + 1), (sI (sI (sI M 82 x1.toNatClampNeg (vp_nar .boolean (gI M 85 x1.toNatClampNeg))) 83 x1.toNatClampNeg ((gI (sI M 82 x1.toNatClampNeg (vp_nar .boolean (gI M 85 x1.toNatClampNeg))) 86 x1.toNatClampNeg) - 1000)) 84 x1.toNatClampNeg ((gI (sI (sI M 82 x1.toNatClampNeg (vp_nar .boolean (gI M 85 x1.toNatClampNeg))) 83 x1.toNatClampNeg ((gI (sI M 82 x1.toNatClampNeg (vp_nar .boolean (gI M 85 x1.toNatClampNeg))) 86 x1.toNatClampNeg) - 1000)) 87 x1.toNatClampNeg) - 1000))))
noncomputable def l_mo_law_19 (x1 : Int32) (M : dM) : Option dM := lpc (fun s => b_mo_law_19_19 s.1 s.2) (x1, M)
def K_mo_law_77 (Q : mz_P)  : ((Int32 × dM) ⊕ (Int32 × dM)) → Prop
  | .inl s => mW mX12_law 7 Q 77 [some (.ref 66), some (.int s.1)] [] s.2
  | .inr r => mR Q (some (.int r.1)) r.2
noncomputable def b_mo_law_77_77 (x1 : Int32) (M : dM) : Option ((Int32 × dM) ⊕ (Int32 × dM)) :=
  if 1000 ≤ x1 then
    some (.inr (0, (sI (sI M 66 32 (gI M 66 34)) 66 33 (gI (sI M 66 32 (gI M 66 34)) 66 35))))
  else
    gd (vp_in (1000 + x1) 2000) <|
    gd (vp_in x1 2000) <|
    some (.inl ((x1 + 1), (sI M 88 x1.toNatClampNeg (gI M 88 (1000 + x1).toNatClampNeg))))
noncomputable def l_mo_law_77 (x1 : Int32) (M : dM) : Option (Int32 × dM) := lpc (fun s => b_mo_law_77_77 s.1 s.2) (x1, M)
noncomputable def f_mo_law (M : dM) : Option (Int32 × dM) :=
  (f_mo_readsAll (sI M 66 0 0)).bind fun q1 =>
  if q1.1 = true then
    (l_mo_law_19 0 q1.2).bind fun t4 =>
      (l_mo_law_77 0 t4).bind fun r11 => some r11
  else
    some ((gI q1.2 66 25), q1.2)
theorem w_b_mo_law_19_19 (x1 : Int32)  (M : dM) {Q : mz_P} {o : ((Int32 × dM) ⊕ dM)} (hf : b_mo_law_19_19 x1 M = some o) (hk : K_mo_law_19 Q  o) : mW mX12_law 7 Q 19 [some (.ref 66), some (.int x1)] [] M := by
  unfold b_mo_law_19_19 at hf
  refine y_iload_n (i := 1) (n := 20) ⟨dX12_law_19, rfl⟩ rfl ?_
  refine y_bipush (n := 22) (v := 21) ⟨dX12_law_20, rfl⟩ kb_21 ?_
  refine y_icmp_ge (t := 75) (n := 25) ⟨dX12_law_22, rfl, rfl⟩ (fun (hc : 21 ≤ x1) => ?_) (fun (hc : ¬ (21 ≤ x1)) => ?_)
  · replace hf := i_t hc hf
    cases hf
    exact y_wk (L2 := [some (.ref 66), none]) ⟨Or.inr rfl, Or.inl rfl, trivial⟩ hk
  · replace hf := i_f hc hf
    refine y_aload_n (i := 0) (n := 26) ⟨dX12_law_25, rfl⟩ rfl ?_
    refine y_getR (n := 29) ⟨dX12_law_26, rfl⟩ kfX12_55 l_66 rfl r_66_26 ?_
    refine y_iload_n (i := 1) (n := 30) ⟨dX12_law_29, rfl⟩ rfl ?_
    refine y_aload_n (i := 0) (n := 31) ⟨dX12_law_30, rfl⟩ rfl ?_
    refine y_getR (n := 34) ⟨dX12_law_31, rfl⟩ kfX12_65 l_66 rfl r_66_29 ?_
    refine y_iload_n (i := 1) (n := 35) ⟨dX12_law_34, rfl⟩ rfl ?_
    obtain ⟨hg3, hf⟩ := g_s hf
    refine y_baload (n := 36) ⟨dX12_law_35, rfl⟩ l_85 hg3 ?_
    refine y_bastore (x' := vp_nar .boolean (gI M 85 x1.toNatClampNeg)) (n := 37) ⟨dX12_law_36, rfl⟩ l_82 hg3 rfl ?_
    refine y_aload_n (i := 0) (n := 38) ⟨dX12_law_37, rfl⟩ rfl ?_
    refine y_getR (n := 41) ⟨dX12_law_38, rfl⟩ kfX12_59 l_66 rfl r_66_27 ?_
    refine y_iload_n (i := 1) (n := 42) ⟨dX12_law_41, rfl⟩ rfl ?_
    refine y_aload_n (i := 0) (n := 43) ⟨dX12_law_42, rfl⟩ rfl ?_
    refine y_getR (n := 46) ⟨dX12_law_43, rfl⟩ kfX12_68 l_66 rfl r_66_30 ?_
    refine y_iload_n (i := 1) (n := 47) ⟨dX12_law_46, rfl⟩ rfl ?_
    refine y_iaload (n := 48) ⟨dX12_law_47, rfl⟩ l_86 hg3 ?_
    refine y_sipush (n := 51) (v := 1000) ⟨dX12_law_48, rfl⟩ ks_1000 ?_
    refine y_isub (n := 52) ⟨dX12_law_51, rfl⟩ ?_
    refine y_iastore (n := 53) ⟨dX12_law_52, rfl⟩ l_83 hg3 ?_
    refine y_aload_n (i := 0) (n := 54) ⟨dX12_law_53, rfl⟩ rfl ?_
    refine y_getR (n := 57) ⟨dX12_law_54, rfl⟩ kfX12_62 l_66 rfl r_66_28 ?_
    refine y_iload_n (i := 1) (n := 58) ⟨dX12_law_57, rfl⟩ rfl ?_
    refine y_aload_n (i := 0) (n := 59) ⟨dX12_law_58, rfl⟩ rfl ?_
    refine y_getR (n := 62) ⟨dX12_law_59, rfl⟩ kfX12_71 l_66 rfl r_66_31 ?_
    refine y_iload_n (i := 1) (n := 63) ⟨dX12_law_62, rfl⟩ rfl ?_
    refine y_iaload (n := 64) ⟨dX12_law_63, rfl⟩ l_87 hg3 ?_
    refine y_sipush (n := 67) (v := 1000) ⟨dX12_law_64, rfl⟩ ks_1000 ?_
    refine y_isub (n := 68) ⟨dX12_law_67, rfl⟩ ?_
    refine y_iastore (n := 69) ⟨dX12_law_68, rfl⟩ l_84 hg3 ?_
    refine y_iinc (i := 1) (n := 72) (b := (x1 + 1)) (L2 := [some (.ref 66), some (.int (x1 + 1))]) ⟨dX12_law_69, rfl⟩ rfl (by rw [ki_1]) (by decide) rfl rfl ?_
    refine y_goto (t := 19) ⟨dX12_law_72, rfl, rfl⟩ ?_
    cases hf
    exact y_wk (L2 := [some (.ref 66), some (.int (x1 + 1))]) ⟨Or.inr rfl, Or.inr rfl, trivial⟩ hk
theorem wl_mo_law_19 (x1 : Int32) (M : dM) {Q : mz_P} {x : dM} (hf : l_mo_law_19 x1 M = some x) (hk : K_mo_law_19 Q  (.inr x)) : mW mX12_law 7 Q 19 [some (.ref 66), some (.int x1)] [] M :=
  lpc_wp (σ := (Int32 × dM)) (ξ := dM) (s := (x1, M)) (Wh := fun s => mW mX12_law 7 Q 19 [some (.ref 66), some (.int s.1)] [] s.2) (K := K_mo_law_19 Q ) (fun _ h => h) (fun s o hb hk => w_b_mo_law_19_19 s.1 s.2 hb hk) hf hk
theorem w_b_mo_law_77_77 (x1 : Int32)  (M : dM) {Q : mz_P} {o : ((Int32 × dM) ⊕ (Int32 × dM))} (hf : b_mo_law_77_77 x1 M = some o) (hk : K_mo_law_77 Q  o) : mW mX12_law 7 Q 77 [some (.ref 66), some (.int x1)] [] M := by
  unfold b_mo_law_77_77 at hf
  refine y_iload_n (i := 1) (n := 78) ⟨dX12_law_77, rfl⟩ rfl ?_
  refine y_sipush (n := 81) (v := 1000) ⟨dX12_law_78, rfl⟩ ks_1000 ?_
  refine y_icmp_ge (t := 106) (n := 84) ⟨dX12_law_81, rfl, rfl⟩ (fun (hc : 1000 ≤ x1) => ?_) (fun (hc : ¬ (1000 ≤ x1)) => ?_)
  · replace hf := i_t hc hf
    refine y_aload_n (i := 0) (n := 107) ⟨dX12_law_106, rfl⟩ rfl ?_
    refine y_aload_n (i := 0) (n := 108) ⟨dX12_law_107, rfl⟩ rfl ?_
    refine y_getI (n := 111) ⟨dX12_law_108, rfl⟩ kfX12_391 l_66 rfl ?_
    refine y_putI (n := 114) ⟨dX12_law_111, rfl⟩ kfX12_207 l_66 (by decide +kernel) rfl ?_
    refine y_aload_n (i := 0) (n := 115) ⟨dX12_law_114, rfl⟩ rfl ?_
    refine y_aload_n (i := 0) (n := 116) ⟨dX12_law_115, rfl⟩ rfl ?_
    refine y_getI (n := 119) ⟨dX12_law_116, rfl⟩ kfX12_394 l_66 rfl ?_
    refine y_putI (n := 122) ⟨dX12_law_119, rfl⟩ kfX12_211 l_66 (by decide +kernel) rfl ?_
    refine y_iconst (n := 123) (v := 0) ⟨dX12_law_122, rfl⟩ ki_0 ?_
    cases hf
    exact y_ireturn (n := 124) ⟨dX12_law_123, rfl⟩ rfl rfl hk
  · replace hf := i_f hc hf
    refine y_aload_n (i := 0) (n := 85) ⟨dX12_law_84, rfl⟩ rfl ?_
    refine y_getR (n := 88) ⟨dX12_law_85, rfl⟩ kfX12_74 l_66 rfl r_66_36 ?_
    refine y_iload_n (i := 1) (n := 89) ⟨dX12_law_88, rfl⟩ rfl ?_
    refine y_aload_n (i := 0) (n := 90) ⟨dX12_law_89, rfl⟩ rfl ?_
    refine y_getR (n := 93) ⟨dX12_law_90, rfl⟩ kfX12_74 l_66 rfl r_66_36 ?_
    refine y_sipush (n := 96) (v := 1000) ⟨dX12_law_93, rfl⟩ ks_1000 ?_
    refine y_iload_n (i := 1) (n := 97) ⟨dX12_law_96, rfl⟩ rfl ?_
    refine y_iadd (n := 98) ⟨dX12_law_97, rfl⟩ ?_
    obtain ⟨hg7, hf⟩ := g_s hf
    refine y_iaload (n := 99) ⟨dX12_law_98, rfl⟩ l_88 hg7 ?_
    obtain ⟨hg8, hf⟩ := g_s hf
    refine y_iastore (n := 100) ⟨dX12_law_99, rfl⟩ l_88 hg8 ?_
    refine y_iinc (i := 1) (n := 103) (b := (x1 + 1)) (L2 := [some (.ref 66), some (.int (x1 + 1))]) ⟨dX12_law_100, rfl⟩ rfl (by rw [ki_1]) (by decide) rfl rfl ?_
    refine y_goto (t := 77) ⟨dX12_law_103, rfl, rfl⟩ ?_
    cases hf
    exact y_wk (L2 := [some (.ref 66), some (.int (x1 + 1))]) ⟨Or.inr rfl, Or.inr rfl, trivial⟩ hk
theorem wl_mo_law_77 (x1 : Int32) (M : dM) {Q : mz_P} {x : (Int32 × dM)} (hf : l_mo_law_77 x1 M = some x) (hk : K_mo_law_77 Q  (.inr x)) : mW mX12_law 7 Q 77 [some (.ref 66), some (.int x1)] [] M :=
  lpc_wp (σ := (Int32 × dM)) (ξ := (Int32 × dM)) (s := (x1, M)) (Wh := fun s => mW mX12_law 7 Q 77 [some (.ref 66), some (.int s.1)] [] s.2) (K := K_mo_law_77 Q ) (fun _ h => h) (fun s o hb hk => w_b_mo_law_77_77 s.1 s.2 hb hk) hf hk
theorem ok_mo_law  (M : dM) {o : (Int32 × dM)} (hf : f_mo_law M = some o) : mO mX12_law 7 [.ref 66] M (some (.int o.1)) o.2 := by
  refine y_ok (by decide +kernel) (Nat.le_of_ble_eq_true rfl) (L0 := [some (.ref 66), none]) rfl ?_
  have hk := mR_mQ (some (.int o.1)) o.2
  generalize mQ _ _ = Q at hk ⊢
  unfold f_mo_law at hf
  refine y_aload_n (i := 0) (n := 1) ⟨dX12_law_0, rfl⟩ rfl ?_
  refine y_iconst (n := 2) (v := 0) ⟨dX12_law_1, rfl⟩ ki_0 ?_
  refine y_putI (n := 5) ⟨dX12_law_2, rfl⟩ kfX12_214 l_66 (by decide +kernel) rfl ?_
  refine y_aload_n (i := 0) (n := 6) ⟨dX12_law_5, rfl⟩ rfl ?_
  obtain ⟨q1, hv2, hf⟩ := b_s hf
  refine c_mo_readsAll (sI M 66 0 0) (n := 9) ⟨dX12_law_6, rfl⟩ klX12_417 hv2 (by decide) (Nat.le_of_ble_eq_true rfl) rfl rfl ?_
  refine y_if_ne (t := 17) (n := 12) ⟨dX12_law_9, rfl, rfl⟩ (fun h0 => ?_) (fun h0 => ?_)
  · have hc := bI_1 h0
    replace hf := i_t hc hf
    refine y_iconst (n := 18) (v := 0) ⟨dX12_law_17, rfl⟩ ki_0 ?_
    refine y_istore_n (i := 1) (n := 19) (L2 := [some (.ref 66), some (.int 0)]) ⟨dX12_law_18, rfl⟩ (by decide) rfl rfl ?_
    obtain ⟨t4, hl5, hf⟩ := b_s hf
    refine y_wk (L2 := [some (.ref 66), some (.int 0)]) ⟨Or.inr rfl, Or.inr rfl, trivial⟩ (wl_mo_law_19 0 q1.2 hl5 ?_)
    show mW mX12_law 7 Q 75 [some (.ref 66), none] [] t4
    refine y_iconst (n := 76) (v := 0) ⟨dX12_law_75, rfl⟩ ki_0 ?_
    refine y_istore_n (i := 1) (n := 77) (L2 := [some (.ref 66), some (.int 0)]) ⟨dX12_law_76, rfl⟩ (by decide) rfl rfl ?_
    obtain ⟨r11, hl10, hf⟩ := b_s hf
    cases hf
    exact y_wk (L2 := [some (.ref 66), some (.int 0)]) ⟨Or.inr rfl, Or.inr rfl, trivial⟩ (wl_mo_law_77 0 t4 hl10 hk)
  · have hc := bI_0 h0
    replace hf := i_f hc hf
    refine y_aload_n (i := 0) (n := 13) ⟨dX12_law_12, rfl⟩ rfl ?_
    refine y_getI (n := 16) ⟨dX12_law_13, rfl⟩ kfX12_287 l_66 rfl ?_
    cases hf
    exact y_ireturn (n := 17) ⟨dX12_law_16, rfl⟩ rfl rfl hk
theorem c_mo_law  (M : dM) {o : (Int32 × dM)} {y : mz_M} {d : Nat} {Q : mz_P} {pc n i : Nat} {L : List (Option Value)} {st : List Value} (h : mz_d y.2.1 pc n 3 (.invokevirtual i)) (hl : mz_ml y.1.cls i yX12_law) (hf : f_mo_law M = some o) (hd : 7 + 1 ≤ d) (hsm : (st.map (fun v => v.category)).sum ≤ 8) (hLr : mz_rL 133 L = true) (hSr : mz_rS 133 st = true) (kk : mW y d Q n L (.int o.1 :: st) o.2) : mW y d Q pc L (.ref 66 :: st) M :=
  y_callV kmX12_law kvX12_law l_66 (by decide +kernel) (by decide +kernel) h hl (ok_mo_law  M hf) (vs := []) rfl rfl hd hsm hLr hSr kk
def K_mo_lays_2 (Q : mz_P) (x1 : Int32) : ((Int32 × dM) ⊕ dM) → Prop
  | .inl s => mW mX12_lays 3 Q 2 [some (.ref 66), some (.int x1), some (.int s.1)] [] s.2
  | .inr r => mR Q none r
noncomputable def b_mo_lays_2_2 (x1 : Int32) (x2 : Int32) (M : dM) : Option ((Int32 × dM) ⊕ dM) :=
  if 17 ≤ x2 then
    some (.inr M)
  else
    (f_mo_factOf x1 x2 M).bind fun v1 =>
    gd (vp_in (1 + x2) 20) <|
    some (.inl ((x2 + 1), (sI M 100 (1 + x2).toNatClampNeg v1)))
noncomputable def l_mo_lays_2 (x1 : Int32) (x2 : Int32) (M : dM) : Option dM := lpc (fun s => b_mo_lays_2_2 x1 s.1 s.2) (x2, M)
noncomputable def f_mo_lays (a1 : Int32) (M : dM) : Option dM :=
  (l_mo_lays_2 a1 0 M).bind fun r6 => some r6
theorem w_b_mo_lays_2_2 (x1 : Int32) (x2 : Int32)  (M : dM) {Q : mz_P} {o : ((Int32 × dM) ⊕ dM)} (hf : b_mo_lays_2_2 x1 x2 M = some o) (hk : K_mo_lays_2 Q x1 o) : mW mX12_lays 3 Q 2 [some (.ref 66), some (.int x1), some (.int x2)] [] M := by
  unfold b_mo_lays_2_2 at hf
  refine y_iload_n (i := 2) (n := 3) ⟨dX12_lays_2, rfl⟩ rfl ?_
  refine y_bipush (n := 5) (v := 17) ⟨dX12_lays_3, rfl⟩ kb_17 ?_
  refine y_icmp_ge (t := 28) (n := 8) ⟨dX12_lays_5, rfl, rfl⟩ (fun (hc : 17 ≤ x2) => ?_) (fun (hc : ¬ (17 ≤ x2)) => ?_)
  · replace hf := i_t hc hf
    cases hf
    exact y_return (n := 29) ⟨dX12_lays_28, rfl⟩ rfl hk
  · replace hf := i_f hc hf
    refine y_aload_n (i := 0) (n := 9) ⟨dX12_lays_8, rfl⟩ rfl ?_
    refine y_getR (n := 12) ⟨dX12_lays_9, rfl⟩ kfX12_110 l_66 rfl r_66_50 ?_
    refine y_iconst (n := 13) (v := 1) ⟨dX12_lays_12, rfl⟩ ki_1 ?_
    refine y_iload_n (i := 2) (n := 14) ⟨dX12_lays_13, rfl⟩ rfl ?_
    refine y_iadd (n := 15) ⟨dX12_lays_14, rfl⟩ ?_
    refine y_aload_n (i := 0) (n := 16) ⟨dX12_lays_15, rfl⟩ rfl ?_
    refine y_iload_n (i := 1) (n := 17) ⟨dX12_lays_16, rfl⟩ rfl ?_
    refine y_iload_n (i := 2) (n := 18) ⟨dX12_lays_17, rfl⟩ rfl ?_
    obtain ⟨v1, hv2, hf⟩ := b_s hf
    refine c_mo_factOf x1 x2 M (n := 21) ⟨dX12_lays_18, rfl⟩ klX12_252 hv2 (by decide) (Nat.le_of_ble_eq_true rfl) rfl rfl ?_
    obtain ⟨hg3, hf⟩ := g_s hf
    refine y_iastore (n := 22) ⟨dX12_lays_21, rfl⟩ l_100 hg3 ?_
    refine y_iinc (i := 2) (n := 25) (b := (x2 + 1)) (L2 := [some (.ref 66), some (.int x1), some (.int (x2 + 1))]) ⟨dX12_lays_22, rfl⟩ rfl (by rw [ki_1]) (by decide) rfl rfl ?_
    refine y_goto (t := 2) ⟨dX12_lays_25, rfl, rfl⟩ ?_
    cases hf
    exact y_wk (L2 := [some (.ref 66), some (.int x1), some (.int (x2 + 1))]) ⟨Or.inr rfl, Or.inr rfl, Or.inr rfl, trivial⟩ hk
theorem wl_mo_lays_2 (x1 : Int32) (x2 : Int32) (M : dM) {Q : mz_P} {x : dM} (hf : l_mo_lays_2 x1 x2 M = some x) (hk : K_mo_lays_2 Q x1 (.inr x)) : mW mX12_lays 3 Q 2 [some (.ref 66), some (.int x1), some (.int x2)] [] M :=
  lpc_wp (σ := (Int32 × dM)) (ξ := dM) (s := (x2, M)) (Wh := fun s => mW mX12_lays 3 Q 2 [some (.ref 66), some (.int x1), some (.int s.1)] [] s.2) (K := K_mo_lays_2 Q x1) (fun _ h => h) (fun s o hb hk => w_b_mo_lays_2_2 x1 s.1 s.2 hb hk) hf hk
theorem ok_mo_lays (a1 : Int32) (M : dM) {o : dM} (hf : f_mo_lays a1 M = some o) : mO mX12_lays 3 [.ref 66, .int a1] M none o := by
  refine y_ok (by decide +kernel) (Nat.le_of_ble_eq_true rfl) (L0 := [some (.ref 66), some (.int a1), none]) rfl ?_
  have hk := mR_mQ none o
  generalize mQ _ _ = Q at hk ⊢
  unfold f_mo_lays at hf
  refine y_iconst (n := 1) (v := 0) ⟨dX12_lays_0, rfl⟩ ki_0 ?_
  refine y_istore_n (i := 2) (n := 2) (L2 := [some (.ref 66), some (.int a1), some (.int 0)]) ⟨dX12_lays_1, rfl⟩ (by decide) rfl rfl ?_
  obtain ⟨r6, hl5, hf⟩ := b_s hf
  cases hf
  exact y_wk (L2 := [some (.ref 66), some (.int a1), some (.int 0)]) ⟨Or.inr rfl, Or.inr rfl, Or.inr rfl, trivial⟩ (wl_mo_lays_2 a1 0 M hl5 hk)
theorem c_mo_lays (a1 : Int32) (M : dM) {o : dM} {y : mz_M} {d : Nat} {Q : mz_P} {pc n i : Nat} {L : List (Option Value)} {st : List Value} (h : mz_d y.2.1 pc n 3 (.invokevirtual i)) (hl : mz_ml y.1.cls i yX12_lays) (hf : f_mo_lays a1 M = some o) (hd : 3 + 1 ≤ d) (hsm : (st.map (fun v => v.category)).sum ≤ 8) (hLr : mz_rL 133 L = true) (hSr : mz_rS 133 st = true) (kk : mW y d Q n L st o) : mW y d Q pc L (.int a1 :: .ref 66 :: st) M :=
  y_callV kmX12_lays kvX12_lays l_66 (by decide +kernel) (by decide +kernel) h hl (ok_mo_lays a1 M hf) (vs := [.int a1]) rfl rfl hd hsm hLr hSr kk
noncomputable def f_mo_opens (a1 : Int32) (M : dM) : Option dM :=
  gd (vp_in a1 7) <|
  some (sI (sI (sI (sI (sI M 92 a1.toNatClampNeg 0) 94 a1.toNatClampNeg 0) 95 a1.toNatClampNeg 0) 96 a1.toNatClampNeg 20) 98 a1.toNatClampNeg 0)
theorem ok_mo_opens (a1 : Int32) (M : dM) {o : dM} (hf : f_mo_opens a1 M = some o) : mO mX12_opens 1 [.ref 66, .int a1] M none o := by
  refine y_ok (by decide +kernel) (Nat.le_of_ble_eq_true rfl) (L0 := [some (.ref 66), some (.int a1)]) rfl ?_
  have hk := mR_mQ none o
  generalize mQ _ _ = Q at hk ⊢
  unfold f_mo_opens at hf
  refine y_aload_n (i := 0) (n := 1) ⟨dX12_opens_0, rfl⟩ rfl ?_
  refine y_getR (n := 4) ⟨dX12_opens_1, rfl⟩ kfX12_86 l_66 rfl r_66_42 ?_
  refine y_iload_n (i := 1) (n := 5) ⟨dX12_opens_4, rfl⟩ rfl ?_
  refine y_iconst (n := 6) (v := 0) ⟨dX12_opens_5, rfl⟩ ki_0 ?_
  obtain ⟨hg1, hf⟩ := g_s hf
  refine y_iastore (n := 7) ⟨dX12_opens_6, rfl⟩ l_92 hg1 ?_
  refine y_aload_n (i := 0) (n := 8) ⟨dX12_opens_7, rfl⟩ rfl ?_
  refine y_getR (n := 11) ⟨dX12_opens_8, rfl⟩ kfX12_92 l_66 rfl r_66_44 ?_
  refine y_iload_n (i := 1) (n := 12) ⟨dX12_opens_11, rfl⟩ rfl ?_
  refine y_iconst (n := 13) (v := 0) ⟨dX12_opens_12, rfl⟩ ki_0 ?_
  refine y_iastore (n := 14) ⟨dX12_opens_13, rfl⟩ l_94 hg1 ?_
  refine y_aload_n (i := 0) (n := 15) ⟨dX12_opens_14, rfl⟩ rfl ?_
  refine y_getR (n := 18) ⟨dX12_opens_15, rfl⟩ kfX12_95 l_66 rfl r_66_45 ?_
  refine y_iload_n (i := 1) (n := 19) ⟨dX12_opens_18, rfl⟩ rfl ?_
  refine y_iconst (n := 20) (v := 0) ⟨dX12_opens_19, rfl⟩ ki_0 ?_
  refine y_iastore (n := 21) ⟨dX12_opens_20, rfl⟩ l_95 hg1 ?_
  refine y_aload_n (i := 0) (n := 22) ⟨dX12_opens_21, rfl⟩ rfl ?_
  refine y_getR (n := 25) ⟨dX12_opens_22, rfl⟩ kfX12_98 l_66 rfl r_66_46 ?_
  refine y_iload_n (i := 1) (n := 26) ⟨dX12_opens_25, rfl⟩ rfl ?_
  refine y_bipush (n := 28) (v := 20) ⟨dX12_opens_26, rfl⟩ kb_20 ?_
  refine y_iastore (n := 29) ⟨dX12_opens_28, rfl⟩ l_96 hg1 ?_
  refine y_aload_n (i := 0) (n := 30) ⟨dX12_opens_29, rfl⟩ rfl ?_
  refine y_getR (n := 33) ⟨dX12_opens_30, rfl⟩ kfX12_104 l_66 rfl r_66_48 ?_
  refine y_iload_n (i := 1) (n := 34) ⟨dX12_opens_33, rfl⟩ rfl ?_
  refine y_iconst (n := 35) (v := 0) ⟨dX12_opens_34, rfl⟩ ki_0 ?_
  refine y_iastore (n := 36) ⟨dX12_opens_35, rfl⟩ l_98 hg1 ?_
  cases hf
  exact y_return (n := 37) ⟨dX12_opens_36, rfl⟩ rfl hk
theorem c_mo_opens (a1 : Int32) (M : dM) {o : dM} {y : mz_M} {d : Nat} {Q : mz_P} {pc n i : Nat} {L : List (Option Value)} {st : List Value} (h : mz_d y.2.1 pc n 3 (.invokevirtual i)) (hl : mz_ml y.1.cls i yX12_opens) (hf : f_mo_opens a1 M = some o) (hd : 1 + 1 ≤ d) (hsm : (st.map (fun v => v.category)).sum ≤ 8) (hLr : mz_rL 133 L = true) (hSr : mz_rS 133 st = true) (kk : mW y d Q n L st o) : mW y d Q pc L (.int a1 :: .ref 66 :: st) M :=
  y_callV kmX12_opens kvX12_opens l_66 (by decide +kernel) (by decide +kernel) h hl (ok_mo_opens a1 M hf) (vs := [.int a1]) rfl rfl hd hsm hLr hSr kk
noncomputable def t_mo_sums_45 (x1 : Int32) (y1 : Int32) (y2 : Int32) (M : dM) : Option dM :=
  gd (vp_in y1 7) <|
  gd (vp_in x1 7) <|
  some (sI (sI M 95 y1.toNatClampNeg y2) 98 x1.toNatClampNeg 0)
noncomputable def f_mo_sums (a1 : Int32) (M : dM) : Option dM :=
  gd (vp_in a1 7) <|
  if (gI M 96 a1.toNatClampNeg) = 21 then
    t_mo_sums_45 a1 a1 ((gI M 95 a1.toNatClampNeg) - (gI M 97 a1.toNatClampNeg)) M
  else
    t_mo_sums_45 a1 a1 ((gI M 95 a1.toNatClampNeg) + (gI M 97 a1.toNatClampNeg)) M
theorem w_t_mo_sums_45 (x1 : Int32) (y1 : Int32) (y2 : Int32) (M : dM) {Q : mz_P} {o : dM} (hf : t_mo_sums_45 x1 y1 y2 M = some o) (hk : mR Q none o) : mW mX12_sums 1 Q 45 [some (.ref 66), some (.int x1)] [.int y2, .int y1, .ref 95] M := by
  unfold t_mo_sums_45 at hf
  obtain ⟨hg2, hf⟩ := g_s hf
  refine y_iastore (n := 46) ⟨dX12_sums_45, rfl⟩ l_95 hg2 ?_
  refine y_aload_n (i := 0) (n := 47) ⟨dX12_sums_46, rfl⟩ rfl ?_
  refine y_getR (n := 50) ⟨dX12_sums_47, rfl⟩ kfX12_104 l_66 rfl r_66_48 ?_
  refine y_iload_n (i := 1) (n := 51) ⟨dX12_sums_50, rfl⟩ rfl ?_
  refine y_iconst (n := 52) (v := 0) ⟨dX12_sums_51, rfl⟩ ki_0 ?_
  obtain ⟨hg3, hf⟩ := g_s hf
  refine y_iastore (n := 53) ⟨dX12_sums_52, rfl⟩ l_98 hg3 ?_
  cases hf
  exact y_return (n := 54) ⟨dX12_sums_53, rfl⟩ rfl hk
theorem ok_mo_sums (a1 : Int32) (M : dM) {o : dM} (hf : f_mo_sums a1 M = some o) : mO mX12_sums 1 [.ref 66, .int a1] M none o := by
  refine y_ok (by decide +kernel) (Nat.le_of_ble_eq_true rfl) (L0 := [some (.ref 66), some (.int a1)]) rfl ?_
  have hk := mR_mQ none o
  generalize mQ _ _ = Q at hk ⊢
  unfold f_mo_sums at hf
  refine y_aload_n (i := 0) (n := 1) ⟨dX12_sums_0, rfl⟩ rfl ?_
  refine y_getR (n := 4) ⟨dX12_sums_1, rfl⟩ kfX12_95 l_66 rfl r_66_45 ?_
  refine y_iload_n (i := 1) (n := 5) ⟨dX12_sums_4, rfl⟩ rfl ?_
  refine y_aload_n (i := 0) (n := 6) ⟨dX12_sums_5, rfl⟩ rfl ?_
  refine y_getR (n := 9) ⟨dX12_sums_6, rfl⟩ kfX12_98 l_66 rfl r_66_46 ?_
  refine y_iload_n (i := 1) (n := 10) ⟨dX12_sums_9, rfl⟩ rfl ?_
  obtain ⟨hg1, hf⟩ := g_s hf
  refine y_iaload (n := 11) ⟨dX12_sums_10, rfl⟩ l_96 hg1 ?_
  refine y_bipush (n := 13) (v := 21) ⟨dX12_sums_11, rfl⟩ kb_21 ?_
  refine y_icmp_ne (t := 32) (n := 16) ⟨dX12_sums_13, rfl, rfl⟩ (fun (hc : ¬ ((gI M 96 a1.toNatClampNeg) = 21)) => ?_) (fun (hc : (gI M 96 a1.toNatClampNeg) = 21) => ?_)
  · replace hf := i_f hc hf
    refine y_aload_n (i := 0) (n := 33) ⟨dX12_sums_32, rfl⟩ rfl ?_
    refine y_getR (n := 36) ⟨dX12_sums_33, rfl⟩ kfX12_95 l_66 rfl r_66_45 ?_
    refine y_iload_n (i := 1) (n := 37) ⟨dX12_sums_36, rfl⟩ rfl ?_
    refine y_iaload (n := 38) ⟨dX12_sums_37, rfl⟩ l_95 hg1 ?_
    refine y_aload_n (i := 0) (n := 39) ⟨dX12_sums_38, rfl⟩ rfl ?_
    refine y_getR (n := 42) ⟨dX12_sums_39, rfl⟩ kfX12_101 l_66 rfl r_66_47 ?_
    refine y_iload_n (i := 1) (n := 43) ⟨dX12_sums_42, rfl⟩ rfl ?_
    refine y_iaload (n := 44) ⟨dX12_sums_43, rfl⟩ l_97 hg1 ?_
    refine y_iadd (n := 45) ⟨dX12_sums_44, rfl⟩ ?_
    exact y_wk (L2 := [some (.ref 66), some (.int a1)]) ⟨Or.inr rfl, Or.inr rfl, trivial⟩ (w_t_mo_sums_45 a1 a1 ((gI M 95 a1.toNatClampNeg) + (gI M 97 a1.toNatClampNeg)) M hf hk)
  · replace hf := i_t hc hf
    refine y_aload_n (i := 0) (n := 17) ⟨dX12_sums_16, rfl⟩ rfl ?_
    refine y_getR (n := 20) ⟨dX12_sums_17, rfl⟩ kfX12_95 l_66 rfl r_66_45 ?_
    refine y_iload_n (i := 1) (n := 21) ⟨dX12_sums_20, rfl⟩ rfl ?_
    refine y_iaload (n := 22) ⟨dX12_sums_21, rfl⟩ l_95 hg1 ?_
    refine y_aload_n (i := 0) (n := 23) ⟨dX12_sums_22, rfl⟩ rfl ?_
    refine y_getR (n := 26) ⟨dX12_sums_23, rfl⟩ kfX12_101 l_66 rfl r_66_47 ?_
    refine y_iload_n (i := 1) (n := 27) ⟨dX12_sums_26, rfl⟩ rfl ?_
    refine y_iaload (n := 28) ⟨dX12_sums_27, rfl⟩ l_97 hg1 ?_
    refine y_isub (n := 29) ⟨dX12_sums_28, rfl⟩ ?_
    refine y_goto (t := 45) ⟨dX12_sums_29, rfl, rfl⟩ ?_
    exact y_wk (L2 := [some (.ref 66), some (.int a1)]) ⟨Or.inr rfl, Or.inr rfl, trivial⟩ (w_t_mo_sums_45 a1 a1 ((gI M 95 a1.toNatClampNeg) - (gI M 97 a1.toNatClampNeg)) M hf hk)
theorem c_mo_sums (a1 : Int32) (M : dM) {o : dM} {y : mz_M} {d : Nat} {Q : mz_P} {pc n i : Nat} {L : List (Option Value)} {st : List Value} (h : mz_d y.2.1 pc n 3 (.invokevirtual i)) (hl : mz_ml y.1.cls i yX12_sums) (hf : f_mo_sums a1 M = some o) (hd : 1 + 1 ≤ d) (hsm : (st.map (fun v => v.category)).sum ≤ 8) (hLr : mz_rL 133 L = true) (hSr : mz_rS 133 st = true) (kk : mW y d Q n L st o) : mW y d Q pc L (.int a1 :: .ref 66 :: st) M :=
  y_callV kmX12_sums kvX12_sums l_66 (by decide +kernel) (by decide +kernel) h hl (ok_mo_sums a1 M hf) (vs := [.int a1]) rfl rfl hd hsm hLr hSr kk
noncomputable def t_mo_tests_136 (x1 : Int32) (x2 : Int32) (M : dM) : Option dM :=
  gd (vp_in x1 7) <|
  some (sI (sI (sI (sI M 91 x1.toNatClampNeg x2) 94 x1.toNatClampNeg 0) 95 x1.toNatClampNeg 0) 96 x1.toNatClampNeg 20)
noncomputable def t_mo_tests_135 (x1 : Int32) (y0 : Int32) (M : dM) : Option dM :=
  t_mo_tests_136 x1 y0 M
noncomputable def t_mo_tests_130 (x1 : Int32) (M : dM) : Option dM :=
  t_mo_tests_135 x1 1 M
noncomputable def t_mo_tests_106 (x1 : Int32) (x2 : Int32) (M : dM) : Option dM :=
  gd (vp_in x1 7) <|
  if (gI M 92 x1.toNatClampNeg) = 27 then
    if (gI M 91 x1.toNatClampNeg) = 0 then
      if x2 = 0 then
        t_mo_tests_135 x1 0 M
      else
        t_mo_tests_130 x1 M
    else
      t_mo_tests_130 x1 M
  else
    t_mo_tests_136 x1 x2 M
noncomputable def t_mo_tests_105 (x1 : Int32) (y0 : Int32) (M : dM) : Option dM :=
  t_mo_tests_106 x1 y0 M
noncomputable def t_mo_tests_104 (x1 : Int32) (M : dM) : Option dM :=
  t_mo_tests_105 x1 0 M
noncomputable def t_mo_tests_76 (x1 : Int32) (x2 : Int32) (M : dM) : Option dM :=
  gd (vp_in x1 7) <|
  if (gI M 92 x1.toNatClampNeg) = 26 then
    if (gI M 91 x1.toNatClampNeg) = 0 then
      t_mo_tests_104 x1 M
    else
      if x2 = 0 then
        t_mo_tests_104 x1 M
      else
        t_mo_tests_105 x1 1 M
  else
    t_mo_tests_106 x1 x2 M
noncomputable def t_mo_tests_75 (x1 : Int32) (y0 : Int32) (M : dM) : Option dM :=
  t_mo_tests_76 x1 y0 M
noncomputable def t_mo_tests_44 (x1 : Int32) (x2 : Int32) (M : dM) : Option dM :=
  gd (vp_in x1 7) <|
  if (gI M 94 x1.toNatClampNeg) = 25 then
    if (gI M 93 x1.toNatClampNeg) = (gI M 95 x1.toNatClampNeg) then
      t_mo_tests_75 x1 1 M
    else
      t_mo_tests_75 x1 0 M
  else
    t_mo_tests_76 x1 x2 M
noncomputable def t_mo_tests_43 (x1 : Int32) (y0 : Int32) (M : dM) : Option dM :=
  t_mo_tests_44 x1 y0 M
noncomputable def f_mo_tests (a1 : Int32) (M : dM) : Option dM :=
  (f_mo_sums a1 M).bind fun q1 =>
  gd (vp_in a1 7) <|
  if (gI q1 94 a1.toNatClampNeg) = 24 then
    if (gI q1 95 a1.toNatClampNeg) ≤ (gI q1 93 a1.toNatClampNeg) then
      t_mo_tests_43 a1 0 q1
    else
      t_mo_tests_43 a1 1 q1
  else
    t_mo_tests_44 a1 (gI q1 95 a1.toNatClampNeg) q1
theorem w_t_mo_tests_136 (x1 : Int32) (x2 : Int32) (M : dM) {Q : mz_P} {o : dM} (hf : t_mo_tests_136 x1 x2 M = some o) (hk : mR Q none o) : mW mX12_tests 2 Q 136 [some (.ref 66), some (.int x1), some (.int x2)] [] M := by
  unfold t_mo_tests_136 at hf
  refine y_aload_n (i := 0) (n := 137) ⟨dX12_tests_136, rfl⟩ rfl ?_
  refine y_getR (n := 140) ⟨dX12_tests_137, rfl⟩ kfX12_83 l_66 rfl r_66_41 ?_
  refine y_iload_n (i := 1) (n := 141) ⟨dX12_tests_140, rfl⟩ rfl ?_
  refine y_iload_n (i := 2) (n := 142) ⟨dX12_tests_141, rfl⟩ rfl ?_
  obtain ⟨hg7, hf⟩ := g_s hf
  refine y_iastore (n := 143) ⟨dX12_tests_142, rfl⟩ l_91 hg7 ?_
  refine y_aload_n (i := 0) (n := 144) ⟨dX12_tests_143, rfl⟩ rfl ?_
  refine y_getR (n := 147) ⟨dX12_tests_144, rfl⟩ kfX12_92 l_66 rfl r_66_44 ?_
  refine y_iload_n (i := 1) (n := 148) ⟨dX12_tests_147, rfl⟩ rfl ?_
  refine y_iconst (n := 149) (v := 0) ⟨dX12_tests_148, rfl⟩ ki_0 ?_
  refine y_iastore (n := 150) ⟨dX12_tests_149, rfl⟩ l_94 hg7 ?_
  refine y_aload_n (i := 0) (n := 151) ⟨dX12_tests_150, rfl⟩ rfl ?_
  refine y_getR (n := 154) ⟨dX12_tests_151, rfl⟩ kfX12_95 l_66 rfl r_66_45 ?_
  refine y_iload_n (i := 1) (n := 155) ⟨dX12_tests_154, rfl⟩ rfl ?_
  refine y_iconst (n := 156) (v := 0) ⟨dX12_tests_155, rfl⟩ ki_0 ?_
  refine y_iastore (n := 157) ⟨dX12_tests_156, rfl⟩ l_95 hg7 ?_
  refine y_aload_n (i := 0) (n := 158) ⟨dX12_tests_157, rfl⟩ rfl ?_
  refine y_getR (n := 161) ⟨dX12_tests_158, rfl⟩ kfX12_98 l_66 rfl r_66_46 ?_
  refine y_iload_n (i := 1) (n := 162) ⟨dX12_tests_161, rfl⟩ rfl ?_
  refine y_bipush (n := 164) (v := 20) ⟨dX12_tests_162, rfl⟩ kb_20 ?_
  refine y_iastore (n := 165) ⟨dX12_tests_164, rfl⟩ l_96 hg7 ?_
  cases hf
  exact y_return (n := 166) ⟨dX12_tests_165, rfl⟩ rfl hk
theorem w_t_mo_tests_135 (x1 : Int32) (y0 : Int32) (M : dM) {Q : mz_P} {o : dM} (hf : t_mo_tests_135 x1 y0 M = some o) (hk : mR Q none o) : mW mX12_tests 2 Q 135 [some (.ref 66), some (.int x1), none] [.int y0] M := by
  unfold t_mo_tests_135 at hf
  refine y_istore_n (i := 2) (n := 136) (L2 := [some (.ref 66), some (.int x1), some (.int y0)]) ⟨dX12_tests_135, rfl⟩ (by decide) rfl rfl ?_
  exact y_wk (L2 := [some (.ref 66), some (.int x1), some (.int y0)]) ⟨Or.inr rfl, Or.inr rfl, Or.inr rfl, trivial⟩ (w_t_mo_tests_136 x1 y0 M hf hk)
theorem w_t_mo_tests_130 (x1 : Int32) (M : dM) {Q : mz_P} {o : dM} (hf : t_mo_tests_130 x1 M = some o) (hk : mR Q none o) : mW mX12_tests 2 Q 130 [some (.ref 66), some (.int x1), none] [] M := by
  unfold t_mo_tests_130 at hf
  refine y_iconst (n := 131) (v := 1) ⟨dX12_tests_130, rfl⟩ ki_1 ?_
  refine y_goto (t := 135) ⟨dX12_tests_131, rfl, rfl⟩ ?_
  exact y_wk (L2 := [some (.ref 66), some (.int x1), none]) ⟨Or.inr rfl, Or.inr rfl, Or.inr rfl, trivial⟩ (w_t_mo_tests_135 x1 1 M hf hk)
theorem w_t_mo_tests_106 (x1 : Int32) (x2 : Int32) (M : dM) {Q : mz_P} {o : dM} (hf : t_mo_tests_106 x1 x2 M = some o) (hk : mR Q none o) : mW mX12_tests 2 Q 106 [some (.ref 66), some (.int x1), some (.int x2)] [] M := by
  unfold t_mo_tests_106 at hf
  refine y_aload_n (i := 0) (n := 107) ⟨dX12_tests_106, rfl⟩ rfl ?_
  refine y_getR (n := 110) ⟨dX12_tests_107, rfl⟩ kfX12_86 l_66 rfl r_66_42 ?_
  refine y_iload_n (i := 1) (n := 111) ⟨dX12_tests_110, rfl⟩ rfl ?_
  obtain ⟨hg6, hf⟩ := g_s hf
  refine y_iaload (n := 112) ⟨dX12_tests_111, rfl⟩ l_92 hg6 ?_
  refine y_bipush (n := 114) (v := 27) ⟨dX12_tests_112, rfl⟩ kb_27 ?_
  refine y_icmp_ne (t := 136) (n := 117) ⟨dX12_tests_114, rfl, rfl⟩ (fun (hc : ¬ ((gI M 92 x1.toNatClampNeg) = 27)) => ?_) (fun (hc : (gI M 92 x1.toNatClampNeg) = 27) => ?_)
  · replace hf := i_f hc hf
    exact y_wk (L2 := [some (.ref 66), some (.int x1), some (.int x2)]) ⟨Or.inr rfl, Or.inr rfl, Or.inr rfl, trivial⟩ (w_t_mo_tests_136 x1 x2 M hf hk)
  · replace hf := i_t hc hf
    refine y_aload_n (i := 0) (n := 118) ⟨dX12_tests_117, rfl⟩ rfl ?_
    refine y_getR (n := 121) ⟨dX12_tests_118, rfl⟩ kfX12_83 l_66 rfl r_66_41 ?_
    refine y_iload_n (i := 1) (n := 122) ⟨dX12_tests_121, rfl⟩ rfl ?_
    refine y_iaload (n := 123) ⟨dX12_tests_122, rfl⟩ l_91 hg6 ?_
    refine y_if_ne (t := 130) (n := 126) ⟨dX12_tests_123, rfl, rfl⟩ (fun (hc : ¬ ((gI M 91 x1.toNatClampNeg) = 0)) => ?_) (fun (hc : (gI M 91 x1.toNatClampNeg) = 0) => ?_)
    · replace hf := i_f hc hf
      exact y_wk (L2 := [some (.ref 66), some (.int x1), none]) ⟨Or.inr rfl, Or.inr rfl, Or.inl rfl, trivial⟩ (w_t_mo_tests_130 x1 M hf hk)
    · replace hf := i_t hc hf
      refine y_iload_n (i := 2) (n := 127) ⟨dX12_tests_126, rfl⟩ rfl ?_
      refine y_if_eq (t := 134) (n := 130) ⟨dX12_tests_127, rfl, rfl⟩ (fun (hc : x2 = 0) => ?_) (fun (hc : ¬ (x2 = 0)) => ?_)
      · replace hf := i_t hc hf
        refine y_iconst (n := 135) (v := 0) ⟨dX12_tests_134, rfl⟩ ki_0 ?_
        exact y_wk (L2 := [some (.ref 66), some (.int x1), none]) ⟨Or.inr rfl, Or.inr rfl, Or.inl rfl, trivial⟩ (w_t_mo_tests_135 x1 0 M hf hk)
      · replace hf := i_f hc hf
        exact y_wk (L2 := [some (.ref 66), some (.int x1), none]) ⟨Or.inr rfl, Or.inr rfl, Or.inl rfl, trivial⟩ (w_t_mo_tests_130 x1 M hf hk)
theorem w_t_mo_tests_105 (x1 : Int32) (y0 : Int32) (M : dM) {Q : mz_P} {o : dM} (hf : t_mo_tests_105 x1 y0 M = some o) (hk : mR Q none o) : mW mX12_tests 2 Q 105 [some (.ref 66), some (.int x1), none] [.int y0] M := by
  unfold t_mo_tests_105 at hf
  refine y_istore_n (i := 2) (n := 106) (L2 := [some (.ref 66), some (.int x1), some (.int y0)]) ⟨dX12_tests_105, rfl⟩ (by decide) rfl rfl ?_
  exact y_wk (L2 := [some (.ref 66), some (.int x1), some (.int y0)]) ⟨Or.inr rfl, Or.inr rfl, Or.inr rfl, trivial⟩ (w_t_mo_tests_106 x1 y0 M hf hk)
theorem w_t_mo_tests_104 (x1 : Int32) (M : dM) {Q : mz_P} {o : dM} (hf : t_mo_tests_104 x1 M = some o) (hk : mR Q none o) : mW mX12_tests 2 Q 104 [some (.ref 66), some (.int x1), none] [] M := by
  unfold t_mo_tests_104 at hf
  refine y_iconst (n := 105) (v := 0) ⟨dX12_tests_104, rfl⟩ ki_0 ?_
  exact y_wk (L2 := [some (.ref 66), some (.int x1), none]) ⟨Or.inr rfl, Or.inr rfl, Or.inr rfl, trivial⟩ (w_t_mo_tests_105 x1 0 M hf hk)
theorem w_t_mo_tests_76 (x1 : Int32) (x2 : Int32) (M : dM) {Q : mz_P} {o : dM} (hf : t_mo_tests_76 x1 x2 M = some o) (hk : mR Q none o) : mW mX12_tests 2 Q 76 [some (.ref 66), some (.int x1), some (.int x2)] [] M := by
  unfold t_mo_tests_76 at hf
  refine y_aload_n (i := 0) (n := 77) ⟨dX12_tests_76, rfl⟩ rfl ?_
  refine y_getR (n := 80) ⟨dX12_tests_77, rfl⟩ kfX12_86 l_66 rfl r_66_42 ?_
  refine y_iload_n (i := 1) (n := 81) ⟨dX12_tests_80, rfl⟩ rfl ?_
  obtain ⟨hg5, hf⟩ := g_s hf
  refine y_iaload (n := 82) ⟨dX12_tests_81, rfl⟩ l_92 hg5 ?_
  refine y_bipush (n := 84) (v := 26) ⟨dX12_tests_82, rfl⟩ kb_26 ?_
  refine y_icmp_ne (t := 106) (n := 87) ⟨dX12_tests_84, rfl, rfl⟩ (fun (hc : ¬ ((gI M 92 x1.toNatClampNeg) = 26)) => ?_) (fun (hc : (gI M 92 x1.toNatClampNeg) = 26) => ?_)
  · replace hf := i_f hc hf
    exact y_wk (L2 := [some (.ref 66), some (.int x1), some (.int x2)]) ⟨Or.inr rfl, Or.inr rfl, Or.inr rfl, trivial⟩ (w_t_mo_tests_106 x1 x2 M hf hk)
  · replace hf := i_t hc hf
    refine y_aload_n (i := 0) (n := 88) ⟨dX12_tests_87, rfl⟩ rfl ?_
    refine y_getR (n := 91) ⟨dX12_tests_88, rfl⟩ kfX12_83 l_66 rfl r_66_41 ?_
    refine y_iload_n (i := 1) (n := 92) ⟨dX12_tests_91, rfl⟩ rfl ?_
    refine y_iaload (n := 93) ⟨dX12_tests_92, rfl⟩ l_91 hg5 ?_
    refine y_if_eq (t := 104) (n := 96) ⟨dX12_tests_93, rfl, rfl⟩ (fun (hc : (gI M 91 x1.toNatClampNeg) = 0) => ?_) (fun (hc : ¬ ((gI M 91 x1.toNatClampNeg) = 0)) => ?_)
    · replace hf := i_t hc hf
      exact y_wk (L2 := [some (.ref 66), some (.int x1), none]) ⟨Or.inr rfl, Or.inr rfl, Or.inl rfl, trivial⟩ (w_t_mo_tests_104 x1 M hf hk)
    · replace hf := i_f hc hf
      refine y_iload_n (i := 2) (n := 97) ⟨dX12_tests_96, rfl⟩ rfl ?_
      refine y_if_eq (t := 104) (n := 100) ⟨dX12_tests_97, rfl, rfl⟩ (fun (hc : x2 = 0) => ?_) (fun (hc : ¬ (x2 = 0)) => ?_)
      · replace hf := i_t hc hf
        exact y_wk (L2 := [some (.ref 66), some (.int x1), none]) ⟨Or.inr rfl, Or.inr rfl, Or.inl rfl, trivial⟩ (w_t_mo_tests_104 x1 M hf hk)
      · replace hf := i_f hc hf
        refine y_iconst (n := 101) (v := 1) ⟨dX12_tests_100, rfl⟩ ki_1 ?_
        refine y_goto (t := 105) ⟨dX12_tests_101, rfl, rfl⟩ ?_
        exact y_wk (L2 := [some (.ref 66), some (.int x1), none]) ⟨Or.inr rfl, Or.inr rfl, Or.inl rfl, trivial⟩ (w_t_mo_tests_105 x1 1 M hf hk)
theorem w_t_mo_tests_75 (x1 : Int32) (y0 : Int32) (M : dM) {Q : mz_P} {o : dM} (hf : t_mo_tests_75 x1 y0 M = some o) (hk : mR Q none o) : mW mX12_tests 2 Q 75 [some (.ref 66), some (.int x1), none] [.int y0] M := by
  unfold t_mo_tests_75 at hf
  refine y_istore_n (i := 2) (n := 76) (L2 := [some (.ref 66), some (.int x1), some (.int y0)]) ⟨dX12_tests_75, rfl⟩ (by decide) rfl rfl ?_
  exact y_wk (L2 := [some (.ref 66), some (.int x1), some (.int y0)]) ⟨Or.inr rfl, Or.inr rfl, Or.inr rfl, trivial⟩ (w_t_mo_tests_76 x1 y0 M hf hk)
theorem w_t_mo_tests_44 (x1 : Int32) (x2 : Int32) (M : dM) {Q : mz_P} {o : dM} (hf : t_mo_tests_44 x1 x2 M = some o) (hk : mR Q none o) : mW mX12_tests 2 Q 44 [some (.ref 66), some (.int x1), some (.int x2)] [] M := by
  unfold t_mo_tests_44 at hf
  refine y_aload_n (i := 0) (n := 45) ⟨dX12_tests_44, rfl⟩ rfl ?_
  refine y_getR (n := 48) ⟨dX12_tests_45, rfl⟩ kfX12_92 l_66 rfl r_66_44 ?_
  refine y_iload_n (i := 1) (n := 49) ⟨dX12_tests_48, rfl⟩ rfl ?_
  obtain ⟨hg4, hf⟩ := g_s hf
  refine y_iaload (n := 50) ⟨dX12_tests_49, rfl⟩ l_94 hg4 ?_
  refine y_bipush (n := 52) (v := 25) ⟨dX12_tests_50, rfl⟩ kb_25 ?_
  refine y_icmp_ne (t := 76) (n := 55) ⟨dX12_tests_52, rfl, rfl⟩ (fun (hc : ¬ ((gI M 94 x1.toNatClampNeg) = 25)) => ?_) (fun (hc : (gI M 94 x1.toNatClampNeg) = 25) => ?_)
  · replace hf := i_f hc hf
    exact y_wk (L2 := [some (.ref 66), some (.int x1), some (.int x2)]) ⟨Or.inr rfl, Or.inr rfl, Or.inr rfl, trivial⟩ (w_t_mo_tests_76 x1 x2 M hf hk)
  · replace hf := i_t hc hf
    refine y_aload_n (i := 0) (n := 56) ⟨dX12_tests_55, rfl⟩ rfl ?_
    refine y_getR (n := 59) ⟨dX12_tests_56, rfl⟩ kfX12_89 l_66 rfl r_66_43 ?_
    refine y_iload_n (i := 1) (n := 60) ⟨dX12_tests_59, rfl⟩ rfl ?_
    refine y_iaload (n := 61) ⟨dX12_tests_60, rfl⟩ l_93 hg4 ?_
    refine y_aload_n (i := 0) (n := 62) ⟨dX12_tests_61, rfl⟩ rfl ?_
    refine y_getR (n := 65) ⟨dX12_tests_62, rfl⟩ kfX12_95 l_66 rfl r_66_45 ?_
    refine y_iload_n (i := 1) (n := 66) ⟨dX12_tests_65, rfl⟩ rfl ?_
    refine y_iaload (n := 67) ⟨dX12_tests_66, rfl⟩ l_95 hg4 ?_
    refine y_icmp_ne (t := 74) (n := 70) ⟨dX12_tests_67, rfl, rfl⟩ (fun (hc : ¬ ((gI M 93 x1.toNatClampNeg) = (gI M 95 x1.toNatClampNeg))) => ?_) (fun (hc : (gI M 93 x1.toNatClampNeg) = (gI M 95 x1.toNatClampNeg)) => ?_)
    · replace hf := i_f hc hf
      refine y_iconst (n := 75) (v := 0) ⟨dX12_tests_74, rfl⟩ ki_0 ?_
      exact y_wk (L2 := [some (.ref 66), some (.int x1), none]) ⟨Or.inr rfl, Or.inr rfl, Or.inl rfl, trivial⟩ (w_t_mo_tests_75 x1 0 M hf hk)
    · replace hf := i_t hc hf
      refine y_iconst (n := 71) (v := 1) ⟨dX12_tests_70, rfl⟩ ki_1 ?_
      refine y_goto (t := 75) ⟨dX12_tests_71, rfl, rfl⟩ ?_
      exact y_wk (L2 := [some (.ref 66), some (.int x1), none]) ⟨Or.inr rfl, Or.inr rfl, Or.inl rfl, trivial⟩ (w_t_mo_tests_75 x1 1 M hf hk)
theorem w_t_mo_tests_43 (x1 : Int32) (y0 : Int32) (M : dM) {Q : mz_P} {o : dM} (hf : t_mo_tests_43 x1 y0 M = some o) (hk : mR Q none o) : mW mX12_tests 2 Q 43 [some (.ref 66), some (.int x1), none] [.int y0] M := by
  unfold t_mo_tests_43 at hf
  refine y_istore_n (i := 2) (n := 44) (L2 := [some (.ref 66), some (.int x1), some (.int y0)]) ⟨dX12_tests_43, rfl⟩ (by decide) rfl rfl ?_
  exact y_wk (L2 := [some (.ref 66), some (.int x1), some (.int y0)]) ⟨Or.inr rfl, Or.inr rfl, Or.inr rfl, trivial⟩ (w_t_mo_tests_44 x1 y0 M hf hk)
theorem ok_mo_tests (a1 : Int32) (M : dM) {o : dM} (hf : f_mo_tests a1 M = some o) : mO mX12_tests 2 [.ref 66, .int a1] M none o := by
  refine y_ok (by decide +kernel) (Nat.le_of_ble_eq_true rfl) (L0 := [some (.ref 66), some (.int a1), none]) rfl ?_
  have hk := mR_mQ none o
  generalize mQ _ _ = Q at hk ⊢
  unfold f_mo_tests at hf
  refine y_aload_n (i := 0) (n := 1) ⟨dX12_tests_0, rfl⟩ rfl ?_
  refine y_iload_n (i := 1) (n := 2) ⟨dX12_tests_1, rfl⟩ rfl ?_
  obtain ⟨q1, hv2, hf⟩ := b_s hf
  refine c_mo_sums a1 M (n := 5) ⟨dX12_tests_2, rfl⟩ klX12_420 hv2 (by decide) (Nat.le_of_ble_eq_true rfl) rfl rfl ?_
  refine y_aload_n (i := 0) (n := 6) ⟨dX12_tests_5, rfl⟩ rfl ?_
  refine y_getR (n := 9) ⟨dX12_tests_6, rfl⟩ kfX12_95 l_66 rfl r_66_45 ?_
  refine y_iload_n (i := 1) (n := 10) ⟨dX12_tests_9, rfl⟩ rfl ?_
  obtain ⟨hg3, hf⟩ := g_s hf
  refine y_iaload (n := 11) ⟨dX12_tests_10, rfl⟩ l_95 hg3 ?_
  refine y_istore_n (i := 2) (n := 12) (L2 := [some (.ref 66), some (.int a1), some (.int (gI q1 95 a1.toNatClampNeg))]) ⟨dX12_tests_11, rfl⟩ (by decide) rfl rfl ?_
  refine y_aload_n (i := 0) (n := 13) ⟨dX12_tests_12, rfl⟩ rfl ?_
  refine y_getR (n := 16) ⟨dX12_tests_13, rfl⟩ kfX12_92 l_66 rfl r_66_44 ?_
  refine y_iload_n (i := 1) (n := 17) ⟨dX12_tests_16, rfl⟩ rfl ?_
  refine y_iaload (n := 18) ⟨dX12_tests_17, rfl⟩ l_94 hg3 ?_
  refine y_bipush (n := 20) (v := 24) ⟨dX12_tests_18, rfl⟩ kb_24 ?_
  refine y_icmp_ne (t := 44) (n := 23) ⟨dX12_tests_20, rfl, rfl⟩ (fun (hc : ¬ ((gI q1 94 a1.toNatClampNeg) = 24)) => ?_) (fun (hc : (gI q1 94 a1.toNatClampNeg) = 24) => ?_)
  · replace hf := i_f hc hf
    exact y_wk (L2 := [some (.ref 66), some (.int a1), some (.int (gI q1 95 a1.toNatClampNeg))]) ⟨Or.inr rfl, Or.inr rfl, Or.inr rfl, trivial⟩ (w_t_mo_tests_44 a1 (gI q1 95 a1.toNatClampNeg) q1 hf hk)
  · replace hf := i_t hc hf
    refine y_aload_n (i := 0) (n := 24) ⟨dX12_tests_23, rfl⟩ rfl ?_
    refine y_getR (n := 27) ⟨dX12_tests_24, rfl⟩ kfX12_89 l_66 rfl r_66_43 ?_
    refine y_iload_n (i := 1) (n := 28) ⟨dX12_tests_27, rfl⟩ rfl ?_
    refine y_iaload (n := 29) ⟨dX12_tests_28, rfl⟩ l_93 hg3 ?_
    refine y_aload_n (i := 0) (n := 30) ⟨dX12_tests_29, rfl⟩ rfl ?_
    refine y_getR (n := 33) ⟨dX12_tests_30, rfl⟩ kfX12_95 l_66 rfl r_66_45 ?_
    refine y_iload_n (i := 1) (n := 34) ⟨dX12_tests_33, rfl⟩ rfl ?_
    refine y_iaload (n := 35) ⟨dX12_tests_34, rfl⟩ l_95 hg3 ?_
    refine y_icmp_ge (t := 42) (n := 38) ⟨dX12_tests_35, rfl, rfl⟩ (fun (hc : (gI q1 95 a1.toNatClampNeg) ≤ (gI q1 93 a1.toNatClampNeg)) => ?_) (fun (hc : ¬ ((gI q1 95 a1.toNatClampNeg) ≤ (gI q1 93 a1.toNatClampNeg))) => ?_)
    · replace hf := i_t hc hf
      refine y_iconst (n := 43) (v := 0) ⟨dX12_tests_42, rfl⟩ ki_0 ?_
      exact y_wk (L2 := [some (.ref 66), some (.int a1), none]) ⟨Or.inr rfl, Or.inr rfl, Or.inl rfl, trivial⟩ (w_t_mo_tests_43 a1 0 q1 hf hk)
    · replace hf := i_f hc hf
      refine y_iconst (n := 39) (v := 1) ⟨dX12_tests_38, rfl⟩ ki_1 ?_
      refine y_goto (t := 43) ⟨dX12_tests_39, rfl, rfl⟩ ?_
      exact y_wk (L2 := [some (.ref 66), some (.int a1), none]) ⟨Or.inr rfl, Or.inr rfl, Or.inl rfl, trivial⟩ (w_t_mo_tests_43 a1 1 q1 hf hk)
theorem c_mo_tests (a1 : Int32) (M : dM) {o : dM} {y : mz_M} {d : Nat} {Q : mz_P} {pc n i : Nat} {L : List (Option Value)} {st : List Value} (h : mz_d y.2.1 pc n 3 (.invokevirtual i)) (hl : mz_ml y.1.cls i yX12_tests) (hf : f_mo_tests a1 M = some o) (hd : 2 + 1 ≤ d) (hsm : (st.map (fun v => v.category)).sum ≤ 8) (hLr : mz_rL 133 L = true) (hSr : mz_rS 133 st = true) (kk : mW y d Q n L st o) : mW y d Q pc L (.int a1 :: .ref 66 :: st) M :=
  y_callV kmX12_tests kvX12_tests l_66 (by decide +kernel) (by decide +kernel) h hl (ok_mo_tests a1 M hf) (vs := [.int a1]) rfl rfl hd hsm hLr hSr kk
def K_mo_worth_14 (Q : mz_P) (x1 : Int32) : ((Int32 × Int32 × dM) ⊕ (Int32 × dM)) → Prop
  | .inl s => mW mX12_worth 3 Q 14 [some (.ref 66), some (.int x1), some (.int s.1), some (.int s.2.1), none, none] [] s.2.2
  | .inr r => mR Q (some (.int r.1)) r.2
noncomputable def b_mo_worth_14_66 (x1 : Int32) (x2 : Int32) (x3 : Int32) (y1 : Int32) (y2 : Int32) (M : dM) : Option ((Int32 × Int32 × dM) ⊕ (Int32 × dM)) :=
  gd (vp_in y1 7) <|
  (f_mo_opens x2 (sI M 99 y1.toNatClampNeg y2)).bind fun q9 =>
  some (.inl (x2, (x3 + 1), q9))
noncomputable def b_mo_worth_14_46 (x1 : Int32) (x2 : Int32) (x3 : Int32) (x4 : Int32) (M : dM) : Option ((Int32 × Int32 × dM) ⊕ (Int32 × dM)) :=
  if x4 = 30 then
    b_mo_worth_14_66 x1 (x2 + 1) x3 (x2 + 1) 1 M
  else
    b_mo_worth_14_66 x1 (x2 + 1) x3 (x2 + 1) 0 M
noncomputable def b_mo_worth_14_89 (x1 : Int32) (x2 : Int32) (x3 : Int32) (x4 : Int32) (M : dM) : Option ((Int32 × Int32 × dM) ⊕ (Int32 × dM)) :=
  (f_mo_sums x2 M).bind fun q11 =>
  gd (vp_in x2 7) <|
  some (.inl (x2, (x3 + 1), (sI q11 96 x2.toNatClampNeg x4)))
noncomputable def b_mo_worth_14_137 (x1 : Int32) (x2 : Int32) (x3 : Int32) (x4 : Int32) (M : dM) : Option ((Int32 × Int32 × dM) ⊕ (Int32 × dM)) :=
  (f_mo_sums x2 M).bind fun q14 =>
  gd (vp_in x2 7) <|
  some (.inl (x2, (x3 + 1), (sI (sI (sI (sI q14 93 x2.toNatClampNeg (gI q14 95 x2.toNatClampNeg)) 94 x2.toNatClampNeg x4) 95 x2.toNatClampNeg 0) 96 x2.toNatClampNeg 20)))
noncomputable def b_mo_worth_14_194 (x1 : Int32) (x2 : Int32) (x3 : Int32) (x4 : Int32) (M : dM) : Option ((Int32 × Int32 × dM) ⊕ (Int32 × dM)) :=
  (f_mo_tests x2 M).bind fun q17 =>
  gd (vp_in x2 7) <|
  some (.inl (x2, (x3 + 1), (sI q17 92 x2.toNatClampNeg x4)))
def K_mo_worth_268 (Q : mz_P) (x1 : Int32) (x3 : Int32) (M : dM) : ((Int32 × Int32) ⊕ (Int32 × Int32)) → Prop
  | .inl s => mW mX12_worth 3 Q 268 [some (.ref 66), some (.int x1), some (.int s.1), some (.int x3), none, some (.int s.2)] [] M
  | .inr t => mW mX12_worth 3 Q 300 [some (.ref 66), some (.int x1), some (.int t.1), some (.int x3), none, some (.int t.2)] [] M
noncomputable def b_mo_worth_268_268 (x1 : Int32) (x2 : Int32) (x3 : Int32) (x5 : Int32) (M : dM) : Option ((Int32 × Int32) ⊕ (Int32 × Int32)) :=
  if x2 ≤ 0 then
    some (.inr (x2, x5))
  else
    gd (vp_in x2 7) <|
    if (gI M 99 x2.toNatClampNeg) = 1 then
      if x5 = 0 then
        some (.inl ((x2 + (-1)), 1))
      else
        some (.inl ((x2 + (-1)), 0))
    else
      some (.inr (x2, x5))
noncomputable def l_mo_worth_268 (x1 : Int32) (x2 : Int32) (x3 : Int32) (x5 : Int32) (M : dM) : Option (Int32 × Int32) := lpc (fun s => b_mo_worth_268_268 x1 s.1 x3 s.2 M) (x2, x5)
noncomputable def b_mo_worth_14_328 (x1 : Int32) (x2 : Int32) (x3 : Int32) (y1 : Int32) (y2 : Int32) (M : dM) : Option ((Int32 × Int32 × dM) ⊕ (Int32 × dM)) :=
  gd (vp_in y1 7) <|
  some (.inl (x2, (x3 + 1), (sI M 97 y1.toNatClampNeg y2)))
noncomputable def b_mo_worth_14_300 (x1 : Int32) (x2 : Int32) (x3 : Int32) (x5 : Int32) (M : dM) : Option ((Int32 × Int32 × dM) ⊕ (Int32 × dM)) :=
  gd (vp_in x2 7) <|
  if (gI M 98 x2.toNatClampNeg) = 0 then
    b_mo_worth_14_328 x1 x2 x3 x2 x5 M
  else
    b_mo_worth_14_328 x1 x2 x3 x2 ((gI M 97 x2.toNatClampNeg) * x5) M
noncomputable def b_mo_worth_14_243 (x1 : Int32) (x2 : Int32) (x3 : Int32) (x4 : Int32) (y0 : Int32) (M : dM) : Option ((Int32 × Int32 × dM) ⊕ (Int32 × dM)) :=
  if x4 = 29 then
    (f_mo_tests x2 M).bind fun q26 =>
    gd (vp_in x2 7) <|
    (l_mo_worth_268 x1 (x2 + (-1)) x3 (gI q26 91 x2.toNatClampNeg) q26).bind fun t29 =>
      b_mo_worth_14_300 x1 t29.1 x3 t29.2 q26
  else
    (l_mo_worth_268 x1 x2 x3 y0 M).bind fun t21 =>
      b_mo_worth_14_300 x1 t21.1 x3 t21.2 M
noncomputable def b_mo_worth_14_14 (x1 : Int32) (x2 : Int32) (x3 : Int32) (M : dM) : Option ((Int32 × Int32 × dM) ⊕ (Int32 × dM)) :=
  gd (vp_in x1 21) <|
  if (gI M 84 x1.toNatClampNeg) ≤ x3 then
    (f_mo_tests 0 M).bind fun q5 =>
    some (.inr ((gI q5 91 0), q5))
  else
    gd (vp_in x3 2000) <|
    if (gI M 88 x3.toNatClampNeg) = 28 then
      b_mo_worth_14_46 x1 x2 x3 (gI M 88 x3.toNatClampNeg) M
    else
      if (gI M 88 x3.toNatClampNeg) = 30 then
        b_mo_worth_14_46 x1 x2 x3 (gI M 88 x3.toNatClampNeg) M
      else
        if (gI M 88 x3.toNatClampNeg) = 20 then
          b_mo_worth_14_89 x1 x2 x3 (gI M 88 x3.toNatClampNeg) M
        else
          if (gI M 88 x3.toNatClampNeg) = 21 then
            b_mo_worth_14_89 x1 x2 x3 (gI M 88 x3.toNatClampNeg) M
          else
            if (gI M 88 x3.toNatClampNeg) = 22 then
              gd (vp_in x2 7) <|
              some (.inl (x2, (x3 + 1), (sI M 98 x2.toNatClampNeg (gI M 88 x3.toNatClampNeg))))
            else
              if (gI M 88 x3.toNatClampNeg) = 24 then
                b_mo_worth_14_137 x1 x2 x3 (gI M 88 x3.toNatClampNeg) M
              else
                if (gI M 88 x3.toNatClampNeg) = 25 then
                  b_mo_worth_14_137 x1 x2 x3 (gI M 88 x3.toNatClampNeg) M
                else
                  if (gI M 88 x3.toNatClampNeg) = 26 then
                    b_mo_worth_14_194 x1 x2 x3 (gI M 88 x3.toNatClampNeg) M
                  else
                    if (gI M 88 x3.toNatClampNeg) = 27 then
                      b_mo_worth_14_194 x1 x2 x3 (gI M 88 x3.toNatClampNeg) M
                    else
                      if (gI M 88 x3.toNatClampNeg) < 100 then
                        if 20 ≤ (gI M 88 x3.toNatClampNeg) then
                          b_mo_worth_14_243 x1 x2 x3 (gI M 88 x3.toNatClampNeg) 0 M
                        else
                          gd (vp_in (gI M 88 x3.toNatClampNeg) 20) <|
                          b_mo_worth_14_243 x1 x2 x3 (gI M 88 x3.toNatClampNeg) (gI M 100 (gI M 88 x3.toNatClampNeg).toNatClampNeg) M
                      else
                        b_mo_worth_14_243 x1 x2 x3 (gI M 88 x3.toNatClampNeg) ((gI M 88 x3.toNatClampNeg) - 100) M
noncomputable def l_mo_worth_14 (x1 : Int32) (x2 : Int32) (x3 : Int32) (M : dM) : Option (Int32 × dM) := lpc (fun s => b_mo_worth_14_14 x1 s.1 s.2.1 s.2.2) (x2, x3, M)
noncomputable def f_mo_worth (a1 : Int32) (M : dM) : Option (Int32 × dM) :=
  (f_mo_opens 0 M).bind fun q1 =>
  gd (vp_in a1 21) <|
  (l_mo_worth_14 a1 0 (gI q1 83 a1.toNatClampNeg) q1).bind fun r36 => some r36
theorem w_b_mo_worth_14_66 (x1 : Int32) (x2 : Int32) (x3 : Int32) (y1 : Int32) (y2 : Int32)  (M : dM) {Q : mz_P} {o : ((Int32 × Int32 × dM) ⊕ (Int32 × dM))} (hf : b_mo_worth_14_66 x1 x2 x3 y1 y2 M = some o) (hk : K_mo_worth_14 Q x1 o) : mW mX12_worth 3 Q 66 [some (.ref 66), some (.int x1), some (.int x2), some (.int x3), none, none] [.int y2, .int y1, .ref 99] M := by
  unfold b_mo_worth_14_66 at hf
  obtain ⟨hg8, hf⟩ := g_s hf
  refine y_iastore (n := 67) ⟨dX12_worth_66, rfl⟩ l_99 hg8 ?_
  refine y_aload_n (i := 0) (n := 68) ⟨dX12_worth_67, rfl⟩ rfl ?_
  refine y_iload_n (i := 2) (n := 69) ⟨dX12_worth_68, rfl⟩ rfl ?_
  obtain ⟨q9, hv10, hf⟩ := b_s hf
  refine c_mo_opens x2 (sI M 99 y1.toNatClampNeg y2) (n := 72) ⟨dX12_worth_69, rfl⟩ klX12_423 hv10 (by decide) (Nat.le_of_ble_eq_true rfl) rfl rfl ?_
  refine y_goto (t := 329) ⟨dX12_worth_72, rfl, rfl⟩ ?_
  refine y_iinc (i := 3) (n := 332) (b := (x3 + 1)) (L2 := [some (.ref 66), some (.int x1), some (.int x2), some (.int (x3 + 1)), none, none]) ⟨dX12_worth_329, rfl⟩ rfl (by rw [ki_1]) (by decide) rfl rfl ?_
  refine y_goto (t := 14) ⟨dX12_worth_332, rfl, rfl⟩ ?_
  cases hf
  exact y_wk (L2 := [some (.ref 66), some (.int x1), some (.int x2), some (.int (x3 + 1)), none, none]) ⟨Or.inr rfl, Or.inr rfl, Or.inr rfl, Or.inr rfl, Or.inr rfl, Or.inr rfl, trivial⟩ hk
theorem w_b_mo_worth_14_46 (x1 : Int32) (x2 : Int32) (x3 : Int32) (x4 : Int32)  (M : dM) {Q : mz_P} {o : ((Int32 × Int32 × dM) ⊕ (Int32 × dM))} (hf : b_mo_worth_14_46 x1 x2 x3 x4 M = some o) (hk : K_mo_worth_14 Q x1 o) : mW mX12_worth 3 Q 46 [some (.ref 66), some (.int x1), some (.int x2), some (.int x3), some (.int x4), none] [] M := by
  unfold b_mo_worth_14_46 at hf
  refine y_iinc (i := 2) (n := 49) (b := (x2 + 1)) (L2 := [some (.ref 66), some (.int x1), some (.int (x2 + 1)), some (.int x3), some (.int x4), none]) ⟨dX12_worth_46, rfl⟩ rfl (by rw [ki_1]) (by decide) rfl rfl ?_
  refine y_aload_n (i := 0) (n := 50) ⟨dX12_worth_49, rfl⟩ rfl ?_
  refine y_getR (n := 53) ⟨dX12_worth_50, rfl⟩ kfX12_107 l_66 rfl r_66_49 ?_
  refine y_iload_n (i := 2) (n := 54) ⟨dX12_worth_53, rfl⟩ rfl ?_
  refine y_iload (i := 4) (n := 56) ⟨dX12_worth_54, rfl⟩ rfl ?_
  refine y_bipush (n := 58) (v := 30) ⟨dX12_worth_56, rfl⟩ kb_30 ?_
  refine y_icmp_ne (t := 65) (n := 61) ⟨dX12_worth_58, rfl, rfl⟩ (fun (hc : ¬ (x4 = 30)) => ?_) (fun (hc : x4 = 30) => ?_)
  · replace hf := i_f hc hf
    refine y_iconst (n := 66) (v := 0) ⟨dX12_worth_65, rfl⟩ ki_0 ?_
    exact y_wk (L2 := [some (.ref 66), some (.int x1), some (.int (x2 + 1)), some (.int x3), none, none]) ⟨Or.inr rfl, Or.inr rfl, Or.inr rfl, Or.inr rfl, Or.inl rfl, Or.inr rfl, trivial⟩ (w_b_mo_worth_14_66 x1 (x2 + 1) x3 (x2 + 1) 0 M hf hk)
  · replace hf := i_t hc hf
    refine y_iconst (n := 62) (v := 1) ⟨dX12_worth_61, rfl⟩ ki_1 ?_
    refine y_goto (t := 66) ⟨dX12_worth_62, rfl, rfl⟩ ?_
    exact y_wk (L2 := [some (.ref 66), some (.int x1), some (.int (x2 + 1)), some (.int x3), none, none]) ⟨Or.inr rfl, Or.inr rfl, Or.inr rfl, Or.inr rfl, Or.inl rfl, Or.inr rfl, trivial⟩ (w_b_mo_worth_14_66 x1 (x2 + 1) x3 (x2 + 1) 1 M hf hk)
theorem w_b_mo_worth_14_89 (x1 : Int32) (x2 : Int32) (x3 : Int32) (x4 : Int32)  (M : dM) {Q : mz_P} {o : ((Int32 × Int32 × dM) ⊕ (Int32 × dM))} (hf : b_mo_worth_14_89 x1 x2 x3 x4 M = some o) (hk : K_mo_worth_14 Q x1 o) : mW mX12_worth 3 Q 89 [some (.ref 66), some (.int x1), some (.int x2), some (.int x3), some (.int x4), none] [] M := by
  unfold b_mo_worth_14_89 at hf
  refine y_aload_n (i := 0) (n := 90) ⟨dX12_worth_89, rfl⟩ rfl ?_
  refine y_iload_n (i := 2) (n := 91) ⟨dX12_worth_90, rfl⟩ rfl ?_
  obtain ⟨q11, hv12, hf⟩ := b_s hf
  refine c_mo_sums x2 M (n := 94) ⟨dX12_worth_91, rfl⟩ klX12_420 hv12 (by decide) (Nat.le_of_ble_eq_true rfl) rfl rfl ?_
  refine y_aload_n (i := 0) (n := 95) ⟨dX12_worth_94, rfl⟩ rfl ?_
  refine y_getR (n := 98) ⟨dX12_worth_95, rfl⟩ kfX12_98 l_66 rfl r_66_46 ?_
  refine y_iload_n (i := 2) (n := 99) ⟨dX12_worth_98, rfl⟩ rfl ?_
  refine y_iload (i := 4) (n := 101) ⟨dX12_worth_99, rfl⟩ rfl ?_
  obtain ⟨hg13, hf⟩ := g_s hf
  refine y_iastore (n := 102) ⟨dX12_worth_101, rfl⟩ l_96 hg13 ?_
  refine y_goto (t := 329) ⟨dX12_worth_102, rfl, rfl⟩ ?_
  refine y_iinc (i := 3) (n := 332) (b := (x3 + 1)) (L2 := [some (.ref 66), some (.int x1), some (.int x2), some (.int (x3 + 1)), some (.int x4), none]) ⟨dX12_worth_329, rfl⟩ rfl (by rw [ki_1]) (by decide) rfl rfl ?_
  refine y_goto (t := 14) ⟨dX12_worth_332, rfl, rfl⟩ ?_
  cases hf
  exact y_wk (L2 := [some (.ref 66), some (.int x1), some (.int x2), some (.int (x3 + 1)), none, none]) ⟨Or.inr rfl, Or.inr rfl, Or.inr rfl, Or.inr rfl, Or.inl rfl, Or.inr rfl, trivial⟩ hk
theorem w_b_mo_worth_14_137 (x1 : Int32) (x2 : Int32) (x3 : Int32) (x4 : Int32)  (M : dM) {Q : mz_P} {o : ((Int32 × Int32 × dM) ⊕ (Int32 × dM))} (hf : b_mo_worth_14_137 x1 x2 x3 x4 M = some o) (hk : K_mo_worth_14 Q x1 o) : mW mX12_worth 3 Q 137 [some (.ref 66), some (.int x1), some (.int x2), some (.int x3), some (.int x4), none] [] M := by
  unfold b_mo_worth_14_137 at hf
  refine y_aload_n (i := 0) (n := 138) ⟨dX12_worth_137, rfl⟩ rfl ?_
  refine y_iload_n (i := 2) (n := 139) ⟨dX12_worth_138, rfl⟩ rfl ?_
  obtain ⟨q14, hv15, hf⟩ := b_s hf
  refine c_mo_sums x2 M (n := 142) ⟨dX12_worth_139, rfl⟩ klX12_420 hv15 (by decide) (Nat.le_of_ble_eq_true rfl) rfl rfl ?_
  refine y_aload_n (i := 0) (n := 143) ⟨dX12_worth_142, rfl⟩ rfl ?_
  refine y_getR (n := 146) ⟨dX12_worth_143, rfl⟩ kfX12_89 l_66 rfl r_66_43 ?_
  refine y_iload_n (i := 2) (n := 147) ⟨dX12_worth_146, rfl⟩ rfl ?_
  refine y_aload_n (i := 0) (n := 148) ⟨dX12_worth_147, rfl⟩ rfl ?_
  refine y_getR (n := 151) ⟨dX12_worth_148, rfl⟩ kfX12_95 l_66 rfl r_66_45 ?_
  refine y_iload_n (i := 2) (n := 152) ⟨dX12_worth_151, rfl⟩ rfl ?_
  obtain ⟨hg16, hf⟩ := g_s hf
  refine y_iaload (n := 153) ⟨dX12_worth_152, rfl⟩ l_95 hg16 ?_
  refine y_iastore (n := 154) ⟨dX12_worth_153, rfl⟩ l_93 hg16 ?_
  refine y_aload_n (i := 0) (n := 155) ⟨dX12_worth_154, rfl⟩ rfl ?_
  refine y_getR (n := 158) ⟨dX12_worth_155, rfl⟩ kfX12_92 l_66 rfl r_66_44 ?_
  refine y_iload_n (i := 2) (n := 159) ⟨dX12_worth_158, rfl⟩ rfl ?_
  refine y_iload (i := 4) (n := 161) ⟨dX12_worth_159, rfl⟩ rfl ?_
  refine y_iastore (n := 162) ⟨dX12_worth_161, rfl⟩ l_94 hg16 ?_
  refine y_aload_n (i := 0) (n := 163) ⟨dX12_worth_162, rfl⟩ rfl ?_
  refine y_getR (n := 166) ⟨dX12_worth_163, rfl⟩ kfX12_95 l_66 rfl r_66_45 ?_
  refine y_iload_n (i := 2) (n := 167) ⟨dX12_worth_166, rfl⟩ rfl ?_
  refine y_iconst (n := 168) (v := 0) ⟨dX12_worth_167, rfl⟩ ki_0 ?_
  refine y_iastore (n := 169) ⟨dX12_worth_168, rfl⟩ l_95 hg16 ?_
  refine y_aload_n (i := 0) (n := 170) ⟨dX12_worth_169, rfl⟩ rfl ?_
  refine y_getR (n := 173) ⟨dX12_worth_170, rfl⟩ kfX12_98 l_66 rfl r_66_46 ?_
  refine y_iload_n (i := 2) (n := 174) ⟨dX12_worth_173, rfl⟩ rfl ?_
  refine y_bipush (n := 176) (v := 20) ⟨dX12_worth_174, rfl⟩ kb_20 ?_
  refine y_iastore (n := 177) ⟨dX12_worth_176, rfl⟩ l_96 hg16 ?_
  refine y_goto (t := 329) ⟨dX12_worth_177, rfl, rfl⟩ ?_
  refine y_iinc (i := 3) (n := 332) (b := (x3 + 1)) (L2 := [some (.ref 66), some (.int x1), some (.int x2), some (.int (x3 + 1)), some (.int x4), none]) ⟨dX12_worth_329, rfl⟩ rfl (by rw [ki_1]) (by decide) rfl rfl ?_
  refine y_goto (t := 14) ⟨dX12_worth_332, rfl, rfl⟩ ?_
  cases hf
  exact y_wk (L2 := [some (.ref 66), some (.int x1), some (.int x2), some (.int (x3 + 1)), none, none]) ⟨Or.inr rfl, Or.inr rfl, Or.inr rfl, Or.inr rfl, Or.inl rfl, Or.inr rfl, trivial⟩ hk
theorem w_b_mo_worth_14_194 (x1 : Int32) (x2 : Int32) (x3 : Int32) (x4 : Int32)  (M : dM) {Q : mz_P} {o : ((Int32 × Int32 × dM) ⊕ (Int32 × dM))} (hf : b_mo_worth_14_194 x1 x2 x3 x4 M = some o) (hk : K_mo_worth_14 Q x1 o) : mW mX12_worth 3 Q 194 [some (.ref 66), some (.int x1), some (.int x2), some (.int x3), some (.int x4), none] [] M := by
  unfold b_mo_worth_14_194 at hf
  refine y_aload_n (i := 0) (n := 195) ⟨dX12_worth_194, rfl⟩ rfl ?_
  refine y_iload_n (i := 2) (n := 196) ⟨dX12_worth_195, rfl⟩ rfl ?_
  obtain ⟨q17, hv18, hf⟩ := b_s hf
  refine c_mo_tests x2 M (n := 199) ⟨dX12_worth_196, rfl⟩ klX12_426 hv18 (by decide) (Nat.le_of_ble_eq_true rfl) rfl rfl ?_
  refine y_aload_n (i := 0) (n := 200) ⟨dX12_worth_199, rfl⟩ rfl ?_
  refine y_getR (n := 203) ⟨dX12_worth_200, rfl⟩ kfX12_86 l_66 rfl r_66_42 ?_
  refine y_iload_n (i := 2) (n := 204) ⟨dX12_worth_203, rfl⟩ rfl ?_
  refine y_iload (i := 4) (n := 206) ⟨dX12_worth_204, rfl⟩ rfl ?_
  obtain ⟨hg19, hf⟩ := g_s hf
  refine y_iastore (n := 207) ⟨dX12_worth_206, rfl⟩ l_92 hg19 ?_
  refine y_goto (t := 329) ⟨dX12_worth_207, rfl, rfl⟩ ?_
  refine y_iinc (i := 3) (n := 332) (b := (x3 + 1)) (L2 := [some (.ref 66), some (.int x1), some (.int x2), some (.int (x3 + 1)), some (.int x4), none]) ⟨dX12_worth_329, rfl⟩ rfl (by rw [ki_1]) (by decide) rfl rfl ?_
  refine y_goto (t := 14) ⟨dX12_worth_332, rfl, rfl⟩ ?_
  cases hf
  exact y_wk (L2 := [some (.ref 66), some (.int x1), some (.int x2), some (.int (x3 + 1)), none, none]) ⟨Or.inr rfl, Or.inr rfl, Or.inr rfl, Or.inr rfl, Or.inl rfl, Or.inr rfl, trivial⟩ hk
theorem w_b_mo_worth_268_268 (x1 : Int32) (x2 : Int32) (x3 : Int32) (x5 : Int32)  (M : dM) {Q : mz_P} {o : ((Int32 × Int32) ⊕ (Int32 × Int32))} (hf : b_mo_worth_268_268 x1 x2 x3 x5 M = some o) (hk : K_mo_worth_268 Q x1 x3 M o) : mW mX12_worth 3 Q 268 [some (.ref 66), some (.int x1), some (.int x2), some (.int x3), none, some (.int x5)] [] M := by
  unfold b_mo_worth_268_268 at hf
  refine y_iload_n (i := 2) (n := 269) ⟨dX12_worth_268, rfl⟩ rfl ?_
  refine y_if_le (t := 300) (n := 272) ⟨dX12_worth_269, rfl, rfl⟩ (fun (hc : x2 ≤ 0) => ?_) (fun (hc : ¬ (x2 ≤ 0)) => ?_)
  · replace hf := i_t hc hf
    cases hf
    exact y_wk (L2 := [some (.ref 66), some (.int x1), some (.int x2), some (.int x3), none, some (.int x5)]) ⟨Or.inr rfl, Or.inr rfl, Or.inr rfl, Or.inr rfl, Or.inr rfl, Or.inr rfl, trivial⟩ hk
  · replace hf := i_f hc hf
    refine y_aload_n (i := 0) (n := 273) ⟨dX12_worth_272, rfl⟩ rfl ?_
    refine y_getR (n := 276) ⟨dX12_worth_273, rfl⟩ kfX12_107 l_66 rfl r_66_49 ?_
    refine y_iload_n (i := 2) (n := 277) ⟨dX12_worth_276, rfl⟩ rfl ?_
    obtain ⟨hg20, hf⟩ := g_s hf
    refine y_iaload (n := 278) ⟨dX12_worth_277, rfl⟩ l_99 hg20 ?_
    refine y_iconst (n := 279) (v := 1) ⟨dX12_worth_278, rfl⟩ ki_1 ?_
    refine y_icmp_ne (t := 300) (n := 282) ⟨dX12_worth_279, rfl, rfl⟩ (fun (hc : ¬ ((gI M 99 x2.toNatClampNeg) = 1)) => ?_) (fun (hc : (gI M 99 x2.toNatClampNeg) = 1) => ?_)
    · replace hf := i_f hc hf
      cases hf
      exact y_wk (L2 := [some (.ref 66), some (.int x1), some (.int x2), some (.int x3), none, some (.int x5)]) ⟨Or.inr rfl, Or.inr rfl, Or.inr rfl, Or.inr rfl, Or.inr rfl, Or.inr rfl, trivial⟩ hk
    · replace hf := i_t hc hf
      refine y_iload (i := 5) (n := 284) ⟨dX12_worth_282, rfl⟩ rfl ?_
      refine y_if_ne (t := 291) (n := 287) ⟨dX12_worth_284, rfl, rfl⟩ (fun (hc : ¬ (x5 = 0)) => ?_) (fun (hc : x5 = 0) => ?_)
      · replace hf := i_f hc hf
        refine y_iconst (n := 292) (v := 0) ⟨dX12_worth_291, rfl⟩ ki_0 ?_
        refine y_istore (i := 5) (n := 294) (L2 := [some (.ref 66), some (.int x1), some (.int x2), some (.int x3), none, some (.int 0)]) ⟨dX12_worth_292, rfl⟩ (by decide) rfl rfl ?_
        refine y_iinc (i := 2) (n := 297) (b := (x2 + (-1))) (L2 := [some (.ref 66), some (.int x1), some (.int (x2 + (-1))), some (.int x3), none, some (.int 0)]) ⟨dX12_worth_294, rfl⟩ rfl (by rw [ki_m1]) (by decide) rfl rfl ?_
        refine y_goto (t := 268) ⟨dX12_worth_297, rfl, rfl⟩ ?_
        cases hf
        exact y_wk (L2 := [some (.ref 66), some (.int x1), some (.int (x2 + (-1))), some (.int x3), none, some (.int 0)]) ⟨Or.inr rfl, Or.inr rfl, Or.inr rfl, Or.inr rfl, Or.inr rfl, Or.inr rfl, trivial⟩ hk
      · replace hf := i_t hc hf
        refine y_iconst (n := 288) (v := 1) ⟨dX12_worth_287, rfl⟩ ki_1 ?_
        refine y_goto (t := 292) ⟨dX12_worth_288, rfl, rfl⟩ ?_
        refine y_istore (i := 5) (n := 294) (L2 := [some (.ref 66), some (.int x1), some (.int x2), some (.int x3), none, some (.int 1)]) ⟨dX12_worth_292, rfl⟩ (by decide) rfl rfl ?_
        refine y_iinc (i := 2) (n := 297) (b := (x2 + (-1))) (L2 := [some (.ref 66), some (.int x1), some (.int (x2 + (-1))), some (.int x3), none, some (.int 1)]) ⟨dX12_worth_294, rfl⟩ rfl (by rw [ki_m1]) (by decide) rfl rfl ?_
        refine y_goto (t := 268) ⟨dX12_worth_297, rfl, rfl⟩ ?_
        cases hf
        exact y_wk (L2 := [some (.ref 66), some (.int x1), some (.int (x2 + (-1))), some (.int x3), none, some (.int 1)]) ⟨Or.inr rfl, Or.inr rfl, Or.inr rfl, Or.inr rfl, Or.inr rfl, Or.inr rfl, trivial⟩ hk
theorem wl_mo_worth_268 (x1 : Int32) (x2 : Int32) (x3 : Int32) (x5 : Int32) (M : dM) {Q : mz_P} {x : (Int32 × Int32)} (hf : l_mo_worth_268 x1 x2 x3 x5 M = some x) (hk : K_mo_worth_268 Q x1 x3 M (.inr x)) : mW mX12_worth 3 Q 268 [some (.ref 66), some (.int x1), some (.int x2), some (.int x3), none, some (.int x5)] [] M :=
  lpc_wp (σ := (Int32 × Int32)) (ξ := (Int32 × Int32)) (s := (x2, x5)) (Wh := fun s => mW mX12_worth 3 Q 268 [some (.ref 66), some (.int x1), some (.int s.1), some (.int x3), none, some (.int s.2)] [] M) (K := K_mo_worth_268 Q x1 x3 M) (fun _ h => h) (fun s o hb hk => w_b_mo_worth_268_268 x1 s.1 x3 s.2 M hb hk) hf hk
theorem w_b_mo_worth_14_328 (x1 : Int32) (x2 : Int32) (x3 : Int32) (y1 : Int32) (y2 : Int32)  (M : dM) {Q : mz_P} {o : ((Int32 × Int32 × dM) ⊕ (Int32 × dM))} (hf : b_mo_worth_14_328 x1 x2 x3 y1 y2 M = some o) (hk : K_mo_worth_14 Q x1 o) : mW mX12_worth 3 Q 328 [some (.ref 66), some (.int x1), some (.int x2), some (.int x3), none, none] [.int y2, .int y1, .ref 97] M := by
  unfold b_mo_worth_14_328 at hf
  obtain ⟨hg25, hf⟩ := g_s hf
  refine y_iastore (n := 329) ⟨dX12_worth_328, rfl⟩ l_97 hg25 ?_
  refine y_iinc (i := 3) (n := 332) (b := (x3 + 1)) (L2 := [some (.ref 66), some (.int x1), some (.int x2), some (.int (x3 + 1)), none, none]) ⟨dX12_worth_329, rfl⟩ rfl (by rw [ki_1]) (by decide) rfl rfl ?_
  refine y_goto (t := 14) ⟨dX12_worth_332, rfl, rfl⟩ ?_
  cases hf
  exact y_wk (L2 := [some (.ref 66), some (.int x1), some (.int x2), some (.int (x3 + 1)), none, none]) ⟨Or.inr rfl, Or.inr rfl, Or.inr rfl, Or.inr rfl, Or.inr rfl, Or.inr rfl, trivial⟩ hk
theorem w_b_mo_worth_14_300 (x1 : Int32) (x2 : Int32) (x3 : Int32) (x5 : Int32)  (M : dM) {Q : mz_P} {o : ((Int32 × Int32 × dM) ⊕ (Int32 × dM))} (hf : b_mo_worth_14_300 x1 x2 x3 x5 M = some o) (hk : K_mo_worth_14 Q x1 o) : mW mX12_worth 3 Q 300 [some (.ref 66), some (.int x1), some (.int x2), some (.int x3), none, some (.int x5)] [] M := by
  unfold b_mo_worth_14_300 at hf
  refine y_aload_n (i := 0) (n := 301) ⟨dX12_worth_300, rfl⟩ rfl ?_
  refine y_getR (n := 304) ⟨dX12_worth_301, rfl⟩ kfX12_101 l_66 rfl r_66_47 ?_
  refine y_iload_n (i := 2) (n := 305) ⟨dX12_worth_304, rfl⟩ rfl ?_
  refine y_aload_n (i := 0) (n := 306) ⟨dX12_worth_305, rfl⟩ rfl ?_
  refine y_getR (n := 309) ⟨dX12_worth_306, rfl⟩ kfX12_104 l_66 rfl r_66_48 ?_
  refine y_iload_n (i := 2) (n := 310) ⟨dX12_worth_309, rfl⟩ rfl ?_
  obtain ⟨hg24, hf⟩ := g_s hf
  refine y_iaload (n := 311) ⟨dX12_worth_310, rfl⟩ l_98 hg24 ?_
  refine y_if_ne (t := 319) (n := 314) ⟨dX12_worth_311, rfl, rfl⟩ (fun (hc : ¬ ((gI M 98 x2.toNatClampNeg) = 0)) => ?_) (fun (hc : (gI M 98 x2.toNatClampNeg) = 0) => ?_)
  · replace hf := i_f hc hf
    refine y_aload_n (i := 0) (n := 320) ⟨dX12_worth_319, rfl⟩ rfl ?_
    refine y_getR (n := 323) ⟨dX12_worth_320, rfl⟩ kfX12_101 l_66 rfl r_66_47 ?_
    refine y_iload_n (i := 2) (n := 324) ⟨dX12_worth_323, rfl⟩ rfl ?_
    refine y_iaload (n := 325) ⟨dX12_worth_324, rfl⟩ l_97 hg24 ?_
    refine y_iload (i := 5) (n := 327) ⟨dX12_worth_325, rfl⟩ rfl ?_
    refine y_imul (n := 328) ⟨dX12_worth_327, rfl⟩ ?_
    exact y_wk (L2 := [some (.ref 66), some (.int x1), some (.int x2), some (.int x3), none, none]) ⟨Or.inr rfl, Or.inr rfl, Or.inr rfl, Or.inr rfl, Or.inr rfl, Or.inl rfl, trivial⟩ (w_b_mo_worth_14_328 x1 x2 x3 x2 ((gI M 97 x2.toNatClampNeg) * x5) M hf hk)
  · replace hf := i_t hc hf
    refine y_iload (i := 5) (n := 316) ⟨dX12_worth_314, rfl⟩ rfl ?_
    refine y_goto (t := 328) ⟨dX12_worth_316, rfl, rfl⟩ ?_
    exact y_wk (L2 := [some (.ref 66), some (.int x1), some (.int x2), some (.int x3), none, none]) ⟨Or.inr rfl, Or.inr rfl, Or.inr rfl, Or.inr rfl, Or.inr rfl, Or.inl rfl, trivial⟩ (w_b_mo_worth_14_328 x1 x2 x3 x2 x5 M hf hk)
theorem w_b_mo_worth_14_243 (x1 : Int32) (x2 : Int32) (x3 : Int32) (x4 : Int32) (y0 : Int32)  (M : dM) {Q : mz_P} {o : ((Int32 × Int32 × dM) ⊕ (Int32 × dM))} (hf : b_mo_worth_14_243 x1 x2 x3 x4 y0 M = some o) (hk : K_mo_worth_14 Q x1 o) : mW mX12_worth 3 Q 243 [some (.ref 66), some (.int x1), some (.int x2), some (.int x3), some (.int x4), none] [.int y0] M := by
  unfold b_mo_worth_14_243 at hf
  refine y_istore (i := 5) (n := 245) (L2 := [some (.ref 66), some (.int x1), some (.int x2), some (.int x3), some (.int x4), some (.int y0)]) ⟨dX12_worth_243, rfl⟩ (by decide) rfl rfl ?_
  refine y_iload (i := 4) (n := 247) ⟨dX12_worth_245, rfl⟩ rfl ?_
  refine y_bipush (n := 249) (v := 29) ⟨dX12_worth_247, rfl⟩ kb_29 ?_
  refine y_icmp_ne (t := 268) (n := 252) ⟨dX12_worth_249, rfl, rfl⟩ (fun (hc : ¬ (x4 = 29)) => ?_) (fun (hc : x4 = 29) => ?_)
  · replace hf := i_f hc hf
    obtain ⟨t21, hl22, hf⟩ := b_s hf
    refine y_wk (L2 := [some (.ref 66), some (.int x1), some (.int x2), some (.int x3), none, some (.int y0)]) ⟨Or.inr rfl, Or.inr rfl, Or.inr rfl, Or.inr rfl, Or.inl rfl, Or.inr rfl, trivial⟩ (wl_mo_worth_268 x1 x2 x3 y0 M hl22 ?_)
    show mW mX12_worth 3 Q 300 [some (.ref 66), some (.int x1), some (.int t21.1), some (.int x3), none, some (.int t21.2)] [] M
    exact y_wk (L2 := [some (.ref 66), some (.int x1), some (.int t21.1), some (.int x3), none, some (.int t21.2)]) ⟨Or.inr rfl, Or.inr rfl, Or.inr rfl, Or.inr rfl, Or.inr rfl, Or.inr rfl, trivial⟩ (w_b_mo_worth_14_300 x1 t21.1 x3 t21.2 M hf hk)
  · replace hf := i_t hc hf
    refine y_aload_n (i := 0) (n := 253) ⟨dX12_worth_252, rfl⟩ rfl ?_
    refine y_iload_n (i := 2) (n := 254) ⟨dX12_worth_253, rfl⟩ rfl ?_
    obtain ⟨q26, hv27, hf⟩ := b_s hf
    refine c_mo_tests x2 M (n := 257) ⟨dX12_worth_254, rfl⟩ klX12_426 hv27 (by decide) (Nat.le_of_ble_eq_true rfl) rfl rfl ?_
    refine y_aload_n (i := 0) (n := 258) ⟨dX12_worth_257, rfl⟩ rfl ?_
    refine y_getR (n := 261) ⟨dX12_worth_258, rfl⟩ kfX12_83 l_66 rfl r_66_41 ?_
    refine y_iload_n (i := 2) (n := 262) ⟨dX12_worth_261, rfl⟩ rfl ?_
    obtain ⟨hg28, hf⟩ := g_s hf
    refine y_iaload (n := 263) ⟨dX12_worth_262, rfl⟩ l_91 hg28 ?_
    refine y_istore (i := 5) (n := 265) (L2 := [some (.ref 66), some (.int x1), some (.int x2), some (.int x3), some (.int x4), some (.int (gI q26 91 x2.toNatClampNeg))]) ⟨dX12_worth_263, rfl⟩ (by decide) rfl rfl ?_
    refine y_iinc (i := 2) (n := 268) (b := (x2 + (-1))) (L2 := [some (.ref 66), some (.int x1), some (.int (x2 + (-1))), some (.int x3), some (.int x4), some (.int (gI q26 91 x2.toNatClampNeg))]) ⟨dX12_worth_265, rfl⟩ rfl (by rw [ki_m1]) (by decide) rfl rfl ?_
    obtain ⟨t29, hl30, hf⟩ := b_s hf
    refine y_wk (L2 := [some (.ref 66), some (.int x1), some (.int (x2 + (-1))), some (.int x3), none, some (.int (gI q26 91 x2.toNatClampNeg))]) ⟨Or.inr rfl, Or.inr rfl, Or.inr rfl, Or.inr rfl, Or.inl rfl, Or.inr rfl, trivial⟩ (wl_mo_worth_268 x1 (x2 + (-1)) x3 (gI q26 91 x2.toNatClampNeg) q26 hl30 ?_)
    show mW mX12_worth 3 Q 300 [some (.ref 66), some (.int x1), some (.int t29.1), some (.int x3), none, some (.int t29.2)] [] q26
    exact y_wk (L2 := [some (.ref 66), some (.int x1), some (.int t29.1), some (.int x3), none, some (.int t29.2)]) ⟨Or.inr rfl, Or.inr rfl, Or.inr rfl, Or.inr rfl, Or.inr rfl, Or.inr rfl, trivial⟩ (w_b_mo_worth_14_300 x1 t29.1 x3 t29.2 q26 hf hk)
theorem w_b_mo_worth_14_14 (x1 : Int32) (x2 : Int32) (x3 : Int32)  (M : dM) {Q : mz_P} {o : ((Int32 × Int32 × dM) ⊕ (Int32 × dM))} (hf : b_mo_worth_14_14 x1 x2 x3 M = some o) (hk : K_mo_worth_14 Q x1 o) : mW mX12_worth 3 Q 14 [some (.ref 66), some (.int x1), some (.int x2), some (.int x3), none, none] [] M := by
  unfold b_mo_worth_14_14 at hf
  refine y_iload_n (i := 3) (n := 15) ⟨dX12_worth_14, rfl⟩ rfl ?_
  refine y_aload_n (i := 0) (n := 16) ⟨dX12_worth_15, rfl⟩ rfl ?_
  refine y_getR (n := 19) ⟨dX12_worth_16, rfl⟩ kfX12_62 l_66 rfl r_66_28 ?_
  refine y_iload_n (i := 1) (n := 20) ⟨dX12_worth_19, rfl⟩ rfl ?_
  obtain ⟨hg4, hf⟩ := g_s hf
  refine y_iaload (n := 21) ⟨dX12_worth_20, rfl⟩ l_84 hg4 ?_
  refine y_icmp_ge (t := 335) (n := 24) ⟨dX12_worth_21, rfl, rfl⟩ (fun (hc : (gI M 84 x1.toNatClampNeg) ≤ x3) => ?_) (fun (hc : ¬ ((gI M 84 x1.toNatClampNeg) ≤ x3)) => ?_)
  · replace hf := i_t hc hf
    refine y_aload_n (i := 0) (n := 336) ⟨dX12_worth_335, rfl⟩ rfl ?_
    refine y_iconst (n := 337) (v := 0) ⟨dX12_worth_336, rfl⟩ ki_0 ?_
    obtain ⟨q5, hv6, hf⟩ := b_s hf
    refine c_mo_tests 0 M (n := 340) ⟨dX12_worth_337, rfl⟩ klX12_426 hv6 (by decide) (Nat.le_of_ble_eq_true rfl) rfl rfl ?_
    refine y_aload_n (i := 0) (n := 341) ⟨dX12_worth_340, rfl⟩ rfl ?_
    refine y_getR (n := 344) ⟨dX12_worth_341, rfl⟩ kfX12_83 l_66 rfl r_66_41 ?_
    refine y_iconst (n := 345) (v := 0) ⟨dX12_worth_344, rfl⟩ ki_0 ?_
    refine y_iaload (n := 346) ⟨dX12_worth_345, rfl⟩ l_91 (by unfold vp_in; decide) ?_
    cases hf
    exact y_ireturn (n := 347) ⟨dX12_worth_346, rfl⟩ rfl rfl hk
  · replace hf := i_f hc hf
    refine y_aload_n (i := 0) (n := 25) ⟨dX12_worth_24, rfl⟩ rfl ?_
    refine y_getR (n := 28) ⟨dX12_worth_25, rfl⟩ kfX12_74 l_66 rfl r_66_36 ?_
    refine y_iload_n (i := 3) (n := 29) ⟨dX12_worth_28, rfl⟩ rfl ?_
    obtain ⟨hg7, hf⟩ := g_s hf
    refine y_iaload (n := 30) ⟨dX12_worth_29, rfl⟩ l_88 hg7 ?_
    refine y_istore (i := 4) (n := 32) (L2 := [some (.ref 66), some (.int x1), some (.int x2), some (.int x3), some (.int (gI M 88 x3.toNatClampNeg)), none]) ⟨dX12_worth_30, rfl⟩ (by decide) rfl rfl ?_
    refine y_iload (i := 4) (n := 34) ⟨dX12_worth_32, rfl⟩ rfl ?_
    refine y_bipush (n := 36) (v := 28) ⟨dX12_worth_34, rfl⟩ kb_28 ?_
    refine y_icmp_eq (t := 46) (n := 39) ⟨dX12_worth_36, rfl, rfl⟩ (fun (hc : (gI M 88 x3.toNatClampNeg) = 28) => ?_) (fun (hc : ¬ ((gI M 88 x3.toNatClampNeg) = 28)) => ?_)
    · replace hf := i_t hc hf
      exact y_wk (L2 := [some (.ref 66), some (.int x1), some (.int x2), some (.int x3), some (.int (gI M 88 x3.toNatClampNeg)), none]) ⟨Or.inr rfl, Or.inr rfl, Or.inr rfl, Or.inr rfl, Or.inr rfl, Or.inr rfl, trivial⟩ (w_b_mo_worth_14_46 x1 x2 x3 (gI M 88 x3.toNatClampNeg) M hf hk)
    · replace hf := i_f hc hf
      refine y_iload (i := 4) (n := 41) ⟨dX12_worth_39, rfl⟩ rfl ?_
      refine y_bipush (n := 43) (v := 30) ⟨dX12_worth_41, rfl⟩ kb_30 ?_
      refine y_icmp_ne (t := 75) (n := 46) ⟨dX12_worth_43, rfl, rfl⟩ (fun (hc : ¬ ((gI M 88 x3.toNatClampNeg) = 30)) => ?_) (fun (hc : (gI M 88 x3.toNatClampNeg) = 30) => ?_)
      · replace hf := i_f hc hf
        refine y_iload (i := 4) (n := 77) ⟨dX12_worth_75, rfl⟩ rfl ?_
        refine y_bipush (n := 79) (v := 20) ⟨dX12_worth_77, rfl⟩ kb_20 ?_
        refine y_icmp_eq (t := 89) (n := 82) ⟨dX12_worth_79, rfl, rfl⟩ (fun (hc : (gI M 88 x3.toNatClampNeg) = 20) => ?_) (fun (hc : ¬ ((gI M 88 x3.toNatClampNeg) = 20)) => ?_)
        · replace hf := i_t hc hf
          exact y_wk (L2 := [some (.ref 66), some (.int x1), some (.int x2), some (.int x3), some (.int (gI M 88 x3.toNatClampNeg)), none]) ⟨Or.inr rfl, Or.inr rfl, Or.inr rfl, Or.inr rfl, Or.inr rfl, Or.inr rfl, trivial⟩ (w_b_mo_worth_14_89 x1 x2 x3 (gI M 88 x3.toNatClampNeg) M hf hk)
        · replace hf := i_f hc hf
          refine y_iload (i := 4) (n := 84) ⟨dX12_worth_82, rfl⟩ rfl ?_
          refine y_bipush (n := 86) (v := 21) ⟨dX12_worth_84, rfl⟩ kb_21 ?_
          refine y_icmp_ne (t := 105) (n := 89) ⟨dX12_worth_86, rfl, rfl⟩ (fun (hc : ¬ ((gI M 88 x3.toNatClampNeg) = 21)) => ?_) (fun (hc : (gI M 88 x3.toNatClampNeg) = 21) => ?_)
          · replace hf := i_f hc hf
            refine y_iload (i := 4) (n := 107) ⟨dX12_worth_105, rfl⟩ rfl ?_
            refine y_bipush (n := 109) (v := 22) ⟨dX12_worth_107, rfl⟩ kb_22 ?_
            refine y_icmp_ne (t := 123) (n := 112) ⟨dX12_worth_109, rfl, rfl⟩ (fun (hc : ¬ ((gI M 88 x3.toNatClampNeg) = 22)) => ?_) (fun (hc : (gI M 88 x3.toNatClampNeg) = 22) => ?_)
            · replace hf := i_f hc hf
              refine y_iload (i := 4) (n := 125) ⟨dX12_worth_123, rfl⟩ rfl ?_
              refine y_bipush (n := 127) (v := 24) ⟨dX12_worth_125, rfl⟩ kb_24 ?_
              refine y_icmp_eq (t := 137) (n := 130) ⟨dX12_worth_127, rfl, rfl⟩ (fun (hc : (gI M 88 x3.toNatClampNeg) = 24) => ?_) (fun (hc : ¬ ((gI M 88 x3.toNatClampNeg) = 24)) => ?_)
              · replace hf := i_t hc hf
                exact y_wk (L2 := [some (.ref 66), some (.int x1), some (.int x2), some (.int x3), some (.int (gI M 88 x3.toNatClampNeg)), none]) ⟨Or.inr rfl, Or.inr rfl, Or.inr rfl, Or.inr rfl, Or.inr rfl, Or.inr rfl, trivial⟩ (w_b_mo_worth_14_137 x1 x2 x3 (gI M 88 x3.toNatClampNeg) M hf hk)
              · replace hf := i_f hc hf
                refine y_iload (i := 4) (n := 132) ⟨dX12_worth_130, rfl⟩ rfl ?_
                refine y_bipush (n := 134) (v := 25) ⟨dX12_worth_132, rfl⟩ kb_25 ?_
                refine y_icmp_ne (t := 180) (n := 137) ⟨dX12_worth_134, rfl, rfl⟩ (fun (hc : ¬ ((gI M 88 x3.toNatClampNeg) = 25)) => ?_) (fun (hc : (gI M 88 x3.toNatClampNeg) = 25) => ?_)
                · replace hf := i_f hc hf
                  refine y_iload (i := 4) (n := 182) ⟨dX12_worth_180, rfl⟩ rfl ?_
                  refine y_bipush (n := 184) (v := 26) ⟨dX12_worth_182, rfl⟩ kb_26 ?_
                  refine y_icmp_eq (t := 194) (n := 187) ⟨dX12_worth_184, rfl, rfl⟩ (fun (hc : (gI M 88 x3.toNatClampNeg) = 26) => ?_) (fun (hc : ¬ ((gI M 88 x3.toNatClampNeg) = 26)) => ?_)
                  · replace hf := i_t hc hf
                    exact y_wk (L2 := [some (.ref 66), some (.int x1), some (.int x2), some (.int x3), some (.int (gI M 88 x3.toNatClampNeg)), none]) ⟨Or.inr rfl, Or.inr rfl, Or.inr rfl, Or.inr rfl, Or.inr rfl, Or.inr rfl, trivial⟩ (w_b_mo_worth_14_194 x1 x2 x3 (gI M 88 x3.toNatClampNeg) M hf hk)
                  · replace hf := i_f hc hf
                    refine y_iload (i := 4) (n := 189) ⟨dX12_worth_187, rfl⟩ rfl ?_
                    refine y_bipush (n := 191) (v := 27) ⟨dX12_worth_189, rfl⟩ kb_27 ?_
                    refine y_icmp_ne (t := 210) (n := 194) ⟨dX12_worth_191, rfl, rfl⟩ (fun (hc : ¬ ((gI M 88 x3.toNatClampNeg) = 27)) => ?_) (fun (hc : (gI M 88 x3.toNatClampNeg) = 27) => ?_)
                    · replace hf := i_f hc hf
                      refine y_iload (i := 4) (n := 212) ⟨dX12_worth_210, rfl⟩ rfl ?_
                      refine y_bipush (n := 214) (v := 100) ⟨dX12_worth_212, rfl⟩ kb_100 ?_
                      refine y_icmp_lt (t := 225) (n := 217) ⟨dX12_worth_214, rfl, rfl⟩ (fun (hc : (gI M 88 x3.toNatClampNeg) < 100) => ?_) (fun (hc : ¬ ((gI M 88 x3.toNatClampNeg) < 100)) => ?_)
                      · replace hf := i_t hc hf
                        refine y_iload (i := 4) (n := 227) ⟨dX12_worth_225, rfl⟩ rfl ?_
                        refine y_bipush (n := 229) (v := 20) ⟨dX12_worth_227, rfl⟩ kb_20 ?_
                        refine y_icmp_ge (t := 242) (n := 232) ⟨dX12_worth_229, rfl, rfl⟩ (fun (hc : 20 ≤ (gI M 88 x3.toNatClampNeg)) => ?_) (fun (hc : ¬ (20 ≤ (gI M 88 x3.toNatClampNeg))) => ?_)
                        · replace hf := i_t hc hf
                          refine y_iconst (n := 243) (v := 0) ⟨dX12_worth_242, rfl⟩ ki_0 ?_
                          exact y_wk (L2 := [some (.ref 66), some (.int x1), some (.int x2), some (.int x3), some (.int (gI M 88 x3.toNatClampNeg)), none]) ⟨Or.inr rfl, Or.inr rfl, Or.inr rfl, Or.inr rfl, Or.inr rfl, Or.inr rfl, trivial⟩ (w_b_mo_worth_14_243 x1 x2 x3 (gI M 88 x3.toNatClampNeg) 0 M hf hk)
                        · replace hf := i_f hc hf
                          refine y_aload_n (i := 0) (n := 233) ⟨dX12_worth_232, rfl⟩ rfl ?_
                          refine y_getR (n := 236) ⟨dX12_worth_233, rfl⟩ kfX12_110 l_66 rfl r_66_50 ?_
                          refine y_iload (i := 4) (n := 238) ⟨dX12_worth_236, rfl⟩ rfl ?_
                          obtain ⟨hg32, hf⟩ := g_s hf
                          refine y_iaload (n := 239) ⟨dX12_worth_238, rfl⟩ l_100 hg32 ?_
                          refine y_goto (t := 243) ⟨dX12_worth_239, rfl, rfl⟩ ?_
                          exact y_wk (L2 := [some (.ref 66), some (.int x1), some (.int x2), some (.int x3), some (.int (gI M 88 x3.toNatClampNeg)), none]) ⟨Or.inr rfl, Or.inr rfl, Or.inr rfl, Or.inr rfl, Or.inr rfl, Or.inr rfl, trivial⟩ (w_b_mo_worth_14_243 x1 x2 x3 (gI M 88 x3.toNatClampNeg) (gI M 100 (gI M 88 x3.toNatClampNeg).toNatClampNeg) M hf hk)
                      · replace hf := i_f hc hf
                        refine y_iload (i := 4) (n := 219) ⟨dX12_worth_217, rfl⟩ rfl ?_
                        refine y_bipush (n := 221) (v := 100) ⟨dX12_worth_219, rfl⟩ kb_100 ?_
                        refine y_isub (n := 222) ⟨dX12_worth_221, rfl⟩ ?_
                        refine y_goto (t := 243) ⟨dX12_worth_222, rfl, rfl⟩ ?_
                        exact y_wk (L2 := [some (.ref 66), some (.int x1), some (.int x2), some (.int x3), some (.int (gI M 88 x3.toNatClampNeg)), none]) ⟨Or.inr rfl, Or.inr rfl, Or.inr rfl, Or.inr rfl, Or.inr rfl, Or.inr rfl, trivial⟩ (w_b_mo_worth_14_243 x1 x2 x3 (gI M 88 x3.toNatClampNeg) ((gI M 88 x3.toNatClampNeg) - 100) M hf hk)
                    · replace hf := i_t hc hf
                      exact y_wk (L2 := [some (.ref 66), some (.int x1), some (.int x2), some (.int x3), some (.int (gI M 88 x3.toNatClampNeg)), none]) ⟨Or.inr rfl, Or.inr rfl, Or.inr rfl, Or.inr rfl, Or.inr rfl, Or.inr rfl, trivial⟩ (w_b_mo_worth_14_194 x1 x2 x3 (gI M 88 x3.toNatClampNeg) M hf hk)
                · replace hf := i_t hc hf
                  exact y_wk (L2 := [some (.ref 66), some (.int x1), some (.int x2), some (.int x3), some (.int (gI M 88 x3.toNatClampNeg)), none]) ⟨Or.inr rfl, Or.inr rfl, Or.inr rfl, Or.inr rfl, Or.inr rfl, Or.inr rfl, trivial⟩ (w_b_mo_worth_14_137 x1 x2 x3 (gI M 88 x3.toNatClampNeg) M hf hk)
            · replace hf := i_t hc hf
              refine y_aload_n (i := 0) (n := 113) ⟨dX12_worth_112, rfl⟩ rfl ?_
              refine y_getR (n := 116) ⟨dX12_worth_113, rfl⟩ kfX12_104 l_66 rfl r_66_48 ?_
              refine y_iload_n (i := 2) (n := 117) ⟨dX12_worth_116, rfl⟩ rfl ?_
              refine y_iload (i := 4) (n := 119) ⟨dX12_worth_117, rfl⟩ rfl ?_
              obtain ⟨hg33, hf⟩ := g_s hf
              refine y_iastore (n := 120) ⟨dX12_worth_119, rfl⟩ l_98 hg33 ?_
              refine y_goto (t := 329) ⟨dX12_worth_120, rfl, rfl⟩ ?_
              refine y_iinc (i := 3) (n := 332) (b := (x3 + 1)) (L2 := [some (.ref 66), some (.int x1), some (.int x2), some (.int (x3 + 1)), some (.int (gI M 88 x3.toNatClampNeg)), none]) ⟨dX12_worth_329, rfl⟩ rfl (by rw [ki_1]) (by decide) rfl rfl ?_
              refine y_goto (t := 14) ⟨dX12_worth_332, rfl, rfl⟩ ?_
              cases hf
              exact y_wk (L2 := [some (.ref 66), some (.int x1), some (.int x2), some (.int (x3 + 1)), none, none]) ⟨Or.inr rfl, Or.inr rfl, Or.inr rfl, Or.inr rfl, Or.inl rfl, Or.inr rfl, trivial⟩ hk
          · replace hf := i_t hc hf
            exact y_wk (L2 := [some (.ref 66), some (.int x1), some (.int x2), some (.int x3), some (.int (gI M 88 x3.toNatClampNeg)), none]) ⟨Or.inr rfl, Or.inr rfl, Or.inr rfl, Or.inr rfl, Or.inr rfl, Or.inr rfl, trivial⟩ (w_b_mo_worth_14_89 x1 x2 x3 (gI M 88 x3.toNatClampNeg) M hf hk)
      · replace hf := i_t hc hf
        exact y_wk (L2 := [some (.ref 66), some (.int x1), some (.int x2), some (.int x3), some (.int (gI M 88 x3.toNatClampNeg)), none]) ⟨Or.inr rfl, Or.inr rfl, Or.inr rfl, Or.inr rfl, Or.inr rfl, Or.inr rfl, trivial⟩ (w_b_mo_worth_14_46 x1 x2 x3 (gI M 88 x3.toNatClampNeg) M hf hk)
theorem wl_mo_worth_14 (x1 : Int32) (x2 : Int32) (x3 : Int32) (M : dM) {Q : mz_P} {x : (Int32 × dM)} (hf : l_mo_worth_14 x1 x2 x3 M = some x) (hk : K_mo_worth_14 Q x1 (.inr x)) : mW mX12_worth 3 Q 14 [some (.ref 66), some (.int x1), some (.int x2), some (.int x3), none, none] [] M :=
  lpc_wp (σ := (Int32 × Int32 × dM)) (ξ := (Int32 × dM)) (s := (x2, x3, M)) (Wh := fun s => mW mX12_worth 3 Q 14 [some (.ref 66), some (.int x1), some (.int s.1), some (.int s.2.1), none, none] [] s.2.2) (K := K_mo_worth_14 Q x1) (fun _ h => h) (fun s o hb hk => w_b_mo_worth_14_14 x1 s.1 s.2.1 s.2.2 hb hk) hf hk
theorem ok_mo_worth (a1 : Int32) (M : dM) {o : (Int32 × dM)} (hf : f_mo_worth a1 M = some o) : mO mX12_worth 3 [.ref 66, .int a1] M (some (.int o.1)) o.2 := by
  refine y_ok (by decide +kernel) (Nat.le_of_ble_eq_true rfl) (L0 := [some (.ref 66), some (.int a1), none, none, none, none]) rfl ?_
  have hk := mR_mQ (some (.int o.1)) o.2
  generalize mQ _ _ = Q at hk ⊢
  unfold f_mo_worth at hf
  refine y_iconst (n := 1) (v := 0) ⟨dX12_worth_0, rfl⟩ ki_0 ?_
  refine y_istore_n (i := 2) (n := 2) (L2 := [some (.ref 66), some (.int a1), some (.int 0), none, none, none]) ⟨dX12_worth_1, rfl⟩ (by decide) rfl rfl ?_
  refine y_aload_n (i := 0) (n := 3) ⟨dX12_worth_2, rfl⟩ rfl ?_
  refine y_iconst (n := 4) (v := 0) ⟨dX12_worth_3, rfl⟩ ki_0 ?_
  obtain ⟨q1, hv2, hf⟩ := b_s hf
  refine c_mo_opens 0 M (n := 7) ⟨dX12_worth_4, rfl⟩ klX12_423 hv2 (by decide) (Nat.le_of_ble_eq_true rfl) rfl rfl ?_
  refine y_aload_n (i := 0) (n := 8) ⟨dX12_worth_7, rfl⟩ rfl ?_
  refine y_getR (n := 11) ⟨dX12_worth_8, rfl⟩ kfX12_59 l_66 rfl r_66_27 ?_
  refine y_iload_n (i := 1) (n := 12) ⟨dX12_worth_11, rfl⟩ rfl ?_
  obtain ⟨hg3, hf⟩ := g_s hf
  refine y_iaload (n := 13) ⟨dX12_worth_12, rfl⟩ l_83 hg3 ?_
  refine y_istore_n (i := 3) (n := 14) (L2 := [some (.ref 66), some (.int a1), some (.int 0), some (.int (gI q1 83 a1.toNatClampNeg)), none, none]) ⟨dX12_worth_13, rfl⟩ (by decide) rfl rfl ?_
  obtain ⟨r36, hl35, hf⟩ := b_s hf
  cases hf
  exact y_wk (L2 := [some (.ref 66), some (.int a1), some (.int 0), some (.int (gI q1 83 a1.toNatClampNeg)), none, none]) ⟨Or.inr rfl, Or.inr rfl, Or.inr rfl, Or.inr rfl, Or.inr rfl, Or.inr rfl, trivial⟩ (wl_mo_worth_14 a1 0 (gI q1 83 a1.toNatClampNeg) q1 hl35 hk)
theorem c_mo_worth (a1 : Int32) (M : dM) {o : (Int32 × dM)} {y : mz_M} {d : Nat} {Q : mz_P} {pc n i : Nat} {L : List (Option Value)} {st : List Value} (h : mz_d y.2.1 pc n 3 (.invokevirtual i)) (hl : mz_ml y.1.cls i yX12_worth) (hf : f_mo_worth a1 M = some o) (hd : 3 + 1 ≤ d) (hsm : (st.map (fun v => v.category)).sum ≤ 8) (hLr : mz_rL 133 L = true) (hSr : mz_rS 133 st = true) (kk : mW y d Q n L (.int o.1 :: st) o.2) : mW y d Q pc L (.int a1 :: .ref 66 :: st) M :=
  y_callV kmX12_worth kvX12_worth l_66 (by decide +kernel) (by decide +kernel) h hl (ok_mo_worth a1 M hf) (vs := [.int a1]) rfl rfl hd hsm hLr hSr kk
