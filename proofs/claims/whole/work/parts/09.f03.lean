noncomputable def f_ax_seen (a1 : Int32) (a2 : Int32) (a3 : Int32) (M : dM) : Option (Bool × dM) :=
  if (f_ax_within a1 10) = true then
    if (f_ax_within a2 8) = true then
      if (f_ax_within a3 1000) = true then
        (f_to_tellSeen a1 a2 a3 M).bind fun q1 =>
        if q1.1 = true then
          some (true, (f_ax_changed q1.2))
        else
          some (false, q1.2)
      else
        some (false, M)
    else
      some (false, M)
  else
    some (false, M)
theorem ok_ax_seen (a1 : Int32) (a2 : Int32) (a3 : Int32) (M : dM) {o : (Bool × dM)} (hf : f_ax_seen a1 a2 a3 M = some o) : mO mX11_seen 3 [.ref 0, .int a1, .int a2, .int a3] M (some (.int (bI o.1))) o.2 := by
  refine y_ok (by decide +kernel) (by decide) (L0 := [some (.ref 0), some (.int a1), some (.int a2), some (.int a3)]) rfl ?_
  have hk := mR_mQ (some (.int (bI o.1))) o.2
  generalize mQ _ _ = Q at hk ⊢
  unfold f_ax_seen at hf
  refine y_iload_n (i := 1) (n := 1) ⟨dX11_seen_0, rfl⟩ rfl ?_
  refine y_bipush (n := 3) (v := 10) ⟨dX11_seen_1, rfl⟩ kb_10 ?_
  refine c_ax_within a1 10 M (n := 6) ⟨dX11_seen_3, rfl⟩ klX11_91 rfl (by decide) (Nat.le_of_ble_eq_true rfl) rfl rfl ?_
  refine y_if_eq (t := 28) (n := 9) ⟨dX11_seen_6, rfl, rfl⟩ (fun h0 => ?_) (fun h0 => ?_)
  · have hc := bI_0 h0
    replace hf := i_f hc hf
    refine y_iconst (n := 29) (v := 0) ⟨dX11_seen_28, rfl⟩ ki_0 ?_
    cases hf
    exact y_ireturn (n := 30) ⟨dX11_seen_29, rfl⟩ rfl rfl hk
  · have hc := bI_1 h0
    replace hf := i_t hc hf
    refine y_iload_n (i := 2) (n := 10) ⟨dX11_seen_9, rfl⟩ rfl ?_
    refine y_bipush (n := 12) (v := 8) ⟨dX11_seen_10, rfl⟩ kb_8 ?_
    refine c_ax_within a2 8 M (n := 15) ⟨dX11_seen_12, rfl⟩ klX11_91 rfl (by decide) (Nat.le_of_ble_eq_true rfl) rfl rfl ?_
    refine y_if_eq (t := 28) (n := 18) ⟨dX11_seen_15, rfl, rfl⟩ (fun h0 => ?_) (fun h0 => ?_)
    · have hc := bI_0 h0
      replace hf := i_f hc hf
      refine y_iconst (n := 29) (v := 0) ⟨dX11_seen_28, rfl⟩ ki_0 ?_
      cases hf
      exact y_ireturn (n := 30) ⟨dX11_seen_29, rfl⟩ rfl rfl hk
    · have hc := bI_1 h0
      replace hf := i_t hc hf
      refine y_iload_n (i := 3) (n := 19) ⟨dX11_seen_18, rfl⟩ rfl ?_
      refine y_sipush (n := 22) (v := 1000) ⟨dX11_seen_19, rfl⟩ ks_1000 ?_
      refine c_ax_within a3 1000 M (n := 25) ⟨dX11_seen_22, rfl⟩ klX11_91 rfl (by decide) (Nat.le_of_ble_eq_true rfl) rfl rfl ?_
      refine y_if_ne (t := 30) (n := 28) ⟨dX11_seen_25, rfl, rfl⟩ (fun h0 => ?_) (fun h0 => ?_)
      · have hc := bI_1 h0
        replace hf := i_t hc hf
        refine y_aload_n (i := 0) (n := 31) ⟨dX11_seen_30, rfl⟩ rfl ?_
        refine y_getR (n := 34) ⟨dX11_seen_31, rfl⟩ kfX11_26 l_0 rfl r_0_2 ?_
        refine y_iload_n (i := 1) (n := 35) ⟨dX11_seen_34, rfl⟩ rfl ?_
        refine y_iload_n (i := 2) (n := 36) ⟨dX11_seen_35, rfl⟩ rfl ?_
        refine y_iload_n (i := 3) (n := 37) ⟨dX11_seen_36, rfl⟩ rfl ?_
        obtain ⟨q1, hv2, hf⟩ := b_s hf
        refine c_to_tellSeen a1 a2 a3 M (n := 40) ⟨dX11_seen_37, rfl⟩ klX11_218 hv2 (by decide) (Nat.le_of_ble_eq_true rfl) rfl rfl ?_
        refine y_if_ne (t := 45) (n := 43) ⟨dX11_seen_40, rfl, rfl⟩ (fun h0 => ?_) (fun h0 => ?_)
        · have hc := bI_1 h0
          replace hf := i_t hc hf
          refine y_aload_n (i := 0) (n := 46) ⟨dX11_seen_45, rfl⟩ rfl ?_
          refine c_ax_changed q1.2 (n := 49) ⟨dX11_seen_46, rfl⟩ klX11_99 rfl (by decide) (Nat.le_of_ble_eq_true rfl) rfl rfl ?_
          refine y_iconst (n := 50) (v := 1) ⟨dX11_seen_49, rfl⟩ ki_1 ?_
          cases hf
          exact y_ireturn (n := 51) ⟨dX11_seen_50, rfl⟩ rfl rfl hk
        · have hc := bI_0 h0
          replace hf := i_f hc hf
          refine y_iconst (n := 44) (v := 0) ⟨dX11_seen_43, rfl⟩ ki_0 ?_
          cases hf
          exact y_ireturn (n := 45) ⟨dX11_seen_44, rfl⟩ rfl rfl hk
      · have hc := bI_0 h0
        replace hf := i_f hc hf
        refine y_iconst (n := 29) (v := 0) ⟨dX11_seen_28, rfl⟩ ki_0 ?_
        cases hf
        exact y_ireturn (n := 30) ⟨dX11_seen_29, rfl⟩ rfl rfl hk
theorem c_ax_seen (a1 : Int32) (a2 : Int32) (a3 : Int32) (M : dM) {o : (Bool × dM)} {y : mz_M} {d : Nat} {Q : mz_P} {pc n i : Nat} {L : List (Option Value)} {st : List Value} (h : mz_d y.2.1 pc n 3 (.invokevirtual i)) (hl : mz_ml y.1.cls i yX11_seen) (hf : f_ax_seen a1 a2 a3 M = some o) (hd : 3 + 1 ≤ d) (hsm : (st.map (fun v => v.category)).sum ≤ 8) (hLr : mz_rL 133 L = true) (hSr : mz_rS 133 st = true) (kk : mW y d Q n L (.int (bI o.1) :: st) o.2) : mW y d Q pc L (.int a3 :: .int a2 :: .int a1 :: .ref 0 :: st) M :=
  y_callV kmX11_seen kvX11_seen l_0 (by decide +kernel) (by decide +kernel) h hl (ok_ax_seen a1 a2 a3 M hf) (vs := [.int a1, .int a2, .int a3]) rfl rfl hd hsm hLr hSr kk
noncomputable def f_ax_may (a1 : Int32) (M : dM) : Option (Int32 × dM) :=
  if (f_ax_within a1 (gI M 12 7)) = true then
    (f_ax_study 2 M).bind fun q1 =>
    gd (vp_in a1 40) <|
    some ((gI q1 47 a1.toNatClampNeg), q1)
  else
    some ((-1), M)
theorem ok_ax_may (a1 : Int32) (M : dM) {o : (Int32 × dM)} (hf : f_ax_may a1 M = some o) : mO mX11_may 6 [.ref 0, .int a1] M (some (.int o.1)) o.2 := by
  refine y_ok (by decide +kernel) (by decide) (L0 := [some (.ref 0), some (.int a1)]) rfl ?_
  have hk := mR_mQ (some (.int o.1)) o.2
  generalize mQ _ _ = Q at hk ⊢
  unfold f_ax_may at hf
  refine y_iload_n (i := 1) (n := 1) ⟨dX11_may_0, rfl⟩ rfl ?_
  refine y_aload_n (i := 0) (n := 2) ⟨dX11_may_1, rfl⟩ rfl ?_
  refine y_getR (n := 5) ⟨dX11_may_2, rfl⟩ kfX11_26 l_0 rfl r_0_2 ?_
  refine y_getI (n := 8) ⟨dX11_may_5, rfl⟩ kfX11_146 l_12 rfl ?_
  refine c_ax_within a1 (gI M 12 7) M (n := 11) ⟨dX11_may_8, rfl⟩ klX11_91 rfl (by decide) (Nat.le_of_ble_eq_true rfl) rfl rfl ?_
  refine y_if_ne (t := 16) (n := 14) ⟨dX11_may_11, rfl, rfl⟩ (fun h0 => ?_) (fun h0 => ?_)
  · have hc := bI_1 h0
    replace hf := i_t hc hf
    refine y_aload_n (i := 0) (n := 17) ⟨dX11_may_16, rfl⟩ rfl ?_
    refine y_iconst (n := 18) (v := 2) ⟨dX11_may_17, rfl⟩ ki_2 ?_
    obtain ⟨q1, hv2, hf⟩ := b_s hf
    refine c_ax_study 2 M (n := 21) ⟨dX11_may_18, rfl⟩ klX11_156 hv2 (by decide) (Nat.le_of_ble_eq_true rfl) rfl rfl ?_
    refine y_aload_n (i := 0) (n := 22) ⟨dX11_may_21, rfl⟩ rfl ?_
    refine y_getR (n := 25) ⟨dX11_may_22, rfl⟩ kfX11_65 l_0 rfl r_0_7 ?_
    refine y_getR (n := 28) ⟨dX11_may_25, rfl⟩ kfX11_222 l_45 rfl r_45_5 ?_
    refine y_iload_n (i := 1) (n := 29) ⟨dX11_may_28, rfl⟩ rfl ?_
    obtain ⟨hg3, hf⟩ := g_s hf
    refine y_iaload (n := 30) ⟨dX11_may_29, rfl⟩ l_47 hg3 ?_
    cases hf
    exact y_ireturn (n := 31) ⟨dX11_may_30, rfl⟩ rfl rfl hk
  · have hc := bI_0 h0
    replace hf := i_f hc hf
    refine y_iconst (n := 15) (v := (-1)) ⟨dX11_may_14, rfl⟩ ki_m1 ?_
    cases hf
    exact y_ireturn (n := 16) ⟨dX11_may_15, rfl⟩ rfl rfl hk
theorem c_ax_may (a1 : Int32) (M : dM) {o : (Int32 × dM)} {y : mz_M} {d : Nat} {Q : mz_P} {pc n i : Nat} {L : List (Option Value)} {st : List Value} (h : mz_d y.2.1 pc n 3 (.invokevirtual i)) (hl : mz_ml y.1.cls i yX11_may) (hf : f_ax_may a1 M = some o) (hd : 6 + 1 ≤ d) (hsm : (st.map (fun v => v.category)).sum ≤ 8) (hLr : mz_rL 133 L = true) (hSr : mz_rS 133 st = true) (kk : mW y d Q n L (.int o.1 :: st) o.2) : mW y d Q pc L (.int a1 :: .ref 0 :: st) M :=
  y_callV kmX11_may kvX11_may l_0 (by decide +kernel) (by decide +kernel) h hl (ok_ax_may a1 M hf) (vs := [.int a1]) rfl rfl hd hsm hLr hSr kk
noncomputable def f_ax_put (a1 : Int32) (M : dM) : Option (Int32 × dM) :=
  if (f_ax_within a1 (gI M 12 7)) = true then
    (f_ax_study 2 M).bind fun q1 =>
    if (f_ax_hasBit (gJ q1 45 6) a1) = true then
      some (1, q1)
    else
      some (0, q1)
  else
    some ((-1), M)
theorem ok_ax_put (a1 : Int32) (M : dM) {o : (Int32 × dM)} (hf : f_ax_put a1 M = some o) : mO mX11_put 6 [.ref 0, .int a1] M (some (.int o.1)) o.2 := by
  refine y_ok (by decide +kernel) (by decide) (L0 := [some (.ref 0), some (.int a1)]) rfl ?_
  have hk := mR_mQ (some (.int o.1)) o.2
  generalize mQ _ _ = Q at hk ⊢
  unfold f_ax_put at hf
  refine y_iload_n (i := 1) (n := 1) ⟨dX11_put_0, rfl⟩ rfl ?_
  refine y_aload_n (i := 0) (n := 2) ⟨dX11_put_1, rfl⟩ rfl ?_
  refine y_getR (n := 5) ⟨dX11_put_2, rfl⟩ kfX11_26 l_0 rfl r_0_2 ?_
  refine y_getI (n := 8) ⟨dX11_put_5, rfl⟩ kfX11_146 l_12 rfl ?_
  refine c_ax_within a1 (gI M 12 7) M (n := 11) ⟨dX11_put_8, rfl⟩ klX11_91 rfl (by decide) (Nat.le_of_ble_eq_true rfl) rfl rfl ?_
  refine y_if_ne (t := 16) (n := 14) ⟨dX11_put_11, rfl, rfl⟩ (fun h0 => ?_) (fun h0 => ?_)
  · have hc := bI_1 h0
    replace hf := i_t hc hf
    refine y_aload_n (i := 0) (n := 17) ⟨dX11_put_16, rfl⟩ rfl ?_
    refine y_iconst (n := 18) (v := 2) ⟨dX11_put_17, rfl⟩ ki_2 ?_
    obtain ⟨q1, hv2, hf⟩ := b_s hf
    refine c_ax_study 2 M (n := 21) ⟨dX11_put_18, rfl⟩ klX11_156 hv2 (by decide) (Nat.le_of_ble_eq_true rfl) rfl rfl ?_
    refine y_aload_n (i := 0) (n := 22) ⟨dX11_put_21, rfl⟩ rfl ?_
    refine y_getR (n := 25) ⟨dX11_put_22, rfl⟩ kfX11_65 l_0 rfl r_0_7 ?_
    refine y_getJ (n := 28) ⟨dX11_put_25, rfl⟩ kfX11_225 l_45 rfl ?_
    refine y_iload_n (i := 1) (n := 29) ⟨dX11_put_28, rfl⟩ rfl ?_
    refine c_ax_hasBit (gJ q1 45 6) a1 q1 (n := 32) ⟨dX11_put_29, rfl⟩ klX11_120 rfl (by decide) (Nat.le_of_ble_eq_true rfl) rfl rfl ?_
    refine y_if_eq (t := 39) (n := 35) ⟨dX11_put_32, rfl, rfl⟩ (fun h0 => ?_) (fun h0 => ?_)
    · have hc := bI_0 h0
      replace hf := i_f hc hf
      refine y_iconst (n := 40) (v := 0) ⟨dX11_put_39, rfl⟩ ki_0 ?_
      cases hf
      exact y_ireturn (n := 41) ⟨dX11_put_40, rfl⟩ rfl rfl hk
    · have hc := bI_1 h0
      replace hf := i_t hc hf
      refine y_iconst (n := 36) (v := 1) ⟨dX11_put_35, rfl⟩ ki_1 ?_
      refine y_goto (t := 40) ⟨dX11_put_36, rfl, rfl⟩ ?_
      cases hf
      exact y_ireturn (n := 41) ⟨dX11_put_40, rfl⟩ rfl rfl hk
  · have hc := bI_0 h0
    replace hf := i_f hc hf
    refine y_iconst (n := 15) (v := (-1)) ⟨dX11_put_14, rfl⟩ ki_m1 ?_
    cases hf
    exact y_ireturn (n := 16) ⟨dX11_put_15, rfl⟩ rfl rfl hk
theorem c_ax_put (a1 : Int32) (M : dM) {o : (Int32 × dM)} {y : mz_M} {d : Nat} {Q : mz_P} {pc n i : Nat} {L : List (Option Value)} {st : List Value} (h : mz_d y.2.1 pc n 3 (.invokevirtual i)) (hl : mz_ml y.1.cls i yX11_put) (hf : f_ax_put a1 M = some o) (hd : 6 + 1 ≤ d) (hsm : (st.map (fun v => v.category)).sum ≤ 8) (hLr : mz_rL 133 L = true) (hSr : mz_rS 133 st = true) (kk : mW y d Q n L (.int o.1 :: st) o.2) : mW y d Q pc L (.int a1 :: .ref 0 :: st) M :=
  y_callV kmX11_put kvX11_put l_0 (by decide +kernel) (by decide +kernel) h hl (ok_ax_put a1 M hf) (vs := [.int a1]) rfl rfl hd hsm hLr hSr kk
noncomputable def f_sy_answer (a1 : Int32) (M : dM) : Int32 :=
  if a1 = 0 then
    (gI M 45 9)
  else
    if (gI M 45 9) = 0 then
      (-1)
    else
      if a1 = 1 then
        (gI M 45 10)
      else
      if a1 = 2 then
        (gI M 45 11)
      else
      if a1 = 3 then
        (gI M 45 12)
      else
      (gI M 45 13)
theorem ok_sy_answer (a1 : Int32) (M : dM) {o : Int32} (hf : f_sy_answer a1 M = o) : mO mX8_answer 1 [.ref 45, .int a1] M (some (.int o)) M := by
  refine y_ok (by decide +kernel) (by decide) (L0 := [some (.ref 45), some (.int a1)]) rfl ?_
  have hk := mR_mQ (some (.int o)) M
  generalize mQ _ _ = Q at hk ⊢
  unfold f_sy_answer at hf
  refine y_iload_n (i := 1) (n := 1) ⟨dX8_answer_0, rfl⟩ rfl ?_
  refine y_if_ne (t := 9) (n := 4) ⟨dX8_answer_1, rfl, rfl⟩ (fun (hc : ¬ (a1 = 0)) => ?_) (fun (hc : a1 = 0) => ?_)
  · replace hf := i_f hc hf
    refine y_aload_n (i := 0) (n := 10) ⟨dX8_answer_9, rfl⟩ rfl ?_
    refine y_getI (n := 13) ⟨dX8_answer_10, rfl⟩ kfX8_129 l_45 rfl ?_
    refine y_if_ne (t := 18) (n := 16) ⟨dX8_answer_13, rfl, rfl⟩ (fun (hc : ¬ ((gI M 45 9) = 0)) => ?_) (fun (hc : (gI M 45 9) = 0) => ?_)
    · replace hf := i_f hc hf
      refine y_iload_n (i := 1) (n := 19) ⟨dX8_answer_18, rfl⟩ rfl ?_
      by_cases hc0 : a1 = 1
      · replace hf := i_t hc0 hf
        refine y_tabIn (t := 44) (off := 25) dX8_answer_19 (sw_lo hc0 (by decide)) (sw_hi hc0 (by decide)) (sw_at hc0 (by decide)) rfl ?_
        refine y_aload_n (i := 0) (n := 45) ⟨dX8_answer_44, rfl⟩ rfl ?_
        refine y_getI (n := 48) ⟨dX8_answer_45, rfl⟩ kfX8_132 l_45 rfl ?_
        cases hf
        exact y_ireturn (n := 49) ⟨dX8_answer_48, rfl⟩ rfl rfl hk
      replace hf := i_f hc0 hf
      by_cases hc1 : a1 = 2
      · replace hf := i_t hc1 hf
        refine y_tabIn (t := 49) (off := 30) dX8_answer_19 (sw_lo hc1 (by decide)) (sw_hi hc1 (by decide)) (sw_at hc1 (by decide)) rfl ?_
        refine y_aload_n (i := 0) (n := 50) ⟨dX8_answer_49, rfl⟩ rfl ?_
        refine y_getI (n := 53) ⟨dX8_answer_50, rfl⟩ kfX8_135 l_45 rfl ?_
        cases hf
        exact y_ireturn (n := 54) ⟨dX8_answer_53, rfl⟩ rfl rfl hk
      replace hf := i_f hc1 hf
      by_cases hc2 : a1 = 3
      · replace hf := i_t hc2 hf
        refine y_tabIn (t := 54) (off := 35) dX8_answer_19 (sw_lo hc2 (by decide)) (sw_hi hc2 (by decide)) (sw_at hc2 (by decide)) rfl ?_
        refine y_aload_n (i := 0) (n := 55) ⟨dX8_answer_54, rfl⟩ rfl ?_
        refine y_getI (n := 58) ⟨dX8_answer_55, rfl⟩ kfX8_138 l_45 rfl ?_
        cases hf
        exact y_ireturn (n := 59) ⟨dX8_answer_58, rfl⟩ rfl rfl hk
      replace hf := i_f hc2 hf
      refine y_tabOut (t := 59) dX8_answer_19 (sw_out (lo := 1) (cs := [1, 2, 3]) (by decide) (by decide) ⟨hc0, hc1, hc2, trivial⟩) rfl ?_
      refine y_aload_n (i := 0) (n := 60) ⟨dX8_answer_59, rfl⟩ rfl ?_
      refine y_getI (n := 63) ⟨dX8_answer_60, rfl⟩ kfX8_141 l_45 rfl ?_
      cases hf
      exact y_ireturn (n := 64) ⟨dX8_answer_63, rfl⟩ rfl rfl hk
    · replace hf := i_t hc hf
      refine y_iconst (n := 17) (v := (-1)) ⟨dX8_answer_16, rfl⟩ ki_m1 ?_
      cases hf
      exact y_ireturn (n := 18) ⟨dX8_answer_17, rfl⟩ rfl rfl hk
  · replace hf := i_t hc hf
    refine y_aload_n (i := 0) (n := 5) ⟨dX8_answer_4, rfl⟩ rfl ?_
    refine y_getI (n := 8) ⟨dX8_answer_5, rfl⟩ kfX8_129 l_45 rfl ?_
    cases hf
    exact y_ireturn (n := 9) ⟨dX8_answer_8, rfl⟩ rfl rfl hk
theorem c_sy_answer (a1 : Int32) (M : dM) {o : Int32} {y : mz_M} {d : Nat} {Q : mz_P} {pc n i : Nat} {L : List (Option Value)} {st : List Value} (h : mz_d y.2.1 pc n 3 (.invokevirtual i)) (hl : mz_ml y.1.cls i yX8_answer) (hf : f_sy_answer a1 M = o) (hd : 1 + 1 ≤ d) (hsm : (st.map (fun v => v.category)).sum ≤ 8) (hLr : mz_rL 133 L = true) (hSr : mz_rS 133 st = true) (kk : mW y d Q n L (.int o :: st) M) : mW y d Q pc L (.int a1 :: .ref 45 :: st) M :=
  y_callV kmX8_answer kvX8_answer l_45 (by decide +kernel) (by decide +kernel) h hl (ok_sy_answer a1 M hf) (vs := [.int a1]) rfl rfl hd hsm hLr hSr kk
noncomputable def f_ax_stories (a1 : Int32) (M : dM) : Option (Int32 × dM) :=
  if (f_ax_within a1 5) = true then
    (f_ax_study 2 M).bind fun q1 =>
    some ((f_sy_answer a1 q1), q1)
  else
    some ((-1), M)
theorem ok_ax_stories (a1 : Int32) (M : dM) {o : (Int32 × dM)} (hf : f_ax_stories a1 M = some o) : mO mX11_stories 6 [.ref 0, .int a1] M (some (.int o.1)) o.2 := by
  refine y_ok (by decide +kernel) (by decide) (L0 := [some (.ref 0), some (.int a1)]) rfl ?_
  have hk := mR_mQ (some (.int o.1)) o.2
  generalize mQ _ _ = Q at hk ⊢
  unfold f_ax_stories at hf
  refine y_iload_n (i := 1) (n := 1) ⟨dX11_stories_0, rfl⟩ rfl ?_
  refine y_iconst (n := 2) (v := 5) ⟨dX11_stories_1, rfl⟩ ki_5 ?_
  refine c_ax_within a1 5 M (n := 5) ⟨dX11_stories_2, rfl⟩ klX11_91 rfl (by decide) (Nat.le_of_ble_eq_true rfl) rfl rfl ?_
  refine y_if_ne (t := 10) (n := 8) ⟨dX11_stories_5, rfl, rfl⟩ (fun h0 => ?_) (fun h0 => ?_)
  · have hc := bI_1 h0
    replace hf := i_t hc hf
    refine y_aload_n (i := 0) (n := 11) ⟨dX11_stories_10, rfl⟩ rfl ?_
    refine y_iconst (n := 12) (v := 2) ⟨dX11_stories_11, rfl⟩ ki_2 ?_
    obtain ⟨q1, hv2, hf⟩ := b_s hf
    refine c_ax_study 2 M (n := 15) ⟨dX11_stories_12, rfl⟩ klX11_156 hv2 (by decide) (Nat.le_of_ble_eq_true rfl) rfl rfl ?_
    refine y_aload_n (i := 0) (n := 16) ⟨dX11_stories_15, rfl⟩ rfl ?_
    refine y_getR (n := 19) ⟨dX11_stories_16, rfl⟩ kfX11_65 l_0 rfl r_0_7 ?_
    refine y_iload_n (i := 1) (n := 20) ⟨dX11_stories_19, rfl⟩ rfl ?_
    refine c_sy_answer a1 q1 (n := 23) ⟨dX11_stories_20, rfl⟩ klX11_229 rfl (by decide) (Nat.le_of_ble_eq_true rfl) rfl rfl ?_
    cases hf
    exact y_ireturn (n := 24) ⟨dX11_stories_23, rfl⟩ rfl rfl hk
  · have hc := bI_0 h0
    replace hf := i_f hc hf
    refine y_iconst (n := 9) (v := (-1)) ⟨dX11_stories_8, rfl⟩ ki_m1 ?_
    cases hf
    exact y_ireturn (n := 10) ⟨dX11_stories_9, rfl⟩ rfl rfl hk
theorem c_ax_stories (a1 : Int32) (M : dM) {o : (Int32 × dM)} {y : mz_M} {d : Nat} {Q : mz_P} {pc n i : Nat} {L : List (Option Value)} {st : List Value} (h : mz_d y.2.1 pc n 3 (.invokevirtual i)) (hl : mz_ml y.1.cls i yX11_stories) (hf : f_ax_stories a1 M = some o) (hd : 6 + 1 ≤ d) (hsm : (st.map (fun v => v.category)).sum ≤ 8) (hLr : mz_rL 133 L = true) (hSr : mz_rS 133 st = true) (kk : mW y d Q n L (.int o.1 :: st) o.2) : mW y d Q pc L (.int a1 :: .ref 0 :: st) M :=
  y_callV kmX11_stories kvX11_stories l_0 (by decide +kernel) (by decide +kernel) h hl (ok_ax_stories a1 M hf) (vs := [.int a1]) rfl rfl hd hsm hLr hSr kk
noncomputable def f_to_allFinds (M : dM) : Int64 :=
  (((1 : Int64) <<< ((gI M 12 7).toInt64 &&& 63)) - 1)
theorem ok_to_allFinds  (M : dM) {o : Int64} (hf : f_to_allFinds M = o) : mO mX9_allFinds 1 [.ref 12] M (some (.long o)) M := by
  refine y_ok (by decide +kernel) (by decide) (L0 := [some (.ref 12)]) rfl ?_
  have hk := mR_mQ (some (.long o)) M
  generalize mQ _ _ = Q at hk ⊢
  unfold f_to_allFinds at hf
  refine y_lconst (n := 1) (v := 1) ⟨dX9_allFinds_0, rfl⟩ kl_1 ?_
  refine y_aload_n (i := 0) (n := 2) ⟨dX9_allFinds_1, rfl⟩ rfl ?_
  refine y_getI (n := 5) ⟨dX9_allFinds_2, rfl⟩ kfX9_45 l_12 rfl ?_
  refine y_lshl (n := 6) ⟨dX9_allFinds_5, rfl⟩ ?_
  refine y_lconst (n := 7) (v := 1) ⟨dX9_allFinds_6, rfl⟩ kl_1 ?_
  refine y_lsub (n := 8) ⟨dX9_allFinds_7, rfl⟩ ?_
  cases hf
  exact y_lreturn (n := 9) ⟨dX9_allFinds_8, rfl⟩ rfl hk
theorem c_to_allFinds  (M : dM) {o : Int64} {y : mz_M} {d : Nat} {Q : mz_P} {pc n i : Nat} {L : List (Option Value)} {st : List Value} (h : mz_d y.2.1 pc n 3 (.invokevirtual i)) (hl : mz_ml y.1.cls i yX9_allFinds) (hf : f_to_allFinds M = o) (hd : 1 + 1 ≤ d) (hsm : (st.map (fun v => v.category)).sum ≤ 8) (hLr : mz_rL 133 L = true) (hSr : mz_rS 133 st = true) (kk : mW y d Q n L (.long o :: st) M) : mW y d Q pc L (.ref 12 :: st) M :=
  y_callV kmX9_allFinds kvX9_allFinds l_12 (by decide +kernel) (by decide +kernel) h hl (ok_to_allFinds  M hf) (vs := []) rfl rfl hd hsm hLr hSr kk
def K_cl_tellGround_6 (Q : mz_P) (x1 : Int32) (x2 : Int64) (x4 : Int32) (M : dM) : ((Int32 × Int32) ⊕ Int32) → Prop
  | .inl s => mW mX1_tellGround 1 Q 6 [some (.ref 50), some (.int x1), some (.long x2), none, some (.int x4), some (.int s.1), some (.int s.2)] [] M
  | .inr t => mW mX1_tellGround 1 Q 35 [some (.ref 50), some (.int x1), some (.long x2), none, some (.int x4), some (.int t), none] [] M
noncomputable def b_cl_tellGround_6_6 (x1 : Int32) (x2 : Int64) (x4 : Int32) (x5 : Int32) (x6 : Int32) (M : dM) : Option ((Int32 × Int32) ⊕ Int32) :=
  if (gI M 50 4) ≤ x6 then
    some (.inr x5)
  else
    gd (vp_in x6 36) <|
    if (gI M 51 x6.toNatClampNeg) = x1 then
      some (.inl ((x5 + 1), (x6 + 1)))
    else
      some (.inl (x5, (x6 + 1)))
noncomputable def l_cl_tellGround_6 (x1 : Int32) (x2 : Int64) (x4 : Int32) (x5 : Int32) (x6 : Int32) (M : dM) : Option Int32 := lpc (fun s => b_cl_tellGround_6_6 x1 x2 x4 s.1 s.2 M) (x5, x6)
noncomputable def f_cl_tellGround (a1 : Int32) (a2 : Int64) (a3 : Int32) (M : dM) : Option (Bool × dM) :=
  (l_cl_tellGround_6 a1 a2 a3 0 0 M).bind fun t2 =>
    if 3 ≤ t2 then
      some (false, M)
    else
      if (gI M 50 4) < 36 then
        gd (vp_in (gI M 50 4) 36) <|
        gd (vp_in (gI (sI M 51 (gI M 50 4).toNatClampNeg a1) 50 4) 36) <|
        gd (vp_in (gI (sJ (sI M 51 (gI M 50 4).toNatClampNeg a1) 52 (gI (sI M 51 (gI M 50 4).toNatClampNeg a1) 50 4).toNatClampNeg a2) 50 4) 36) <|
        some (true, (sI (sI (sJ (sI M 51 (gI M 50 4).toNatClampNeg a1) 52 (gI (sI M 51 (gI M 50 4).toNatClampNeg a1) 50 4).toNatClampNeg a2) 53 (gI (sJ (sI M 51 (gI M 50 4).toNatClampNeg a1) 52 (gI (sI M 51 (gI M 50 4).toNatClampNeg a1) 50 4).toNatClampNeg a2) 50 4).toNatClampNeg a3) 50 4 ((gI (sI (sJ (sI M 51 (gI M 50 4).toNatClampNeg a1) 52 (gI (sI M 51 (gI M 50 4).toNatClampNeg a1) 50 4).toNatClampNeg a2) 53 (gI (sJ (sI M 51 (gI M 50 4).toNatClampNeg a1) 52 (gI (sI M 51 (gI M 50 4).toNatClampNeg a1) 50 4).toNatClampNeg a2) 50 4).toNatClampNeg a3) 50 4) + 1)))
      else
        some (false, M)
theorem w_b_cl_tellGround_6_6 (x1 : Int32) (x2 : Int64) (x4 : Int32) (x5 : Int32) (x6 : Int32) (M : dM) {Q : mz_P} {o : ((Int32 × Int32) ⊕ Int32)} (hf : b_cl_tellGround_6_6 x1 x2 x4 x5 x6 M = some o) (hk : K_cl_tellGround_6 Q x1 x2 x4 M o) : mW mX1_tellGround 1 Q 6 [some (.ref 50), some (.int x1), some (.long x2), none, some (.int x4), some (.int x5), some (.int x6)] [] M := by
  unfold b_cl_tellGround_6_6 at hf
  refine y_iload (i := 6) (n := 8) ⟨dX1_tellGround_6, rfl⟩ rfl ?_
  refine y_aload_n (i := 0) (n := 9) ⟨dX1_tellGround_8, rfl⟩ rfl ?_
  refine y_getI (n := 12) ⟨dX1_tellGround_9, rfl⟩ kfX1_39 l_50 rfl ?_
  refine y_icmp_ge (t := 35) (n := 15) ⟨dX1_tellGround_12, rfl, rfl⟩ (fun (hc : (gI M 50 4) ≤ x6) => ?_) (fun (hc : ¬ ((gI M 50 4) ≤ x6)) => ?_)
  · replace hf := i_t hc hf
    cases hf
    exact y_wk ⟨Or.inr rfl, Or.inr rfl, Or.inr rfl, Or.inr rfl, Or.inr rfl, Or.inr rfl, Or.inl rfl, trivial⟩ hk
  · replace hf := i_f hc hf
    refine y_aload_n (i := 0) (n := 16) ⟨dX1_tellGround_15, rfl⟩ rfl ?_
    refine y_getR (n := 19) ⟨dX1_tellGround_16, rfl⟩ kfX1_9 l_50 rfl r_50_1 ?_
    refine y_iload (i := 6) (n := 21) ⟨dX1_tellGround_19, rfl⟩ rfl ?_
    obtain ⟨hg1, hf⟩ := g_s hf
    refine y_iaload (n := 22) ⟨dX1_tellGround_21, rfl⟩ l_51 hg1 ?_
    refine y_iload_n (i := 1) (n := 23) ⟨dX1_tellGround_22, rfl⟩ rfl ?_
    refine y_icmp_ne (t := 29) (n := 26) ⟨dX1_tellGround_23, rfl, rfl⟩ (fun (hc : ¬ ((gI M 51 x6.toNatClampNeg) = x1)) => ?_) (fun (hc : (gI M 51 x6.toNatClampNeg) = x1) => ?_)
    · replace hf := i_f hc hf
      refine y_iinc (i := 6) (n := 32) (b := (x6 + 1)) (L2 := [some (.ref 50), some (.int x1), some (.long x2), none, some (.int x4), some (.int x5), some (.int (x6 + 1))]) ⟨dX1_tellGround_29, rfl⟩ rfl (by rw [ki_1]) (by decide) rfl rfl ?_
      refine y_goto (t := 6) ⟨dX1_tellGround_32, rfl, rfl⟩ ?_
      cases hf
      exact y_wk ⟨Or.inr rfl, Or.inr rfl, Or.inr rfl, Or.inr rfl, Or.inr rfl, Or.inr rfl, Or.inr rfl, trivial⟩ hk
    · replace hf := i_t hc hf
      refine y_iinc (i := 5) (n := 29) (b := (x5 + 1)) (L2 := [some (.ref 50), some (.int x1), some (.long x2), none, some (.int x4), some (.int (x5 + 1)), some (.int x6)]) ⟨dX1_tellGround_26, rfl⟩ rfl (by rw [ki_1]) (by decide) rfl rfl ?_
      refine y_iinc (i := 6) (n := 32) (b := (x6 + 1)) (L2 := [some (.ref 50), some (.int x1), some (.long x2), none, some (.int x4), some (.int (x5 + 1)), some (.int (x6 + 1))]) ⟨dX1_tellGround_29, rfl⟩ rfl (by rw [ki_1]) (by decide) rfl rfl ?_
      refine y_goto (t := 6) ⟨dX1_tellGround_32, rfl, rfl⟩ ?_
      cases hf
      exact y_wk ⟨Or.inr rfl, Or.inr rfl, Or.inr rfl, Or.inr rfl, Or.inr rfl, Or.inr rfl, Or.inr rfl, trivial⟩ hk
theorem wl_cl_tellGround_6 (x1 : Int32) (x2 : Int64) (x4 : Int32) (x5 : Int32) (x6 : Int32) (M : dM) {Q : mz_P} {x : Int32} (hf : l_cl_tellGround_6 x1 x2 x4 x5 x6 M = some x) (hk : K_cl_tellGround_6 Q x1 x2 x4 M (.inr x)) : mW mX1_tellGround 1 Q 6 [some (.ref 50), some (.int x1), some (.long x2), none, some (.int x4), some (.int x5), some (.int x6)] [] M :=
  lpc_wp (Wh := fun s => mW mX1_tellGround 1 Q 6 [some (.ref 50), some (.int x1), some (.long x2), none, some (.int x4), some (.int s.1), some (.int s.2)] [] M) (K := K_cl_tellGround_6 Q x1 x2 x4 M) (fun _ h => h) (fun s o hb hk => w_b_cl_tellGround_6_6 x1 x2 x4 s.1 s.2 M hb hk) hf hk
theorem ok_cl_tellGround (a1 : Int32) (a2 : Int64) (a3 : Int32) (M : dM) {o : (Bool × dM)} (hf : f_cl_tellGround a1 a2 a3 M = some o) : mO mX1_tellGround 1 [.ref 50, .int a1, .long a2, .int a3] M (some (.int (bI o.1))) o.2 := by
  refine y_ok (by decide +kernel) (by decide) (L0 := [some (.ref 50), some (.int a1), some (.long a2), none, some (.int a3), none, none]) rfl ?_
  have hk := mR_mQ (some (.int (bI o.1))) o.2
  generalize mQ _ _ = Q at hk ⊢
  unfold f_cl_tellGround at hf
  refine y_iconst (n := 1) (v := 0) ⟨dX1_tellGround_0, rfl⟩ ki_0 ?_
  refine y_istore (i := 5) (n := 3) (L2 := [some (.ref 50), some (.int a1), some (.long a2), none, some (.int a3), some (.int 0), none]) ⟨dX1_tellGround_1, rfl⟩ (by decide) rfl rfl ?_
  refine y_iconst (n := 4) (v := 0) ⟨dX1_tellGround_3, rfl⟩ ki_0 ?_
  refine y_istore (i := 6) (n := 6) (L2 := [some (.ref 50), some (.int a1), some (.long a2), none, some (.int a3), some (.int 0), some (.int 0)]) ⟨dX1_tellGround_4, rfl⟩ (by decide) rfl rfl ?_
  obtain ⟨t2, hl3, hf⟩ := b_s hf
  refine y_wk ⟨Or.inr rfl, Or.inr rfl, Or.inr rfl, Or.inr rfl, Or.inr rfl, Or.inr rfl, Or.inr rfl, trivial⟩ (wl_cl_tellGround_6 a1 a2 a3 0 0 M hl3 ?_)
  show mW mX1_tellGround 1 Q 35 [some (.ref 50), some (.int a1), some (.long a2), none, some (.int a3), some (.int t2), none] [] M
  refine y_iload (i := 5) (n := 37) ⟨dX1_tellGround_35, rfl⟩ rfl ?_
  refine y_iconst (n := 38) (v := 3) ⟨dX1_tellGround_37, rfl⟩ ki_3 ?_
  refine y_icmp_ge (t := 50) (n := 41) ⟨dX1_tellGround_38, rfl, rfl⟩ (fun (hc : 3 ≤ t2) => ?_) (fun (hc : ¬ (3 ≤ t2)) => ?_)
  · replace hf := i_t hc hf
    refine y_iconst (n := 51) (v := 0) ⟨dX1_tellGround_50, rfl⟩ ki_0 ?_
    cases hf
    exact y_ireturn (n := 52) ⟨dX1_tellGround_51, rfl⟩ rfl rfl hk
  · replace hf := i_f hc hf
    refine y_aload_n (i := 0) (n := 42) ⟨dX1_tellGround_41, rfl⟩ rfl ?_
    refine y_getI (n := 45) ⟨dX1_tellGround_42, rfl⟩ kfX1_39 l_50 rfl ?_
    refine y_bipush (n := 47) (v := 36) ⟨dX1_tellGround_45, rfl⟩ kb_36 ?_
    refine y_icmp_lt (t := 52) (n := 50) ⟨dX1_tellGround_47, rfl, rfl⟩ (fun (hc : (gI M 50 4) < 36) => ?_) (fun (hc : ¬ ((gI M 50 4) < 36)) => ?_)
    · replace hf := i_t hc hf
      refine y_aload_n (i := 0) (n := 53) ⟨dX1_tellGround_52, rfl⟩ rfl ?_
      refine y_getR (n := 56) ⟨dX1_tellGround_53, rfl⟩ kfX1_9 l_50 rfl r_50_1 ?_
      refine y_aload_n (i := 0) (n := 57) ⟨dX1_tellGround_56, rfl⟩ rfl ?_
      refine y_getI (n := 60) ⟨dX1_tellGround_57, rfl⟩ kfX1_39 l_50 rfl ?_
      refine y_iload_n (i := 1) (n := 61) ⟨dX1_tellGround_60, rfl⟩ rfl ?_
      obtain ⟨hg5, hf⟩ := g_s hf
      refine y_iastore (n := 62) ⟨dX1_tellGround_61, rfl⟩ l_51 hg5 ?_
      refine y_aload_n (i := 0) (n := 63) ⟨dX1_tellGround_62, rfl⟩ rfl ?_
      refine y_getR (n := 66) ⟨dX1_tellGround_63, rfl⟩ kfX1_15 l_50 rfl r_50_2 ?_
      refine y_aload_n (i := 0) (n := 67) ⟨dX1_tellGround_66, rfl⟩ rfl ?_
      refine y_getI (n := 70) ⟨dX1_tellGround_67, rfl⟩ kfX1_39 l_50 rfl ?_
      refine y_lload_n (i := 2) (n := 71) ⟨dX1_tellGround_70, rfl⟩ rfl ?_
      obtain ⟨hg6, hf⟩ := g_s hf
      refine y_lastore (n := 72) ⟨dX1_tellGround_71, rfl⟩ l_52 hg6 ?_
      refine y_aload_n (i := 0) (n := 73) ⟨dX1_tellGround_72, rfl⟩ rfl ?_
      refine y_getR (n := 76) ⟨dX1_tellGround_73, rfl⟩ kfX1_19 l_50 rfl r_50_3 ?_
      refine y_aload_n (i := 0) (n := 77) ⟨dX1_tellGround_76, rfl⟩ rfl ?_
      refine y_getI (n := 80) ⟨dX1_tellGround_77, rfl⟩ kfX1_39 l_50 rfl ?_
      refine y_iload (i := 4) (n := 82) ⟨dX1_tellGround_80, rfl⟩ rfl ?_
      obtain ⟨hg7, hf⟩ := g_s hf
      refine y_iastore (n := 83) ⟨dX1_tellGround_82, rfl⟩ l_53 hg7 ?_
      refine y_aload_n (i := 0) (n := 84) ⟨dX1_tellGround_83, rfl⟩ rfl ?_
      refine y_dup_r (n := 85) ⟨dX1_tellGround_84, rfl⟩ ?_
      refine y_getI (n := 88) ⟨dX1_tellGround_85, rfl⟩ kfX1_39 l_50 rfl ?_
      refine y_iconst (n := 89) (v := 1) ⟨dX1_tellGround_88, rfl⟩ ki_1 ?_
      refine y_iadd (n := 90) ⟨dX1_tellGround_89, rfl⟩ ?_
      refine y_putI (n := 93) ⟨dX1_tellGround_90, rfl⟩ kfX1_39 l_50 (by decide +kernel) rfl ?_
      refine y_iconst (n := 94) (v := 1) ⟨dX1_tellGround_93, rfl⟩ ki_1 ?_
      cases hf
      exact y_ireturn (n := 95) ⟨dX1_tellGround_94, rfl⟩ rfl rfl hk
    · replace hf := i_f hc hf
      refine y_iconst (n := 51) (v := 0) ⟨dX1_tellGround_50, rfl⟩ ki_0 ?_
      cases hf
      exact y_ireturn (n := 52) ⟨dX1_tellGround_51, rfl⟩ rfl rfl hk
theorem c_cl_tellGround (a1 : Int32) (a2 : Int64) (a3 : Int32) (M : dM) {o : (Bool × dM)} {y : mz_M} {d : Nat} {Q : mz_P} {pc n i : Nat} {L : List (Option Value)} {st : List Value} (h : mz_d y.2.1 pc n 3 (.invokevirtual i)) (hl : mz_ml y.1.cls i yX1_tellGround) (hf : f_cl_tellGround a1 a2 a3 M = some o) (hd : 1 + 1 ≤ d) (hsm : (st.map (fun v => v.category)).sum ≤ 8) (hLr : mz_rL 133 L = true) (hSr : mz_rS 133 st = true) (kk : mW y d Q n L (.int (bI o.1) :: st) o.2) : mW y d Q pc L (.int a3 :: .long a2 :: .int a1 :: .ref 50 :: st) M :=
  y_callV kmX1_tellGround kvX1_tellGround l_50 (by decide +kernel) (by decide +kernel) h hl (ok_cl_tellGround a1 a2 a3 M hf) (vs := [.int a1, .long a2, .int a3]) rfl rfl hd hsm hLr hSr kk
noncomputable def t_ax_ground_53 (x1 : Int32) (x2 : Int64) (x4 : Int32) (M : dM) : Option (Bool × dM) :=
  (f_cl_tellGround x1 x2 x4 M).bind fun q1 =>
  if q1.1 = true then
    some (true, (f_ax_changed q1.2))
  else
    some (false, q1.2)
noncomputable def f_ax_ground (a1 : Int32) (a2 : Int64) (a3 : Int32) (M : dM) : Option (Bool × dM) :=
  if (f_ax_within a1 12) = true then
    if (a2 &&& ((f_to_allFinds M) ^^^ (-1))) = 0 then
      if (f_ax_within a3 4096) = true then
        if a2 = 0 then
          if a3 = 0 then
            some (false, M)
          else
            t_ax_ground_53 a1 a2 a3 M
        else
          t_ax_ground_53 a1 a2 a3 M
      else
        some (false, M)
    else
      some (false, M)
  else
    some (false, M)
theorem w_t_ax_ground_53 (x1 : Int32) (x2 : Int64) (x4 : Int32) (M : dM) {Q : mz_P} {o : (Bool × dM)} (hf : t_ax_ground_53 x1 x2 x4 M = some o) (hk : mR Q (some (.int (bI o.1))) o.2) : mW mX11_ground 3 Q 53 [some (.ref 0), some (.int x1), some (.long x2), none, some (.int x4)] [] M := by
  unfold t_ax_ground_53 at hf
  refine y_aload_n (i := 0) (n := 54) ⟨dX11_ground_53, rfl⟩ rfl ?_
  refine y_getR (n := 57) ⟨dX11_ground_54, rfl⟩ kfX11_74 l_0 rfl r_0_8 ?_
  refine y_iload_n (i := 1) (n := 58) ⟨dX11_ground_57, rfl⟩ rfl ?_
  refine y_lload_n (i := 2) (n := 59) ⟨dX11_ground_58, rfl⟩ rfl ?_
  refine y_iload (i := 4) (n := 61) ⟨dX11_ground_59, rfl⟩ rfl ?_
  obtain ⟨q1, hv2, hf⟩ := b_s hf
  refine c_cl_tellGround x1 x2 x4 M (n := 64) ⟨dX11_ground_61, rfl⟩ klX11_236 hv2 (by decide) (Nat.le_of_ble_eq_true rfl) rfl rfl ?_
  refine y_if_ne (t := 69) (n := 67) ⟨dX11_ground_64, rfl, rfl⟩ (fun h0 => ?_) (fun h0 => ?_)
  · have hc := bI_1 h0
    replace hf := i_t hc hf
    refine y_aload_n (i := 0) (n := 70) ⟨dX11_ground_69, rfl⟩ rfl ?_
    refine c_ax_changed q1.2 (n := 73) ⟨dX11_ground_70, rfl⟩ klX11_99 rfl (by decide) (Nat.le_of_ble_eq_true rfl) rfl rfl ?_
    refine y_iconst (n := 74) (v := 1) ⟨dX11_ground_73, rfl⟩ ki_1 ?_
    cases hf
    exact y_ireturn (n := 75) ⟨dX11_ground_74, rfl⟩ rfl rfl hk
  · have hc := bI_0 h0
    replace hf := i_f hc hf
    refine y_iconst (n := 68) (v := 0) ⟨dX11_ground_67, rfl⟩ ki_0 ?_
    cases hf
    exact y_ireturn (n := 69) ⟨dX11_ground_68, rfl⟩ rfl rfl hk
theorem ok_ax_ground (a1 : Int32) (a2 : Int64) (a3 : Int32) (M : dM) {o : (Bool × dM)} (hf : f_ax_ground a1 a2 a3 M = some o) : mO mX11_ground 3 [.ref 0, .int a1, .long a2, .int a3] M (some (.int (bI o.1))) o.2 := by
  refine y_ok (by decide +kernel) (by decide) (L0 := [some (.ref 0), some (.int a1), some (.long a2), none, some (.int a3)]) rfl ?_
  have hk := mR_mQ (some (.int (bI o.1))) o.2
  generalize mQ _ _ = Q at hk ⊢
  unfold f_ax_ground at hf
  refine y_iload_n (i := 1) (n := 1) ⟨dX11_ground_0, rfl⟩ rfl ?_
  refine y_bipush (n := 3) (v := 12) ⟨dX11_ground_1, rfl⟩ kb_12 ?_
  refine c_ax_within a1 12 M (n := 6) ⟨dX11_ground_3, rfl⟩ klX11_91 rfl (by decide) (Nat.le_of_ble_eq_true rfl) rfl rfl ?_
  refine y_if_eq (t := 27) (n := 9) ⟨dX11_ground_6, rfl, rfl⟩ (fun h0 => ?_) (fun h0 => ?_)
  · have hc := bI_0 h0
    replace hf := i_f hc hf
    refine y_iconst (n := 28) (v := 0) ⟨dX11_ground_27, rfl⟩ ki_0 ?_
    cases hf
    exact y_ireturn (n := 29) ⟨dX11_ground_28, rfl⟩ rfl rfl hk
  · have hc := bI_1 h0
    replace hf := i_t hc hf
    refine y_lload_n (i := 2) (n := 10) ⟨dX11_ground_9, rfl⟩ rfl ?_
    refine y_aload_n (i := 0) (n := 11) ⟨dX11_ground_10, rfl⟩ rfl ?_
    refine y_getR (n := 14) ⟨dX11_ground_11, rfl⟩ kfX11_26 l_0 rfl r_0_2 ?_
    refine c_to_allFinds M (n := 17) ⟨dX11_ground_14, rfl⟩ klX11_232 rfl (by decide) (Nat.le_of_ble_eq_true rfl) rfl rfl ?_
    refine y_ldc2 (n := 20) ⟨dX11_ground_17, rfl⟩ kcX11_189 ?_
    refine y_lxor (n := 21) ⟨dX11_ground_20, rfl⟩ ?_
    refine y_land (n := 22) ⟨dX11_ground_21, rfl⟩ ?_
    refine y_lconst (n := 23) (v := 0) ⟨dX11_ground_22, rfl⟩ kl_0 ?_
    refine y_lcmp (n := 24) ⟨dX11_ground_23, rfl⟩ ?_
    refine y_if_eq (t := 29) (n := 27) ⟨dX11_ground_24, rfl, rfl⟩ (fun h0 => ?_) (fun h0 => ?_)
    · have hc : (a2 &&& ((f_to_allFinds M) ^^^ (-1))) = 0 := (lc_eq _ _).mp h0
      replace hf := i_t hc hf
      refine y_iload (i := 4) (n := 31) ⟨dX11_ground_29, rfl⟩ rfl ?_
      refine y_sipush (n := 34) (v := 4096) ⟨dX11_ground_31, rfl⟩ ks_4096 ?_
      refine c_ax_within a3 4096 M (n := 37) ⟨dX11_ground_34, rfl⟩ klX11_91 rfl (by decide) (Nat.le_of_ble_eq_true rfl) rfl rfl ?_
      refine y_if_eq (t := 51) (n := 40) ⟨dX11_ground_37, rfl, rfl⟩ (fun h0 => ?_) (fun h0 => ?_)
      · have hc := bI_0 h0
        replace hf := i_f hc hf
        refine y_iconst (n := 52) (v := 0) ⟨dX11_ground_51, rfl⟩ ki_0 ?_
        cases hf
        exact y_ireturn (n := 53) ⟨dX11_ground_52, rfl⟩ rfl rfl hk
      · have hc := bI_1 h0
        replace hf := i_t hc hf
        refine y_lload_n (i := 2) (n := 41) ⟨dX11_ground_40, rfl⟩ rfl ?_
        refine y_lconst (n := 42) (v := 0) ⟨dX11_ground_41, rfl⟩ kl_0 ?_
        refine y_lcmp (n := 43) ⟨dX11_ground_42, rfl⟩ ?_
        refine y_if_ne (t := 53) (n := 46) ⟨dX11_ground_43, rfl, rfl⟩ (fun h0 => ?_) (fun h0 => ?_)
        · have hc : ¬ (a2 = 0) := fun e => h0 ((lc_eq _ _).mpr e)
          replace hf := i_f hc hf
          exact y_wk ⟨Or.inr rfl, Or.inr rfl, Or.inr rfl, Or.inr rfl, Or.inr rfl, trivial⟩ (w_t_ax_ground_53 a1 a2 a3 M hf hk)
        · have hc : a2 = 0 := (lc_eq _ _).mp h0
          replace hf := i_t hc hf
          refine y_iload (i := 4) (n := 48) ⟨dX11_ground_46, rfl⟩ rfl ?_
          refine y_if_ne (t := 53) (n := 51) ⟨dX11_ground_48, rfl, rfl⟩ (fun (hc : ¬ (a3 = 0)) => ?_) (fun (hc : a3 = 0) => ?_)
          · replace hf := i_f hc hf
            exact y_wk ⟨Or.inr rfl, Or.inr rfl, Or.inr rfl, Or.inr rfl, Or.inr rfl, trivial⟩ (w_t_ax_ground_53 a1 a2 a3 M hf hk)
          · replace hf := i_t hc hf
            refine y_iconst (n := 52) (v := 0) ⟨dX11_ground_51, rfl⟩ ki_0 ?_
            cases hf
            exact y_ireturn (n := 53) ⟨dX11_ground_52, rfl⟩ rfl rfl hk
    · have hc : ¬ ((a2 &&& ((f_to_allFinds M) ^^^ (-1))) = 0) := fun e => h0 ((lc_eq _ _).mpr e)
      replace hf := i_f hc hf
      refine y_iconst (n := 28) (v := 0) ⟨dX11_ground_27, rfl⟩ ki_0 ?_
      cases hf
      exact y_ireturn (n := 29) ⟨dX11_ground_28, rfl⟩ rfl rfl hk
theorem c_ax_ground (a1 : Int32) (a2 : Int64) (a3 : Int32) (M : dM) {o : (Bool × dM)} {y : mz_M} {d : Nat} {Q : mz_P} {pc n i : Nat} {L : List (Option Value)} {st : List Value} (h : mz_d y.2.1 pc n 3 (.invokevirtual i)) (hl : mz_ml y.1.cls i yX11_ground) (hf : f_ax_ground a1 a2 a3 M = some o) (hd : 3 + 1 ≤ d) (hsm : (st.map (fun v => v.category)).sum ≤ 8) (hLr : mz_rL 133 L = true) (hSr : mz_rS 133 st = true) (kk : mW y d Q n L (.int (bI o.1) :: st) o.2) : mW y d Q pc L (.int a3 :: .long a2 :: .int a1 :: .ref 0 :: st) M :=
  y_callV kmX11_ground kvX11_ground l_0 (by decide +kernel) (by decide +kernel) h hl (ok_ax_ground a1 a2 a3 M hf) (vs := [.int a1, .long a2, .int a3]) rfl rfl hd hsm hLr hSr kk
def K_to_findsWithout_5 (Q : mz_P) (x1 : Int32) (M : dM) : ((Int64 × Int32) ⊕ Int64) → Prop
  | .inl s => mW mX9_findsWithout 1 Q 5 [some (.ref 12), some (.int x1), some (.long s.1), none, some (.int s.2)] [] M
  | .inr r => mR Q (some (.long r)) M
noncomputable def b_to_findsWithout_5_5 (x1 : Int32) (x2 : Int64) (x4 : Int32) (M : dM) : Option ((Int64 × Int32) ⊕ Int64) :=
  if (gI M 12 7) ≤ x4 then
    some (.inr x2)
  else
    gd (vp_in x4 40) <|
    if (gI M 17 x4.toNatClampNeg) = x1 then
      some (.inl (x2, (x4 + 1)))
    else
      some (.inl ((x2 ||| ((1 : Int64) <<< (x4.toInt64 &&& 63))), (x4 + 1)))
noncomputable def l_to_findsWithout_5 (x1 : Int32) (x2 : Int64) (x4 : Int32) (M : dM) : Option Int64 := lpc (fun s => b_to_findsWithout_5_5 x1 s.1 s.2 M) (x2, x4)
noncomputable def f_to_findsWithout (a1 : Int32) (M : dM) : Option Int64 :=
  (l_to_findsWithout_5 a1 0 0 M).bind fun r4 => some r4
theorem w_b_to_findsWithout_5_5 (x1 : Int32) (x2 : Int64) (x4 : Int32) (M : dM) {Q : mz_P} {o : ((Int64 × Int32) ⊕ Int64)} (hf : b_to_findsWithout_5_5 x1 x2 x4 M = some o) (hk : K_to_findsWithout_5 Q x1 M o) : mW mX9_findsWithout 1 Q 5 [some (.ref 12), some (.int x1), some (.long x2), none, some (.int x4)] [] M := by
  unfold b_to_findsWithout_5_5 at hf
  refine y_iload (i := 4) (n := 7) ⟨dX9_findsWithout_5, rfl⟩ rfl ?_
  refine y_aload_n (i := 0) (n := 8) ⟨dX9_findsWithout_7, rfl⟩ rfl ?_
  refine y_getI (n := 11) ⟨dX9_findsWithout_8, rfl⟩ kfX9_45 l_12 rfl ?_
  refine y_icmp_ge (t := 38) (n := 14) ⟨dX9_findsWithout_11, rfl, rfl⟩ (fun (hc : (gI M 12 7) ≤ x4) => ?_) (fun (hc : ¬ ((gI M 12 7) ≤ x4)) => ?_)
  · replace hf := i_t hc hf
    refine y_lload_n (i := 2) (n := 39) ⟨dX9_findsWithout_38, rfl⟩ rfl ?_
    cases hf
    exact y_lreturn (n := 40) ⟨dX9_findsWithout_39, rfl⟩ rfl hk
  · replace hf := i_f hc hf
    refine y_aload_n (i := 0) (n := 15) ⟨dX9_findsWithout_14, rfl⟩ rfl ?_
    refine y_getR (n := 18) ⟨dX9_findsWithout_15, rfl⟩ kfX9_24 l_12 rfl r_12_4 ?_
    refine y_iload (i := 4) (n := 20) ⟨dX9_findsWithout_18, rfl⟩ rfl ?_
    obtain ⟨hg1, hf⟩ := g_s hf
    refine y_iaload (n := 21) ⟨dX9_findsWithout_20, rfl⟩ l_17 hg1 ?_
    refine y_iload_n (i := 1) (n := 22) ⟨dX9_findsWithout_21, rfl⟩ rfl ?_
    refine y_icmp_eq (t := 32) (n := 25) ⟨dX9_findsWithout_22, rfl, rfl⟩ (fun (hc : (gI M 17 x4.toNatClampNeg) = x1) => ?_) (fun (hc : ¬ ((gI M 17 x4.toNatClampNeg) = x1)) => ?_)
    · replace hf := i_t hc hf
      refine y_iinc (i := 4) (n := 35) (b := (x4 + 1)) (L2 := [some (.ref 12), some (.int x1), some (.long x2), none, some (.int (x4 + 1))]) ⟨dX9_findsWithout_32, rfl⟩ rfl (by rw [ki_1]) (by decide) rfl rfl ?_
      refine y_goto (t := 5) ⟨dX9_findsWithout_35, rfl, rfl⟩ ?_
      cases hf
      exact y_wk ⟨Or.inr rfl, Or.inr rfl, Or.inr rfl, Or.inr rfl, Or.inr rfl, trivial⟩ hk
    · replace hf := i_f hc hf
      refine y_lload_n (i := 2) (n := 26) ⟨dX9_findsWithout_25, rfl⟩ rfl ?_
      refine y_lconst (n := 27) (v := 1) ⟨dX9_findsWithout_26, rfl⟩ kl_1 ?_
      refine y_iload (i := 4) (n := 29) ⟨dX9_findsWithout_27, rfl⟩ rfl ?_
      refine y_lshl (n := 30) ⟨dX9_findsWithout_29, rfl⟩ ?_
      refine y_lor (n := 31) ⟨dX9_findsWithout_30, rfl⟩ ?_
      refine y_lstore_n (i := 2) (n := 32) (L2 := [some (.ref 12), some (.int x1), some (.long (x2 ||| ((1 : Int64) <<< (x4.toInt64 &&& 63)))), none, some (.int x4)]) ⟨dX9_findsWithout_31, rfl⟩ (by decide) rfl rfl ?_
      refine y_iinc (i := 4) (n := 35) (b := (x4 + 1)) (L2 := [some (.ref 12), some (.int x1), some (.long (x2 ||| ((1 : Int64) <<< (x4.toInt64 &&& 63)))), none, some (.int (x4 + 1))]) ⟨dX9_findsWithout_32, rfl⟩ rfl (by rw [ki_1]) (by decide) rfl rfl ?_
      refine y_goto (t := 5) ⟨dX9_findsWithout_35, rfl, rfl⟩ ?_
      cases hf
      exact y_wk ⟨Or.inr rfl, Or.inr rfl, Or.inr rfl, Or.inr rfl, Or.inr rfl, trivial⟩ hk
theorem wl_to_findsWithout_5 (x1 : Int32) (x2 : Int64) (x4 : Int32) (M : dM) {Q : mz_P} {x : Int64} (hf : l_to_findsWithout_5 x1 x2 x4 M = some x) (hk : K_to_findsWithout_5 Q x1 M (.inr x)) : mW mX9_findsWithout 1 Q 5 [some (.ref 12), some (.int x1), some (.long x2), none, some (.int x4)] [] M :=
  lpc_wp (Wh := fun s => mW mX9_findsWithout 1 Q 5 [some (.ref 12), some (.int x1), some (.long s.1), none, some (.int s.2)] [] M) (K := K_to_findsWithout_5 Q x1 M) (fun _ h => h) (fun s o hb hk => w_b_to_findsWithout_5_5 x1 s.1 s.2 M hb hk) hf hk
theorem ok_to_findsWithout (a1 : Int32) (M : dM) {o : Int64} (hf : f_to_findsWithout a1 M = some o) : mO mX9_findsWithout 1 [.ref 12, .int a1] M (some (.long o)) M := by
  refine y_ok (by decide +kernel) (by decide) (L0 := [some (.ref 12), some (.int a1), none, none, none]) rfl ?_
  have hk := mR_mQ (some (.long o)) M
  generalize mQ _ _ = Q at hk ⊢
  unfold f_to_findsWithout at hf
  refine y_lconst (n := 1) (v := 0) ⟨dX9_findsWithout_0, rfl⟩ kl_0 ?_
  refine y_lstore_n (i := 2) (n := 2) (L2 := [some (.ref 12), some (.int a1), some (.long 0), none, none]) ⟨dX9_findsWithout_1, rfl⟩ (by decide) rfl rfl ?_
  refine y_iconst (n := 3) (v := 0) ⟨dX9_findsWithout_2, rfl⟩ ki_0 ?_
  refine y_istore (i := 4) (n := 5) (L2 := [some (.ref 12), some (.int a1), some (.long 0), none, some (.int 0)]) ⟨dX9_findsWithout_3, rfl⟩ (by decide) rfl rfl ?_
  obtain ⟨r4, hl3, hf⟩ := b_s hf
  cases hf
  exact y_wk ⟨Or.inr rfl, Or.inr rfl, Or.inr rfl, Or.inr rfl, Or.inr rfl, trivial⟩ (wl_to_findsWithout_5 a1 0 0 M hl3 hk)
theorem c_to_findsWithout (a1 : Int32) (M : dM) {o : Int64} {y : mz_M} {d : Nat} {Q : mz_P} {pc n i : Nat} {L : List (Option Value)} {st : List Value} (h : mz_d y.2.1 pc n 3 (.invokevirtual i)) (hl : mz_ml y.1.cls i yX9_findsWithout) (hf : f_to_findsWithout a1 M = some o) (hd : 1 + 1 ≤ d) (hsm : (st.map (fun v => v.category)).sum ≤ 8) (hLr : mz_rL 133 L = true) (hSr : mz_rS 133 st = true) (kk : mW y d Q n L (.long o :: st) M) : mW y d Q pc L (.int a1 :: .ref 12 :: st) M :=
  y_callV kmX9_findsWithout kvX9_findsWithout l_12 (by decide +kernel) (by decide +kernel) h hl (ok_to_findsWithout a1 M hf) (vs := [.int a1]) rfl rfl hd hsm hLr hSr kk
def K_cl_standWith_5 (Q : mz_P) (x1 : Int64) (M : dM) : ((Int32 × Int32) ⊕ Int32) → Prop
  | .inl s => mW mX1_standWith 1 Q 5 [some (.ref 50), some (.long x1), none, some (.int s.1), some (.int s.2), none, none] [] M
  | .inr r => mR Q (some (.int r)) M
def K_cl_standWith_18 (Q : mz_P) (x1 : Int64) (x4 : Int32) (x5 : Int32) (M : dM) : ((Int32 × Int32) ⊕ Int32) → Prop
  | .inl s => mW mX1_standWith 1 Q 18 [some (.ref 50), some (.long x1), none, some (.int s.1), some (.int x4), some (.int x5), some (.int s.2)] [] M
  | .inr t => mW mX1_standWith 1 Q 77 [some (.ref 50), some (.long x1), none, some (.int t), some (.int x4), some (.int x5), none] [] M
noncomputable def b_cl_standWith_18_18 (x1 : Int64) (x3 : Int32) (x4 : Int32) (x5 : Int32) (x6 : Int32) (M : dM) : Option ((Int32 × Int32) ⊕ Int32) :=
  if (gI M 50 4) ≤ x6 then
    some (.inr x3)
  else
    gd (vp_in x6 36) <|
    if ((gJ M 52 x6.toNatClampNeg) &&& (x1 ^^^ (-1))) = 0 then
      if ((gI M 53 x6.toNatClampNeg) &&& (x3 ^^^ (-1))) = 0 then
        some (.inl ((x3 ||| ((1 : Int32) <<< ((gI M 51 x6.toNatClampNeg) &&& 31))), (x6 + 1)))
      else
        some (.inl (x3, (x6 + 1)))
    else
      some (.inl (x3, (x6 + 1)))
noncomputable def l_cl_standWith_18 (x1 : Int64) (x3 : Int32) (x4 : Int32) (x5 : Int32) (x6 : Int32) (M : dM) : Option Int32 := lpc (fun s => b_cl_standWith_18_18 x1 s.1 x4 x5 s.2 M) (x3, x6)
noncomputable def b_cl_standWith_5_5 (x1 : Int64) (x3 : Int32) (x4 : Int32) (M : dM) : Option ((Int32 × Int32) ⊕ Int32) :=
  if 12 ≤ x4 then
    some (.inr x3)
  else
    (l_cl_standWith_18 x1 x3 x4 x3 0 M).bind fun t2 =>
      if t2 = x3 then
        some (.inr t2)
      else
        some (.inl (t2, (x4 + 1)))
noncomputable def l_cl_standWith_5 (x1 : Int64) (x3 : Int32) (x4 : Int32) (M : dM) : Option Int32 := lpc (fun s => b_cl_standWith_5_5 x1 s.1 s.2 M) (x3, x4)
noncomputable def f_cl_standWith (a1 : Int64) (M : dM) : Option Int32 :=
  (l_cl_standWith_5 a1 0 0 M).bind fun r7 => some r7
theorem w_b_cl_standWith_18_18 (x1 : Int64) (x3 : Int32) (x4 : Int32) (x5 : Int32) (x6 : Int32) (M : dM) {Q : mz_P} {o : ((Int32 × Int32) ⊕ Int32)} (hf : b_cl_standWith_18_18 x1 x3 x4 x5 x6 M = some o) (hk : K_cl_standWith_18 Q x1 x4 x5 M o) : mW mX1_standWith 1 Q 18 [some (.ref 50), some (.long x1), none, some (.int x3), some (.int x4), some (.int x5), some (.int x6)] [] M := by
  unfold b_cl_standWith_18_18 at hf
  refine y_iload (i := 6) (n := 20) ⟨dX1_standWith_18, rfl⟩ rfl ?_
  refine y_aload_n (i := 0) (n := 21) ⟨dX1_standWith_20, rfl⟩ rfl ?_
  refine y_getI (n := 24) ⟨dX1_standWith_21, rfl⟩ kfX1_39 l_50 rfl ?_
  refine y_icmp_ge (t := 77) (n := 27) ⟨dX1_standWith_24, rfl, rfl⟩ (fun (hc : (gI M 50 4) ≤ x6) => ?_) (fun (hc : ¬ ((gI M 50 4) ≤ x6)) => ?_)
  · replace hf := i_t hc hf
    cases hf
    exact y_wk ⟨Or.inr rfl, Or.inr rfl, Or.inr rfl, Or.inr rfl, Or.inr rfl, Or.inr rfl, Or.inl rfl, trivial⟩ hk
  · replace hf := i_f hc hf
    refine y_aload_n (i := 0) (n := 28) ⟨dX1_standWith_27, rfl⟩ rfl ?_
    refine y_getR (n := 31) ⟨dX1_standWith_28, rfl⟩ kfX1_15 l_50 rfl r_50_2 ?_
    refine y_iload (i := 6) (n := 33) ⟨dX1_standWith_31, rfl⟩ rfl ?_
    obtain ⟨hg1, hf⟩ := g_s hf
    refine y_laload (n := 34) ⟨dX1_standWith_33, rfl⟩ l_52 hg1 ?_
    refine y_lload_n (i := 1) (n := 35) ⟨dX1_standWith_34, rfl⟩ rfl ?_
    refine y_ldc2 (n := 38) ⟨dX1_standWith_35, rfl⟩ kcX1_42 ?_
    refine y_lxor (n := 39) ⟨dX1_standWith_38, rfl⟩ ?_
    refine y_land (n := 40) ⟨dX1_standWith_39, rfl⟩ ?_
    refine y_lconst (n := 41) (v := 0) ⟨dX1_standWith_40, rfl⟩ kl_0 ?_
    refine y_lcmp (n := 42) ⟨dX1_standWith_41, rfl⟩ ?_
    refine y_if_ne (t := 71) (n := 45) ⟨dX1_standWith_42, rfl, rfl⟩ (fun h0 => ?_) (fun h0 => ?_)
    · have hc : ¬ (((gJ M 52 x6.toNatClampNeg) &&& (x1 ^^^ (-1))) = 0) := fun e => h0 ((lc_eq _ _).mpr e)
      replace hf := i_f hc hf
      refine y_iinc (i := 6) (n := 74) (b := (x6 + 1)) (L2 := [some (.ref 50), some (.long x1), none, some (.int x3), some (.int x4), some (.int x5), some (.int (x6 + 1))]) ⟨dX1_standWith_71, rfl⟩ rfl (by rw [ki_1]) (by decide) rfl rfl ?_
      refine y_goto (t := 18) ⟨dX1_standWith_74, rfl, rfl⟩ ?_
      cases hf
      exact y_wk ⟨Or.inr rfl, Or.inr rfl, Or.inr rfl, Or.inr rfl, Or.inr rfl, Or.inr rfl, Or.inr rfl, trivial⟩ hk
    · have hc : ((gJ M 52 x6.toNatClampNeg) &&& (x1 ^^^ (-1))) = 0 := (lc_eq _ _).mp h0
      replace hf := i_t hc hf
      refine y_aload_n (i := 0) (n := 46) ⟨dX1_standWith_45, rfl⟩ rfl ?_
      refine y_getR (n := 49) ⟨dX1_standWith_46, rfl⟩ kfX1_19 l_50 rfl r_50_3 ?_
      refine y_iload (i := 6) (n := 51) ⟨dX1_standWith_49, rfl⟩ rfl ?_
      refine y_iaload (n := 52) ⟨dX1_standWith_51, rfl⟩ l_53 hg1 ?_
      refine y_iload_n (i := 3) (n := 53) ⟨dX1_standWith_52, rfl⟩ rfl ?_
      refine y_iconst (n := 54) (v := (-1)) ⟨dX1_standWith_53, rfl⟩ ki_m1 ?_
      refine y_ixor (n := 55) ⟨dX1_standWith_54, rfl⟩ ?_
      refine y_iand (n := 56) ⟨dX1_standWith_55, rfl⟩ ?_
      refine y_if_ne (t := 71) (n := 59) ⟨dX1_standWith_56, rfl, rfl⟩ (fun (hc : ¬ (((gI M 53 x6.toNatClampNeg) &&& (x3 ^^^ (-1))) = 0)) => ?_) (fun (hc : ((gI M 53 x6.toNatClampNeg) &&& (x3 ^^^ (-1))) = 0) => ?_)
      · replace hf := i_f hc hf
        refine y_iinc (i := 6) (n := 74) (b := (x6 + 1)) (L2 := [some (.ref 50), some (.long x1), none, some (.int x3), some (.int x4), some (.int x5), some (.int (x6 + 1))]) ⟨dX1_standWith_71, rfl⟩ rfl (by rw [ki_1]) (by decide) rfl rfl ?_
        refine y_goto (t := 18) ⟨dX1_standWith_74, rfl, rfl⟩ ?_
        cases hf
        exact y_wk ⟨Or.inr rfl, Or.inr rfl, Or.inr rfl, Or.inr rfl, Or.inr rfl, Or.inr rfl, Or.inr rfl, trivial⟩ hk
      · replace hf := i_t hc hf
        refine y_iload_n (i := 3) (n := 60) ⟨dX1_standWith_59, rfl⟩ rfl ?_
        refine y_iconst (n := 61) (v := 1) ⟨dX1_standWith_60, rfl⟩ ki_1 ?_
        refine y_aload_n (i := 0) (n := 62) ⟨dX1_standWith_61, rfl⟩ rfl ?_
        refine y_getR (n := 65) ⟨dX1_standWith_62, rfl⟩ kfX1_9 l_50 rfl r_50_1 ?_
        refine y_iload (i := 6) (n := 67) ⟨dX1_standWith_65, rfl⟩ rfl ?_
        refine y_iaload (n := 68) ⟨dX1_standWith_67, rfl⟩ l_51 hg1 ?_
        refine y_ishl (n := 69) ⟨dX1_standWith_68, rfl⟩ ?_
        refine y_ior (n := 70) ⟨dX1_standWith_69, rfl⟩ ?_
        refine y_istore_n (i := 3) (n := 71) (L2 := [some (.ref 50), some (.long x1), none, some (.int (x3 ||| ((1 : Int32) <<< ((gI M 51 x6.toNatClampNeg) &&& 31)))), some (.int x4), some (.int x5), some (.int x6)]) ⟨dX1_standWith_70, rfl⟩ (by decide) rfl rfl ?_
        refine y_iinc (i := 6) (n := 74) (b := (x6 + 1)) (L2 := [some (.ref 50), some (.long x1), none, some (.int (x3 ||| ((1 : Int32) <<< ((gI M 51 x6.toNatClampNeg) &&& 31)))), some (.int x4), some (.int x5), some (.int (x6 + 1))]) ⟨dX1_standWith_71, rfl⟩ rfl (by rw [ki_1]) (by decide) rfl rfl ?_
        refine y_goto (t := 18) ⟨dX1_standWith_74, rfl, rfl⟩ ?_
        cases hf
        exact y_wk ⟨Or.inr rfl, Or.inr rfl, Or.inr rfl, Or.inr rfl, Or.inr rfl, Or.inr rfl, Or.inr rfl, trivial⟩ hk
theorem wl_cl_standWith_18 (x1 : Int64) (x3 : Int32) (x4 : Int32) (x5 : Int32) (x6 : Int32) (M : dM) {Q : mz_P} {x : Int32} (hf : l_cl_standWith_18 x1 x3 x4 x5 x6 M = some x) (hk : K_cl_standWith_18 Q x1 x4 x5 M (.inr x)) : mW mX1_standWith 1 Q 18 [some (.ref 50), some (.long x1), none, some (.int x3), some (.int x4), some (.int x5), some (.int x6)] [] M :=
  lpc_wp (Wh := fun s => mW mX1_standWith 1 Q 18 [some (.ref 50), some (.long x1), none, some (.int s.1), some (.int x4), some (.int x5), some (.int s.2)] [] M) (K := K_cl_standWith_18 Q x1 x4 x5 M) (fun _ h => h) (fun s o hb hk => w_b_cl_standWith_18_18 x1 s.1 x4 x5 s.2 M hb hk) hf hk
theorem w_b_cl_standWith_5_5 (x1 : Int64) (x3 : Int32) (x4 : Int32) (M : dM) {Q : mz_P} {o : ((Int32 × Int32) ⊕ Int32)} (hf : b_cl_standWith_5_5 x1 x3 x4 M = some o) (hk : K_cl_standWith_5 Q x1 M o) : mW mX1_standWith 1 Q 5 [some (.ref 50), some (.long x1), none, some (.int x3), some (.int x4), none, none] [] M := by
  unfold b_cl_standWith_5_5 at hf
  refine y_iload (i := 4) (n := 7) ⟨dX1_standWith_5, rfl⟩ rfl ?_
  refine y_bipush (n := 9) (v := 12) ⟨dX1_standWith_7, rfl⟩ kb_12 ?_
  refine y_icmp_ge (t := 92) (n := 12) ⟨dX1_standWith_9, rfl, rfl⟩ (fun (hc : 12 ≤ x4) => ?_) (fun (hc : ¬ (12 ≤ x4)) => ?_)
  · replace hf := i_t hc hf
    refine y_iload_n (i := 3) (n := 93) ⟨dX1_standWith_92, rfl⟩ rfl ?_
    cases hf
    exact y_ireturn (n := 94) ⟨dX1_standWith_93, rfl⟩ rfl rfl hk
  · replace hf := i_f hc hf
    refine y_iload_n (i := 3) (n := 13) ⟨dX1_standWith_12, rfl⟩ rfl ?_
    refine y_istore (i := 5) (n := 15) (L2 := [some (.ref 50), some (.long x1), none, some (.int x3), some (.int x4), some (.int x3), none]) ⟨dX1_standWith_13, rfl⟩ (by decide) rfl rfl ?_
    refine y_iconst (n := 16) (v := 0) ⟨dX1_standWith_15, rfl⟩ ki_0 ?_
    refine y_istore (i := 6) (n := 18) (L2 := [some (.ref 50), some (.long x1), none, some (.int x3), some (.int x4), some (.int x3), some (.int 0)]) ⟨dX1_standWith_16, rfl⟩ (by decide) rfl rfl ?_
    obtain ⟨t2, hl3, hf⟩ := b_s hf
    refine y_wk ⟨Or.inr rfl, Or.inr rfl, Or.inr rfl, Or.inr rfl, Or.inr rfl, Or.inr rfl, Or.inr rfl, trivial⟩ (wl_cl_standWith_18 x1 x3 x4 x3 0 M hl3 ?_)
    show mW mX1_standWith 1 Q 77 [some (.ref 50), some (.long x1), none, some (.int t2), some (.int x4), some (.int x3), none] [] M
    refine y_iload_n (i := 3) (n := 78) ⟨dX1_standWith_77, rfl⟩ rfl ?_
    refine y_iload (i := 5) (n := 80) ⟨dX1_standWith_78, rfl⟩ rfl ?_
    refine y_icmp_ne (t := 86) (n := 83) ⟨dX1_standWith_80, rfl, rfl⟩ (fun (hc : ¬ (t2 = x3)) => ?_) (fun (hc : t2 = x3) => ?_)
    · replace hf := i_f hc hf
      refine y_iinc (i := 4) (n := 89) (b := (x4 + 1)) (L2 := [some (.ref 50), some (.long x1), none, some (.int t2), some (.int (x4 + 1)), some (.int x3), none]) ⟨dX1_standWith_86, rfl⟩ rfl (by rw [ki_1]) (by decide) rfl rfl ?_
      refine y_goto (t := 5) ⟨dX1_standWith_89, rfl, rfl⟩ ?_
      cases hf
      exact y_wk ⟨Or.inr rfl, Or.inr rfl, Or.inr rfl, Or.inr rfl, Or.inr rfl, Or.inl rfl, Or.inr rfl, trivial⟩ hk
    · replace hf := i_t hc hf
      refine y_goto (t := 92) ⟨dX1_standWith_83, rfl, rfl⟩ ?_
      refine y_iload_n (i := 3) (n := 93) ⟨dX1_standWith_92, rfl⟩ rfl ?_
      cases hf
      exact y_ireturn (n := 94) ⟨dX1_standWith_93, rfl⟩ rfl rfl hk
theorem wl_cl_standWith_5 (x1 : Int64) (x3 : Int32) (x4 : Int32) (M : dM) {Q : mz_P} {x : Int32} (hf : l_cl_standWith_5 x1 x3 x4 M = some x) (hk : K_cl_standWith_5 Q x1 M (.inr x)) : mW mX1_standWith 1 Q 5 [some (.ref 50), some (.long x1), none, some (.int x3), some (.int x4), none, none] [] M :=
  lpc_wp (Wh := fun s => mW mX1_standWith 1 Q 5 [some (.ref 50), some (.long x1), none, some (.int s.1), some (.int s.2), none, none] [] M) (K := K_cl_standWith_5 Q x1 M) (fun _ h => h) (fun s o hb hk => w_b_cl_standWith_5_5 x1 s.1 s.2 M hb hk) hf hk
theorem ok_cl_standWith (a1 : Int64) (M : dM) {o : Int32} (hf : f_cl_standWith a1 M = some o) : mO mX1_standWith 1 [.ref 50, .long a1] M (some (.int o)) M := by
  refine y_ok (by decide +kernel) (by decide) (L0 := [some (.ref 50), some (.long a1), none, none, none, none, none]) rfl ?_
  have hk := mR_mQ (some (.int o)) M
  generalize mQ _ _ = Q at hk ⊢
  unfold f_cl_standWith at hf
  refine y_iconst (n := 1) (v := 0) ⟨dX1_standWith_0, rfl⟩ ki_0 ?_
  refine y_istore_n (i := 3) (n := 2) (L2 := [some (.ref 50), some (.long a1), none, some (.int 0), none, none, none]) ⟨dX1_standWith_1, rfl⟩ (by decide) rfl rfl ?_
  refine y_iconst (n := 3) (v := 0) ⟨dX1_standWith_2, rfl⟩ ki_0 ?_
  refine y_istore (i := 4) (n := 5) (L2 := [some (.ref 50), some (.long a1), none, some (.int 0), some (.int 0), none, none]) ⟨dX1_standWith_3, rfl⟩ (by decide) rfl rfl ?_
  obtain ⟨r7, hl6, hf⟩ := b_s hf
  cases hf
  exact y_wk ⟨Or.inr rfl, Or.inr rfl, Or.inr rfl, Or.inr rfl, Or.inr rfl, Or.inr rfl, Or.inr rfl, trivial⟩ (wl_cl_standWith_5 a1 0 0 M hl6 hk)
theorem c_cl_standWith (a1 : Int64) (M : dM) {o : Int32} {y : mz_M} {d : Nat} {Q : mz_P} {pc n i : Nat} {L : List (Option Value)} {st : List Value} (h : mz_d y.2.1 pc n 3 (.invokevirtual i)) (hl : mz_ml y.1.cls i yX1_standWith) (hf : f_cl_standWith a1 M = some o) (hd : 1 + 1 ≤ d) (hsm : (st.map (fun v => v.category)).sum ≤ 8) (hLr : mz_rL 133 L = true) (hSr : mz_rS 133 st = true) (kk : mW y d Q n L (.int o :: st) M) : mW y d Q pc L (.long a1 :: .ref 50 :: st) M :=
  y_callV kmX1_standWith kvX1_standWith l_50 (by decide +kernel) (by decide +kernel) h hl (ok_cl_standWith a1 M hf) (vs := [.long a1]) rfl rfl hd hsm hLr hSr kk
noncomputable def t_ax_standing_16 (x1 : Int32) (M : dM) : Option Int32 :=
  (f_to_findsWithout x1 M).bind fun v1 =>
  (f_cl_standWith v1 M).bind fun v3 =>
  some v3
noncomputable def f_ax_standing (a1 : Int32) (M : dM) : Option Int32 :=
  if a1 = (-1) then
    t_ax_standing_16 a1 M
  else
    if (f_ax_within a1 10) = true then
      t_ax_standing_16 a1 M
    else
      some (-1)
theorem w_t_ax_standing_16 (x1 : Int32) (M : dM) {Q : mz_P} {o : Int32} (hf : t_ax_standing_16 x1 M = some o) (hk : mR Q (some (.int o)) M) : mW mX11_standing 2 Q 16 [some (.ref 0), some (.int x1)] [] M := by
  unfold t_ax_standing_16 at hf
  refine y_aload_n (i := 0) (n := 17) ⟨dX11_standing_16, rfl⟩ rfl ?_
  refine y_getR (n := 20) ⟨dX11_standing_17, rfl⟩ kfX11_74 l_0 rfl r_0_8 ?_
  refine y_aload_n (i := 0) (n := 21) ⟨dX11_standing_20, rfl⟩ rfl ?_
  refine y_getR (n := 24) ⟨dX11_standing_21, rfl⟩ kfX11_26 l_0 rfl r_0_2 ?_
  refine y_iload_n (i := 1) (n := 25) ⟨dX11_standing_24, rfl⟩ rfl ?_
  obtain ⟨v1, hv2, hf⟩ := b_s hf
  refine c_to_findsWithout x1 M (n := 28) ⟨dX11_standing_25, rfl⟩ klX11_240 hv2 (by decide) (Nat.le_of_ble_eq_true rfl) rfl rfl ?_
  obtain ⟨v3, hv4, hf⟩ := b_s hf
  refine c_cl_standWith v1 M (n := 31) ⟨dX11_standing_28, rfl⟩ klX11_244 hv4 (by decide) (Nat.le_of_ble_eq_true rfl) rfl rfl ?_
  cases hf
  exact y_ireturn (n := 32) ⟨dX11_standing_31, rfl⟩ rfl rfl hk
theorem ok_ax_standing (a1 : Int32) (M : dM) {o : Int32} (hf : f_ax_standing a1 M = some o) : mO mX11_standing 2 [.ref 0, .int a1] M (some (.int o)) M := by
  refine y_ok (by decide +kernel) (by decide) (L0 := [some (.ref 0), some (.int a1)]) rfl ?_
  have hk := mR_mQ (some (.int o)) M
  generalize mQ _ _ = Q at hk ⊢
  unfold f_ax_standing at hf
  refine y_iload_n (i := 1) (n := 1) ⟨dX11_standing_0, rfl⟩ rfl ?_
  refine y_iconst (n := 2) (v := (-1)) ⟨dX11_standing_1, rfl⟩ ki_m1 ?_
  refine y_icmp_eq (t := 16) (n := 5) ⟨dX11_standing_2, rfl, rfl⟩ (fun (hc : a1 = (-1)) => ?_) (fun (hc : ¬ (a1 = (-1))) => ?_)
  · replace hf := i_t hc hf
    exact y_wk ⟨Or.inr rfl, Or.inr rfl, trivial⟩ (w_t_ax_standing_16 a1 M hf hk)
  · replace hf := i_f hc hf
    refine y_iload_n (i := 1) (n := 6) ⟨dX11_standing_5, rfl⟩ rfl ?_
    refine y_bipush (n := 8) (v := 10) ⟨dX11_standing_6, rfl⟩ kb_10 ?_
    refine c_ax_within a1 10 M (n := 11) ⟨dX11_standing_8, rfl⟩ klX11_91 rfl (by decide) (Nat.le_of_ble_eq_true rfl) rfl rfl ?_
    refine y_if_ne (t := 16) (n := 14) ⟨dX11_standing_11, rfl, rfl⟩ (fun h0 => ?_) (fun h0 => ?_)
    · have hc := bI_1 h0
      replace hf := i_t hc hf
      exact y_wk ⟨Or.inr rfl, Or.inr rfl, trivial⟩ (w_t_ax_standing_16 a1 M hf hk)
    · have hc := bI_0 h0
      replace hf := i_f hc hf
      refine y_iconst (n := 15) (v := (-1)) ⟨dX11_standing_14, rfl⟩ ki_m1 ?_
      cases hf
      exact y_ireturn (n := 16) ⟨dX11_standing_15, rfl⟩ rfl rfl hk
theorem c_ax_standing (a1 : Int32) (M : dM) {o : Int32} {y : mz_M} {d : Nat} {Q : mz_P} {pc n i : Nat} {L : List (Option Value)} {st : List Value} (h : mz_d y.2.1 pc n 3 (.invokevirtual i)) (hl : mz_ml y.1.cls i yX11_standing) (hf : f_ax_standing a1 M = some o) (hd : 2 + 1 ≤ d) (hsm : (st.map (fun v => v.category)).sum ≤ 8) (hLr : mz_rL 133 L = true) (hSr : mz_rS 133 st = true) (kk : mW y d Q n L (.int o :: st) M) : mW y d Q pc L (.int a1 :: .ref 0 :: st) M :=
  y_callV kmX11_standing kvX11_standing l_0 (by decide +kernel) (by decide +kernel) h hl (ok_ax_standing a1 M hf) (vs := [.int a1]) rfl rfl hd hsm hLr hSr kk
def K_ax_oldest_20 (Q : mz_P) (x1 : Int32) (M : dM) : ((Int32 × Int32) ⊕ Int32) → Prop
  | .inl s => mW mX11_oldest 2 Q 20 [some (.ref 0), some (.int x1), some (.int s.1), some (.int s.2)] [] M
  | .inr r => mR Q (some (.int r)) M
noncomputable def b_ax_oldest_20_20 (x1 : Int32) (x2 : Int32) (x3 : Int32) (M : dM) : Option ((Int32 × Int32) ⊕ Int32) :=
  if (gI M 12 7) ≤ x3 then
    some (.inr x2)
  else
    gd (vp_in x3 40) <|
    if (gI M 17 x3.toNatClampNeg) = x1 then
      some (.inl (x2, (x3 + 1)))
    else
      (f_si_ageOf (gI M 13 x3.toNatClampNeg) (gI M 14 x3.toNatClampNeg) M).bind fun v2 =>
      some (.inl ((f_jd_max x2 v2), (x3 + 1)))
noncomputable def l_ax_oldest_20 (x1 : Int32) (x2 : Int32) (x3 : Int32) (M : dM) : Option Int32 := lpc (fun s => b_ax_oldest_20_20 x1 s.1 s.2 M) (x2, x3)
noncomputable def t_ax_oldest_16 (x1 : Int32) (M : dM) : Option Int32 :=
  (l_ax_oldest_20 x1 (-1) 0 M).bind fun r6 => some r6
noncomputable def f_ax_oldest (a1 : Int32) (M : dM) : Option Int32 :=
  if a1 = (-1) then
    t_ax_oldest_16 a1 M
  else
    if (f_ax_within a1 10) = true then
      t_ax_oldest_16 a1 M
    else
      some (-1)
theorem w_b_ax_oldest_20_20 (x1 : Int32) (x2 : Int32) (x3 : Int32) (M : dM) {Q : mz_P} {o : ((Int32 × Int32) ⊕ Int32)} (hf : b_ax_oldest_20_20 x1 x2 x3 M = some o) (hk : K_ax_oldest_20 Q x1 M o) : mW mX11_oldest 2 Q 20 [some (.ref 0), some (.int x1), some (.int x2), some (.int x3)] [] M := by
  unfold b_ax_oldest_20_20 at hf
  refine y_iload_n (i := 3) (n := 21) ⟨dX11_oldest_20, rfl⟩ rfl ?_
  refine y_aload_n (i := 0) (n := 22) ⟨dX11_oldest_21, rfl⟩ rfl ?_
  refine y_getR (n := 25) ⟨dX11_oldest_22, rfl⟩ kfX11_26 l_0 rfl r_0_2 ?_
  refine y_getI (n := 28) ⟨dX11_oldest_25, rfl⟩ kfX11_146 l_12 rfl ?_
  refine y_icmp_ge (t := 80) (n := 31) ⟨dX11_oldest_28, rfl, rfl⟩ (fun (hc : (gI M 12 7) ≤ x3) => ?_) (fun (hc : ¬ ((gI M 12 7) ≤ x3)) => ?_)
  · replace hf := i_t hc hf
    refine y_iload_n (i := 2) (n := 81) ⟨dX11_oldest_80, rfl⟩ rfl ?_
    cases hf
    exact y_ireturn (n := 82) ⟨dX11_oldest_81, rfl⟩ rfl rfl hk
  · replace hf := i_f hc hf
    refine y_aload_n (i := 0) (n := 32) ⟨dX11_oldest_31, rfl⟩ rfl ?_
    refine y_getR (n := 35) ⟨dX11_oldest_32, rfl⟩ kfX11_26 l_0 rfl r_0_2 ?_
    refine y_getR (n := 38) ⟨dX11_oldest_35, rfl⟩ kfX11_170 l_12 rfl r_12_4 ?_
    refine y_iload_n (i := 3) (n := 39) ⟨dX11_oldest_38, rfl⟩ rfl ?_
    obtain ⟨hg1, hf⟩ := g_s hf
    refine y_iaload (n := 40) ⟨dX11_oldest_39, rfl⟩ l_17 hg1 ?_
    refine y_iload_n (i := 1) (n := 41) ⟨dX11_oldest_40, rfl⟩ rfl ?_
    refine y_icmp_eq (t := 74) (n := 44) ⟨dX11_oldest_41, rfl, rfl⟩ (fun (hc : (gI M 17 x3.toNatClampNeg) = x1) => ?_) (fun (hc : ¬ ((gI M 17 x3.toNatClampNeg) = x1)) => ?_)
    · replace hf := i_t hc hf
      refine y_iinc (i := 3) (n := 77) (b := (x3 + 1)) (L2 := [some (.ref 0), some (.int x1), some (.int x2), some (.int (x3 + 1))]) ⟨dX11_oldest_74, rfl⟩ rfl (by rw [ki_1]) (by decide) rfl rfl ?_
      refine y_goto (t := 20) ⟨dX11_oldest_77, rfl, rfl⟩ ?_
      cases hf
      exact y_wk ⟨Or.inr rfl, Or.inr rfl, Or.inr rfl, Or.inr rfl, trivial⟩ hk
    · replace hf := i_f hc hf
      refine y_iload_n (i := 2) (n := 45) ⟨dX11_oldest_44, rfl⟩ rfl ?_
      refine y_aload_n (i := 0) (n := 46) ⟨dX11_oldest_45, rfl⟩ rfl ?_
      refine y_getR (n := 49) ⟨dX11_oldest_46, rfl⟩ kfX11_10 l_0 rfl r_0_0 ?_
      refine y_aload_n (i := 0) (n := 50) ⟨dX11_oldest_49, rfl⟩ rfl ?_
      refine y_getR (n := 53) ⟨dX11_oldest_50, rfl⟩ kfX11_26 l_0 rfl r_0_2 ?_
      refine y_getR (n := 56) ⟨dX11_oldest_53, rfl⟩ kfX11_164 l_12 rfl r_12_0 ?_
      refine y_iload_n (i := 3) (n := 57) ⟨dX11_oldest_56, rfl⟩ rfl ?_
      refine y_iaload (n := 58) ⟨dX11_oldest_57, rfl⟩ l_13 hg1 ?_
      refine y_aload_n (i := 0) (n := 59) ⟨dX11_oldest_58, rfl⟩ rfl ?_
      refine y_getR (n := 62) ⟨dX11_oldest_59, rfl⟩ kfX11_26 l_0 rfl r_0_2 ?_
      refine y_getR (n := 65) ⟨dX11_oldest_62, rfl⟩ kfX11_248 l_12 rfl r_12_1 ?_
      refine y_iload_n (i := 3) (n := 66) ⟨dX11_oldest_65, rfl⟩ rfl ?_
      refine y_iaload (n := 67) ⟨dX11_oldest_66, rfl⟩ l_14 hg1 ?_
      obtain ⟨v2, hv3, hf⟩ := b_s hf
      refine c_si_ageOf (gI M 13 x3.toNatClampNeg) (gI M 14 x3.toNatClampNeg) M (n := 70) ⟨dX11_oldest_67, rfl⟩ klX11_251 hv3 (by decide) (Nat.le_of_ble_eq_true rfl) rfl rfl ?_
      refine c_jd_max x2 v2 M (n := 73) ⟨dX11_oldest_70, rfl⟩ klX11_254 rfl (by decide) (Nat.le_of_ble_eq_true rfl) rfl rfl ?_
      refine y_istore_n (i := 2) (n := 74) (L2 := [some (.ref 0), some (.int x1), some (.int (f_jd_max x2 v2)), some (.int x3)]) ⟨dX11_oldest_73, rfl⟩ (by decide) rfl rfl ?_
      refine y_iinc (i := 3) (n := 77) (b := (x3 + 1)) (L2 := [some (.ref 0), some (.int x1), some (.int (f_jd_max x2 v2)), some (.int (x3 + 1))]) ⟨dX11_oldest_74, rfl⟩ rfl (by rw [ki_1]) (by decide) rfl rfl ?_
      refine y_goto (t := 20) ⟨dX11_oldest_77, rfl, rfl⟩ ?_
      cases hf
      exact y_wk ⟨Or.inr rfl, Or.inr rfl, Or.inr rfl, Or.inr rfl, trivial⟩ hk
theorem wl_ax_oldest_20 (x1 : Int32) (x2 : Int32) (x3 : Int32) (M : dM) {Q : mz_P} {x : Int32} (hf : l_ax_oldest_20 x1 x2 x3 M = some x) (hk : K_ax_oldest_20 Q x1 M (.inr x)) : mW mX11_oldest 2 Q 20 [some (.ref 0), some (.int x1), some (.int x2), some (.int x3)] [] M :=
  lpc_wp (Wh := fun s => mW mX11_oldest 2 Q 20 [some (.ref 0), some (.int x1), some (.int s.1), some (.int s.2)] [] M) (K := K_ax_oldest_20 Q x1 M) (fun _ h => h) (fun s o hb hk => w_b_ax_oldest_20_20 x1 s.1 s.2 M hb hk) hf hk
theorem w_t_ax_oldest_16 (x1 : Int32) (M : dM) {Q : mz_P} {o : Int32} (hf : t_ax_oldest_16 x1 M = some o) (hk : mR Q (some (.int o)) M) : mW mX11_oldest 2 Q 16 [some (.ref 0), some (.int x1), none, none] [] M := by
  unfold t_ax_oldest_16 at hf
  refine y_iconst (n := 17) (v := (-1)) ⟨dX11_oldest_16, rfl⟩ ki_m1 ?_
  refine y_istore_n (i := 2) (n := 18) (L2 := [some (.ref 0), some (.int x1), some (.int (-1)), none]) ⟨dX11_oldest_17, rfl⟩ (by decide) rfl rfl ?_
  refine y_iconst (n := 19) (v := 0) ⟨dX11_oldest_18, rfl⟩ ki_0 ?_
  refine y_istore_n (i := 3) (n := 20) (L2 := [some (.ref 0), some (.int x1), some (.int (-1)), some (.int 0)]) ⟨dX11_oldest_19, rfl⟩ (by decide) rfl rfl ?_
  obtain ⟨r6, hl5, hf⟩ := b_s hf
  cases hf
  exact y_wk ⟨Or.inr rfl, Or.inr rfl, Or.inr rfl, Or.inr rfl, trivial⟩ (wl_ax_oldest_20 x1 (-1) 0 M hl5 hk)
theorem ok_ax_oldest (a1 : Int32) (M : dM) {o : Int32} (hf : f_ax_oldest a1 M = some o) : mO mX11_oldest 2 [.ref 0, .int a1] M (some (.int o)) M := by
  refine y_ok (by decide +kernel) (by decide) (L0 := [some (.ref 0), some (.int a1), none, none]) rfl ?_
  have hk := mR_mQ (some (.int o)) M
  generalize mQ _ _ = Q at hk ⊢
  unfold f_ax_oldest at hf
  refine y_iload_n (i := 1) (n := 1) ⟨dX11_oldest_0, rfl⟩ rfl ?_
  refine y_iconst (n := 2) (v := (-1)) ⟨dX11_oldest_1, rfl⟩ ki_m1 ?_
  refine y_icmp_eq (t := 16) (n := 5) ⟨dX11_oldest_2, rfl, rfl⟩ (fun (hc : a1 = (-1)) => ?_) (fun (hc : ¬ (a1 = (-1))) => ?_)
  · replace hf := i_t hc hf
    exact y_wk ⟨Or.inr rfl, Or.inr rfl, Or.inr rfl, Or.inr rfl, trivial⟩ (w_t_ax_oldest_16 a1 M hf hk)
  · replace hf := i_f hc hf
    refine y_iload_n (i := 1) (n := 6) ⟨dX11_oldest_5, rfl⟩ rfl ?_
    refine y_bipush (n := 8) (v := 10) ⟨dX11_oldest_6, rfl⟩ kb_10 ?_
    refine c_ax_within a1 10 M (n := 11) ⟨dX11_oldest_8, rfl⟩ klX11_91 rfl (by decide) (Nat.le_of_ble_eq_true rfl) rfl rfl ?_
    refine y_if_ne (t := 16) (n := 14) ⟨dX11_oldest_11, rfl, rfl⟩ (fun h0 => ?_) (fun h0 => ?_)
    · have hc := bI_1 h0
      replace hf := i_t hc hf
      exact y_wk ⟨Or.inr rfl, Or.inr rfl, Or.inr rfl, Or.inr rfl, trivial⟩ (w_t_ax_oldest_16 a1 M hf hk)
    · have hc := bI_0 h0
      replace hf := i_f hc hf
      refine y_iconst (n := 15) (v := (-1)) ⟨dX11_oldest_14, rfl⟩ ki_m1 ?_
      cases hf
      exact y_ireturn (n := 16) ⟨dX11_oldest_15, rfl⟩ rfl rfl hk
theorem c_ax_oldest (a1 : Int32) (M : dM) {o : Int32} {y : mz_M} {d : Nat} {Q : mz_P} {pc n i : Nat} {L : List (Option Value)} {st : List Value} (h : mz_d y.2.1 pc n 3 (.invokevirtual i)) (hl : mz_ml y.1.cls i yX11_oldest) (hf : f_ax_oldest a1 M = some o) (hd : 2 + 1 ≤ d) (hsm : (st.map (fun v => v.category)).sum ≤ 8) (hLr : mz_rL 133 L = true) (hSr : mz_rS 133 st = true) (kk : mW y d Q n L (.int o :: st) M) : mW y d Q pc L (.int a1 :: .ref 0 :: st) M :=
  y_callV kmX11_oldest kvX11_oldest l_0 (by decide +kernel) (by decide +kernel) h hl (ok_ax_oldest a1 M hf) (vs := [.int a1]) rfl rfl hd hsm hLr hSr kk
def K_cl_findsInGrounds_4 (Q : mz_P)  (M : dM) : ((Int64 × Int32) ⊕ Int64) → Prop
  | .inl s => mW mX1_findsInGrounds 1 Q 4 [some (.ref 50), some (.long s.1), none, some (.int s.2)] [] M
  | .inr r => mR Q (some (.long r)) M
noncomputable def b_cl_findsInGrounds_4_4 (x1 : Int64) (x3 : Int32) (M : dM) : Option ((Int64 × Int32) ⊕ Int64) :=
  if (gI M 50 4) ≤ x3 then
    some (.inr x1)
  else
    gd (vp_in x3 36) <|
    some (.inl ((x1 ||| (gJ M 52 x3.toNatClampNeg)), (x3 + 1)))
noncomputable def l_cl_findsInGrounds_4 (x1 : Int64) (x3 : Int32) (M : dM) : Option Int64 := lpc (fun s => b_cl_findsInGrounds_4_4 s.1 s.2 M) (x1, x3)
noncomputable def f_cl_findsInGrounds (M : dM) : Option Int64 :=
  (l_cl_findsInGrounds_4 0 0 M).bind fun r4 => some r4
theorem w_b_cl_findsInGrounds_4_4 (x1 : Int64) (x3 : Int32) (M : dM) {Q : mz_P} {o : ((Int64 × Int32) ⊕ Int64)} (hf : b_cl_findsInGrounds_4_4 x1 x3 M = some o) (hk : K_cl_findsInGrounds_4 Q  M o) : mW mX1_findsInGrounds 1 Q 4 [some (.ref 50), some (.long x1), none, some (.int x3)] [] M := by
  unfold b_cl_findsInGrounds_4_4 at hf
  refine y_iload_n (i := 3) (n := 5) ⟨dX1_findsInGrounds_4, rfl⟩ rfl ?_
  refine y_aload_n (i := 0) (n := 6) ⟨dX1_findsInGrounds_5, rfl⟩ rfl ?_
  refine y_getI (n := 9) ⟨dX1_findsInGrounds_6, rfl⟩ kfX1_39 l_50 rfl ?_
  refine y_icmp_ge (t := 27) (n := 12) ⟨dX1_findsInGrounds_9, rfl, rfl⟩ (fun (hc : (gI M 50 4) ≤ x3) => ?_) (fun (hc : ¬ ((gI M 50 4) ≤ x3)) => ?_)
  · replace hf := i_t hc hf
    refine y_lload_n (i := 1) (n := 28) ⟨dX1_findsInGrounds_27, rfl⟩ rfl ?_
    cases hf
    exact y_lreturn (n := 29) ⟨dX1_findsInGrounds_28, rfl⟩ rfl hk
  · replace hf := i_f hc hf
    refine y_lload_n (i := 1) (n := 13) ⟨dX1_findsInGrounds_12, rfl⟩ rfl ?_
    refine y_aload_n (i := 0) (n := 14) ⟨dX1_findsInGrounds_13, rfl⟩ rfl ?_
    refine y_getR (n := 17) ⟨dX1_findsInGrounds_14, rfl⟩ kfX1_15 l_50 rfl r_50_2 ?_
    refine y_iload_n (i := 3) (n := 18) ⟨dX1_findsInGrounds_17, rfl⟩ rfl ?_
    obtain ⟨hg1, hf⟩ := g_s hf
    refine y_laload (n := 19) ⟨dX1_findsInGrounds_18, rfl⟩ l_52 hg1 ?_
    refine y_lor (n := 20) ⟨dX1_findsInGrounds_19, rfl⟩ ?_
    refine y_lstore_n (i := 1) (n := 21) (L2 := [some (.ref 50), some (.long (x1 ||| (gJ M 52 x3.toNatClampNeg))), none, some (.int x3)]) ⟨dX1_findsInGrounds_20, rfl⟩ (by decide) rfl rfl ?_
    refine y_iinc (i := 3) (n := 24) (b := (x3 + 1)) (L2 := [some (.ref 50), some (.long (x1 ||| (gJ M 52 x3.toNatClampNeg))), none, some (.int (x3 + 1))]) ⟨dX1_findsInGrounds_21, rfl⟩ rfl (by rw [ki_1]) (by decide) rfl rfl ?_
    refine y_goto (t := 4) ⟨dX1_findsInGrounds_24, rfl, rfl⟩ ?_
    cases hf
    exact y_wk ⟨Or.inr rfl, Or.inr rfl, Or.inr rfl, Or.inr rfl, trivial⟩ hk
theorem wl_cl_findsInGrounds_4 (x1 : Int64) (x3 : Int32) (M : dM) {Q : mz_P} {x : Int64} (hf : l_cl_findsInGrounds_4 x1 x3 M = some x) (hk : K_cl_findsInGrounds_4 Q  M (.inr x)) : mW mX1_findsInGrounds 1 Q 4 [some (.ref 50), some (.long x1), none, some (.int x3)] [] M :=
  lpc_wp (Wh := fun s => mW mX1_findsInGrounds 1 Q 4 [some (.ref 50), some (.long s.1), none, some (.int s.2)] [] M) (K := K_cl_findsInGrounds_4 Q  M) (fun _ h => h) (fun s o hb hk => w_b_cl_findsInGrounds_4_4 s.1 s.2 M hb hk) hf hk
theorem ok_cl_findsInGrounds  (M : dM) {o : Int64} (hf : f_cl_findsInGrounds M = some o) : mO mX1_findsInGrounds 1 [.ref 50] M (some (.long o)) M := by
  refine y_ok (by decide +kernel) (by decide) (L0 := [some (.ref 50), none, none, none]) rfl ?_
  have hk := mR_mQ (some (.long o)) M
  generalize mQ _ _ = Q at hk ⊢
  unfold f_cl_findsInGrounds at hf
  refine y_lconst (n := 1) (v := 0) ⟨dX1_findsInGrounds_0, rfl⟩ kl_0 ?_
  refine y_lstore_n (i := 1) (n := 2) (L2 := [some (.ref 50), some (.long 0), none, none]) ⟨dX1_findsInGrounds_1, rfl⟩ (by decide) rfl rfl ?_
  refine y_iconst (n := 3) (v := 0) ⟨dX1_findsInGrounds_2, rfl⟩ ki_0 ?_
  refine y_istore_n (i := 3) (n := 4) (L2 := [some (.ref 50), some (.long 0), none, some (.int 0)]) ⟨dX1_findsInGrounds_3, rfl⟩ (by decide) rfl rfl ?_
  obtain ⟨r4, hl3, hf⟩ := b_s hf
  cases hf
  exact y_wk ⟨Or.inr rfl, Or.inr rfl, Or.inr rfl, Or.inr rfl, trivial⟩ (wl_cl_findsInGrounds_4 0 0 M hl3 hk)
theorem c_cl_findsInGrounds  (M : dM) {o : Int64} {y : mz_M} {d : Nat} {Q : mz_P} {pc n i : Nat} {L : List (Option Value)} {st : List Value} (h : mz_d y.2.1 pc n 3 (.invokevirtual i)) (hl : mz_ml y.1.cls i yX1_findsInGrounds) (hf : f_cl_findsInGrounds M = some o) (hd : 1 + 1 ≤ d) (hsm : (st.map (fun v => v.category)).sum ≤ 8) (hLr : mz_rL 133 L = true) (hSr : mz_rS 133 st = true) (kk : mW y d Q n L (.long o :: st) M) : mW y d Q pc L (.ref 50 :: st) M :=
  y_callV kmX1_findsInGrounds kvX1_findsInGrounds l_50 (by decide +kernel) (by decide +kernel) h hl (ok_cl_findsInGrounds  M hf) (vs := []) rfl rfl hd hsm hLr hSr kk
theorem c_cl_cutsR {dr : Nat} {rec : (Int32 → Int32 → Int32 → Int64 → Int64 → dM → Option (Bool × dM))} (hrec : ∀ (a1 : Int32) (a2 : Int32) (a3 : Int32) (a4 : Int64) (a5 : Int64) (M : dM) (o : (Bool × dM)), rec a1 a2 a3 a4 a5 M = some o → mO mX1_cuts dr [.ref 50, .int a1, .int a2, .int a3, .long a4, .long a5] M (some (.int (bI o.1))) o.2) (a1 : Int32) (a2 : Int32) (a3 : Int32) (a4 : Int64) (a5 : Int64) (M : dM) {o : (Bool × dM)} {y : mz_M} {d : Nat} {Q : mz_P} {pc n i : Nat} {L : List (Option Value)} {st : List Value} (h : mz_d y.2.1 pc n 3 (.invokevirtual i)) (hl : mz_ml y.1.cls i yX1_cuts) (hf : rec a1 a2 a3 a4 a5 M = some o) (hd : dr + 1 ≤ d) (hsm : (st.map (fun v => v.category)).sum ≤ 8) (hLr : mz_rL 133 L = true) (hSr : mz_rS 133 st = true) (kk : mW y d Q n L (.int (bI o.1) :: st) o.2) : mW y d Q pc L (.long a5 :: .long a4 :: .int a3 :: .int a2 :: .int a1 :: .ref 50 :: st) M :=
  y_callV kmX1_cuts kvX1_cuts l_50 (by decide +kernel) (by decide +kernel) h hl (hrec a1 a2 a3 a4 a5 M o hf) (vs := [.int a1, .int a2, .int a3, .long a4, .long a5]) rfl rfl hd hsm hLr hSr kk
noncomputable def t_cl_cuts_10 (rec : (Int32 → Int32 → Int32 → Int64 → Int64 → dM → Option (Bool × dM))) (x1 : Int32) (x4 : Int64) (M : dM) : Option (Bool × dM) :=
  (f_cl_standWith x4 M).bind fun v1 =>
  if (f_ax_hasBit v1.toInt64 x1) = true then
    some (false, M)
  else
    some (true, M)
def K_cl_cuts_55 (dr : Nat) (Q : mz_P) (x1 : Int32) (x2 : Int32) (x4 : Int64) (x6 : Int64) (M : dM) : ((Int32 × dM) ⊕ (Bool × dM)) → Prop
  | .inl s => mW mX1_cuts (dr + 2) Q 55 [some (.ref 50), some (.int x1), some (.int x2), none, some (.long x4), none, some (.long x6), none, some (.int s.1)] [] s.2
  | .inr r => mR Q (some (.int (bI r.1))) r.2
noncomputable def b_cl_cuts_55_55 (rec : (Int32 → Int32 → Int32 → Int64 → Int64 → dM → Option (Bool × dM))) (x1 : Int32) (x2 : Int32) (x4 : Int64) (x6 : Int64) (x8 : Int32) (M : dM) : Option ((Int32 × dM) ⊕ (Bool × dM)) :=
  if (gI M 12 7) ≤ x8 then
    some (.inr (false, M))
  else
    if (f_ax_hasBit x6 x8) = true then
      gd (vp_in (x2 - 1) 3) <|
      (rec x1 (x2 - 1) (x8 + 1) (x4 &&& (((1 : Int64) <<< (x8.toInt64 &&& 63)) ^^^ (-1))) x6 (sI M 54 (x2 - 1).toNatClampNeg x8)).bind fun q6 =>
      if q6.1 = true then
        some (.inr (true, q6.2))
      else
        some (.inl ((x8 + 1), q6.2))
    else
      some (.inl ((x8 + 1), M))
noncomputable def l_cl_cuts_55 (rec : (Int32 → Int32 → Int32 → Int64 → Int64 → dM → Option (Bool × dM))) (x1 : Int32) (x2 : Int32) (x4 : Int64) (x6 : Int64) (x8 : Int32) (M : dM) : Option (Bool × dM) := lpc (fun s => b_cl_cuts_55_55 rec x1 x2 x4 x6 s.1 s.2) (x8, M)
noncomputable def f_cl_cuts (rec : (Int32 → Int32 → Int32 → Int64 → Int64 → dM → Option (Bool × dM))) (a1 : Int32) (a2 : Int32) (a3 : Int32) (a4 : Int64) (a5 : Int64) (M : dM) : Option (Bool × dM) :=
  if a2 < 1 then
    t_cl_cuts_10 rec a1 a4 M
  else
    if a2 ≤ 3 then
      (f_cl_standWith (a4 &&& (((1 : Int64) <<< (a3.toInt64 &&& 63)) - 1)) M).bind fun v3 =>
      if (f_ax_hasBit v3.toInt64 a1) = true then
        some (false, M)
      else
        (l_cl_cuts_55 rec a1 a2 a4 a5 a3 M).bind fun r10 => some r10
    else
      t_cl_cuts_10 rec a1 a4 M
theorem w_t_cl_cuts_10 {dr : Nat} (rec : (Int32 → Int32 → Int32 → Int64 → Int64 → dM → Option (Bool × dM))) (hrec : ∀ (a1 : Int32) (a2 : Int32) (a3 : Int32) (a4 : Int64) (a5 : Int64) (M : dM) (o : (Bool × dM)), rec a1 a2 a3 a4 a5 M = some o → mO mX1_cuts dr [.ref 50, .int a1, .int a2, .int a3, .long a4, .long a5] M (some (.int (bI o.1))) o.2) (x1 : Int32) (x4 : Int64) (M : dM) {Q : mz_P} {o : (Bool × dM)} (hf : t_cl_cuts_10 rec x1 x4 M = some o) (hk : mR Q (some (.int (bI o.1))) o.2) : mW mX1_cuts (dr + 2) Q 10 [some (.ref 50), some (.int x1), none, none, some (.long x4), none, none, none, none] [] M := by
  unfold t_cl_cuts_10 at hf
  refine y_aload_n (i := 0) (n := 11) ⟨dX1_cuts_10, rfl⟩ rfl ?_
  refine y_lload (i := 4) (n := 13) ⟨dX1_cuts_11, rfl⟩ rfl ?_
  obtain ⟨v1, hv2, hf⟩ := b_s hf
  refine c_cl_standWith x4 M (n := 16) ⟨dX1_cuts_13, rfl⟩ klX1_57 hv2 (by omega) (Nat.le_of_ble_eq_true rfl) rfl rfl ?_
  refine y_i2l (n := 17) ⟨dX1_cuts_16, rfl⟩ ?_
  refine y_iload_n (i := 1) (n := 18) ⟨dX1_cuts_17, rfl⟩ rfl ?_
  refine c_ax_hasBit v1.toInt64 x1 M (n := 21) ⟨dX1_cuts_18, rfl⟩ klX1_61 rfl (by omega) (Nat.le_of_ble_eq_true rfl) rfl rfl ?_
  refine y_if_ne (t := 28) (n := 24) ⟨dX1_cuts_21, rfl, rfl⟩ (fun h0 => ?_) (fun h0 => ?_)
  · have hc := bI_1 h0
    replace hf := i_t hc hf
    refine y_iconst (n := 29) (v := 0) ⟨dX1_cuts_28, rfl⟩ ki_0 ?_
    cases hf
    exact y_ireturn (n := 30) ⟨dX1_cuts_29, rfl⟩ rfl rfl hk
  · have hc := bI_0 h0
    replace hf := i_f hc hf
    refine y_iconst (n := 25) (v := 1) ⟨dX1_cuts_24, rfl⟩ ki_1 ?_
    refine y_goto (t := 29) ⟨dX1_cuts_25, rfl, rfl⟩ ?_
    cases hf
    exact y_ireturn (n := 30) ⟨dX1_cuts_29, rfl⟩ rfl rfl hk
theorem w_b_cl_cuts_55_55 {dr : Nat} (rec : (Int32 → Int32 → Int32 → Int64 → Int64 → dM → Option (Bool × dM))) (hrec : ∀ (a1 : Int32) (a2 : Int32) (a3 : Int32) (a4 : Int64) (a5 : Int64) (M : dM) (o : (Bool × dM)), rec a1 a2 a3 a4 a5 M = some o → mO mX1_cuts dr [.ref 50, .int a1, .int a2, .int a3, .long a4, .long a5] M (some (.int (bI o.1))) o.2) (x1 : Int32) (x2 : Int32) (x4 : Int64) (x6 : Int64) (x8 : Int32) (M : dM) {Q : mz_P} {o : ((Int32 × dM) ⊕ (Bool × dM))} (hf : b_cl_cuts_55_55 rec x1 x2 x4 x6 x8 M = some o) (hk : K_cl_cuts_55 dr Q x1 x2 x4 x6 M o) : mW mX1_cuts (dr + 2) Q 55 [some (.ref 50), some (.int x1), some (.int x2), none, some (.long x4), none, some (.long x6), none, some (.int x8)] [] M := by
  unfold b_cl_cuts_55_55 at hf
  refine y_iload (i := 8) (n := 57) ⟨dX1_cuts_55, rfl⟩ rfl ?_
  refine y_aload_n (i := 0) (n := 58) ⟨dX1_cuts_57, rfl⟩ rfl ?_
  refine y_getR (n := 61) ⟨dX1_cuts_58, rfl⟩ kfX1_32 l_50 rfl r_50_0 ?_
  refine y_getI (n := 64) ⟨dX1_cuts_61, rfl⟩ kfX1_76 l_12 rfl ?_
  refine y_icmp_ge (t := 123) (n := 67) ⟨dX1_cuts_64, rfl, rfl⟩ (fun (hc : (gI M 12 7) ≤ x8) => ?_) (fun (hc : ¬ ((gI M 12 7) ≤ x8)) => ?_)
  · replace hf := i_t hc hf
    refine y_iconst (n := 124) (v := 0) ⟨dX1_cuts_123, rfl⟩ ki_0 ?_
    cases hf
    exact y_ireturn (n := 125) ⟨dX1_cuts_124, rfl⟩ rfl rfl hk
  · replace hf := i_f hc hf
    refine y_lload (i := 6) (n := 69) ⟨dX1_cuts_67, rfl⟩ rfl ?_
    refine y_iload (i := 8) (n := 71) ⟨dX1_cuts_69, rfl⟩ rfl ?_
    refine c_ax_hasBit x6 x8 M (n := 74) ⟨dX1_cuts_71, rfl⟩ klX1_61 rfl (by omega) (Nat.le_of_ble_eq_true rfl) rfl rfl ?_
    refine y_if_eq (t := 117) (n := 77) ⟨dX1_cuts_74, rfl, rfl⟩ (fun h0 => ?_) (fun h0 => ?_)
    · have hc := bI_0 h0
      replace hf := i_f hc hf
      refine y_iinc (i := 8) (n := 120) (b := (x8 + 1)) (L2 := [some (.ref 50), some (.int x1), some (.int x2), none, some (.long x4), none, some (.long x6), none, some (.int (x8 + 1))]) ⟨dX1_cuts_117, rfl⟩ rfl (by rw [ki_1]) (by decide) rfl rfl ?_
      refine y_goto (t := 55) ⟨dX1_cuts_120, rfl, rfl⟩ ?_
      cases hf
      exact y_wk ⟨Or.inr rfl, Or.inr rfl, Or.inr rfl, Or.inr rfl, Or.inr rfl, Or.inr rfl, Or.inr rfl, Or.inr rfl, Or.inr rfl, trivial⟩ hk
    · have hc := bI_1 h0
      replace hf := i_t hc hf
      refine y_aload_n (i := 0) (n := 78) ⟨dX1_cuts_77, rfl⟩ rfl ?_
      refine y_getR (n := 81) ⟨dX1_cuts_78, rfl⟩ kfX1_22 l_50 rfl r_50_5 ?_
      refine y_iload_n (i := 2) (n := 82) ⟨dX1_cuts_81, rfl⟩ rfl ?_
      refine y_iconst (n := 83) (v := 1) ⟨dX1_cuts_82, rfl⟩ ki_1 ?_
      refine y_isub (n := 84) ⟨dX1_cuts_83, rfl⟩ ?_
      refine y_iload (i := 8) (n := 86) ⟨dX1_cuts_84, rfl⟩ rfl ?_
      obtain ⟨hg5, hf⟩ := g_s hf
      refine y_iastore (n := 87) ⟨dX1_cuts_86, rfl⟩ l_54 hg5 ?_
      refine y_aload_n (i := 0) (n := 88) ⟨dX1_cuts_87, rfl⟩ rfl ?_
      refine y_iload_n (i := 1) (n := 89) ⟨dX1_cuts_88, rfl⟩ rfl ?_
      refine y_iload_n (i := 2) (n := 90) ⟨dX1_cuts_89, rfl⟩ rfl ?_
      refine y_iconst (n := 91) (v := 1) ⟨dX1_cuts_90, rfl⟩ ki_1 ?_
      refine y_isub (n := 92) ⟨dX1_cuts_91, rfl⟩ ?_
      refine y_iload (i := 8) (n := 94) ⟨dX1_cuts_92, rfl⟩ rfl ?_
      refine y_iconst (n := 95) (v := 1) ⟨dX1_cuts_94, rfl⟩ ki_1 ?_
      refine y_iadd (n := 96) ⟨dX1_cuts_95, rfl⟩ ?_
      refine y_lload (i := 4) (n := 98) ⟨dX1_cuts_96, rfl⟩ rfl ?_
      refine y_lconst (n := 99) (v := 1) ⟨dX1_cuts_98, rfl⟩ kl_1 ?_
      refine y_iload (i := 8) (n := 101) ⟨dX1_cuts_99, rfl⟩ rfl ?_
      refine y_lshl (n := 102) ⟨dX1_cuts_101, rfl⟩ ?_
      refine y_ldc2 (n := 105) ⟨dX1_cuts_102, rfl⟩ kcX1_42 ?_
      refine y_lxor (n := 106) ⟨dX1_cuts_105, rfl⟩ ?_
      refine y_land (n := 107) ⟨dX1_cuts_106, rfl⟩ ?_
      refine y_lload (i := 6) (n := 109) ⟨dX1_cuts_107, rfl⟩ rfl ?_
      obtain ⟨q6, hv7, hf⟩ := b_s hf
      refine c_cl_cutsR hrec x1 (x2 - 1) (x8 + 1) (x4 &&& (((1 : Int64) <<< (x8.toInt64 &&& 63)) ^^^ (-1))) x6 (sI M 54 (x2 - 1).toNatClampNeg x8) (n := 112) ⟨dX1_cuts_109, rfl⟩ klX1_68 hv7 (by omega) (Nat.le_of_ble_eq_true rfl) rfl rfl ?_
      refine y_if_eq (t := 117) (n := 115) ⟨dX1_cuts_112, rfl, rfl⟩ (fun h0 => ?_) (fun h0 => ?_)
      · have hc := bI_0 h0
        replace hf := i_f hc hf
        refine y_iinc (i := 8) (n := 120) (b := (x8 + 1)) (L2 := [some (.ref 50), some (.int x1), some (.int x2), none, some (.long x4), none, some (.long x6), none, some (.int (x8 + 1))]) ⟨dX1_cuts_117, rfl⟩ rfl (by rw [ki_1]) (by decide) rfl rfl ?_
        refine y_goto (t := 55) ⟨dX1_cuts_120, rfl, rfl⟩ ?_
        cases hf
        exact y_wk ⟨Or.inr rfl, Or.inr rfl, Or.inr rfl, Or.inr rfl, Or.inr rfl, Or.inr rfl, Or.inr rfl, Or.inr rfl, Or.inr rfl, trivial⟩ hk
      · have hc := bI_1 h0
        replace hf := i_t hc hf
        refine y_iconst (n := 116) (v := 1) ⟨dX1_cuts_115, rfl⟩ ki_1 ?_
        cases hf
        exact y_ireturn (n := 117) ⟨dX1_cuts_116, rfl⟩ rfl rfl hk
theorem wl_cl_cuts_55 {dr : Nat} (rec : (Int32 → Int32 → Int32 → Int64 → Int64 → dM → Option (Bool × dM))) (hrec : ∀ (a1 : Int32) (a2 : Int32) (a3 : Int32) (a4 : Int64) (a5 : Int64) (M : dM) (o : (Bool × dM)), rec a1 a2 a3 a4 a5 M = some o → mO mX1_cuts dr [.ref 50, .int a1, .int a2, .int a3, .long a4, .long a5] M (some (.int (bI o.1))) o.2) (x1 : Int32) (x2 : Int32) (x4 : Int64) (x6 : Int64) (x8 : Int32) (M : dM) {Q : mz_P} {x : (Bool × dM)} (hf : l_cl_cuts_55 rec x1 x2 x4 x6 x8 M = some x) (hk : K_cl_cuts_55 dr Q x1 x2 x4 x6 M (.inr x)) : mW mX1_cuts (dr + 2) Q 55 [some (.ref 50), some (.int x1), some (.int x2), none, some (.long x4), none, some (.long x6), none, some (.int x8)] [] M :=
  lpc_wp (Wh := fun s => mW mX1_cuts (dr + 2) Q 55 [some (.ref 50), some (.int x1), some (.int x2), none, some (.long x4), none, some (.long x6), none, some (.int s.1)] [] s.2) (K := K_cl_cuts_55 dr Q x1 x2 x4 x6 M) (fun _ h => h) (fun s o hb hk => w_b_cl_cuts_55_55 rec hrec x1 x2 x4 x6 s.1 s.2 hb hk) hf hk
theorem ok_cl_cuts {dr : Nat} (rec : (Int32 → Int32 → Int32 → Int64 → Int64 → dM → Option (Bool × dM))) (hrec : ∀ (a1 : Int32) (a2 : Int32) (a3 : Int32) (a4 : Int64) (a5 : Int64) (M : dM) (o : (Bool × dM)), rec a1 a2 a3 a4 a5 M = some o → mO mX1_cuts dr [.ref 50, .int a1, .int a2, .int a3, .long a4, .long a5] M (some (.int (bI o.1))) o.2) (a1 : Int32) (a2 : Int32) (a3 : Int32) (a4 : Int64) (a5 : Int64) (M : dM) {o : (Bool × dM)} (hf : f_cl_cuts rec a1 a2 a3 a4 a5 M = some o) : mO mX1_cuts (dr + 2) [.ref 50, .int a1, .int a2, .int a3, .long a4, .long a5] M (some (.int (bI o.1))) o.2 := by
  refine y_ok (by decide +kernel) (by decide) (L0 := [some (.ref 50), some (.int a1), some (.int a2), some (.int a3), some (.long a4), none, some (.long a5), none, none]) rfl ?_
  have hk := mR_mQ (some (.int (bI o.1))) o.2
  generalize mQ _ _ = Q at hk ⊢
  unfold f_cl_cuts at hf
  refine y_iload_n (i := 2) (n := 1) ⟨dX1_cuts_0, rfl⟩ rfl ?_
  refine y_iconst (n := 2) (v := 1) ⟨dX1_cuts_1, rfl⟩ ki_1 ?_
  refine y_icmp_lt (t := 10) (n := 5) ⟨dX1_cuts_2, rfl, rfl⟩ (fun (hc : a2 < 1) => ?_) (fun (hc : ¬ (a2 < 1)) => ?_)
  · replace hf := i_t hc hf
    exact y_wk ⟨Or.inr rfl, Or.inr rfl, Or.inl rfl, Or.inl rfl, Or.inr rfl, Or.inr rfl, Or.inl rfl, Or.inr rfl, Or.inr rfl, trivial⟩ (w_t_cl_cuts_10 rec hrec a1 a4 M hf hk)
  · replace hf := i_f hc hf
    refine y_iload_n (i := 2) (n := 6) ⟨dX1_cuts_5, rfl⟩ rfl ?_
    refine y_iconst (n := 7) (v := 3) ⟨dX1_cuts_6, rfl⟩ ki_3 ?_
    refine y_icmp_le (t := 30) (n := 10) ⟨dX1_cuts_7, rfl, rfl⟩ (fun (hc : a2 ≤ 3) => ?_) (fun (hc : ¬ (a2 ≤ 3)) => ?_)
    · replace hf := i_t hc hf
      refine y_aload_n (i := 0) (n := 31) ⟨dX1_cuts_30, rfl⟩ rfl ?_
      refine y_lload (i := 4) (n := 33) ⟨dX1_cuts_31, rfl⟩ rfl ?_
      refine y_lconst (n := 34) (v := 1) ⟨dX1_cuts_33, rfl⟩ kl_1 ?_
      refine y_iload_n (i := 3) (n := 35) ⟨dX1_cuts_34, rfl⟩ rfl ?_
      refine y_lshl (n := 36) ⟨dX1_cuts_35, rfl⟩ ?_
      refine y_lconst (n := 37) (v := 1) ⟨dX1_cuts_36, rfl⟩ kl_1 ?_
      refine y_lsub (n := 38) ⟨dX1_cuts_37, rfl⟩ ?_
      refine y_land (n := 39) ⟨dX1_cuts_38, rfl⟩ ?_
      obtain ⟨v3, hv4, hf⟩ := b_s hf
      refine c_cl_standWith (a4 &&& (((1 : Int64) <<< (a3.toInt64 &&& 63)) - 1)) M (n := 42) ⟨dX1_cuts_39, rfl⟩ klX1_57 hv4 (by omega) (Nat.le_of_ble_eq_true rfl) rfl rfl ?_
      refine y_i2l (n := 43) ⟨dX1_cuts_42, rfl⟩ ?_
      refine y_iload_n (i := 1) (n := 44) ⟨dX1_cuts_43, rfl⟩ rfl ?_
      refine c_ax_hasBit v3.toInt64 a1 M (n := 47) ⟨dX1_cuts_44, rfl⟩ klX1_61 rfl (by omega) (Nat.le_of_ble_eq_true rfl) rfl rfl ?_
      refine y_if_eq (t := 52) (n := 50) ⟨dX1_cuts_47, rfl, rfl⟩ (fun h0 => ?_) (fun h0 => ?_)
      · have hc := bI_0 h0
        replace hf := i_f hc hf
        refine y_iload_n (i := 3) (n := 53) ⟨dX1_cuts_52, rfl⟩ rfl ?_
        refine y_istore (i := 8) (n := 55) (L2 := [some (.ref 50), some (.int a1), some (.int a2), some (.int a3), some (.long a4), none, some (.long a5), none, some (.int a3)]) ⟨dX1_cuts_53, rfl⟩ (by decide) rfl rfl ?_
        obtain ⟨r10, hl9, hf⟩ := b_s hf
        cases hf
        exact y_wk ⟨Or.inr rfl, Or.inr rfl, Or.inr rfl, Or.inl rfl, Or.inr rfl, Or.inr rfl, Or.inr rfl, Or.inr rfl, Or.inr rfl, trivial⟩ (wl_cl_cuts_55 rec hrec a1 a2 a4 a5 a3 M hl9 hk)
      · have hc := bI_1 h0
        replace hf := i_t hc hf
        refine y_iconst (n := 51) (v := 0) ⟨dX1_cuts_50, rfl⟩ ki_0 ?_
        cases hf
        exact y_ireturn (n := 52) ⟨dX1_cuts_51, rfl⟩ rfl rfl hk
    · replace hf := i_f hc hf
      exact y_wk ⟨Or.inr rfl, Or.inr rfl, Or.inl rfl, Or.inl rfl, Or.inr rfl, Or.inr rfl, Or.inl rfl, Or.inr rfl, Or.inr rfl, trivial⟩ (w_t_cl_cuts_10 rec hrec a1 a4 M hf hk)
noncomputable def fr_cl_cuts : Nat → Int32 → Int32 → Int32 → Int64 → Int64 → dM → Option (Bool × dM)
  | 0 => fun _ _ _ _ _ _ => none
  | n + 1 => f_cl_cuts (fr_cl_cuts n)
theorem okr_cl_cuts : ∀ (n : Nat) (a1 : Int32) (a2 : Int32) (a3 : Int32) (a4 : Int64) (a5 : Int64) (M : dM) (o : (Bool × dM)), fr_cl_cuts n a1 a2 a3 a4 a5 M = some o → mO mX1_cuts (2 * n) [.ref 50, .int a1, .int a2, .int a3, .long a4, .long a5] M (some (.int (bI o.1))) o.2
  | 0, _, _, _, _, _, _, _, h => by cases h
  | n + 1, a1, a2, a3, a4, a5, M, o, h => by
    have e : 2 * (n + 1) = 2 * n + 2 := by omega
    rw [e]
    exact ok_cl_cuts (fr_cl_cuts n) (okr_cl_cuts n) a1 a2 a3 a4 a5 M h
theorem c_cl_cuts (a1 : Int32) (a2 : Int32) (a3 : Int32) (a4 : Int64) (a5 : Int64) (M : dM) {o : (Bool × dM)} {y : mz_M} {d : Nat} {Q : mz_P} {pc n i : Nat} {L : List (Option Value)} {st : List Value} (h : mz_d y.2.1 pc n 3 (.invokevirtual i)) (hl : mz_ml y.1.cls i yX1_cuts) (hf : fr_cl_cuts 8 a1 a2 a3 a4 a5 M = some o) (hd : 16 + 1 ≤ d) (hsm : (st.map (fun v => v.category)).sum ≤ 8) (hLr : mz_rL 133 L = true) (hSr : mz_rS 133 st = true) (kk : mW y d Q n L (.int (bI o.1) :: st) o.2) : mW y d Q pc L (.long a5 :: .long a4 :: .int a3 :: .int a2 :: .int a1 :: .ref 50 :: st) M :=
  y_callV kmX1_cuts kvX1_cuts l_50 (by decide +kernel) (by decide +kernel) h hl (okr_cl_cuts 8 a1 a2 a3 a4 a5 M o hf) (vs := [.int a1, .int a2, .int a3, .long a4, .long a5]) rfl rfl hd hsm hLr hSr kk
noncomputable def f_cl_turnPicks (a1 : Int32) (M : dM) : Option dM :=
  gd (vp_in (a1 - 1) 3) <|
  some (sI (sI M 54 0 (gI M 54 (a1 - 1).toNatClampNeg)) 54 (a1 - 1).toNatClampNeg (gI M 54 0))
theorem ok_cl_turnPicks (a1 : Int32) (M : dM) {o : dM} (hf : f_cl_turnPicks a1 M = some o) : mO mX1_turnPicks 1 [.ref 50, .int a1] M none o := by
  refine y_ok (by decide +kernel) (by decide) (L0 := [some (.ref 50), some (.int a1), none]) rfl ?_
  have hk := mR_mQ none o
  generalize mQ _ _ = Q at hk ⊢
  unfold f_cl_turnPicks at hf
  refine y_aload_n (i := 0) (n := 1) ⟨dX1_turnPicks_0, rfl⟩ rfl ?_
  refine y_getR (n := 4) ⟨dX1_turnPicks_1, rfl⟩ kfX1_22 l_50 rfl r_50_5 ?_
  refine y_iconst (n := 5) (v := 0) ⟨dX1_turnPicks_4, rfl⟩ ki_0 ?_
  refine y_iaload (n := 6) ⟨dX1_turnPicks_5, rfl⟩ l_54 (by unfold vp_in; decide) ?_
  refine y_istore_n (i := 2) (n := 7) (L2 := [some (.ref 50), some (.int a1), some (.int (gI M 54 0))]) ⟨dX1_turnPicks_6, rfl⟩ (by decide) rfl rfl ?_
  refine y_aload_n (i := 0) (n := 8) ⟨dX1_turnPicks_7, rfl⟩ rfl ?_
  refine y_getR (n := 11) ⟨dX1_turnPicks_8, rfl⟩ kfX1_22 l_50 rfl r_50_5 ?_
  refine y_iconst (n := 12) (v := 0) ⟨dX1_turnPicks_11, rfl⟩ ki_0 ?_
  refine y_aload_n (i := 0) (n := 13) ⟨dX1_turnPicks_12, rfl⟩ rfl ?_
  refine y_getR (n := 16) ⟨dX1_turnPicks_13, rfl⟩ kfX1_22 l_50 rfl r_50_5 ?_
  refine y_iload_n (i := 1) (n := 17) ⟨dX1_turnPicks_16, rfl⟩ rfl ?_
  refine y_iconst (n := 18) (v := 1) ⟨dX1_turnPicks_17, rfl⟩ ki_1 ?_
  refine y_isub (n := 19) ⟨dX1_turnPicks_18, rfl⟩ ?_
  obtain ⟨hg1, hf⟩ := g_s hf
  refine y_iaload (n := 20) ⟨dX1_turnPicks_19, rfl⟩ l_54 hg1 ?_
  refine y_iastore (n := 21) ⟨dX1_turnPicks_20, rfl⟩ l_54 (by unfold vp_in; decide) ?_
  refine y_aload_n (i := 0) (n := 22) ⟨dX1_turnPicks_21, rfl⟩ rfl ?_
  refine y_getR (n := 25) ⟨dX1_turnPicks_22, rfl⟩ kfX1_22 l_50 rfl r_50_5 ?_
  refine y_iload_n (i := 1) (n := 26) ⟨dX1_turnPicks_25, rfl⟩ rfl ?_
  refine y_iconst (n := 27) (v := 1) ⟨dX1_turnPicks_26, rfl⟩ ki_1 ?_
  refine y_isub (n := 28) ⟨dX1_turnPicks_27, rfl⟩ ?_
  refine y_iload_n (i := 2) (n := 29) ⟨dX1_turnPicks_28, rfl⟩ rfl ?_
  refine y_iastore (n := 30) ⟨dX1_turnPicks_29, rfl⟩ l_54 hg1 ?_
  cases hf
  exact y_return (n := 31) ⟨dX1_turnPicks_30, rfl⟩ rfl hk
theorem c_cl_turnPicks (a1 : Int32) (M : dM) {o : dM} {y : mz_M} {d : Nat} {Q : mz_P} {pc n i : Nat} {L : List (Option Value)} {st : List Value} (h : mz_d y.2.1 pc n 3 (.invokevirtual i)) (hl : mz_ml y.1.cls i yX1_turnPicks) (hf : f_cl_turnPicks a1 M = some o) (hd : 1 + 1 ≤ d) (hsm : (st.map (fun v => v.category)).sum ≤ 8) (hLr : mz_rL 133 L = true) (hSr : mz_rS 133 st = true) (kk : mW y d Q n L st o) : mW y d Q pc L (.int a1 :: .ref 50 :: st) M :=
  y_callV kmX1_turnPicks kvX1_turnPicks l_50 (by decide +kernel) (by decide +kernel) h hl (ok_cl_turnPicks a1 M hf) (vs := [.int a1]) rfl rfl hd hsm hLr hSr kk
def K_cl_seekCut_32 (Q : mz_P) (x1 : Int32) (x2 : Int64) (x4 : Int64) (M : dM) : ((Int32 × dM) ⊕ (Int32 × dM)) → Prop
  | .inl s => mW mX1_seekCut 17 Q 32 [some (.ref 50), some (.int x1), some (.long x2), none, some (.long x4), none, some (.int s.1)] [] s.2
  | .inr r => mR Q (some (.int r.1)) r.2
noncomputable def b_cl_seekCut_32_32 (x1 : Int32) (x2 : Int64) (x4 : Int64) (x6 : Int32) (M : dM) : Option ((Int32 × dM) ⊕ (Int32 × dM)) :=
  if 3 < x6 then
    some (.inr (0, M))
  else
    (fr_cl_cuts 8 x1 x6 0 x2 x4 M).bind fun q5 =>
    if q5.1 = true then
      (f_cl_turnPicks x6 q5.2).bind fun q7 =>
      some (.inr (x6, q7))
    else
      some (.inl ((x6 + 1), q5.2))
noncomputable def l_cl_seekCut_32 (x1 : Int32) (x2 : Int64) (x4 : Int64) (x6 : Int32) (M : dM) : Option (Int32 × dM) := lpc (fun s => b_cl_seekCut_32_32 x1 x2 x4 s.1 s.2) (x6, M)
noncomputable def f_cl_seekCut (a1 : Int32) (M : dM) : Option (Int32 × dM) :=
  (f_cl_standWith (f_to_allFinds M) M).bind fun v1 =>
  if (f_ax_hasBit v1.toInt64 a1) = true then
    (f_cl_findsInGrounds M).bind fun v3 =>
    (l_cl_seekCut_32 a1 (f_to_allFinds M) v3 1 M).bind fun r11 => some r11
  else
    some (0, M)
theorem w_b_cl_seekCut_32_32 (x1 : Int32) (x2 : Int64) (x4 : Int64) (x6 : Int32) (M : dM) {Q : mz_P} {o : ((Int32 × dM) ⊕ (Int32 × dM))} (hf : b_cl_seekCut_32_32 x1 x2 x4 x6 M = some o) (hk : K_cl_seekCut_32 Q x1 x2 x4 M o) : mW mX1_seekCut 17 Q 32 [some (.ref 50), some (.int x1), some (.long x2), none, some (.long x4), none, some (.int x6)] [] M := by
  unfold b_cl_seekCut_32_32 at hf
  refine y_iload (i := 6) (n := 34) ⟨dX1_seekCut_32, rfl⟩ rfl ?_
  refine y_iconst (n := 35) (v := 3) ⟨dX1_seekCut_34, rfl⟩ ki_3 ?_
  refine y_icmp_gt (t := 67) (n := 38) ⟨dX1_seekCut_35, rfl, rfl⟩ (fun (hc : 3 < x6) => ?_) (fun (hc : ¬ (3 < x6)) => ?_)
  · replace hf := i_t hc hf
    refine y_iconst (n := 68) (v := 0) ⟨dX1_seekCut_67, rfl⟩ ki_0 ?_
    cases hf
    exact y_ireturn (n := 69) ⟨dX1_seekCut_68, rfl⟩ rfl rfl hk
  · replace hf := i_f hc hf
    refine y_aload_n (i := 0) (n := 39) ⟨dX1_seekCut_38, rfl⟩ rfl ?_
    refine y_iload_n (i := 1) (n := 40) ⟨dX1_seekCut_39, rfl⟩ rfl ?_
    refine y_iload (i := 6) (n := 42) ⟨dX1_seekCut_40, rfl⟩ rfl ?_
    refine y_iconst (n := 43) (v := 0) ⟨dX1_seekCut_42, rfl⟩ ki_0 ?_
    refine y_lload_n (i := 2) (n := 44) ⟨dX1_seekCut_43, rfl⟩ rfl ?_
    refine y_lload (i := 4) (n := 46) ⟨dX1_seekCut_44, rfl⟩ rfl ?_
    obtain ⟨q5, hv6, hf⟩ := b_s hf
    refine c_cl_cuts x1 x6 0 x2 x4 M (n := 49) ⟨dX1_seekCut_46, rfl⟩ klX1_68 hv6 (by decide) (Nat.le_of_ble_eq_true rfl) rfl rfl ?_
    refine y_if_eq (t := 61) (n := 52) ⟨dX1_seekCut_49, rfl, rfl⟩ (fun h0 => ?_) (fun h0 => ?_)
    · have hc := bI_0 h0
      replace hf := i_f hc hf
      refine y_iinc (i := 6) (n := 64) (b := (x6 + 1)) (L2 := [some (.ref 50), some (.int x1), some (.long x2), none, some (.long x4), none, some (.int (x6 + 1))]) ⟨dX1_seekCut_61, rfl⟩ rfl (by rw [ki_1]) (by decide) rfl rfl ?_
      refine y_goto (t := 32) ⟨dX1_seekCut_64, rfl, rfl⟩ ?_
      cases hf
      exact y_wk ⟨Or.inr rfl, Or.inr rfl, Or.inr rfl, Or.inr rfl, Or.inr rfl, Or.inr rfl, Or.inr rfl, trivial⟩ hk
    · have hc := bI_1 h0
      replace hf := i_t hc hf
      refine y_aload_n (i := 0) (n := 53) ⟨dX1_seekCut_52, rfl⟩ rfl ?_
      refine y_iload (i := 6) (n := 55) ⟨dX1_seekCut_53, rfl⟩ rfl ?_
      obtain ⟨q7, hv8, hf⟩ := b_s hf
      refine c_cl_turnPicks x6 q5.2 (n := 58) ⟨dX1_seekCut_55, rfl⟩ klX1_72 hv8 (by decide) (Nat.le_of_ble_eq_true rfl) rfl rfl ?_
      refine y_iload (i := 6) (n := 60) ⟨dX1_seekCut_58, rfl⟩ rfl ?_
      cases hf
      exact y_ireturn (n := 61) ⟨dX1_seekCut_60, rfl⟩ rfl rfl hk
theorem wl_cl_seekCut_32 (x1 : Int32) (x2 : Int64) (x4 : Int64) (x6 : Int32) (M : dM) {Q : mz_P} {x : (Int32 × dM)} (hf : l_cl_seekCut_32 x1 x2 x4 x6 M = some x) (hk : K_cl_seekCut_32 Q x1 x2 x4 M (.inr x)) : mW mX1_seekCut 17 Q 32 [some (.ref 50), some (.int x1), some (.long x2), none, some (.long x4), none, some (.int x6)] [] M :=
  lpc_wp (Wh := fun s => mW mX1_seekCut 17 Q 32 [some (.ref 50), some (.int x1), some (.long x2), none, some (.long x4), none, some (.int s.1)] [] s.2) (K := K_cl_seekCut_32 Q x1 x2 x4 M) (fun _ h => h) (fun s o hb hk => w_b_cl_seekCut_32_32 x1 x2 x4 s.1 s.2 hb hk) hf hk
theorem ok_cl_seekCut (a1 : Int32) (M : dM) {o : (Int32 × dM)} (hf : f_cl_seekCut a1 M = some o) : mO mX1_seekCut 17 [.ref 50, .int a1] M (some (.int o.1)) o.2 := by
  refine y_ok (by decide +kernel) (by decide) (L0 := [some (.ref 50), some (.int a1), none, none, none, none, none]) rfl ?_
  have hk := mR_mQ (some (.int o.1)) o.2
  generalize mQ _ _ = Q at hk ⊢
  unfold f_cl_seekCut at hf
  refine y_aload_n (i := 0) (n := 1) ⟨dX1_seekCut_0, rfl⟩ rfl ?_
  refine y_getR (n := 4) ⟨dX1_seekCut_1, rfl⟩ kfX1_32 l_50 rfl r_50_0 ?_
  refine c_to_allFinds M (n := 7) ⟨dX1_seekCut_4, rfl⟩ klX1_51 rfl (by decide) (Nat.le_of_ble_eq_true rfl) rfl rfl ?_
  refine y_lstore_n (i := 2) (n := 8) (L2 := [some (.ref 50), some (.int a1), some (.long (f_to_allFinds M)), none, none, none, none]) ⟨dX1_seekCut_7, rfl⟩ (by decide) rfl rfl ?_
  refine y_aload_n (i := 0) (n := 9) ⟨dX1_seekCut_8, rfl⟩ rfl ?_
  refine y_lload_n (i := 2) (n := 10) ⟨dX1_seekCut_9, rfl⟩ rfl ?_
  obtain ⟨v1, hv2, hf⟩ := b_s hf
  refine c_cl_standWith (f_to_allFinds M) M (n := 13) ⟨dX1_seekCut_10, rfl⟩ klX1_57 hv2 (by decide) (Nat.le_of_ble_eq_true rfl) rfl rfl ?_
  refine y_i2l (n := 14) ⟨dX1_seekCut_13, rfl⟩ ?_
  refine y_iload_n (i := 1) (n := 15) ⟨dX1_seekCut_14, rfl⟩ rfl ?_
  refine c_ax_hasBit v1.toInt64 a1 M (n := 18) ⟨dX1_seekCut_15, rfl⟩ klX1_61 rfl (by decide) (Nat.le_of_ble_eq_true rfl) rfl rfl ?_
  refine y_if_ne (t := 23) (n := 21) ⟨dX1_seekCut_18, rfl, rfl⟩ (fun h0 => ?_) (fun h0 => ?_)
  · have hc := bI_1 h0
    replace hf := i_t hc hf
    refine y_aload_n (i := 0) (n := 24) ⟨dX1_seekCut_23, rfl⟩ rfl ?_
    obtain ⟨v3, hv4, hf⟩ := b_s hf
    refine c_cl_findsInGrounds M (n := 27) ⟨dX1_seekCut_24, rfl⟩ klX1_65 hv4 (by decide) (Nat.le_of_ble_eq_true rfl) rfl rfl ?_
    refine y_lstore (i := 4) (n := 29) (L2 := [some (.ref 50), some (.int a1), some (.long (f_to_allFinds M)), none, some (.long v3), none, none]) ⟨dX1_seekCut_27, rfl⟩ (by decide) rfl rfl ?_
    refine y_iconst (n := 30) (v := 1) ⟨dX1_seekCut_29, rfl⟩ ki_1 ?_
    refine y_istore (i := 6) (n := 32) (L2 := [some (.ref 50), some (.int a1), some (.long (f_to_allFinds M)), none, some (.long v3), none, some (.int 1)]) ⟨dX1_seekCut_30, rfl⟩ (by decide) rfl rfl ?_
    obtain ⟨r11, hl10, hf⟩ := b_s hf
    cases hf
    exact y_wk ⟨Or.inr rfl, Or.inr rfl, Or.inr rfl, Or.inr rfl, Or.inr rfl, Or.inr rfl, Or.inr rfl, trivial⟩ (wl_cl_seekCut_32 a1 (f_to_allFinds M) v3 1 M hl10 hk)
  · have hc := bI_0 h0
    replace hf := i_f hc hf
    refine y_iconst (n := 22) (v := 0) ⟨dX1_seekCut_21, rfl⟩ ki_0 ?_
    cases hf
    exact y_ireturn (n := 23) ⟨dX1_seekCut_22, rfl⟩ rfl rfl hk
theorem c_cl_seekCut (a1 : Int32) (M : dM) {o : (Int32 × dM)} {y : mz_M} {d : Nat} {Q : mz_P} {pc n i : Nat} {L : List (Option Value)} {st : List Value} (h : mz_d y.2.1 pc n 3 (.invokevirtual i)) (hl : mz_ml y.1.cls i yX1_seekCut) (hf : f_cl_seekCut a1 M = some o) (hd : 17 + 1 ≤ d) (hsm : (st.map (fun v => v.category)).sum ≤ 8) (hLr : mz_rL 133 L = true) (hSr : mz_rS 133 st = true) (kk : mW y d Q n L (.int o.1 :: st) o.2) : mW y d Q pc L (.int a1 :: .ref 50 :: st) M :=
  y_callV kmX1_seekCut kvX1_seekCut l_50 (by decide +kernel) (by decide +kernel) h hl (ok_cl_seekCut a1 M hf) (vs := [.int a1]) rfl rfl hd hsm hLr hSr kk
noncomputable def f_cl_cutSize (a1 : Int32) (M : dM) : Option (Int32 × dM) :=
  if (gI M 50 6) = a1 then
    some ((gI M 50 7), M)
  else
    (f_cl_seekCut a1 (sI M 50 6 a1)).bind fun q1 =>
    some ((gI (sI q1.2 50 7 q1.1) 50 7), (sI q1.2 50 7 q1.1))
theorem ok_cl_cutSize (a1 : Int32) (M : dM) {o : (Int32 × dM)} (hf : f_cl_cutSize a1 M = some o) : mO mX1_cutSize 18 [.ref 50, .int a1] M (some (.int o.1)) o.2 := by
  refine y_ok (by decide +kernel) (by decide) (L0 := [some (.ref 50), some (.int a1)]) rfl ?_
  have hk := mR_mQ (some (.int o.1)) o.2
  generalize mQ _ _ = Q at hk ⊢
  unfold f_cl_cutSize at hf
  refine y_aload_n (i := 0) (n := 1) ⟨dX1_cutSize_0, rfl⟩ rfl ?_
  refine y_getI (n := 4) ⟨dX1_cutSize_1, rfl⟩ kfX1_25 l_50 rfl ?_
  refine y_iload_n (i := 1) (n := 5) ⟨dX1_cutSize_4, rfl⟩ rfl ?_
  refine y_icmp_eq (t := 22) (n := 8) ⟨dX1_cutSize_5, rfl, rfl⟩ (fun (hc : (gI M 50 6) = a1) => ?_) (fun (hc : ¬ ((gI M 50 6) = a1)) => ?_)
  · replace hf := i_t hc hf
    refine y_aload_n (i := 0) (n := 23) ⟨dX1_cutSize_22, rfl⟩ rfl ?_
    refine y_getI (n := 26) ⟨dX1_cutSize_23, rfl⟩ kfX1_48 l_50 rfl ?_
    cases hf
    exact y_ireturn (n := 27) ⟨dX1_cutSize_26, rfl⟩ rfl rfl hk
  · replace hf := i_f hc hf
    refine y_aload_n (i := 0) (n := 9) ⟨dX1_cutSize_8, rfl⟩ rfl ?_
    refine y_iload_n (i := 1) (n := 10) ⟨dX1_cutSize_9, rfl⟩ rfl ?_
    refine y_putI (n := 13) ⟨dX1_cutSize_10, rfl⟩ kfX1_25 l_50 (by decide +kernel) rfl ?_
    refine y_aload_n (i := 0) (n := 14) ⟨dX1_cutSize_13, rfl⟩ rfl ?_
    refine y_aload_n (i := 0) (n := 15) ⟨dX1_cutSize_14, rfl⟩ rfl ?_
    refine y_iload_n (i := 1) (n := 16) ⟨dX1_cutSize_15, rfl⟩ rfl ?_
    obtain ⟨q1, hv2, hf⟩ := b_s hf
    refine c_cl_seekCut a1 (sI M 50 6 a1) (n := 19) ⟨dX1_cutSize_16, rfl⟩ klX1_44 hv2 (by decide) (Nat.le_of_ble_eq_true rfl) rfl rfl ?_
    refine y_putI (n := 22) ⟨dX1_cutSize_19, rfl⟩ kfX1_48 l_50 (by decide +kernel) rfl ?_
    refine y_aload_n (i := 0) (n := 23) ⟨dX1_cutSize_22, rfl⟩ rfl ?_
    refine y_getI (n := 26) ⟨dX1_cutSize_23, rfl⟩ kfX1_48 l_50 rfl ?_
    cases hf
    exact y_ireturn (n := 27) ⟨dX1_cutSize_26, rfl⟩ rfl rfl hk
theorem c_cl_cutSize (a1 : Int32) (M : dM) {o : (Int32 × dM)} {y : mz_M} {d : Nat} {Q : mz_P} {pc n i : Nat} {L : List (Option Value)} {st : List Value} (h : mz_d y.2.1 pc n 3 (.invokevirtual i)) (hl : mz_ml y.1.cls i yX1_cutSize) (hf : f_cl_cutSize a1 M = some o) (hd : 18 + 1 ≤ d) (hsm : (st.map (fun v => v.category)).sum ≤ 8) (hLr : mz_rL 133 L = true) (hSr : mz_rS 133 st = true) (kk : mW y d Q n L (.int o.1 :: st) o.2) : mW y d Q pc L (.int a1 :: .ref 50 :: st) M :=
  y_callV kmX1_cutSize kvX1_cutSize l_50 (by decide +kernel) (by decide +kernel) h hl (ok_cl_cutSize a1 M hf) (vs := [.int a1]) rfl rfl hd hsm hLr hSr kk
noncomputable def f_ax_cut (a1 : Int32) (a2 : Int32) (M : dM) : Option (Int32 × dM) :=
  if (f_ax_within a1 12) = true then
    if (f_ax_within a2 4) = true then
      (f_cl_cutSize a1 M).bind fun q1 =>
      if q1.1 < 1 then
        some ((-1), q1.2)
      else
        if a2 ≤ q1.1 then
          if a2 = 0 then
            some (q1.1, q1.2)
          else
            gd (vp_in (a2 - 1) 3) <|
            some ((gI q1.2 54 (a2 - 1).toNatClampNeg), q1.2)
        else
          some ((-1), q1.2)
    else
      some ((-1), M)
  else
    some ((-1), M)
theorem ok_ax_cut (a1 : Int32) (a2 : Int32) (M : dM) {o : (Int32 × dM)} (hf : f_ax_cut a1 a2 M = some o) : mO mX11_cut 19 [.ref 0, .int a1, .int a2] M (some (.int o.1)) o.2 := by
  refine y_ok (by decide +kernel) (by decide) (L0 := [some (.ref 0), some (.int a1), some (.int a2), none]) rfl ?_
  have hk := mR_mQ (some (.int o.1)) o.2
  generalize mQ _ _ = Q at hk ⊢
  unfold f_ax_cut at hf
  refine y_iload_n (i := 1) (n := 1) ⟨dX11_cut_0, rfl⟩ rfl ?_
  refine y_bipush (n := 3) (v := 12) ⟨dX11_cut_1, rfl⟩ kb_12 ?_
  refine c_ax_within a1 12 M (n := 6) ⟨dX11_cut_3, rfl⟩ klX11_91 rfl (by decide) (Nat.le_of_ble_eq_true rfl) rfl rfl ?_
  refine y_if_eq (t := 17) (n := 9) ⟨dX11_cut_6, rfl, rfl⟩ (fun h0 => ?_) (fun h0 => ?_)
  · have hc := bI_0 h0
    replace hf := i_f hc hf
    refine y_iconst (n := 18) (v := (-1)) ⟨dX11_cut_17, rfl⟩ ki_m1 ?_
    cases hf
    exact y_ireturn (n := 19) ⟨dX11_cut_18, rfl⟩ rfl rfl hk
  · have hc := bI_1 h0
    replace hf := i_t hc hf
    refine y_iload_n (i := 2) (n := 10) ⟨dX11_cut_9, rfl⟩ rfl ?_
    refine y_iconst (n := 11) (v := 4) ⟨dX11_cut_10, rfl⟩ ki_4 ?_
    refine c_ax_within a2 4 M (n := 14) ⟨dX11_cut_11, rfl⟩ klX11_91 rfl (by decide) (Nat.le_of_ble_eq_true rfl) rfl rfl ?_
    refine y_if_ne (t := 19) (n := 17) ⟨dX11_cut_14, rfl, rfl⟩ (fun h0 => ?_) (fun h0 => ?_)
    · have hc := bI_1 h0
      replace hf := i_t hc hf
      refine y_aload_n (i := 0) (n := 20) ⟨dX11_cut_19, rfl⟩ rfl ?_
      refine y_getR (n := 23) ⟨dX11_cut_20, rfl⟩ kfX11_74 l_0 rfl r_0_8 ?_
      refine y_iload_n (i := 1) (n := 24) ⟨dX11_cut_23, rfl⟩ rfl ?_
      obtain ⟨q1, hv2, hf⟩ := b_s hf
      refine c_cl_cutSize a1 M (n := 27) ⟨dX11_cut_24, rfl⟩ klX11_259 hv2 (by decide) (Nat.le_of_ble_eq_true rfl) rfl rfl ?_
      refine y_istore_n (i := 3) (n := 28) (L2 := [some (.ref 0), some (.int a1), some (.int a2), some (.int q1.1)]) ⟨dX11_cut_27, rfl⟩ (by decide) rfl rfl ?_
      refine y_iload_n (i := 3) (n := 29) ⟨dX11_cut_28, rfl⟩ rfl ?_
      refine y_iconst (n := 30) (v := 1) ⟨dX11_cut_29, rfl⟩ ki_1 ?_
      refine y_icmp_lt (t := 38) (n := 33) ⟨dX11_cut_30, rfl, rfl⟩ (fun (hc : q1.1 < 1) => ?_) (fun (hc : ¬ (q1.1 < 1)) => ?_)
      · replace hf := i_t hc hf
        refine y_iconst (n := 39) (v := (-1)) ⟨dX11_cut_38, rfl⟩ ki_m1 ?_
        cases hf
        exact y_ireturn (n := 40) ⟨dX11_cut_39, rfl⟩ rfl rfl hk
      · replace hf := i_f hc hf
        refine y_iload_n (i := 2) (n := 34) ⟨dX11_cut_33, rfl⟩ rfl ?_
        refine y_iload_n (i := 3) (n := 35) ⟨dX11_cut_34, rfl⟩ rfl ?_
        refine y_icmp_le (t := 40) (n := 38) ⟨dX11_cut_35, rfl, rfl⟩ (fun (hc : a2 ≤ q1.1) => ?_) (fun (hc : ¬ (a2 ≤ q1.1)) => ?_)
        · replace hf := i_t hc hf
          refine y_iload_n (i := 2) (n := 41) ⟨dX11_cut_40, rfl⟩ rfl ?_
          refine y_if_ne (t := 48) (n := 44) ⟨dX11_cut_41, rfl, rfl⟩ (fun (hc : ¬ (a2 = 0)) => ?_) (fun (hc : a2 = 0) => ?_)
          · replace hf := i_f hc hf
            refine y_aload_n (i := 0) (n := 49) ⟨dX11_cut_48, rfl⟩ rfl ?_
            refine y_getR (n := 52) ⟨dX11_cut_49, rfl⟩ kfX11_74 l_0 rfl r_0_8 ?_
            refine y_getR (n := 55) ⟨dX11_cut_52, rfl⟩ kfX11_262 l_50 rfl r_50_5 ?_
            refine y_iload_n (i := 2) (n := 56) ⟨dX11_cut_55, rfl⟩ rfl ?_
            refine y_iconst (n := 57) (v := 1) ⟨dX11_cut_56, rfl⟩ ki_1 ?_
            refine y_isub (n := 58) ⟨dX11_cut_57, rfl⟩ ?_
            obtain ⟨hg3, hf⟩ := g_s hf
            refine y_iaload (n := 59) ⟨dX11_cut_58, rfl⟩ l_54 hg3 ?_
            cases hf
            exact y_ireturn (n := 60) ⟨dX11_cut_59, rfl⟩ rfl rfl hk
          · replace hf := i_t hc hf
            refine y_iload_n (i := 3) (n := 45) ⟨dX11_cut_44, rfl⟩ rfl ?_
            refine y_goto (t := 59) ⟨dX11_cut_45, rfl, rfl⟩ ?_
            cases hf
            exact y_ireturn (n := 60) ⟨dX11_cut_59, rfl⟩ rfl rfl hk
        · replace hf := i_f hc hf
          refine y_iconst (n := 39) (v := (-1)) ⟨dX11_cut_38, rfl⟩ ki_m1 ?_
          cases hf
          exact y_ireturn (n := 40) ⟨dX11_cut_39, rfl⟩ rfl rfl hk
    · have hc := bI_0 h0
      replace hf := i_f hc hf
      refine y_iconst (n := 18) (v := (-1)) ⟨dX11_cut_17, rfl⟩ ki_m1 ?_
      cases hf
      exact y_ireturn (n := 19) ⟨dX11_cut_18, rfl⟩ rfl rfl hk
theorem c_ax_cut (a1 : Int32) (a2 : Int32) (M : dM) {o : (Int32 × dM)} {y : mz_M} {d : Nat} {Q : mz_P} {pc n i : Nat} {L : List (Option Value)} {st : List Value} (h : mz_d y.2.1 pc n 3 (.invokevirtual i)) (hl : mz_ml y.1.cls i yX11_cut) (hf : f_ax_cut a1 a2 M = some o) (hd : 19 + 1 ≤ d) (hsm : (st.map (fun v => v.category)).sum ≤ 8) (hLr : mz_rL 133 L = true) (hSr : mz_rS 133 st = true) (kk : mW y d Q n L (.int o.1 :: st) o.2) : mW y d Q pc L (.int a2 :: .int a1 :: .ref 0 :: st) M :=
  y_callV kmX11_cut kvX11_cut l_0 (by decide +kernel) (by decide +kernel) h hl (ok_ax_cut a1 a2 M hf) (vs := [.int a1, .int a2]) rfl rfl hd hsm hLr hSr kk
noncomputable def f_ax_doubted (a1 : Int32) (M : dM) : Option (Int32 × dM) :=
  if (f_ax_within a1 (gI M 12 7)) = true then
    (f_ax_study 2 M).bind fun q1 =>
    if (f_ax_hasBit (gJ q1 45 7) a1) = true then
      some (1, q1)
    else
      some (0, q1)
  else
    some ((-1), M)
theorem ok_ax_doubted (a1 : Int32) (M : dM) {o : (Int32 × dM)} (hf : f_ax_doubted a1 M = some o) : mO mX11_doubted 6 [.ref 0, .int a1] M (some (.int o.1)) o.2 := by
  refine y_ok (by decide +kernel) (by decide) (L0 := [some (.ref 0), some (.int a1)]) rfl ?_
  have hk := mR_mQ (some (.int o.1)) o.2
  generalize mQ _ _ = Q at hk ⊢
  unfold f_ax_doubted at hf
  refine y_iload_n (i := 1) (n := 1) ⟨dX11_doubted_0, rfl⟩ rfl ?_
  refine y_aload_n (i := 0) (n := 2) ⟨dX11_doubted_1, rfl⟩ rfl ?_
  refine y_getR (n := 5) ⟨dX11_doubted_2, rfl⟩ kfX11_26 l_0 rfl r_0_2 ?_
  refine y_getI (n := 8) ⟨dX11_doubted_5, rfl⟩ kfX11_146 l_12 rfl ?_
  refine c_ax_within a1 (gI M 12 7) M (n := 11) ⟨dX11_doubted_8, rfl⟩ klX11_91 rfl (by decide) (Nat.le_of_ble_eq_true rfl) rfl rfl ?_
  refine y_if_ne (t := 16) (n := 14) ⟨dX11_doubted_11, rfl, rfl⟩ (fun h0 => ?_) (fun h0 => ?_)
  · have hc := bI_1 h0
    replace hf := i_t hc hf
    refine y_aload_n (i := 0) (n := 17) ⟨dX11_doubted_16, rfl⟩ rfl ?_
    refine y_iconst (n := 18) (v := 2) ⟨dX11_doubted_17, rfl⟩ ki_2 ?_
    obtain ⟨q1, hv2, hf⟩ := b_s hf
    refine c_ax_study 2 M (n := 21) ⟨dX11_doubted_18, rfl⟩ klX11_156 hv2 (by decide) (Nat.le_of_ble_eq_true rfl) rfl rfl ?_
    refine y_aload_n (i := 0) (n := 22) ⟨dX11_doubted_21, rfl⟩ rfl ?_
    refine y_getR (n := 25) ⟨dX11_doubted_22, rfl⟩ kfX11_65 l_0 rfl r_0_7 ?_
    refine y_getJ (n := 28) ⟨dX11_doubted_25, rfl⟩ kfX11_265 l_45 rfl ?_
    refine y_iload_n (i := 1) (n := 29) ⟨dX11_doubted_28, rfl⟩ rfl ?_
    refine c_ax_hasBit (gJ q1 45 7) a1 q1 (n := 32) ⟨dX11_doubted_29, rfl⟩ klX11_120 rfl (by decide) (Nat.le_of_ble_eq_true rfl) rfl rfl ?_
    refine y_if_eq (t := 39) (n := 35) ⟨dX11_doubted_32, rfl, rfl⟩ (fun h0 => ?_) (fun h0 => ?_)
    · have hc := bI_0 h0
      replace hf := i_f hc hf
      refine y_iconst (n := 40) (v := 0) ⟨dX11_doubted_39, rfl⟩ ki_0 ?_
      cases hf
      exact y_ireturn (n := 41) ⟨dX11_doubted_40, rfl⟩ rfl rfl hk
    · have hc := bI_1 h0
      replace hf := i_t hc hf
      refine y_iconst (n := 36) (v := 1) ⟨dX11_doubted_35, rfl⟩ ki_1 ?_
      refine y_goto (t := 40) ⟨dX11_doubted_36, rfl, rfl⟩ ?_
      cases hf
      exact y_ireturn (n := 41) ⟨dX11_doubted_40, rfl⟩ rfl rfl hk
  · have hc := bI_0 h0
    replace hf := i_f hc hf
    refine y_iconst (n := 15) (v := (-1)) ⟨dX11_doubted_14, rfl⟩ ki_m1 ?_
    cases hf
    exact y_ireturn (n := 16) ⟨dX11_doubted_15, rfl⟩ rfl rfl hk
theorem c_ax_doubted (a1 : Int32) (M : dM) {o : (Int32 × dM)} {y : mz_M} {d : Nat} {Q : mz_P} {pc n i : Nat} {L : List (Option Value)} {st : List Value} (h : mz_d y.2.1 pc n 3 (.invokevirtual i)) (hl : mz_ml y.1.cls i yX11_doubted) (hf : f_ax_doubted a1 M = some o) (hd : 6 + 1 ≤ d) (hsm : (st.map (fun v => v.category)).sum ≤ 8) (hLr : mz_rL 133 L = true) (hSr : mz_rS 133 st = true) (kk : mW y d Q n L (.int o.1 :: st) o.2) : mW y d Q pc L (.int a1 :: .ref 0 :: st) M :=
  y_callV kmX11_doubted kvX11_doubted l_0 (by decide +kernel) (by decide +kernel) h hl (ok_ax_doubted a1 M hf) (vs := [.int a1]) rfl rfl hd hsm hLr hSr kk
noncomputable def f_cl_settledWhen (a1 : Int64) (a2 : Int64) (M : dM) : Option Int32 :=
  (f_cl_standWith a1 M).bind fun v1 =>
  (f_cl_standWith (a1 ||| a2) M).bind fun v3 =>
  some (v1 ||| (4095 &&& (v3 ^^^ (-1))))
theorem ok_cl_settledWhen (a1 : Int64) (a2 : Int64) (M : dM) {o : Int32} (hf : f_cl_settledWhen a1 a2 M = some o) : mO mX1_settledWhen 2 [.ref 50, .long a1, .long a2] M (some (.int o)) M := by
  refine y_ok (by decide +kernel) (by decide) (L0 := [some (.ref 50), some (.long a1), none, some (.long a2), none]) rfl ?_
  have hk := mR_mQ (some (.int o)) M
  generalize mQ _ _ = Q at hk ⊢
  unfold f_cl_settledWhen at hf
  refine y_aload_n (i := 0) (n := 1) ⟨dX1_settledWhen_0, rfl⟩ rfl ?_
  refine y_lload_n (i := 1) (n := 2) ⟨dX1_settledWhen_1, rfl⟩ rfl ?_
  obtain ⟨v1, hv2, hf⟩ := b_s hf
  refine c_cl_standWith a1 M (n := 5) ⟨dX1_settledWhen_2, rfl⟩ klX1_57 hv2 (by decide) (Nat.le_of_ble_eq_true rfl) rfl rfl ?_
  refine y_sipush (n := 8) (v := 4095) ⟨dX1_settledWhen_5, rfl⟩ ks_4095 ?_
  refine y_aload_n (i := 0) (n := 9) ⟨dX1_settledWhen_8, rfl⟩ rfl ?_
  refine y_lload_n (i := 1) (n := 10) ⟨dX1_settledWhen_9, rfl⟩ rfl ?_
  refine y_lload_n (i := 3) (n := 11) ⟨dX1_settledWhen_10, rfl⟩ rfl ?_
  refine y_lor (n := 12) ⟨dX1_settledWhen_11, rfl⟩ ?_
  obtain ⟨v3, hv4, hf⟩ := b_s hf
  refine c_cl_standWith (a1 ||| a2) M (n := 15) ⟨dX1_settledWhen_12, rfl⟩ klX1_57 hv4 (by decide) (Nat.le_of_ble_eq_true rfl) rfl rfl ?_
  refine y_iconst (n := 16) (v := (-1)) ⟨dX1_settledWhen_15, rfl⟩ ki_m1 ?_
  refine y_ixor (n := 17) ⟨dX1_settledWhen_16, rfl⟩ ?_
  refine y_iand (n := 18) ⟨dX1_settledWhen_17, rfl⟩ ?_
  refine y_ior (n := 19) ⟨dX1_settledWhen_18, rfl⟩ ?_
  cases hf
  exact y_ireturn (n := 20) ⟨dX1_settledWhen_19, rfl⟩ rfl rfl hk
theorem c_cl_settledWhen (a1 : Int64) (a2 : Int64) (M : dM) {o : Int32} {y : mz_M} {d : Nat} {Q : mz_P} {pc n i : Nat} {L : List (Option Value)} {st : List Value} (h : mz_d y.2.1 pc n 3 (.invokevirtual i)) (hl : mz_ml y.1.cls i yX1_settledWhen) (hf : f_cl_settledWhen a1 a2 M = some o) (hd : 2 + 1 ≤ d) (hsm : (st.map (fun v => v.category)).sum ≤ 8) (hLr : mz_rL 133 L = true) (hSr : mz_rS 133 st = true) (kk : mW y d Q n L (.int o :: st) M) : mW y d Q pc L (.long a2 :: .long a1 :: .ref 50 :: st) M :=
  y_callV kmX1_settledWhen kvX1_settledWhen l_50 (by decide +kernel) (by decide +kernel) h hl (ok_cl_settledWhen a1 a2 M hf) (vs := [.long a1, .long a2]) rfl rfl hd hsm hLr hSr kk
noncomputable def f_ax_settled (M : dM) : Option (Int32 × dM) :=
  (f_ax_study 2 M).bind fun q1 =>
  (f_cl_settledWhen ((f_to_allFinds q1) &&& ((gJ q1 45 7) ^^^ (-1))) (gJ q1 45 7) q1).bind fun v3 =>
  some (v3, q1)
theorem ok_ax_settled  (M : dM) {o : (Int32 × dM)} (hf : f_ax_settled M = some o) : mO mX11_settled 6 [.ref 0] M (some (.int o.1)) o.2 := by
  refine y_ok (by decide +kernel) (by decide) (L0 := [some (.ref 0)]) rfl ?_
  have hk := mR_mQ (some (.int o.1)) o.2
  generalize mQ _ _ = Q at hk ⊢
  unfold f_ax_settled at hf
  refine y_aload_n (i := 0) (n := 1) ⟨dX11_settled_0, rfl⟩ rfl ?_
  refine y_iconst (n := 2) (v := 2) ⟨dX11_settled_1, rfl⟩ ki_2 ?_
  obtain ⟨q1, hv2, hf⟩ := b_s hf
  refine c_ax_study 2 M (n := 5) ⟨dX11_settled_2, rfl⟩ klX11_156 hv2 (by decide) (Nat.le_of_ble_eq_true rfl) rfl rfl ?_
  refine y_aload_n (i := 0) (n := 6) ⟨dX11_settled_5, rfl⟩ rfl ?_
  refine y_getR (n := 9) ⟨dX11_settled_6, rfl⟩ kfX11_74 l_0 rfl r_0_8 ?_
  refine y_aload_n (i := 0) (n := 10) ⟨dX11_settled_9, rfl⟩ rfl ?_
  refine y_getR (n := 13) ⟨dX11_settled_10, rfl⟩ kfX11_26 l_0 rfl r_0_2 ?_
  refine c_to_allFinds q1 (n := 16) ⟨dX11_settled_13, rfl⟩ klX11_232 rfl (by decide) (Nat.le_of_ble_eq_true rfl) rfl rfl ?_
  refine y_aload_n (i := 0) (n := 17) ⟨dX11_settled_16, rfl⟩ rfl ?_
  refine y_getR (n := 20) ⟨dX11_settled_17, rfl⟩ kfX11_65 l_0 rfl r_0_7 ?_
  refine y_getJ (n := 23) ⟨dX11_settled_20, rfl⟩ kfX11_265 l_45 rfl ?_
  refine y_ldc2 (n := 26) ⟨dX11_settled_23, rfl⟩ kcX11_189 ?_
  refine y_lxor (n := 27) ⟨dX11_settled_26, rfl⟩ ?_
  refine y_land (n := 28) ⟨dX11_settled_27, rfl⟩ ?_
  refine y_aload_n (i := 0) (n := 29) ⟨dX11_settled_28, rfl⟩ rfl ?_
  refine y_getR (n := 32) ⟨dX11_settled_29, rfl⟩ kfX11_65 l_0 rfl r_0_7 ?_
  refine y_getJ (n := 35) ⟨dX11_settled_32, rfl⟩ kfX11_265 l_45 rfl ?_
  obtain ⟨v3, hv4, hf⟩ := b_s hf
  refine c_cl_settledWhen ((f_to_allFinds q1) &&& ((gJ q1 45 7) ^^^ (-1))) (gJ q1 45 7) q1 (n := 38) ⟨dX11_settled_35, rfl⟩ klX11_268 hv4 (by decide) (Nat.le_of_ble_eq_true rfl) rfl rfl ?_
  cases hf
  exact y_ireturn (n := 39) ⟨dX11_settled_38, rfl⟩ rfl rfl hk
theorem c_ax_settled  (M : dM) {o : (Int32 × dM)} {y : mz_M} {d : Nat} {Q : mz_P} {pc n i : Nat} {L : List (Option Value)} {st : List Value} (h : mz_d y.2.1 pc n 3 (.invokevirtual i)) (hl : mz_ml y.1.cls i yX11_settled) (hf : f_ax_settled M = some o) (hd : 6 + 1 ≤ d) (hsm : (st.map (fun v => v.category)).sum ≤ 8) (hLr : mz_rL 133 L = true) (hSr : mz_rS 133 st = true) (kk : mW y d Q n L (.int o.1 :: st) o.2) : mW y d Q pc L (.ref 0 :: st) M :=
  y_callV kmX11_settled kvX11_settled l_0 (by decide +kernel) (by decide +kernel) h hl (ok_ax_settled  M hf) (vs := []) rfl rfl hd hsm hLr hSr kk
def K_to_findsAt_5 (Q : mz_P) (x1 : Int32) (M : dM) : ((Int64 × Int32) ⊕ Int64) → Prop
  | .inl s => mW mX9_findsAt 2 Q 5 [some (.ref 12), some (.int x1), some (.long s.1), none, some (.int s.2)] [] M
  | .inr r => mR Q (some (.long r)) M
noncomputable def b_to_findsAt_5_5 (x1 : Int32) (x2 : Int64) (x4 : Int32) (M : dM) : Option ((Int64 × Int32) ⊕ Int64) :=
  if (gI M 12 7) ≤ x4 then
    some (.inr x2)
  else
    gd (vp_in x4 40) <|
    if (f_ax_hasBit x1.toInt64 (gI M 13 x4.toNatClampNeg)) = true then
      some (.inl ((x2 ||| ((1 : Int64) <<< (x4.toInt64 &&& 63))), (x4 + 1)))
    else
      some (.inl (x2, (x4 + 1)))
noncomputable def l_to_findsAt_5 (x1 : Int32) (x2 : Int64) (x4 : Int32) (M : dM) : Option Int64 := lpc (fun s => b_to_findsAt_5_5 x1 s.1 s.2 M) (x2, x4)
noncomputable def f_to_findsAt (a1 : Int32) (M : dM) : Option Int64 :=
  (l_to_findsAt_5 a1 0 0 M).bind fun r4 => some r4
theorem w_b_to_findsAt_5_5 (x1 : Int32) (x2 : Int64) (x4 : Int32) (M : dM) {Q : mz_P} {o : ((Int64 × Int32) ⊕ Int64)} (hf : b_to_findsAt_5_5 x1 x2 x4 M = some o) (hk : K_to_findsAt_5 Q x1 M o) : mW mX9_findsAt 2 Q 5 [some (.ref 12), some (.int x1), some (.long x2), none, some (.int x4)] [] M := by
  unfold b_to_findsAt_5_5 at hf
  refine y_iload (i := 4) (n := 7) ⟨dX9_findsAt_5, rfl⟩ rfl ?_
  refine y_aload_n (i := 0) (n := 8) ⟨dX9_findsAt_7, rfl⟩ rfl ?_
  refine y_getI (n := 11) ⟨dX9_findsAt_8, rfl⟩ kfX9_45 l_12 rfl ?_
  refine y_icmp_ge (t := 42) (n := 14) ⟨dX9_findsAt_11, rfl, rfl⟩ (fun (hc : (gI M 12 7) ≤ x4) => ?_) (fun (hc : ¬ ((gI M 12 7) ≤ x4)) => ?_)
  · replace hf := i_t hc hf
    refine y_lload_n (i := 2) (n := 43) ⟨dX9_findsAt_42, rfl⟩ rfl ?_
    cases hf
    exact y_lreturn (n := 44) ⟨dX9_findsAt_43, rfl⟩ rfl hk
  · replace hf := i_f hc hf
    refine y_iload_n (i := 1) (n := 15) ⟨dX9_findsAt_14, rfl⟩ rfl ?_
    refine y_i2l (n := 16) ⟨dX9_findsAt_15, rfl⟩ ?_
    refine y_aload_n (i := 0) (n := 17) ⟨dX9_findsAt_16, rfl⟩ rfl ?_
    refine y_getR (n := 20) ⟨dX9_findsAt_17, rfl⟩ kfX9_9 l_12 rfl r_12_0 ?_
    refine y_iload (i := 4) (n := 22) ⟨dX9_findsAt_20, rfl⟩ rfl ?_
    obtain ⟨hg1, hf⟩ := g_s hf
    refine y_iaload (n := 23) ⟨dX9_findsAt_22, rfl⟩ l_13 hg1 ?_
    refine c_ax_hasBit x1.toInt64 (gI M 13 x4.toNatClampNeg) M (n := 26) ⟨dX9_findsAt_23, rfl⟩ klX9_55 rfl (by decide) (Nat.le_of_ble_eq_true rfl) rfl rfl ?_
    refine y_if_eq (t := 36) (n := 29) ⟨dX9_findsAt_26, rfl, rfl⟩ (fun h0 => ?_) (fun h0 => ?_)
    · have hc := bI_0 h0
      replace hf := i_f hc hf
      refine y_iinc (i := 4) (n := 39) (b := (x4 + 1)) (L2 := [some (.ref 12), some (.int x1), some (.long x2), none, some (.int (x4 + 1))]) ⟨dX9_findsAt_36, rfl⟩ rfl (by rw [ki_1]) (by decide) rfl rfl ?_
      refine y_goto (t := 5) ⟨dX9_findsAt_39, rfl, rfl⟩ ?_
      cases hf
      exact y_wk ⟨Or.inr rfl, Or.inr rfl, Or.inr rfl, Or.inr rfl, Or.inr rfl, trivial⟩ hk
    · have hc := bI_1 h0
      replace hf := i_t hc hf
      refine y_lload_n (i := 2) (n := 30) ⟨dX9_findsAt_29, rfl⟩ rfl ?_
      refine y_lconst (n := 31) (v := 1) ⟨dX9_findsAt_30, rfl⟩ kl_1 ?_
      refine y_iload (i := 4) (n := 33) ⟨dX9_findsAt_31, rfl⟩ rfl ?_
      refine y_lshl (n := 34) ⟨dX9_findsAt_33, rfl⟩ ?_
      refine y_lor (n := 35) ⟨dX9_findsAt_34, rfl⟩ ?_
      refine y_lstore_n (i := 2) (n := 36) (L2 := [some (.ref 12), some (.int x1), some (.long (x2 ||| ((1 : Int64) <<< (x4.toInt64 &&& 63)))), none, some (.int x4)]) ⟨dX9_findsAt_35, rfl⟩ (by decide) rfl rfl ?_
      refine y_iinc (i := 4) (n := 39) (b := (x4 + 1)) (L2 := [some (.ref 12), some (.int x1), some (.long (x2 ||| ((1 : Int64) <<< (x4.toInt64 &&& 63)))), none, some (.int (x4 + 1))]) ⟨dX9_findsAt_36, rfl⟩ rfl (by rw [ki_1]) (by decide) rfl rfl ?_
      refine y_goto (t := 5) ⟨dX9_findsAt_39, rfl, rfl⟩ ?_
      cases hf
      exact y_wk ⟨Or.inr rfl, Or.inr rfl, Or.inr rfl, Or.inr rfl, Or.inr rfl, trivial⟩ hk
theorem wl_to_findsAt_5 (x1 : Int32) (x2 : Int64) (x4 : Int32) (M : dM) {Q : mz_P} {x : Int64} (hf : l_to_findsAt_5 x1 x2 x4 M = some x) (hk : K_to_findsAt_5 Q x1 M (.inr x)) : mW mX9_findsAt 2 Q 5 [some (.ref 12), some (.int x1), some (.long x2), none, some (.int x4)] [] M :=
  lpc_wp (Wh := fun s => mW mX9_findsAt 2 Q 5 [some (.ref 12), some (.int x1), some (.long s.1), none, some (.int s.2)] [] M) (K := K_to_findsAt_5 Q x1 M) (fun _ h => h) (fun s o hb hk => w_b_to_findsAt_5_5 x1 s.1 s.2 M hb hk) hf hk
theorem ok_to_findsAt (a1 : Int32) (M : dM) {o : Int64} (hf : f_to_findsAt a1 M = some o) : mO mX9_findsAt 2 [.ref 12, .int a1] M (some (.long o)) M := by
  refine y_ok (by decide +kernel) (by decide) (L0 := [some (.ref 12), some (.int a1), none, none, none]) rfl ?_
  have hk := mR_mQ (some (.long o)) M
  generalize mQ _ _ = Q at hk ⊢
  unfold f_to_findsAt at hf
  refine y_lconst (n := 1) (v := 0) ⟨dX9_findsAt_0, rfl⟩ kl_0 ?_
  refine y_lstore_n (i := 2) (n := 2) (L2 := [some (.ref 12), some (.int a1), some (.long 0), none, none]) ⟨dX9_findsAt_1, rfl⟩ (by decide) rfl rfl ?_
  refine y_iconst (n := 3) (v := 0) ⟨dX9_findsAt_2, rfl⟩ ki_0 ?_
  refine y_istore (i := 4) (n := 5) (L2 := [some (.ref 12), some (.int a1), some (.long 0), none, some (.int 0)]) ⟨dX9_findsAt_3, rfl⟩ (by decide) rfl rfl ?_
  obtain ⟨r4, hl3, hf⟩ := b_s hf
  cases hf
  exact y_wk ⟨Or.inr rfl, Or.inr rfl, Or.inr rfl, Or.inr rfl, Or.inr rfl, trivial⟩ (wl_to_findsAt_5 a1 0 0 M hl3 hk)
theorem c_to_findsAt (a1 : Int32) (M : dM) {o : Int64} {y : mz_M} {d : Nat} {Q : mz_P} {pc n i : Nat} {L : List (Option Value)} {st : List Value} (h : mz_d y.2.1 pc n 3 (.invokevirtual i)) (hl : mz_ml y.1.cls i yX9_findsAt) (hf : f_to_findsAt a1 M = some o) (hd : 2 + 1 ≤ d) (hsm : (st.map (fun v => v.category)).sum ≤ 8) (hLr : mz_rL 133 L = true) (hSr : mz_rS 133 st = true) (kk : mW y d Q n L (.long o :: st) M) : mW y d Q pc L (.int a1 :: .ref 12 :: st) M :=
  y_callV kmX9_findsAt kvX9_findsAt l_12 (by decide +kernel) (by decide +kernel) h hl (ok_to_findsAt a1 M hf) (vs := [.int a1]) rfl rfl hd hsm hLr hSr kk
def K_cl_goodFor_93 (Q : mz_P) (x6 : Int64) (x8 : Int64) (x10 : Int64) (x12 : Int32) (x16 : Int32) (M : dM) : ((Int32 × Int64 × Int32) ⊕ Int32) → Prop
  | .inl s => mW mX1_goodFor 3 Q 93 [some (.ref 50), none, none, none, none, none, some (.long x6), none, some (.long x8), none, some (.long x10), none, some (.int x12), some (.int s.1), some (.long s.2.1), none, some (.int x16), some (.int s.2.2)] [] M
  | .inr r => mR Q (some (.int r)) M
noncomputable def b_cl_goodFor_93_140 (x13 : Int32) (M : dM) : Option ((Int32 × Int64 × Int32) ⊕ Int32) :=
  some (.inr (f_jd_bitCount_0f7a4 x13))
noncomputable def b_cl_goodFor_93_93 (x6 : Int64) (x8 : Int64) (x10 : Int64) (x12 : Int32) (x13 : Int32) (x14 : Int64) (x16 : Int32) (x17 : Int32) (M : dM) : Option ((Int32 × Int64 × Int32) ⊕ Int32) :=
  if x16 ≤ x17 then
    b_cl_goodFor_93_140 x13 M
  else
    if (x13 &&& x12) = 0 then
      b_cl_goodFor_93_140 x13 M
    else
      (f_cl_settledWhen (x6 ||| x14) x8 M).bind fun v7 =>
      some (.inl ((x13 &&& v7), ((x14 - x10) &&& x10), (x17 + 1)))
noncomputable def l_cl_goodFor_93 (x6 : Int64) (x8 : Int64) (x10 : Int64) (x12 : Int32) (x13 : Int32) (x14 : Int64) (x16 : Int32) (x17 : Int32) (M : dM) : Option Int32 := lpc (fun s => b_cl_goodFor_93_93 x6 x8 x10 x12 s.1 s.2.1 x16 s.2.2 M) (x13, x14, x17)
noncomputable def f_cl_goodFor (a1 : Int32) (a2 : Int64) (M : dM) : Option Int32 :=
  (f_to_findsAt a1 M).bind fun v1 =>
  if (f_jd_bitCount_95d88 (a2 &&& v1)) ≤ 10 then
    (f_cl_findsInGrounds M).bind fun v3 =>
    (f_cl_settledWhen ((f_to_allFinds M) &&& (a2 ^^^ (-1))) a2 M).bind fun v5 =>
    (l_cl_goodFor_93 ((f_to_allFinds M) &&& (a2 ^^^ (-1))) (a2 &&& ((a2 &&& v1) ^^^ (-1))) ((a2 &&& v1) &&& v3) (4095 &&& (v5 ^^^ (-1))) 4095 0 ((1 : Int32) <<< ((f_jd_bitCount_95d88 ((a2 &&& v1) &&& v3)) &&& 31)) 0 M).bind fun r11 => some r11
  else
    some (-1)
theorem w_b_cl_goodFor_93_140 (x13 : Int32) (M : dM) {Q : mz_P} {o : ((Int32 × Int64 × Int32) ⊕ Int32)} (hf : b_cl_goodFor_93_140 x13 M = some o) (hk : K_cl_goodFor_93 Q x6 x8 x10 x12 x16 M o) : mW mX1_goodFor 3 Q 140 [none, none, none, none, none, none, none, none, none, none, none, none, none, some (.int x13), none, none, none, none] [] M := by
  unfold b_cl_goodFor_93_140 at hf
  refine y_iload (i := 13) (n := 142) ⟨dX1_goodFor_140, rfl⟩ rfl ?_
  refine c_jd_bitCount_0f7a4 x13 M (n := 145) ⟨dX1_goodFor_142, rfl⟩ klX1_91 rfl (by decide) (Nat.le_of_ble_eq_true rfl) rfl rfl ?_
  cases hf
  exact y_ireturn (n := 146) ⟨dX1_goodFor_145, rfl⟩ rfl rfl hk
theorem w_b_cl_goodFor_93_93 (x6 : Int64) (x8 : Int64) (x10 : Int64) (x12 : Int32) (x13 : Int32) (x14 : Int64) (x16 : Int32) (x17 : Int32) (M : dM) {Q : mz_P} {o : ((Int32 × Int64 × Int32) ⊕ Int32)} (hf : b_cl_goodFor_93_93 x6 x8 x10 x12 x13 x14 x16 x17 M = some o) (hk : K_cl_goodFor_93 Q x6 x8 x10 x12 x16 M o) : mW mX1_goodFor 3 Q 93 [some (.ref 50), none, none, none, none, none, some (.long x6), none, some (.long x8), none, some (.long x10), none, some (.int x12), some (.int x13), some (.long x14), none, some (.int x16), some (.int x17)] [] M := by
  unfold b_cl_goodFor_93_93 at hf
  refine y_iload (i := 17) (n := 95) ⟨dX1_goodFor_93, rfl⟩ rfl ?_
  refine y_iload (i := 16) (n := 97) ⟨dX1_goodFor_95, rfl⟩ rfl ?_
  refine y_icmp_ge (t := 140) (n := 100) ⟨dX1_goodFor_97, rfl, rfl⟩ (fun (hc : x16 ≤ x17) => ?_) (fun (hc : ¬ (x16 ≤ x17)) => ?_)
  · replace hf := i_t hc hf
    exact y_wk ⟨Or.inl rfl, Or.inr rfl, Or.inr rfl, Or.inr rfl, Or.inr rfl, Or.inr rfl, Or.inl rfl, Or.inr rfl, Or.inl rfl, Or.inr rfl, Or.inl rfl, Or.inr rfl, Or.inl rfl, Or.inr rfl, Or.inl rfl, Or.inr rfl, Or.inl rfl, Or.inl rfl, trivial⟩ (w_b_cl_goodFor_93_140 x13 M hf hk)
  · replace hf := i_f hc hf
    refine y_iload (i := 13) (n := 102) ⟨dX1_goodFor_100, rfl⟩ rfl ?_
    refine y_iload (i := 12) (n := 104) ⟨dX1_goodFor_102, rfl⟩ rfl ?_
    refine y_iand (n := 105) ⟨dX1_goodFor_104, rfl⟩ ?_
    refine y_if_eq (t := 140) (n := 108) ⟨dX1_goodFor_105, rfl, rfl⟩ (fun (hc : (x13 &&& x12) = 0) => ?_) (fun (hc : ¬ ((x13 &&& x12) = 0)) => ?_)
    · replace hf := i_t hc hf
      exact y_wk ⟨Or.inl rfl, Or.inr rfl, Or.inr rfl, Or.inr rfl, Or.inr rfl, Or.inr rfl, Or.inl rfl, Or.inr rfl, Or.inl rfl, Or.inr rfl, Or.inl rfl, Or.inr rfl, Or.inl rfl, Or.inr rfl, Or.inl rfl, Or.inr rfl, Or.inl rfl, Or.inl rfl, trivial⟩ (w_b_cl_goodFor_93_140 x13 M hf hk)
    · replace hf := i_f hc hf
      refine y_iload (i := 13) (n := 110) ⟨dX1_goodFor_108, rfl⟩ rfl ?_
      refine y_aload_n (i := 0) (n := 111) ⟨dX1_goodFor_110, rfl⟩ rfl ?_
      refine y_lload (i := 6) (n := 113) ⟨dX1_goodFor_111, rfl⟩ rfl ?_
      refine y_lload (i := 14) (n := 115) ⟨dX1_goodFor_113, rfl⟩ rfl ?_
      refine y_lor (n := 116) ⟨dX1_goodFor_115, rfl⟩ ?_
      refine y_lload (i := 8) (n := 118) ⟨dX1_goodFor_116, rfl⟩ rfl ?_
      obtain ⟨v7, hv8, hf⟩ := b_s hf
      refine c_cl_settledWhen (x6 ||| x14) x8 M (n := 121) ⟨dX1_goodFor_118, rfl⟩ klX1_87 hv8 (by decide) (Nat.le_of_ble_eq_true rfl) rfl rfl ?_
      refine y_iand (n := 122) ⟨dX1_goodFor_121, rfl⟩ ?_
      refine y_istore (i := 13) (n := 124) (L2 := [some (.ref 50), none, none, none, none, none, some (.long x6), none, some (.long x8), none, some (.long x10), none, some (.int x12), some (.int (x13 &&& v7)), some (.long x14), none, some (.int x16), some (.int x17)]) ⟨dX1_goodFor_122, rfl⟩ (by decide) rfl rfl ?_
      refine y_lload (i := 14) (n := 126) ⟨dX1_goodFor_124, rfl⟩ rfl ?_
      refine y_lload (i := 10) (n := 128) ⟨dX1_goodFor_126, rfl⟩ rfl ?_
      refine y_lsub (n := 129) ⟨dX1_goodFor_128, rfl⟩ ?_
      refine y_lload (i := 10) (n := 131) ⟨dX1_goodFor_129, rfl⟩ rfl ?_
      refine y_land (n := 132) ⟨dX1_goodFor_131, rfl⟩ ?_
      refine y_lstore (i := 14) (n := 134) (L2 := [some (.ref 50), none, none, none, none, none, some (.long x6), none, some (.long x8), none, some (.long x10), none, some (.int x12), some (.int (x13 &&& v7)), some (.long ((x14 - x10) &&& x10)), none, some (.int x16), some (.int x17)]) ⟨dX1_goodFor_132, rfl⟩ (by decide) rfl rfl ?_
      refine y_iinc (i := 17) (n := 137) (b := (x17 + 1)) (L2 := [some (.ref 50), none, none, none, none, none, some (.long x6), none, some (.long x8), none, some (.long x10), none, some (.int x12), some (.int (x13 &&& v7)), some (.long ((x14 - x10) &&& x10)), none, some (.int x16), some (.int (x17 + 1))]) ⟨dX1_goodFor_134, rfl⟩ rfl (by rw [ki_1]) (by decide) rfl rfl ?_
      refine y_goto (t := 93) ⟨dX1_goodFor_137, rfl, rfl⟩ ?_
      cases hf
      exact y_wk ⟨Or.inr rfl, Or.inr rfl, Or.inr rfl, Or.inr rfl, Or.inr rfl, Or.inr rfl, Or.inr rfl, Or.inr rfl, Or.inr rfl, Or.inr rfl, Or.inr rfl, Or.inr rfl, Or.inr rfl, Or.inr rfl, Or.inr rfl, Or.inr rfl, Or.inr rfl, Or.inr rfl, trivial⟩ hk
theorem wl_cl_goodFor_93 (x6 : Int64) (x8 : Int64) (x10 : Int64) (x12 : Int32) (x13 : Int32) (x14 : Int64) (x16 : Int32) (x17 : Int32) (M : dM) {Q : mz_P} {x : Int32} (hf : l_cl_goodFor_93 x6 x8 x10 x12 x13 x14 x16 x17 M = some x) (hk : K_cl_goodFor_93 Q x6 x8 x10 x12 x16 M (.inr x)) : mW mX1_goodFor 3 Q 93 [some (.ref 50), none, none, none, none, none, some (.long x6), none, some (.long x8), none, some (.long x10), none, some (.int x12), some (.int x13), some (.long x14), none, some (.int x16), some (.int x17)] [] M :=
  lpc_wp (Wh := fun s => mW mX1_goodFor 3 Q 93 [some (.ref 50), none, none, none, none, none, some (.long x6), none, some (.long x8), none, some (.long x10), none, some (.int x12), some (.int s.1), some (.long s.2.1), none, some (.int x16), some (.int s.2.2)] [] M) (K := K_cl_goodFor_93 Q x6 x8 x10 x12 x16 M) (fun _ h => h) (fun s o hb hk => w_b_cl_goodFor_93_93 x6 x8 x10 x12 s.1 s.2.1 x16 s.2.2 M hb hk) hf hk
theorem ok_cl_goodFor (a1 : Int32) (a2 : Int64) (M : dM) {o : Int32} (hf : f_cl_goodFor a1 a2 M = some o) : mO mX1_goodFor 3 [.ref 50, .int a1, .long a2] M (some (.int o)) M := by
  refine y_ok (by decide +kernel) (by decide) (L0 := [some (.ref 50), some (.int a1), some (.long a2), none, none, none, none, none, none, none, none, none, none, none, none, none, none, none]) rfl ?_
  have hk := mR_mQ (some (.int o)) M
  generalize mQ _ _ = Q at hk ⊢
  unfold f_cl_goodFor at hf
  refine y_lload_n (i := 2) (n := 1) ⟨dX1_goodFor_0, rfl⟩ rfl ?_
  refine y_aload_n (i := 0) (n := 2) ⟨dX1_goodFor_1, rfl⟩ rfl ?_
  refine y_getR (n := 5) ⟨dX1_goodFor_2, rfl⟩ kfX1_32 l_50 rfl r_50_0 ?_
  refine y_iload_n (i := 1) (n := 6) ⟨dX1_goodFor_5, rfl⟩ rfl ?_
  obtain ⟨v1, hv2, hf⟩ := b_s hf
  refine c_to_findsAt a1 M (n := 9) ⟨dX1_goodFor_6, rfl⟩ klX1_78 hv2 (by decide) (Nat.le_of_ble_eq_true rfl) rfl rfl ?_
  refine y_land (n := 10) ⟨dX1_goodFor_9, rfl⟩ ?_
  refine y_lstore (i := 4) (n := 12) (L2 := [some (.ref 50), some (.int a1), some (.long a2), none, some (.long (a2 &&& v1)), none, none, none, none, none, none, none, none, none, none, none, none, none]) ⟨dX1_goodFor_10, rfl⟩ (by decide) rfl rfl ?_
  refine y_lload (i := 4) (n := 14) ⟨dX1_goodFor_12, rfl⟩ rfl ?_
  refine c_jd_bitCount_95d88 (a2 &&& v1) M (n := 17) ⟨dX1_goodFor_14, rfl⟩ klX1_82 rfl (by decide) (Nat.le_of_ble_eq_true rfl) rfl rfl ?_
  refine y_bipush (n := 19) (v := 10) ⟨dX1_goodFor_17, rfl⟩ kb_10 ?_
  refine y_icmp_le (t := 24) (n := 22) ⟨dX1_goodFor_19, rfl, rfl⟩ (fun (hc : (f_jd_bitCount_95d88 (a2 &&& v1)) ≤ 10) => ?_) (fun (hc : ¬ ((f_jd_bitCount_95d88 (a2 &&& v1)) ≤ 10)) => ?_)
  · replace hf := i_t hc hf
    refine y_aload_n (i := 0) (n := 25) ⟨dX1_goodFor_24, rfl⟩ rfl ?_
    refine y_getR (n := 28) ⟨dX1_goodFor_25, rfl⟩ kfX1_32 l_50 rfl r_50_0 ?_
    refine c_to_allFinds M (n := 31) ⟨dX1_goodFor_28, rfl⟩ klX1_51 rfl (by decide) (Nat.le_of_ble_eq_true rfl) rfl rfl ?_
    refine y_lload_n (i := 2) (n := 32) ⟨dX1_goodFor_31, rfl⟩ rfl ?_
    refine y_ldc2 (n := 35) ⟨dX1_goodFor_32, rfl⟩ kcX1_42 ?_
    refine y_lxor (n := 36) ⟨dX1_goodFor_35, rfl⟩ ?_
    refine y_land (n := 37) ⟨dX1_goodFor_36, rfl⟩ ?_
    refine y_lstore (i := 6) (n := 39) (L2 := [some (.ref 50), some (.int a1), some (.long a2), none, some (.long (a2 &&& v1)), none, some (.long ((f_to_allFinds M) &&& (a2 ^^^ (-1)))), none, none, none, none, none, none, none, none, none, none, none]) ⟨dX1_goodFor_37, rfl⟩ (by decide) rfl rfl ?_
    refine y_lload_n (i := 2) (n := 40) ⟨dX1_goodFor_39, rfl⟩ rfl ?_
    refine y_lload (i := 4) (n := 42) ⟨dX1_goodFor_40, rfl⟩ rfl ?_
    refine y_ldc2 (n := 45) ⟨dX1_goodFor_42, rfl⟩ kcX1_42 ?_
    refine y_lxor (n := 46) ⟨dX1_goodFor_45, rfl⟩ ?_
    refine y_land (n := 47) ⟨dX1_goodFor_46, rfl⟩ ?_
    refine y_lstore (i := 8) (n := 49) (L2 := [some (.ref 50), some (.int a1), some (.long a2), none, some (.long (a2 &&& v1)), none, some (.long ((f_to_allFinds M) &&& (a2 ^^^ (-1)))), none, some (.long (a2 &&& ((a2 &&& v1) ^^^ (-1)))), none, none, none, none, none, none, none, none, none]) ⟨dX1_goodFor_47, rfl⟩ (by decide) rfl rfl ?_
    refine y_lload (i := 4) (n := 51) ⟨dX1_goodFor_49, rfl⟩ rfl ?_
    refine y_aload_n (i := 0) (n := 52) ⟨dX1_goodFor_51, rfl⟩ rfl ?_
    obtain ⟨v3, hv4, hf⟩ := b_s hf
    refine c_cl_findsInGrounds M (n := 55) ⟨dX1_goodFor_52, rfl⟩ klX1_65 hv4 (by decide) (Nat.le_of_ble_eq_true rfl) rfl rfl ?_
    refine y_land (n := 56) ⟨dX1_goodFor_55, rfl⟩ ?_
    refine y_lstore (i := 10) (n := 58) (L2 := [some (.ref 50), some (.int a1), some (.long a2), none, some (.long (a2 &&& v1)), none, some (.long ((f_to_allFinds M) &&& (a2 ^^^ (-1)))), none, some (.long (a2 &&& ((a2 &&& v1) ^^^ (-1)))), none, some (.long ((a2 &&& v1) &&& v3)), none, none, none, none, none, none, none]) ⟨dX1_goodFor_56, rfl⟩ (by decide) rfl rfl ?_
    refine y_sipush (n := 61) (v := 4095) ⟨dX1_goodFor_58, rfl⟩ ks_4095 ?_
    refine y_aload_n (i := 0) (n := 62) ⟨dX1_goodFor_61, rfl⟩ rfl ?_
    refine y_lload (i := 6) (n := 64) ⟨dX1_goodFor_62, rfl⟩ rfl ?_
    refine y_lload_n (i := 2) (n := 65) ⟨dX1_goodFor_64, rfl⟩ rfl ?_
    obtain ⟨v5, hv6, hf⟩ := b_s hf
    refine c_cl_settledWhen ((f_to_allFinds M) &&& (a2 ^^^ (-1))) a2 M (n := 68) ⟨dX1_goodFor_65, rfl⟩ klX1_87 hv6 (by decide) (Nat.le_of_ble_eq_true rfl) rfl rfl ?_
    refine y_iconst (n := 69) (v := (-1)) ⟨dX1_goodFor_68, rfl⟩ ki_m1 ?_
    refine y_ixor (n := 70) ⟨dX1_goodFor_69, rfl⟩ ?_
    refine y_iand (n := 71) ⟨dX1_goodFor_70, rfl⟩ ?_
    refine y_istore (i := 12) (n := 73) (L2 := [some (.ref 50), some (.int a1), some (.long a2), none, some (.long (a2 &&& v1)), none, some (.long ((f_to_allFinds M) &&& (a2 ^^^ (-1)))), none, some (.long (a2 &&& ((a2 &&& v1) ^^^ (-1)))), none, some (.long ((a2 &&& v1) &&& v3)), none, some (.int (4095 &&& (v5 ^^^ (-1)))), none, none, none, none, none]) ⟨dX1_goodFor_71, rfl⟩ (by decide) rfl rfl ?_
    refine y_sipush (n := 76) (v := 4095) ⟨dX1_goodFor_73, rfl⟩ ks_4095 ?_
    refine y_istore (i := 13) (n := 78) (L2 := [some (.ref 50), some (.int a1), some (.long a2), none, some (.long (a2 &&& v1)), none, some (.long ((f_to_allFinds M) &&& (a2 ^^^ (-1)))), none, some (.long (a2 &&& ((a2 &&& v1) ^^^ (-1)))), none, some (.long ((a2 &&& v1) &&& v3)), none, some (.int (4095 &&& (v5 ^^^ (-1)))), some (.int 4095), none, none, none, none]) ⟨dX1_goodFor_76, rfl⟩ (by decide) rfl rfl ?_
    refine y_lconst (n := 79) (v := 0) ⟨dX1_goodFor_78, rfl⟩ kl_0 ?_
    refine y_lstore (i := 14) (n := 81) (L2 := [some (.ref 50), some (.int a1), some (.long a2), none, some (.long (a2 &&& v1)), none, some (.long ((f_to_allFinds M) &&& (a2 ^^^ (-1)))), none, some (.long (a2 &&& ((a2 &&& v1) ^^^ (-1)))), none, some (.long ((a2 &&& v1) &&& v3)), none, some (.int (4095 &&& (v5 ^^^ (-1)))), some (.int 4095), some (.long 0), none, none, none]) ⟨dX1_goodFor_79, rfl⟩ (by decide) rfl rfl ?_
    refine y_iconst (n := 82) (v := 1) ⟨dX1_goodFor_81, rfl⟩ ki_1 ?_
    refine y_lload (i := 10) (n := 84) ⟨dX1_goodFor_82, rfl⟩ rfl ?_
    refine c_jd_bitCount_95d88 ((a2 &&& v1) &&& v3) M (n := 87) ⟨dX1_goodFor_84, rfl⟩ klX1_82 rfl (by decide) (Nat.le_of_ble_eq_true rfl) rfl rfl ?_
    refine y_ishl (n := 88) ⟨dX1_goodFor_87, rfl⟩ ?_
    refine y_istore (i := 16) (n := 90) (L2 := [some (.ref 50), some (.int a1), some (.long a2), none, some (.long (a2 &&& v1)), none, some (.long ((f_to_allFinds M) &&& (a2 ^^^ (-1)))), none, some (.long (a2 &&& ((a2 &&& v1) ^^^ (-1)))), none, some (.long ((a2 &&& v1) &&& v3)), none, some (.int (4095 &&& (v5 ^^^ (-1)))), some (.int 4095), some (.long 0), none, some (.int ((1 : Int32) <<< ((f_jd_bitCount_95d88 ((a2 &&& v1) &&& v3)) &&& 31))), none]) ⟨dX1_goodFor_88, rfl⟩ (by decide) rfl rfl ?_
    refine y_iconst (n := 91) (v := 0) ⟨dX1_goodFor_90, rfl⟩ ki_0 ?_
    refine y_istore (i := 17) (n := 93) (L2 := [some (.ref 50), some (.int a1), some (.long a2), none, some (.long (a2 &&& v1)), none, some (.long ((f_to_allFinds M) &&& (a2 ^^^ (-1)))), none, some (.long (a2 &&& ((a2 &&& v1) ^^^ (-1)))), none, some (.long ((a2 &&& v1) &&& v3)), none, some (.int (4095 &&& (v5 ^^^ (-1)))), some (.int 4095), some (.long 0), none, some (.int ((1 : Int32) <<< ((f_jd_bitCount_95d88 ((a2 &&& v1) &&& v3)) &&& 31))), some (.int 0)]) ⟨dX1_goodFor_91, rfl⟩ (by decide) rfl rfl ?_
    obtain ⟨r11, hl10, hf⟩ := b_s hf
    cases hf
    exact y_wk ⟨Or.inr rfl, Or.inl rfl, Or.inl rfl, Or.inr rfl, Or.inl rfl, Or.inr rfl, Or.inr rfl, Or.inr rfl, Or.inr rfl, Or.inr rfl, Or.inr rfl, Or.inr rfl, Or.inr rfl, Or.inr rfl, Or.inr rfl, Or.inr rfl, Or.inr rfl, Or.inr rfl, trivial⟩ (wl_cl_goodFor_93 ((f_to_allFinds M) &&& (a2 ^^^ (-1))) (a2 &&& ((a2 &&& v1) ^^^ (-1))) ((a2 &&& v1) &&& v3) (4095 &&& (v5 ^^^ (-1))) 4095 0 ((1 : Int32) <<< ((f_jd_bitCount_95d88 ((a2 &&& v1) &&& v3)) &&& 31)) 0 M hl10 hk)
  · replace hf := i_f hc hf
    refine y_iconst (n := 23) (v := (-1)) ⟨dX1_goodFor_22, rfl⟩ ki_m1 ?_
    cases hf
    exact y_ireturn (n := 24) ⟨dX1_goodFor_23, rfl⟩ rfl rfl hk
theorem c_cl_goodFor (a1 : Int32) (a2 : Int64) (M : dM) {o : Int32} {y : mz_M} {d : Nat} {Q : mz_P} {pc n i : Nat} {L : List (Option Value)} {st : List Value} (h : mz_d y.2.1 pc n 3 (.invokevirtual i)) (hl : mz_ml y.1.cls i yX1_goodFor) (hf : f_cl_goodFor a1 a2 M = some o) (hd : 3 + 1 ≤ d) (hsm : (st.map (fun v => v.category)).sum ≤ 8) (hLr : mz_rL 133 L = true) (hSr : mz_rS 133 st = true) (kk : mW y d Q n L (.int o :: st) M) : mW y d Q pc L (.long a2 :: .int a1 :: .ref 50 :: st) M :=
  y_callV kmX1_goodFor kvX1_goodFor l_50 (by decide +kernel) (by decide +kernel) h hl (ok_cl_goodFor a1 a2 M hf) (vs := [.int a1, .long a2]) rfl rfl hd hsm hLr hSr kk
noncomputable def t_ax_again_57 (y1 : Int32) (M : dM) : Option (Int32 × dM) :=
  (f_cl_goodFor y1 (gJ M 45 7) M).bind fun v3 =>
  some (v3, M)
noncomputable def t_ax_again_23 (x1 : Int32) (x2 : Int32) (M : dM) : Option (Int32 × dM) :=
  if x1 = x2 then
    some ((-1), M)
  else
    (f_ax_study 2 M).bind fun q1 =>
    if x2 = (-1) then
      t_ax_again_57 ((1 : Int32) <<< (x1 &&& 31)) q1
    else
      t_ax_again_57 (((1 : Int32) <<< (x1 &&& 31)) ||| ((1 : Int32) <<< (x2 &&& 31))) q1
noncomputable def f_ax_again (a1 : Int32) (a2 : Int32) (M : dM) : Option (Int32 × dM) :=
  if (f_ax_within a1 8) = true then
    if a2 = (-1) then
      t_ax_again_23 a1 a2 M
    else
      if (f_ax_within a2 8) = true then
        t_ax_again_23 a1 a2 M
      else
        some ((-1), M)
  else
    some ((-1), M)
theorem w_t_ax_again_57 (y1 : Int32) (M : dM) {Q : mz_P} {o : (Int32 × dM)} (hf : t_ax_again_57 y1 M = some o) (hk : mR Q (some (.int o.1)) o.2) : mW mX11_again 6 Q 57 [some (.ref 0), none, none] [.ref 50, .int y1] M := by
  unfold t_ax_again_57 at hf
  refine y_aload_n (i := 0) (n := 58) ⟨dX11_again_57, rfl⟩ rfl ?_
  refine y_getR (n := 61) ⟨dX11_again_58, rfl⟩ kfX11_65 l_0 rfl r_0_7 ?_
  refine y_getJ (n := 64) ⟨dX11_again_61, rfl⟩ kfX11_265 l_45 rfl ?_
  obtain ⟨v3, hv4, hf⟩ := b_s hf
  refine c_cl_goodFor y1 (gJ M 45 7) M (n := 67) ⟨dX11_again_64, rfl⟩ klX11_272 hv4 (by decide) (Nat.le_of_ble_eq_true rfl) rfl rfl ?_
  cases hf
  exact y_ireturn (n := 68) ⟨dX11_again_67, rfl⟩ rfl rfl hk
theorem w_t_ax_again_23 (x1 : Int32) (x2 : Int32) (M : dM) {Q : mz_P} {o : (Int32 × dM)} (hf : t_ax_again_23 x1 x2 M = some o) (hk : mR Q (some (.int o.1)) o.2) : mW mX11_again 6 Q 23 [some (.ref 0), some (.int x1), some (.int x2)] [] M := by
  unfold t_ax_again_23 at hf
  refine y_iload_n (i := 1) (n := 24) ⟨dX11_again_23, rfl⟩ rfl ?_
  refine y_iload_n (i := 2) (n := 25) ⟨dX11_again_24, rfl⟩ rfl ?_
  refine y_icmp_ne (t := 30) (n := 28) ⟨dX11_again_25, rfl, rfl⟩ (fun (hc : ¬ (x1 = x2)) => ?_) (fun (hc : x1 = x2) => ?_)
  · replace hf := i_f hc hf
    refine y_aload_n (i := 0) (n := 31) ⟨dX11_again_30, rfl⟩ rfl ?_
    refine y_iconst (n := 32) (v := 2) ⟨dX11_again_31, rfl⟩ ki_2 ?_
    obtain ⟨q1, hv2, hf⟩ := b_s hf
    refine c_ax_study 2 M (n := 35) ⟨dX11_again_32, rfl⟩ klX11_156 hv2 (by decide) (Nat.le_of_ble_eq_true rfl) rfl rfl ?_
    refine y_aload_n (i := 0) (n := 36) ⟨dX11_again_35, rfl⟩ rfl ?_
    refine y_getR (n := 39) ⟨dX11_again_36, rfl⟩ kfX11_74 l_0 rfl r_0_8 ?_
    refine y_iload_n (i := 2) (n := 40) ⟨dX11_again_39, rfl⟩ rfl ?_
    refine y_iconst (n := 41) (v := (-1)) ⟨dX11_again_40, rfl⟩ ki_m1 ?_
    refine y_icmp_ne (t := 50) (n := 44) ⟨dX11_again_41, rfl, rfl⟩ (fun (hc : ¬ (x2 = (-1))) => ?_) (fun (hc : x2 = (-1)) => ?_)
    · replace hf := i_f hc hf
      refine y_iconst (n := 51) (v := 1) ⟨dX11_again_50, rfl⟩ ki_1 ?_
      refine y_iload_n (i := 1) (n := 52) ⟨dX11_again_51, rfl⟩ rfl ?_
      refine y_ishl (n := 53) ⟨dX11_again_52, rfl⟩ ?_
      refine y_iconst (n := 54) (v := 1) ⟨dX11_again_53, rfl⟩ ki_1 ?_
      refine y_iload_n (i := 2) (n := 55) ⟨dX11_again_54, rfl⟩ rfl ?_
      refine y_ishl (n := 56) ⟨dX11_again_55, rfl⟩ ?_
      refine y_ior (n := 57) ⟨dX11_again_56, rfl⟩ ?_
      exact y_wk ⟨Or.inr rfl, Or.inl rfl, Or.inl rfl, trivial⟩ (w_t_ax_again_57 (((1 : Int32) <<< (x1 &&& 31)) ||| ((1 : Int32) <<< (x2 &&& 31))) q1 hf hk)
    · replace hf := i_t hc hf
      refine y_iconst (n := 45) (v := 1) ⟨dX11_again_44, rfl⟩ ki_1 ?_
      refine y_iload_n (i := 1) (n := 46) ⟨dX11_again_45, rfl⟩ rfl ?_
      refine y_ishl (n := 47) ⟨dX11_again_46, rfl⟩ ?_
      refine y_goto (t := 57) ⟨dX11_again_47, rfl, rfl⟩ ?_
      exact y_wk ⟨Or.inr rfl, Or.inl rfl, Or.inl rfl, trivial⟩ (w_t_ax_again_57 ((1 : Int32) <<< (x1 &&& 31)) q1 hf hk)
  · replace hf := i_t hc hf
    refine y_iconst (n := 29) (v := (-1)) ⟨dX11_again_28, rfl⟩ ki_m1 ?_
    cases hf
    exact y_ireturn (n := 30) ⟨dX11_again_29, rfl⟩ rfl rfl hk
theorem ok_ax_again (a1 : Int32) (a2 : Int32) (M : dM) {o : (Int32 × dM)} (hf : f_ax_again a1 a2 M = some o) : mO mX11_again 6 [.ref 0, .int a1, .int a2] M (some (.int o.1)) o.2 := by
  refine y_ok (by decide +kernel) (by decide) (L0 := [some (.ref 0), some (.int a1), some (.int a2)]) rfl ?_
  have hk := mR_mQ (some (.int o.1)) o.2
  generalize mQ _ _ = Q at hk ⊢
  unfold f_ax_again at hf
  refine y_iload_n (i := 1) (n := 1) ⟨dX11_again_0, rfl⟩ rfl ?_
  refine y_bipush (n := 3) (v := 8) ⟨dX11_again_1, rfl⟩ kb_8 ?_
  refine c_ax_within a1 8 M (n := 6) ⟨dX11_again_3, rfl⟩ klX11_91 rfl (by decide) (Nat.le_of_ble_eq_true rfl) rfl rfl ?_
  refine y_if_eq (t := 28) (n := 9) ⟨dX11_again_6, rfl, rfl⟩ (fun h0 => ?_) (fun h0 => ?_)
  · have hc := bI_0 h0
    replace hf := i_f hc hf
    refine y_iconst (n := 29) (v := (-1)) ⟨dX11_again_28, rfl⟩ ki_m1 ?_
    cases hf
    exact y_ireturn (n := 30) ⟨dX11_again_29, rfl⟩ rfl rfl hk
  · have hc := bI_1 h0
    replace hf := i_t hc hf
    refine y_iload_n (i := 2) (n := 10) ⟨dX11_again_9, rfl⟩ rfl ?_
    refine y_iconst (n := 11) (v := (-1)) ⟨dX11_again_10, rfl⟩ ki_m1 ?_
    refine y_icmp_eq (t := 23) (n := 14) ⟨dX11_again_11, rfl, rfl⟩ (fun (hc : a2 = (-1)) => ?_) (fun (hc : ¬ (a2 = (-1))) => ?_)
    · replace hf := i_t hc hf
      exact y_wk ⟨Or.inr rfl, Or.inr rfl, Or.inr rfl, trivial⟩ (w_t_ax_again_23 a1 a2 M hf hk)
    · replace hf := i_f hc hf
      refine y_iload_n (i := 2) (n := 15) ⟨dX11_again_14, rfl⟩ rfl ?_
      refine y_bipush (n := 17) (v := 8) ⟨dX11_again_15, rfl⟩ kb_8 ?_
      refine c_ax_within a2 8 M (n := 20) ⟨dX11_again_17, rfl⟩ klX11_91 rfl (by decide) (Nat.le_of_ble_eq_true rfl) rfl rfl ?_
      refine y_if_eq (t := 28) (n := 23) ⟨dX11_again_20, rfl, rfl⟩ (fun h0 => ?_) (fun h0 => ?_)
      · have hc := bI_0 h0
        replace hf := i_f hc hf
        refine y_iconst (n := 29) (v := (-1)) ⟨dX11_again_28, rfl⟩ ki_m1 ?_
        cases hf
        exact y_ireturn (n := 30) ⟨dX11_again_29, rfl⟩ rfl rfl hk
      · have hc := bI_1 h0
        replace hf := i_t hc hf
        exact y_wk ⟨Or.inr rfl, Or.inr rfl, Or.inr rfl, trivial⟩ (w_t_ax_again_23 a1 a2 M hf hk)
theorem c_ax_again (a1 : Int32) (a2 : Int32) (M : dM) {o : (Int32 × dM)} {y : mz_M} {d : Nat} {Q : mz_P} {pc n i : Nat} {L : List (Option Value)} {st : List Value} (h : mz_d y.2.1 pc n 3 (.invokevirtual i)) (hl : mz_ml y.1.cls i yX11_again) (hf : f_ax_again a1 a2 M = some o) (hd : 6 + 1 ≤ d) (hsm : (st.map (fun v => v.category)).sum ≤ 8) (hLr : mz_rL 133 L = true) (hSr : mz_rS 133 st = true) (kk : mW y d Q n L (.int o.1 :: st) o.2) : mW y d Q pc L (.int a2 :: .int a1 :: .ref 0 :: st) M :=
  y_callV kmX11_again kvX11_again l_0 (by decide +kernel) (by decide +kernel) h hl (ok_ax_again a1 a2 M hf) (vs := [.int a1, .int a2]) rfl rfl hd hsm hLr hSr kk
noncomputable def f_cl_offer (a1 : Int32) (a2 : Int32) (a3 : Int32) (a4 : Int32) (M : dM) : Option dM :=
  gd (vp_in a1 6) <|
  if a2 ≤ (gI M 55 a1.toNatClampNeg) then
    some M
  else
    gd (vp_in (a1 + 1) 6) <|
    gd (vp_in (a1 + 2) 6) <|
    some (sI (sI (sI M 55 a1.toNatClampNeg a2) 55 (a1 + 1).toNatClampNeg a3) 55 (a1 + 2).toNatClampNeg a4)
theorem ok_cl_offer (a1 : Int32) (a2 : Int32) (a3 : Int32) (a4 : Int32) (M : dM) {o : dM} (hf : f_cl_offer a1 a2 a3 a4 M = some o) : mO mX1_offer 1 [.ref 50, .int a1, .int a2, .int a3, .int a4] M none o := by
  refine y_ok (by decide +kernel) (by decide) (L0 := [some (.ref 50), some (.int a1), some (.int a2), some (.int a3), some (.int a4)]) rfl ?_
  have hk := mR_mQ none o
  generalize mQ _ _ = Q at hk ⊢
  unfold f_cl_offer at hf
  refine y_iload_n (i := 2) (n := 1) ⟨dX1_offer_0, rfl⟩ rfl ?_
  refine y_aload_n (i := 0) (n := 2) ⟨dX1_offer_1, rfl⟩ rfl ?_
  refine y_getR (n := 5) ⟨dX1_offer_2, rfl⟩ kfX1_29 l_50 rfl r_50_8 ?_
  refine y_iload_n (i := 1) (n := 6) ⟨dX1_offer_5, rfl⟩ rfl ?_
  obtain ⟨hg1, hf⟩ := g_s hf
  refine y_iaload (n := 7) ⟨dX1_offer_6, rfl⟩ l_55 hg1 ?_
  refine y_icmp_le (t := 36) (n := 10) ⟨dX1_offer_7, rfl, rfl⟩ (fun (hc : a2 ≤ (gI M 55 a1.toNatClampNeg)) => ?_) (fun (hc : ¬ (a2 ≤ (gI M 55 a1.toNatClampNeg))) => ?_)
  · replace hf := i_t hc hf
    cases hf
    exact y_return (n := 37) ⟨dX1_offer_36, rfl⟩ rfl hk
  · replace hf := i_f hc hf
    refine y_aload_n (i := 0) (n := 11) ⟨dX1_offer_10, rfl⟩ rfl ?_
    refine y_getR (n := 14) ⟨dX1_offer_11, rfl⟩ kfX1_29 l_50 rfl r_50_8 ?_
    refine y_iload_n (i := 1) (n := 15) ⟨dX1_offer_14, rfl⟩ rfl ?_
    refine y_iload_n (i := 2) (n := 16) ⟨dX1_offer_15, rfl⟩ rfl ?_
    refine y_iastore (n := 17) ⟨dX1_offer_16, rfl⟩ l_55 hg1 ?_
    refine y_aload_n (i := 0) (n := 18) ⟨dX1_offer_17, rfl⟩ rfl ?_
    refine y_getR (n := 21) ⟨dX1_offer_18, rfl⟩ kfX1_29 l_50 rfl r_50_8 ?_
    refine y_iload_n (i := 1) (n := 22) ⟨dX1_offer_21, rfl⟩ rfl ?_
    refine y_iconst (n := 23) (v := 1) ⟨dX1_offer_22, rfl⟩ ki_1 ?_
    refine y_iadd (n := 24) ⟨dX1_offer_23, rfl⟩ ?_
    refine y_iload_n (i := 3) (n := 25) ⟨dX1_offer_24, rfl⟩ rfl ?_
    obtain ⟨hg2, hf⟩ := g_s hf
    refine y_iastore (n := 26) ⟨dX1_offer_25, rfl⟩ l_55 hg2 ?_
    refine y_aload_n (i := 0) (n := 27) ⟨dX1_offer_26, rfl⟩ rfl ?_
    refine y_getR (n := 30) ⟨dX1_offer_27, rfl⟩ kfX1_29 l_50 rfl r_50_8 ?_
    refine y_iload_n (i := 1) (n := 31) ⟨dX1_offer_30, rfl⟩ rfl ?_
    refine y_iconst (n := 32) (v := 2) ⟨dX1_offer_31, rfl⟩ ki_2 ?_
    refine y_iadd (n := 33) ⟨dX1_offer_32, rfl⟩ ?_
    refine y_iload (i := 4) (n := 35) ⟨dX1_offer_33, rfl⟩ rfl ?_
    obtain ⟨hg3, hf⟩ := g_s hf
    refine y_iastore (n := 36) ⟨dX1_offer_35, rfl⟩ l_55 hg3 ?_
    cases hf
    exact y_return (n := 37) ⟨dX1_offer_36, rfl⟩ rfl hk
theorem c_cl_offer (a1 : Int32) (a2 : Int32) (a3 : Int32) (a4 : Int32) (M : dM) {o : dM} {y : mz_M} {d : Nat} {Q : mz_P} {pc n i : Nat} {L : List (Option Value)} {st : List Value} (h : mz_d y.2.1 pc n 3 (.invokevirtual i)) (hl : mz_ml y.1.cls i yX1_offer) (hf : f_cl_offer a1 a2 a3 a4 M = some o) (hd : 1 + 1 ≤ d) (hsm : (st.map (fun v => v.category)).sum ≤ 8) (hLr : mz_rL 133 L = true) (hSr : mz_rS 133 st = true) (kk : mW y d Q n L st o) : mW y d Q pc L (.int a4 :: .int a3 :: .int a2 :: .int a1 :: .ref 50 :: st) M :=
  y_callV kmX1_offer kvX1_offer l_50 (by decide +kernel) (by decide +kernel) h hl (ok_cl_offer a1 a2 a3 a4 M hf) (vs := [.int a1, .int a2, .int a3, .int a4]) rfl rfl hd hsm hLr hSr kk
def K_cl_seekBest_18 (Q : mz_P) (x1 : Int32) (x2 : Int64) (x4 : Int32) (M : dM) : ((Int32 × dM) ⊕ dM) → Prop
  | .inl s => mW mX1_seekBest 4 Q 18 [some (.ref 50), some (.int x1), some (.long x2), none, some (.int x4), some (.int s.1), none] [] s.2
  | .inr r => mR Q none r
def K_cl_seekBest_57 (Q : mz_P) (x1 : Int32) (x2 : Int64) (x4 : Int32) (x5 : Int32) (M : dM) : ((Int32 × dM) ⊕ dM) → Prop
  | .inl s => mW mX1_seekBest 4 Q 57 [some (.ref 50), some (.int x1), some (.long x2), none, some (.int x4), some (.int x5), some (.int s.1)] [] s.2
  | .inr t => mW mX1_seekBest 4 Q 94 [some (.ref 50), some (.int x1), some (.long x2), none, some (.int x4), some (.int x5), none] [] t
noncomputable def b_cl_seekBest_57_57 (x1 : Int32) (x2 : Int64) (x4 : Int32) (x5 : Int32) (x6 : Int32) (M : dM) : Option ((Int32 × dM) ⊕ dM) :=
  if 8 ≤ x6 then
    some (.inr M)
  else
    (f_cl_goodFor (((1 : Int32) <<< (x5 &&& 31)) ||| ((1 : Int32) <<< (x6 &&& 31))) x2 M).bind fun v2 =>
    (f_cl_offer x4 v2 x5 x6 M).bind fun q4 =>
    some (.inl ((x6 + 1), q4))
noncomputable def l_cl_seekBest_57 (x1 : Int32) (x2 : Int64) (x4 : Int32) (x5 : Int32) (x6 : Int32) (M : dM) : Option dM := lpc (fun s => b_cl_seekBest_57_57 x1 x2 x4 x5 s.1 s.2) (x6, M)
noncomputable def b_cl_seekBest_18_18 (x1 : Int32) (x2 : Int64) (x4 : Int32) (x5 : Int32) (M : dM) : Option ((Int32 × dM) ⊕ dM) :=
  if 8 ≤ x5 then
    some (.inr M)
  else
    if x1 = 1 then
      (f_cl_goodFor ((1 : Int32) <<< (x5 &&& 31)) x2 M).bind fun v9 =>
      (f_cl_offer x4 v9 x5 (-1) M).bind fun q11 =>
      some (.inl ((x5 + 1), q11))
    else
      (l_cl_seekBest_57 x1 x2 x4 x5 (x5 + 1) M).bind fun t6 =>
        some (.inl ((x5 + 1), t6))
noncomputable def l_cl_seekBest_18 (x1 : Int32) (x2 : Int64) (x4 : Int32) (x5 : Int32) (M : dM) : Option dM := lpc (fun s => b_cl_seekBest_18_18 x1 x2 x4 s.1 s.2) (x5, M)
noncomputable def f_cl_seekBest (a1 : Int32) (a2 : Int64) (M : dM) : Option dM :=
  gd (vp_in ((a1 - 1) * 3) 6) <|
  (l_cl_seekBest_18 a1 a2 ((a1 - 1) * 3) 0 (sI M 55 ((a1 - 1) * 3).toNatClampNeg (-1))).bind fun r15 => some r15
theorem w_b_cl_seekBest_57_57 (x1 : Int32) (x2 : Int64) (x4 : Int32) (x5 : Int32) (x6 : Int32) (M : dM) {Q : mz_P} {o : ((Int32 × dM) ⊕ dM)} (hf : b_cl_seekBest_57_57 x1 x2 x4 x5 x6 M = some o) (hk : K_cl_seekBest_57 Q x1 x2 x4 x5 M o) : mW mX1_seekBest 4 Q 57 [some (.ref 50), some (.int x1), some (.long x2), none, some (.int x4), some (.int x5), some (.int x6)] [] M := by
  unfold b_cl_seekBest_57_57 at hf
  refine y_iload (i := 6) (n := 59) ⟨dX1_seekBest_57, rfl⟩ rfl ?_
  refine y_bipush (n := 61) (v := 8) ⟨dX1_seekBest_59, rfl⟩ kb_8 ?_
  refine y_icmp_ge (t := 94) (n := 64) ⟨dX1_seekBest_61, rfl, rfl⟩ (fun (hc : 8 ≤ x6) => ?_) (fun (hc : ¬ (8 ≤ x6)) => ?_)
  · replace hf := i_t hc hf
    cases hf
    exact y_wk ⟨Or.inr rfl, Or.inr rfl, Or.inr rfl, Or.inr rfl, Or.inr rfl, Or.inr rfl, Or.inl rfl, trivial⟩ hk
  · replace hf := i_f hc hf
    refine y_aload_n (i := 0) (n := 65) ⟨dX1_seekBest_64, rfl⟩ rfl ?_
    refine y_iload (i := 4) (n := 67) ⟨dX1_seekBest_65, rfl⟩ rfl ?_
    refine y_aload_n (i := 0) (n := 68) ⟨dX1_seekBest_67, rfl⟩ rfl ?_
    refine y_iconst (n := 69) (v := 1) ⟨dX1_seekBest_68, rfl⟩ ki_1 ?_
    refine y_iload (i := 5) (n := 71) ⟨dX1_seekBest_69, rfl⟩ rfl ?_
    refine y_ishl (n := 72) ⟨dX1_seekBest_71, rfl⟩ ?_
    refine y_iconst (n := 73) (v := 1) ⟨dX1_seekBest_72, rfl⟩ ki_1 ?_
    refine y_iload (i := 6) (n := 75) ⟨dX1_seekBest_73, rfl⟩ rfl ?_
    refine y_ishl (n := 76) ⟨dX1_seekBest_75, rfl⟩ ?_
    refine y_ior (n := 77) ⟨dX1_seekBest_76, rfl⟩ ?_
    refine y_lload_n (i := 2) (n := 78) ⟨dX1_seekBest_77, rfl⟩ rfl ?_
    obtain ⟨v2, hv3, hf⟩ := b_s hf
    refine c_cl_goodFor (((1 : Int32) <<< (x5 &&& 31)) ||| ((1 : Int32) <<< (x6 &&& 31))) x2 M (n := 81) ⟨dX1_seekBest_78, rfl⟩ klX1_99 hv3 (by decide) (Nat.le_of_ble_eq_true rfl) rfl rfl ?_
    refine y_iload (i := 5) (n := 83) ⟨dX1_seekBest_81, rfl⟩ rfl ?_
    refine y_iload (i := 6) (n := 85) ⟨dX1_seekBest_83, rfl⟩ rfl ?_
    obtain ⟨q4, hv5, hf⟩ := b_s hf
    refine c_cl_offer x4 v2 x5 x6 M (n := 88) ⟨dX1_seekBest_85, rfl⟩ klX1_103 hv5 (by decide) (Nat.le_of_ble_eq_true rfl) rfl rfl ?_
    refine y_iinc (i := 6) (n := 91) (b := (x6 + 1)) (L2 := [some (.ref 50), some (.int x1), some (.long x2), none, some (.int x4), some (.int x5), some (.int (x6 + 1))]) ⟨dX1_seekBest_88, rfl⟩ rfl (by rw [ki_1]) (by decide) rfl rfl ?_
    refine y_goto (t := 57) ⟨dX1_seekBest_91, rfl, rfl⟩ ?_
    cases hf
    exact y_wk ⟨Or.inr rfl, Or.inr rfl, Or.inr rfl, Or.inr rfl, Or.inr rfl, Or.inr rfl, Or.inr rfl, trivial⟩ hk
theorem wl_cl_seekBest_57 (x1 : Int32) (x2 : Int64) (x4 : Int32) (x5 : Int32) (x6 : Int32) (M : dM) {Q : mz_P} {x : dM} (hf : l_cl_seekBest_57 x1 x2 x4 x5 x6 M = some x) (hk : K_cl_seekBest_57 Q x1 x2 x4 x5 M (.inr x)) : mW mX1_seekBest 4 Q 57 [some (.ref 50), some (.int x1), some (.long x2), none, some (.int x4), some (.int x5), some (.int x6)] [] M :=
  lpc_wp (Wh := fun s => mW mX1_seekBest 4 Q 57 [some (.ref 50), some (.int x1), some (.long x2), none, some (.int x4), some (.int x5), some (.int s.1)] [] s.2) (K := K_cl_seekBest_57 Q x1 x2 x4 x5 M) (fun _ h => h) (fun s o hb hk => w_b_cl_seekBest_57_57 x1 x2 x4 x5 s.1 s.2 hb hk) hf hk
theorem w_b_cl_seekBest_18_18 (x1 : Int32) (x2 : Int64) (x4 : Int32) (x5 : Int32) (M : dM) {Q : mz_P} {o : ((Int32 × dM) ⊕ dM)} (hf : b_cl_seekBest_18_18 x1 x2 x4 x5 M = some o) (hk : K_cl_seekBest_18 Q x1 x2 x4 M o) : mW mX1_seekBest 4 Q 18 [some (.ref 50), some (.int x1), some (.long x2), none, some (.int x4), some (.int x5), none] [] M := by
  unfold b_cl_seekBest_18_18 at hf
  refine y_iload (i := 5) (n := 20) ⟨dX1_seekBest_18, rfl⟩ rfl ?_
  refine y_bipush (n := 22) (v := 8) ⟨dX1_seekBest_20, rfl⟩ kb_8 ?_
  refine y_icmp_ge (t := 100) (n := 25) ⟨dX1_seekBest_22, rfl, rfl⟩ (fun (hc : 8 ≤ x5) => ?_) (fun (hc : ¬ (8 ≤ x5)) => ?_)
  · replace hf := i_t hc hf
    cases hf
    exact y_return (n := 101) ⟨dX1_seekBest_100, rfl⟩ rfl hk
  · replace hf := i_f hc hf
    refine y_iload_n (i := 1) (n := 26) ⟨dX1_seekBest_25, rfl⟩ rfl ?_
    refine y_iconst (n := 27) (v := 1) ⟨dX1_seekBest_26, rfl⟩ ki_1 ?_
    refine y_icmp_ne (t := 51) (n := 30) ⟨dX1_seekBest_27, rfl, rfl⟩ (fun (hc : ¬ (x1 = 1)) => ?_) (fun (hc : x1 = 1) => ?_)
    · replace hf := i_f hc hf
      refine y_iload (i := 5) (n := 53) ⟨dX1_seekBest_51, rfl⟩ rfl ?_
      refine y_iconst (n := 54) (v := 1) ⟨dX1_seekBest_53, rfl⟩ ki_1 ?_
      refine y_iadd (n := 55) ⟨dX1_seekBest_54, rfl⟩ ?_
      refine y_istore (i := 6) (n := 57) (L2 := [some (.ref 50), some (.int x1), some (.long x2), none, some (.int x4), some (.int x5), some (.int (x5 + 1))]) ⟨dX1_seekBest_55, rfl⟩ (by decide) rfl rfl ?_
      obtain ⟨t6, hl7, hf⟩ := b_s hf
      refine y_wk ⟨Or.inr rfl, Or.inr rfl, Or.inr rfl, Or.inr rfl, Or.inr rfl, Or.inr rfl, Or.inr rfl, trivial⟩ (wl_cl_seekBest_57 x1 x2 x4 x5 (x5 + 1) M hl7 ?_)
      show mW mX1_seekBest 4 Q 94 [some (.ref 50), some (.int x1), some (.long x2), none, some (.int x4), some (.int x5), none] [] t6
      refine y_iinc (i := 5) (n := 97) (b := (x5 + 1)) (L2 := [some (.ref 50), some (.int x1), some (.long x2), none, some (.int x4), some (.int (x5 + 1)), none]) ⟨dX1_seekBest_94, rfl⟩ rfl (by rw [ki_1]) (by decide) rfl rfl ?_
      refine y_goto (t := 18) ⟨dX1_seekBest_97, rfl, rfl⟩ ?_
      cases hf
      exact y_wk ⟨Or.inr rfl, Or.inr rfl, Or.inr rfl, Or.inr rfl, Or.inr rfl, Or.inr rfl, Or.inr rfl, trivial⟩ hk
    · replace hf := i_t hc hf
      refine y_aload_n (i := 0) (n := 31) ⟨dX1_seekBest_30, rfl⟩ rfl ?_
      refine y_iload (i := 4) (n := 33) ⟨dX1_seekBest_31, rfl⟩ rfl ?_
      refine y_aload_n (i := 0) (n := 34) ⟨dX1_seekBest_33, rfl⟩ rfl ?_
      refine y_iconst (n := 35) (v := 1) ⟨dX1_seekBest_34, rfl⟩ ki_1 ?_
      refine y_iload (i := 5) (n := 37) ⟨dX1_seekBest_35, rfl⟩ rfl ?_
      refine y_ishl (n := 38) ⟨dX1_seekBest_37, rfl⟩ ?_
      refine y_lload_n (i := 2) (n := 39) ⟨dX1_seekBest_38, rfl⟩ rfl ?_
      obtain ⟨v9, hv10, hf⟩ := b_s hf
      refine c_cl_goodFor ((1 : Int32) <<< (x5 &&& 31)) x2 M (n := 42) ⟨dX1_seekBest_39, rfl⟩ klX1_99 hv10 (by decide) (Nat.le_of_ble_eq_true rfl) rfl rfl ?_
      refine y_iload (i := 5) (n := 44) ⟨dX1_seekBest_42, rfl⟩ rfl ?_
      refine y_iconst (n := 45) (v := (-1)) ⟨dX1_seekBest_44, rfl⟩ ki_m1 ?_
      obtain ⟨q11, hv12, hf⟩ := b_s hf
      refine c_cl_offer x4 v9 x5 (-1) M (n := 48) ⟨dX1_seekBest_45, rfl⟩ klX1_103 hv12 (by decide) (Nat.le_of_ble_eq_true rfl) rfl rfl ?_
      refine y_goto (t := 94) ⟨dX1_seekBest_48, rfl, rfl⟩ ?_
      refine y_iinc (i := 5) (n := 97) (b := (x5 + 1)) (L2 := [some (.ref 50), some (.int x1), some (.long x2), none, some (.int x4), some (.int (x5 + 1)), none]) ⟨dX1_seekBest_94, rfl⟩ rfl (by rw [ki_1]) (by decide) rfl rfl ?_
      refine y_goto (t := 18) ⟨dX1_seekBest_97, rfl, rfl⟩ ?_
      cases hf
      exact y_wk ⟨Or.inr rfl, Or.inr rfl, Or.inr rfl, Or.inr rfl, Or.inr rfl, Or.inr rfl, Or.inr rfl, trivial⟩ hk
theorem wl_cl_seekBest_18 (x1 : Int32) (x2 : Int64) (x4 : Int32) (x5 : Int32) (M : dM) {Q : mz_P} {x : dM} (hf : l_cl_seekBest_18 x1 x2 x4 x5 M = some x) (hk : K_cl_seekBest_18 Q x1 x2 x4 M (.inr x)) : mW mX1_seekBest 4 Q 18 [some (.ref 50), some (.int x1), some (.long x2), none, some (.int x4), some (.int x5), none] [] M :=
  lpc_wp (Wh := fun s => mW mX1_seekBest 4 Q 18 [some (.ref 50), some (.int x1), some (.long x2), none, some (.int x4), some (.int s.1), none] [] s.2) (K := K_cl_seekBest_18 Q x1 x2 x4 M) (fun _ h => h) (fun s o hb hk => w_b_cl_seekBest_18_18 x1 x2 x4 s.1 s.2 hb hk) hf hk
theorem ok_cl_seekBest (a1 : Int32) (a2 : Int64) (M : dM) {o : dM} (hf : f_cl_seekBest a1 a2 M = some o) : mO mX1_seekBest 4 [.ref 50, .int a1, .long a2] M none o := by
  refine y_ok (by decide +kernel) (by decide) (L0 := [some (.ref 50), some (.int a1), some (.long a2), none, none, none, none]) rfl ?_
  have hk := mR_mQ none o
  generalize mQ _ _ = Q at hk ⊢
  unfold f_cl_seekBest at hf
  refine y_iload_n (i := 1) (n := 1) ⟨dX1_seekBest_0, rfl⟩ rfl ?_
  refine y_iconst (n := 2) (v := 1) ⟨dX1_seekBest_1, rfl⟩ ki_1 ?_
  refine y_isub (n := 3) ⟨dX1_seekBest_2, rfl⟩ ?_
  refine y_iconst (n := 4) (v := 3) ⟨dX1_seekBest_3, rfl⟩ ki_3 ?_
  refine y_imul (n := 5) ⟨dX1_seekBest_4, rfl⟩ ?_
  refine y_istore (i := 4) (n := 7) (L2 := [some (.ref 50), some (.int a1), some (.long a2), none, some (.int ((a1 - 1) * 3)), none, none]) ⟨dX1_seekBest_5, rfl⟩ (by decide) rfl rfl ?_
  refine y_aload_n (i := 0) (n := 8) ⟨dX1_seekBest_7, rfl⟩ rfl ?_
  refine y_getR (n := 11) ⟨dX1_seekBest_8, rfl⟩ kfX1_29 l_50 rfl r_50_8 ?_
  refine y_iload (i := 4) (n := 13) ⟨dX1_seekBest_11, rfl⟩ rfl ?_
  refine y_iconst (n := 14) (v := (-1)) ⟨dX1_seekBest_13, rfl⟩ ki_m1 ?_
  obtain ⟨hg1, hf⟩ := g_s hf
  refine y_iastore (n := 15) ⟨dX1_seekBest_14, rfl⟩ l_55 hg1 ?_
  refine y_iconst (n := 16) (v := 0) ⟨dX1_seekBest_15, rfl⟩ ki_0 ?_
  refine y_istore (i := 5) (n := 18) (L2 := [some (.ref 50), some (.int a1), some (.long a2), none, some (.int ((a1 - 1) * 3)), some (.int 0), none]) ⟨dX1_seekBest_16, rfl⟩ (by decide) rfl rfl ?_
  obtain ⟨r15, hl14, hf⟩ := b_s hf
  cases hf
  exact y_wk ⟨Or.inr rfl, Or.inr rfl, Or.inr rfl, Or.inr rfl, Or.inr rfl, Or.inr rfl, Or.inr rfl, trivial⟩ (wl_cl_seekBest_18 a1 a2 ((a1 - 1) * 3) 0 (sI M 55 ((a1 - 1) * 3).toNatClampNeg (-1)) hl14 hk)
theorem c_cl_seekBest (a1 : Int32) (a2 : Int64) (M : dM) {o : dM} {y : mz_M} {d : Nat} {Q : mz_P} {pc n i : Nat} {L : List (Option Value)} {st : List Value} (h : mz_d y.2.1 pc n 3 (.invokevirtual i)) (hl : mz_ml y.1.cls i yX1_seekBest) (hf : f_cl_seekBest a1 a2 M = some o) (hd : 4 + 1 ≤ d) (hsm : (st.map (fun v => v.category)).sum ≤ 8) (hLr : mz_rL 133 L = true) (hSr : mz_rS 133 st = true) (kk : mW y d Q n L st o) : mW y d Q pc L (.long a2 :: .int a1 :: .ref 50 :: st) M :=
  y_callV kmX1_seekBest kvX1_seekBest l_50 (by decide +kernel) (by decide +kernel) h hl (ok_cl_seekBest a1 a2 M hf) (vs := [.int a1, .long a2]) rfl rfl hd hsm hLr hSr kk
noncomputable def t_cl_bestSites_30 (x1 : Int32) (x2 : Int32) (M : dM) : Option (Int32 × dM) :=
  gd (vp_in ((x1 - 1) * 3) 6) <|
  if (gI M 55 ((x1 - 1) * 3).toNatClampNeg) = (-1) then
    some ((-1), M)
  else
    gd (vp_in (((x1 - 1) * 3) + x2) 6) <|
    some ((gI M 55 (((x1 - 1) * 3) + x2).toNatClampNeg), M)
noncomputable def f_cl_bestSites (a1 : Int32) (a2 : Int32) (a3 : Int64) (M : dM) : Option (Int32 × dM) :=
  if (f_ax_hasBit ((gI M 50 9).toInt64) a1) = true then
    t_cl_bestSites_30 a1 a2 M
  else
    (f_cl_seekBest a1 a3 M).bind fun q3 =>
    t_cl_bestSites_30 a1 a2 (sI q3 50 9 ((gI q3 50 9) ||| ((1 : Int32) <<< (a1 &&& 31))))
theorem w_t_cl_bestSites_30 (x1 : Int32) (x2 : Int32) (M : dM) {Q : mz_P} {o : (Int32 × dM)} (hf : t_cl_bestSites_30 x1 x2 M = some o) (hk : mR Q (some (.int o.1)) o.2) : mW mX1_bestSites 5 Q 30 [some (.ref 50), some (.int x1), some (.int x2), none, none, none] [] M := by
  unfold t_cl_bestSites_30 at hf
  refine y_iload_n (i := 1) (n := 31) ⟨dX1_bestSites_30, rfl⟩ rfl ?_
  refine y_iconst (n := 32) (v := 1) ⟨dX1_bestSites_31, rfl⟩ ki_1 ?_
  refine y_isub (n := 33) ⟨dX1_bestSites_32, rfl⟩ ?_
  refine y_iconst (n := 34) (v := 3) ⟨dX1_bestSites_33, rfl⟩ ki_3 ?_
  refine y_imul (n := 35) ⟨dX1_bestSites_34, rfl⟩ ?_
  refine y_istore (i := 5) (n := 37) (L2 := [some (.ref 50), some (.int x1), some (.int x2), none, none, some (.int ((x1 - 1) * 3))]) ⟨dX1_bestSites_35, rfl⟩ (by decide) rfl rfl ?_
  refine y_aload_n (i := 0) (n := 38) ⟨dX1_bestSites_37, rfl⟩ rfl ?_
  refine y_getR (n := 41) ⟨dX1_bestSites_38, rfl⟩ kfX1_29 l_50 rfl r_50_8 ?_
  refine y_iload (i := 5) (n := 43) ⟨dX1_bestSites_41, rfl⟩ rfl ?_
  obtain ⟨hg1, hf⟩ := g_s hf
  refine y_iaload (n := 44) ⟨dX1_bestSites_43, rfl⟩ l_55 hg1 ?_
  refine y_iconst (n := 45) (v := (-1)) ⟨dX1_bestSites_44, rfl⟩ ki_m1 ?_
  refine y_icmp_ne (t := 52) (n := 48) ⟨dX1_bestSites_45, rfl, rfl⟩ (fun (hc : ¬ ((gI M 55 ((x1 - 1) * 3).toNatClampNeg) = (-1))) => ?_) (fun (hc : (gI M 55 ((x1 - 1) * 3).toNatClampNeg) = (-1)) => ?_)
  · replace hf := i_f hc hf
    refine y_aload_n (i := 0) (n := 53) ⟨dX1_bestSites_52, rfl⟩ rfl ?_
    refine y_getR (n := 56) ⟨dX1_bestSites_53, rfl⟩ kfX1_29 l_50 rfl r_50_8 ?_
    refine y_iload (i := 5) (n := 58) ⟨dX1_bestSites_56, rfl⟩ rfl ?_
    refine y_iload_n (i := 2) (n := 59) ⟨dX1_bestSites_58, rfl⟩ rfl ?_
    refine y_iadd (n := 60) ⟨dX1_bestSites_59, rfl⟩ ?_
    obtain ⟨hg2, hf⟩ := g_s hf
    refine y_iaload (n := 61) ⟨dX1_bestSites_60, rfl⟩ l_55 hg2 ?_
    cases hf
    exact y_ireturn (n := 62) ⟨dX1_bestSites_61, rfl⟩ rfl rfl hk
  · replace hf := i_t hc hf
    refine y_iconst (n := 49) (v := (-1)) ⟨dX1_bestSites_48, rfl⟩ ki_m1 ?_
    refine y_goto (t := 61) ⟨dX1_bestSites_49, rfl, rfl⟩ ?_
    cases hf
    exact y_ireturn (n := 62) ⟨dX1_bestSites_61, rfl⟩ rfl rfl hk
theorem ok_cl_bestSites (a1 : Int32) (a2 : Int32) (a3 : Int64) (M : dM) {o : (Int32 × dM)} (hf : f_cl_bestSites a1 a2 a3 M = some o) : mO mX1_bestSites 5 [.ref 50, .int a1, .int a2, .long a3] M (some (.int o.1)) o.2 := by
  refine y_ok (by decide +kernel) (by decide) (L0 := [some (.ref 50), some (.int a1), some (.int a2), some (.long a3), none, none]) rfl ?_
  have hk := mR_mQ (some (.int o.1)) o.2
  generalize mQ _ _ = Q at hk ⊢
  unfold f_cl_bestSites at hf
  refine y_aload_n (i := 0) (n := 1) ⟨dX1_bestSites_0, rfl⟩ rfl ?_
  refine y_getI (n := 4) ⟨dX1_bestSites_1, rfl⟩ kfX1_36 l_50 rfl ?_
  refine y_i2l (n := 5) ⟨dX1_bestSites_4, rfl⟩ ?_
  refine y_iload_n (i := 1) (n := 6) ⟨dX1_bestSites_5, rfl⟩ rfl ?_
  refine c_ax_hasBit ((gI M 50 9).toInt64) a1 M (n := 9) ⟨dX1_bestSites_6, rfl⟩ klX1_61 rfl (by decide) (Nat.le_of_ble_eq_true rfl) rfl rfl ?_
  refine y_if_ne (t := 30) (n := 12) ⟨dX1_bestSites_9, rfl, rfl⟩ (fun h0 => ?_) (fun h0 => ?_)
  · have hc := bI_1 h0
    replace hf := i_t hc hf
    exact y_wk ⟨Or.inr rfl, Or.inr rfl, Or.inr rfl, Or.inl rfl, Or.inr rfl, Or.inr rfl, trivial⟩ (w_t_cl_bestSites_30 a1 a2 M hf hk)
  · have hc := bI_0 h0
    replace hf := i_f hc hf
    refine y_aload_n (i := 0) (n := 13) ⟨dX1_bestSites_12, rfl⟩ rfl ?_
    refine y_iload_n (i := 1) (n := 14) ⟨dX1_bestSites_13, rfl⟩ rfl ?_
    refine y_lload_n (i := 3) (n := 15) ⟨dX1_bestSites_14, rfl⟩ rfl ?_
    obtain ⟨q3, hv4, hf⟩ := b_s hf
    refine c_cl_seekBest a1 a3 M (n := 18) ⟨dX1_bestSites_15, rfl⟩ klX1_95 hv4 (by decide) (Nat.le_of_ble_eq_true rfl) rfl rfl ?_
    refine y_aload_n (i := 0) (n := 19) ⟨dX1_bestSites_18, rfl⟩ rfl ?_
    refine y_dup_r (n := 20) ⟨dX1_bestSites_19, rfl⟩ ?_
    refine y_getI (n := 23) ⟨dX1_bestSites_20, rfl⟩ kfX1_36 l_50 rfl ?_
    refine y_iconst (n := 24) (v := 1) ⟨dX1_bestSites_23, rfl⟩ ki_1 ?_
    refine y_iload_n (i := 1) (n := 25) ⟨dX1_bestSites_24, rfl⟩ rfl ?_
    refine y_ishl (n := 26) ⟨dX1_bestSites_25, rfl⟩ ?_
    refine y_ior (n := 27) ⟨dX1_bestSites_26, rfl⟩ ?_
    refine y_putI (n := 30) ⟨dX1_bestSites_27, rfl⟩ kfX1_36 l_50 (by decide +kernel) rfl ?_
    exact y_wk ⟨Or.inr rfl, Or.inr rfl, Or.inr rfl, Or.inl rfl, Or.inr rfl, Or.inr rfl, trivial⟩ (w_t_cl_bestSites_30 a1 a2 (sI q3 50 9 ((gI q3 50 9) ||| ((1 : Int32) <<< (a1 &&& 31)))) hf hk)
theorem c_cl_bestSites (a1 : Int32) (a2 : Int32) (a3 : Int64) (M : dM) {o : (Int32 × dM)} {y : mz_M} {d : Nat} {Q : mz_P} {pc n i : Nat} {L : List (Option Value)} {st : List Value} (h : mz_d y.2.1 pc n 3 (.invokevirtual i)) (hl : mz_ml y.1.cls i yX1_bestSites) (hf : f_cl_bestSites a1 a2 a3 M = some o) (hd : 5 + 1 ≤ d) (hsm : (st.map (fun v => v.category)).sum ≤ 8) (hLr : mz_rL 133 L = true) (hSr : mz_rS 133 st = true) (kk : mW y d Q n L (.int o.1 :: st) o.2) : mW y d Q pc L (.long a3 :: .int a2 :: .int a1 :: .ref 50 :: st) M :=
  y_callV kmX1_bestSites kvX1_bestSites l_50 (by decide +kernel) (by decide +kernel) h hl (ok_cl_bestSites a1 a2 a3 M hf) (vs := [.int a1, .int a2, .long a3]) rfl rfl hd hsm hLr hSr kk
noncomputable def f_ax_where (a1 : Int32) (a2 : Int32) (M : dM) : Option (Int32 × dM) :=
  if a1 < 1 then
    some ((-1), M)
  else
    if 2 < a1 then
      some ((-1), M)
    else
      if a2 < 0 then
        some ((-1), M)
      else
        if a2 ≤ a1 then
          (f_ax_study 2 M).bind fun q1 =>
          (f_cl_bestSites a1 a2 (gJ q1 45 7) q1).bind fun q3 =>
          some (q3.1, q3.2)
        else
          some ((-1), M)
theorem ok_ax_where (a1 : Int32) (a2 : Int32) (M : dM) {o : (Int32 × dM)} (hf : f_ax_where a1 a2 M = some o) : mO mX11_where 6 [.ref 0, .int a1, .int a2] M (some (.int o.1)) o.2 := by
  refine y_ok (by decide +kernel) (by decide) (L0 := [some (.ref 0), some (.int a1), some (.int a2)]) rfl ?_
  have hk := mR_mQ (some (.int o.1)) o.2
  generalize mQ _ _ = Q at hk ⊢
  unfold f_ax_where at hf
  refine y_iload_n (i := 1) (n := 1) ⟨dX11_where_0, rfl⟩ rfl ?_
  refine y_iconst (n := 2) (v := 1) ⟨dX11_where_1, rfl⟩ ki_1 ?_
  refine y_icmp_lt (t := 19) (n := 5) ⟨dX11_where_2, rfl, rfl⟩ (fun (hc : a1 < 1) => ?_) (fun (hc : ¬ (a1 < 1)) => ?_)
  · replace hf := i_t hc hf
    refine y_iconst (n := 20) (v := (-1)) ⟨dX11_where_19, rfl⟩ ki_m1 ?_
    cases hf
    exact y_ireturn (n := 21) ⟨dX11_where_20, rfl⟩ rfl rfl hk
  · replace hf := i_f hc hf
    refine y_iload_n (i := 1) (n := 6) ⟨dX11_where_5, rfl⟩ rfl ?_
    refine y_iconst (n := 7) (v := 2) ⟨dX11_where_6, rfl⟩ ki_2 ?_
    refine y_icmp_gt (t := 19) (n := 10) ⟨dX11_where_7, rfl, rfl⟩ (fun (hc : 2 < a1) => ?_) (fun (hc : ¬ (2 < a1)) => ?_)
    · replace hf := i_t hc hf
      refine y_iconst (n := 20) (v := (-1)) ⟨dX11_where_19, rfl⟩ ki_m1 ?_
      cases hf
      exact y_ireturn (n := 21) ⟨dX11_where_20, rfl⟩ rfl rfl hk
    · replace hf := i_f hc hf
      refine y_iload_n (i := 2) (n := 11) ⟨dX11_where_10, rfl⟩ rfl ?_
      refine y_if_lt (t := 19) (n := 14) ⟨dX11_where_11, rfl, rfl⟩ (fun (hc : a2 < 0) => ?_) (fun (hc : ¬ (a2 < 0)) => ?_)
      · replace hf := i_t hc hf
        refine y_iconst (n := 20) (v := (-1)) ⟨dX11_where_19, rfl⟩ ki_m1 ?_
        cases hf
        exact y_ireturn (n := 21) ⟨dX11_where_20, rfl⟩ rfl rfl hk
      · replace hf := i_f hc hf
        refine y_iload_n (i := 2) (n := 15) ⟨dX11_where_14, rfl⟩ rfl ?_
        refine y_iload_n (i := 1) (n := 16) ⟨dX11_where_15, rfl⟩ rfl ?_
        refine y_icmp_le (t := 21) (n := 19) ⟨dX11_where_16, rfl, rfl⟩ (fun (hc : a2 ≤ a1) => ?_) (fun (hc : ¬ (a2 ≤ a1)) => ?_)
        · replace hf := i_t hc hf
          refine y_aload_n (i := 0) (n := 22) ⟨dX11_where_21, rfl⟩ rfl ?_
          refine y_iconst (n := 23) (v := 2) ⟨dX11_where_22, rfl⟩ ki_2 ?_
          obtain ⟨q1, hv2, hf⟩ := b_s hf
          refine c_ax_study 2 M (n := 26) ⟨dX11_where_23, rfl⟩ klX11_156 hv2 (by decide) (Nat.le_of_ble_eq_true rfl) rfl rfl ?_
          refine y_aload_n (i := 0) (n := 27) ⟨dX11_where_26, rfl⟩ rfl ?_
          refine y_getR (n := 30) ⟨dX11_where_27, rfl⟩ kfX11_74 l_0 rfl r_0_8 ?_
          refine y_iload_n (i := 1) (n := 31) ⟨dX11_where_30, rfl⟩ rfl ?_
          refine y_iload_n (i := 2) (n := 32) ⟨dX11_where_31, rfl⟩ rfl ?_
          refine y_aload_n (i := 0) (n := 33) ⟨dX11_where_32, rfl⟩ rfl ?_
          refine y_getR (n := 36) ⟨dX11_where_33, rfl⟩ kfX11_65 l_0 rfl r_0_7 ?_
          refine y_getJ (n := 39) ⟨dX11_where_36, rfl⟩ kfX11_265 l_45 rfl ?_
          obtain ⟨q3, hv4, hf⟩ := b_s hf
          refine c_cl_bestSites a1 a2 (gJ q1 45 7) q1 (n := 42) ⟨dX11_where_39, rfl⟩ klX11_276 hv4 (by decide) (Nat.le_of_ble_eq_true rfl) rfl rfl ?_
          cases hf
          exact y_ireturn (n := 43) ⟨dX11_where_42, rfl⟩ rfl rfl hk
        · replace hf := i_f hc hf
          refine y_iconst (n := 20) (v := (-1)) ⟨dX11_where_19, rfl⟩ ki_m1 ?_
          cases hf
          exact y_ireturn (n := 21) ⟨dX11_where_20, rfl⟩ rfl rfl hk
theorem c_ax_where (a1 : Int32) (a2 : Int32) (M : dM) {o : (Int32 × dM)} {y : mz_M} {d : Nat} {Q : mz_P} {pc n i : Nat} {L : List (Option Value)} {st : List Value} (h : mz_d y.2.1 pc n 3 (.invokevirtual i)) (hl : mz_ml y.1.cls i yX11_where) (hf : f_ax_where a1 a2 M = some o) (hd : 6 + 1 ≤ d) (hsm : (st.map (fun v => v.category)).sum ≤ 8) (hLr : mz_rL 133 L = true) (hSr : mz_rS 133 st = true) (kk : mW y d Q n L (.int o.1 :: st) o.2) : mW y d Q pc L (.int a2 :: .int a1 :: .ref 0 :: st) M :=
  y_callV kmX11_where kvX11_where l_0 (by decide +kernel) (by decide +kernel) h hl (ok_ax_where a1 a2 M hf) (vs := [.int a1, .int a2]) rfl rfl hd hsm hLr hSr kk
def K_sy_rulesAgainst_4 (Q : mz_P) (x1 : Int32) (M : dM) : ((Int32 × Int32 × dM) ⊕ (Int32 × dM)) → Prop
  | .inl s => mW mX8_rulesAgainst 4 Q 4 [some (.ref 45), some (.int x1), some (.int s.1), some (.int s.2.1)] [] s.2.2
  | .inr r => mR Q (some (.int r.1)) r.2
noncomputable def b_sy_rulesAgainst_4_4 (x1 : Int32) (x2 : Int32) (x3 : Int32) (M : dM) : Option ((Int32 × Int32 × dM) ⊕ (Int32 × dM)) :=
  if 8 ≤ x3 then
    some (.inr (x2, M))
  else
    (f_la_isTold_27 (12 + x3) M).bind fun v1 =>
    if v1 = true then
      (f_ju_isStopped x3 x1 M).bind fun q3 =>
      if q3.1 = true then
        some (.inl ((x2 ||| ((1 : Int32) <<< (x3 &&& 31))), (x3 + 1), q3.2))
      else
        some (.inl (x2, (x3 + 1), q3.2))
    else
      some (.inl (x2, (x3 + 1), M))
noncomputable def l_sy_rulesAgainst_4 (x1 : Int32) (x2 : Int32) (x3 : Int32) (M : dM) : Option (Int32 × dM) := lpc (fun s => b_sy_rulesAgainst_4_4 x1 s.1 s.2.1 s.2.2) (x2, x3, M)
noncomputable def f_sy_rulesAgainst (a1 : Int32) (M : dM) : Option (Int32 × dM) :=
  (l_sy_rulesAgainst_4 a1 0 0 M).bind fun r7 => some r7
theorem w_b_sy_rulesAgainst_4_4 (x1 : Int32) (x2 : Int32) (x3 : Int32) (M : dM) {Q : mz_P} {o : ((Int32 × Int32 × dM) ⊕ (Int32 × dM))} (hf : b_sy_rulesAgainst_4_4 x1 x2 x3 M = some o) (hk : K_sy_rulesAgainst_4 Q x1 M o) : mW mX8_rulesAgainst 4 Q 4 [some (.ref 45), some (.int x1), some (.int x2), some (.int x3)] [] M := by
  unfold b_sy_rulesAgainst_4_4 at hf
  refine y_iload_n (i := 3) (n := 5) ⟨dX8_rulesAgainst_4, rfl⟩ rfl ?_
  refine y_bipush (n := 7) (v := 8) ⟨dX8_rulesAgainst_5, rfl⟩ kb_8 ?_
  refine y_icmp_ge (t := 48) (n := 10) ⟨dX8_rulesAgainst_7, rfl, rfl⟩ (fun (hc : 8 ≤ x3) => ?_) (fun (hc : ¬ (8 ≤ x3)) => ?_)
  · replace hf := i_t hc hf
    refine y_iload_n (i := 2) (n := 49) ⟨dX8_rulesAgainst_48, rfl⟩ rfl ?_
    cases hf
    exact y_ireturn (n := 50) ⟨dX8_rulesAgainst_49, rfl⟩ rfl rfl hk
  · replace hf := i_f hc hf
    refine y_aload_n (i := 0) (n := 11) ⟨dX8_rulesAgainst_10, rfl⟩ rfl ?_
    refine y_getR (n := 14) ⟨dX8_rulesAgainst_11, rfl⟩ kfX8_33 l_45 rfl r_45_2 ?_
    refine y_bipush (n := 16) (v := 12) ⟨dX8_rulesAgainst_14, rfl⟩ kb_12 ?_
    refine y_iload_n (i := 3) (n := 17) ⟨dX8_rulesAgainst_16, rfl⟩ rfl ?_
    refine y_iadd (n := 18) ⟨dX8_rulesAgainst_17, rfl⟩ ?_
    obtain ⟨v1, hv2, hf⟩ := b_s hf
    refine c_la_isTold_27 (12 + x3) M (n := 21) ⟨dX8_rulesAgainst_18, rfl⟩ klX8_160 hv2 (by decide) (Nat.le_of_ble_eq_true rfl) rfl rfl ?_
    refine y_if_eq (t := 42) (n := 24) ⟨dX8_rulesAgainst_21, rfl, rfl⟩ (fun h0 => ?_) (fun h0 => ?_)
    · have hc := bI_0 h0
      replace hf := i_f hc hf
      refine y_iinc (i := 3) (n := 45) (b := (x3 + 1)) (L2 := [some (.ref 45), some (.int x1), some (.int x2), some (.int (x3 + 1))]) ⟨dX8_rulesAgainst_42, rfl⟩ rfl (by rw [ki_1]) (by decide) rfl rfl ?_
      refine y_goto (t := 4) ⟨dX8_rulesAgainst_45, rfl, rfl⟩ ?_
      cases hf
      exact y_wk ⟨Or.inr rfl, Or.inr rfl, Or.inr rfl, Or.inr rfl, trivial⟩ hk
    · have hc := bI_1 h0
      replace hf := i_t hc hf
      refine y_aload_n (i := 0) (n := 25) ⟨dX8_rulesAgainst_24, rfl⟩ rfl ?_
      refine y_getR (n := 28) ⟨dX8_rulesAgainst_25, rfl⟩ kfX8_37 l_45 rfl r_45_3 ?_
      refine y_iload_n (i := 3) (n := 29) ⟨dX8_rulesAgainst_28, rfl⟩ rfl ?_
      refine y_iload_n (i := 1) (n := 30) ⟨dX8_rulesAgainst_29, rfl⟩ rfl ?_
      obtain ⟨q3, hv4, hf⟩ := b_s hf
      refine c_ju_isStopped x3 x1 M (n := 33) ⟨dX8_rulesAgainst_30, rfl⟩ klX8_164 hv4 (by decide) (Nat.le_of_ble_eq_true rfl) rfl rfl ?_
      refine y_if_eq (t := 42) (n := 36) ⟨dX8_rulesAgainst_33, rfl, rfl⟩ (fun h0 => ?_) (fun h0 => ?_)
      · have hc := bI_0 h0
        replace hf := i_f hc hf
        refine y_iinc (i := 3) (n := 45) (b := (x3 + 1)) (L2 := [some (.ref 45), some (.int x1), some (.int x2), some (.int (x3 + 1))]) ⟨dX8_rulesAgainst_42, rfl⟩ rfl (by rw [ki_1]) (by decide) rfl rfl ?_
        refine y_goto (t := 4) ⟨dX8_rulesAgainst_45, rfl, rfl⟩ ?_
        cases hf
        exact y_wk ⟨Or.inr rfl, Or.inr rfl, Or.inr rfl, Or.inr rfl, trivial⟩ hk
      · have hc := bI_1 h0
        replace hf := i_t hc hf
        refine y_iload_n (i := 2) (n := 37) ⟨dX8_rulesAgainst_36, rfl⟩ rfl ?_
        refine y_iconst (n := 38) (v := 1) ⟨dX8_rulesAgainst_37, rfl⟩ ki_1 ?_
        refine y_iload_n (i := 3) (n := 39) ⟨dX8_rulesAgainst_38, rfl⟩ rfl ?_
        refine y_ishl (n := 40) ⟨dX8_rulesAgainst_39, rfl⟩ ?_
        refine y_ior (n := 41) ⟨dX8_rulesAgainst_40, rfl⟩ ?_
        refine y_istore_n (i := 2) (n := 42) (L2 := [some (.ref 45), some (.int x1), some (.int (x2 ||| ((1 : Int32) <<< (x3 &&& 31)))), some (.int x3)]) ⟨dX8_rulesAgainst_41, rfl⟩ (by decide) rfl rfl ?_
        refine y_iinc (i := 3) (n := 45) (b := (x3 + 1)) (L2 := [some (.ref 45), some (.int x1), some (.int (x2 ||| ((1 : Int32) <<< (x3 &&& 31)))), some (.int (x3 + 1))]) ⟨dX8_rulesAgainst_42, rfl⟩ rfl (by rw [ki_1]) (by decide) rfl rfl ?_
        refine y_goto (t := 4) ⟨dX8_rulesAgainst_45, rfl, rfl⟩ ?_
        cases hf
        exact y_wk ⟨Or.inr rfl, Or.inr rfl, Or.inr rfl, Or.inr rfl, trivial⟩ hk
theorem wl_sy_rulesAgainst_4 (x1 : Int32) (x2 : Int32) (x3 : Int32) (M : dM) {Q : mz_P} {x : (Int32 × dM)} (hf : l_sy_rulesAgainst_4 x1 x2 x3 M = some x) (hk : K_sy_rulesAgainst_4 Q x1 M (.inr x)) : mW mX8_rulesAgainst 4 Q 4 [some (.ref 45), some (.int x1), some (.int x2), some (.int x3)] [] M :=
  lpc_wp (Wh := fun s => mW mX8_rulesAgainst 4 Q 4 [some (.ref 45), some (.int x1), some (.int s.1), some (.int s.2.1)] [] s.2.2) (K := K_sy_rulesAgainst_4 Q x1 M) (fun _ h => h) (fun s o hb hk => w_b_sy_rulesAgainst_4_4 x1 s.1 s.2.1 s.2.2 hb hk) hf hk
theorem ok_sy_rulesAgainst (a1 : Int32) (M : dM) {o : (Int32 × dM)} (hf : f_sy_rulesAgainst a1 M = some o) : mO mX8_rulesAgainst 4 [.ref 45, .int a1] M (some (.int o.1)) o.2 := by
  refine y_ok (by decide +kernel) (by decide) (L0 := [some (.ref 45), some (.int a1), none, none]) rfl ?_
  have hk := mR_mQ (some (.int o.1)) o.2
  generalize mQ _ _ = Q at hk ⊢
  unfold f_sy_rulesAgainst at hf
  refine y_iconst (n := 1) (v := 0) ⟨dX8_rulesAgainst_0, rfl⟩ ki_0 ?_
  refine y_istore_n (i := 2) (n := 2) (L2 := [some (.ref 45), some (.int a1), some (.int 0), none]) ⟨dX8_rulesAgainst_1, rfl⟩ (by decide) rfl rfl ?_
  refine y_iconst (n := 3) (v := 0) ⟨dX8_rulesAgainst_2, rfl⟩ ki_0 ?_
  refine y_istore_n (i := 3) (n := 4) (L2 := [some (.ref 45), some (.int a1), some (.int 0), some (.int 0)]) ⟨dX8_rulesAgainst_3, rfl⟩ (by decide) rfl rfl ?_
  obtain ⟨r7, hl6, hf⟩ := b_s hf
  cases hf
  exact y_wk ⟨Or.inr rfl, Or.inr rfl, Or.inr rfl, Or.inr rfl, trivial⟩ (wl_sy_rulesAgainst_4 a1 0 0 M hl6 hk)
theorem c_sy_rulesAgainst (a1 : Int32) (M : dM) {o : (Int32 × dM)} {y : mz_M} {d : Nat} {Q : mz_P} {pc n i : Nat} {L : List (Option Value)} {st : List Value} (h : mz_d y.2.1 pc n 3 (.invokevirtual i)) (hl : mz_ml y.1.cls i yX8_rulesAgainst) (hf : f_sy_rulesAgainst a1 M = some o) (hd : 4 + 1 ≤ d) (hsm : (st.map (fun v => v.category)).sum ≤ 8) (hLr : mz_rL 133 L = true) (hSr : mz_rS 133 st = true) (kk : mW y d Q n L (.int o.1 :: st) o.2) : mW y d Q pc L (.int a1 :: .ref 45 :: st) M :=
  y_callV kmX8_rulesAgainst kvX8_rulesAgainst l_45 (by decide +kernel) (by decide +kernel) h hl (ok_sy_rulesAgainst a1 M hf) (vs := [.int a1]) rfl rfl hd hsm hLr hSr kk
def K_sy_stopsAll_2 (Q : mz_P) (x1 : Int32) (x2 : Int32) (M : dM) : (Int32 ⊕ Bool) → Prop
  | .inl s => mW mX8_stopsAll 1 Q 2 [some (.ref 45), some (.int x1), some (.int x2), some (.int s)] [] M
  | .inr r => mR Q (some (.int (bI r))) M
noncomputable def b_sy_stopsAll_2_2 (x1 : Int32) (x2 : Int32) (x3 : Int32) (M : dM) : Option (Int32 ⊕ Bool) :=
  if x2 ≤ x3 then
    some (.inr true)
  else
    gd (vp_in x3 40) <|
    if ((gI M 49 x3.toNatClampNeg) &&& x1) = 0 then
      some (.inr false)
    else
      some (.inl (x3 + 1))
noncomputable def l_sy_stopsAll_2 (x1 : Int32) (x2 : Int32) (x3 : Int32) (M : dM) : Option Bool := lpc (fun s => b_sy_stopsAll_2_2 x1 x2 s M) x3
noncomputable def f_sy_stopsAll (a1 : Int32) (a2 : Int32) (M : dM) : Option Bool :=
  (l_sy_stopsAll_2 a1 a2 0 M).bind fun r4 => some r4
theorem w_b_sy_stopsAll_2_2 (x1 : Int32) (x2 : Int32) (x3 : Int32) (M : dM) {Q : mz_P} {o : (Int32 ⊕ Bool)} (hf : b_sy_stopsAll_2_2 x1 x2 x3 M = some o) (hk : K_sy_stopsAll_2 Q x1 x2 M o) : mW mX8_stopsAll 1 Q 2 [some (.ref 45), some (.int x1), some (.int x2), some (.int x3)] [] M := by
  unfold b_sy_stopsAll_2_2 at hf
  refine y_iload_n (i := 3) (n := 3) ⟨dX8_stopsAll_2, rfl⟩ rfl ?_
  refine y_iload_n (i := 2) (n := 4) ⟨dX8_stopsAll_3, rfl⟩ rfl ?_
  refine y_icmp_ge (t := 26) (n := 7) ⟨dX8_stopsAll_4, rfl, rfl⟩ (fun (hc : x2 ≤ x3) => ?_) (fun (hc : ¬ (x2 ≤ x3)) => ?_)
  · replace hf := i_t hc hf
    refine y_iconst (n := 27) (v := 1) ⟨dX8_stopsAll_26, rfl⟩ ki_1 ?_
    cases hf
    exact y_ireturn (n := 28) ⟨dX8_stopsAll_27, rfl⟩ rfl rfl hk
  · replace hf := i_f hc hf
    refine y_aload_n (i := 0) (n := 8) ⟨dX8_stopsAll_7, rfl⟩ rfl ?_
    refine y_getR (n := 11) ⟨dX8_stopsAll_8, rfl⟩ kfX8_22 l_45 rfl r_45_14 ?_
    refine y_iload_n (i := 3) (n := 12) ⟨dX8_stopsAll_11, rfl⟩ rfl ?_
    obtain ⟨hg1, hf⟩ := g_s hf
    refine y_iaload (n := 13) ⟨dX8_stopsAll_12, rfl⟩ l_49 hg1 ?_
    refine y_iload_n (i := 1) (n := 14) ⟨dX8_stopsAll_13, rfl⟩ rfl ?_
    refine y_iand (n := 15) ⟨dX8_stopsAll_14, rfl⟩ ?_
    refine y_if_ne (t := 20) (n := 18) ⟨dX8_stopsAll_15, rfl, rfl⟩ (fun (hc : ¬ (((gI M 49 x3.toNatClampNeg) &&& x1) = 0)) => ?_) (fun (hc : ((gI M 49 x3.toNatClampNeg) &&& x1) = 0) => ?_)
    · replace hf := i_f hc hf
      refine y_iinc (i := 3) (n := 23) (b := (x3 + 1)) (L2 := [some (.ref 45), some (.int x1), some (.int x2), some (.int (x3 + 1))]) ⟨dX8_stopsAll_20, rfl⟩ rfl (by rw [ki_1]) (by decide) rfl rfl ?_
      refine y_goto (t := 2) ⟨dX8_stopsAll_23, rfl, rfl⟩ ?_
      cases hf
      exact y_wk ⟨Or.inr rfl, Or.inr rfl, Or.inr rfl, Or.inr rfl, trivial⟩ hk
    · replace hf := i_t hc hf
      refine y_iconst (n := 19) (v := 0) ⟨dX8_stopsAll_18, rfl⟩ ki_0 ?_
      cases hf
      exact y_ireturn (n := 20) ⟨dX8_stopsAll_19, rfl⟩ rfl rfl hk
theorem wl_sy_stopsAll_2 (x1 : Int32) (x2 : Int32) (x3 : Int32) (M : dM) {Q : mz_P} {x : Bool} (hf : l_sy_stopsAll_2 x1 x2 x3 M = some x) (hk : K_sy_stopsAll_2 Q x1 x2 M (.inr x)) : mW mX8_stopsAll 1 Q 2 [some (.ref 45), some (.int x1), some (.int x2), some (.int x3)] [] M :=
  lpc_wp (Wh := fun s => mW mX8_stopsAll 1 Q 2 [some (.ref 45), some (.int x1), some (.int x2), some (.int s)] [] M) (K := K_sy_stopsAll_2 Q x1 x2 M) (fun _ h => h) (fun s o hb hk => w_b_sy_stopsAll_2_2 x1 x2 s M hb hk) hf hk
theorem ok_sy_stopsAll (a1 : Int32) (a2 : Int32) (M : dM) {o : Bool} (hf : f_sy_stopsAll a1 a2 M = some o) : mO mX8_stopsAll 1 [.ref 45, .int a1, .int a2] M (some (.int (bI o))) M := by
  refine y_ok (by decide +kernel) (by decide) (L0 := [some (.ref 45), some (.int a1), some (.int a2), none]) rfl ?_
  have hk := mR_mQ (some (.int (bI o))) M
  generalize mQ _ _ = Q at hk ⊢
  unfold f_sy_stopsAll at hf
  refine y_iconst (n := 1) (v := 0) ⟨dX8_stopsAll_0, rfl⟩ ki_0 ?_
  refine y_istore_n (i := 3) (n := 2) (L2 := [some (.ref 45), some (.int a1), some (.int a2), some (.int 0)]) ⟨dX8_stopsAll_1, rfl⟩ (by decide) rfl rfl ?_
  obtain ⟨r4, hl3, hf⟩ := b_s hf
  cases hf
  exact y_wk ⟨Or.inr rfl, Or.inr rfl, Or.inr rfl, Or.inr rfl, trivial⟩ (wl_sy_stopsAll_2 a1 a2 0 M hl3 hk)
theorem c_sy_stopsAll (a1 : Int32) (a2 : Int32) (M : dM) {o : Bool} {y : mz_M} {d : Nat} {Q : mz_P} {pc n i : Nat} {L : List (Option Value)} {st : List Value} (h : mz_d y.2.1 pc n 3 (.invokevirtual i)) (hl : mz_ml y.1.cls i yX8_stopsAll) (hf : f_sy_stopsAll a1 a2 M = some o) (hd : 1 + 1 ≤ d) (hsm : (st.map (fun v => v.category)).sum ≤ 8) (hLr : mz_rL 133 L = true) (hSr : mz_rS 133 st = true) (kk : mW y d Q n L (.int (bI o) :: st) M) : mW y d Q pc L (.int a2 :: .int a1 :: .ref 45 :: st) M :=
  y_callV kmX8_stopsAll kvX8_stopsAll l_45 (by decide +kernel) (by decide +kernel) h hl (ok_sy_stopsAll a1 a2 M hf) (vs := [.int a1, .int a2]) rfl rfl hd hsm hLr hSr kk
def K_sy_leastRules_4 (Q : mz_P)  (M : dM) : ((Int32 × Int32 × dM) ⊕ (Int32 × dM)) → Prop
  | .inl s => mW mX8_leastRules 5 Q 4 [some (.ref 45), some (.int s.1), some (.int s.2.1), none, none] [] s.2.2
  | .inr t => mW mX8_leastRules 5 Q 55 [some (.ref 45), some (.int t.1), none, none, none] [] t.2
noncomputable def b_sy_leastRules_4_4 (x1 : Int32) (x2 : Int32) (M : dM) : Option ((Int32 × Int32 × dM) ⊕ (Int32 × dM)) :=
  if (gI M 12 7) ≤ x2 then
    some (.inr (x1, M))
  else
    if (f_ax_hasBit (gJ M 45 7) x2) = true then
      gd (vp_in x2 40) <|
      if (gI M 46 x2.toNatClampNeg) = 0 then
        some (.inl (x1, (x2 + 1), M))
      else
        (f_sy_rulesAgainst x2 M).bind fun q2 =>
        gd (vp_in x1 40) <|
        some (.inl ((x1 + 1), (x2 + 1), (sI q2.2 49 x1.toNatClampNeg q2.1)))
    else
      some (.inl (x1, (x2 + 1), M))
noncomputable def l_sy_leastRules_4 (x1 : Int32) (x2 : Int32) (M : dM) : Option (Int32 × dM) := lpc (fun s => b_sy_leastRules_4_4 s.1 s.2.1 s.2.2) (x1, x2, M)
def K_sy_leastRules_59 (Q : mz_P) (x1 : Int32) (M : dM) : ((Int32 × Int32) ⊕ (Int32 × dM)) → Prop
  | .inl s => mW mX8_leastRules 5 Q 59 [some (.ref 45), some (.int x1), some (.int s.1), some (.int s.2), none] [] M
  | .inr r => mR Q (some (.int r.1)) r.2
noncomputable def b_sy_leastRules_59_87 (x1 : Int32) (x2 : Int32) (x3 : Int32) (y0 : Int32) (M : dM) : Option ((Int32 × Int32) ⊕ (Int32 × dM)) :=
  if y0 = 0 then
    some (.inl (x2, (x3 + 1)))
  else
    (f_sy_stopsAll x3 x1 M).bind fun v8 =>
    if v8 = true then
      some (.inl (x3, (x3 + 1)))
    else
      some (.inl (x2, (x3 + 1)))
noncomputable def b_sy_leastRules_59_82 (x1 : Int32) (x2 : Int32) (x3 : Int32) (M : dM) : Option ((Int32 × Int32) ⊕ (Int32 × dM)) :=
  b_sy_leastRules_59_87 x1 x2 x3 1 M
noncomputable def b_sy_leastRules_59_59 (x1 : Int32) (x2 : Int32) (x3 : Int32) (M : dM) : Option ((Int32 × Int32) ⊕ (Int32 × dM)) :=
  if 256 ≤ x3 then
    some (.inr (x2, M))
  else
    if x2 = (-1) then
      b_sy_leastRules_59_82 x1 x2 x3 M
    else
      if (f_jd_bitCount_0f7a4 x2) ≤ (f_jd_bitCount_0f7a4 x3) then
        b_sy_leastRules_59_87 x1 x2 x3 0 M
      else
        b_sy_leastRules_59_82 x1 x2 x3 M
noncomputable def l_sy_leastRules_59 (x1 : Int32) (x2 : Int32) (x3 : Int32) (M : dM) : Option (Int32 × dM) := lpc (fun s => b_sy_leastRules_59_59 x1 s.1 s.2 M) (x2, x3)
noncomputable def f_sy_leastRules (M : dM) : Option (Int32 × dM) :=
  (l_sy_leastRules_4 0 0 M).bind fun t5 =>
    (l_sy_leastRules_59 t5.1 (-1) 0 t5.2).bind fun r12 => some r12
theorem w_b_sy_leastRules_4_4 (x1 : Int32) (x2 : Int32) (M : dM) {Q : mz_P} {o : ((Int32 × Int32 × dM) ⊕ (Int32 × dM))} (hf : b_sy_leastRules_4_4 x1 x2 M = some o) (hk : K_sy_leastRules_4 Q  M o) : mW mX8_leastRules 5 Q 4 [some (.ref 45), some (.int x1), some (.int x2), none, none] [] M := by
  unfold b_sy_leastRules_4_4 at hf
  refine y_iload_n (i := 2) (n := 5) ⟨dX8_leastRules_4, rfl⟩ rfl ?_
  refine y_aload_n (i := 0) (n := 6) ⟨dX8_leastRules_5, rfl⟩ rfl ?_
  refine y_getR (n := 9) ⟨dX8_leastRules_6, rfl⟩ kfX8_29 l_45 rfl r_45_1 ?_
  refine y_getI (n := 12) ⟨dX8_leastRules_9, rfl⟩ kfX8_45 l_12 rfl ?_
  refine y_icmp_ge (t := 55) (n := 15) ⟨dX8_leastRules_12, rfl, rfl⟩ (fun (hc : (gI M 12 7) ≤ x2) => ?_) (fun (hc : ¬ ((gI M 12 7) ≤ x2)) => ?_)
  · replace hf := i_t hc hf
    cases hf
    exact y_wk ⟨Or.inr rfl, Or.inr rfl, Or.inl rfl, Or.inr rfl, Or.inr rfl, trivial⟩ hk
  · replace hf := i_f hc hf
    refine y_aload_n (i := 0) (n := 16) ⟨dX8_leastRules_15, rfl⟩ rfl ?_
    refine y_getJ (n := 19) ⟨dX8_leastRules_16, rfl⟩ kfX8_149 l_45 rfl ?_
    refine y_iload_n (i := 2) (n := 20) ⟨dX8_leastRules_19, rfl⟩ rfl ?_
    refine c_ax_hasBit (gJ M 45 7) x2 M (n := 23) ⟨dX8_leastRules_20, rfl⟩ klX8_114 rfl (by decide) (Nat.le_of_ble_eq_true rfl) rfl rfl ?_
    refine y_if_eq (t := 49) (n := 26) ⟨dX8_leastRules_23, rfl, rfl⟩ (fun h0 => ?_) (fun h0 => ?_)
    · have hc := bI_0 h0
      replace hf := i_f hc hf
      refine y_iinc (i := 2) (n := 52) (b := (x2 + 1)) (L2 := [some (.ref 45), some (.int x1), some (.int (x2 + 1)), none, none]) ⟨dX8_leastRules_49, rfl⟩ rfl (by rw [ki_1]) (by decide) rfl rfl ?_
      refine y_goto (t := 4) ⟨dX8_leastRules_52, rfl, rfl⟩ ?_
      cases hf
      exact y_wk ⟨Or.inr rfl, Or.inr rfl, Or.inr rfl, Or.inr rfl, Or.inr rfl, trivial⟩ hk
    · have hc := bI_1 h0
      replace hf := i_t hc hf
      refine y_aload_n (i := 0) (n := 27) ⟨dX8_leastRules_26, rfl⟩ rfl ?_
      refine y_getR (n := 30) ⟨dX8_leastRules_27, rfl⟩ kfX8_9 l_45 rfl r_45_4 ?_
      refine y_iload_n (i := 2) (n := 31) ⟨dX8_leastRules_30, rfl⟩ rfl ?_
      obtain ⟨hg1, hf⟩ := g_s hf
      refine y_iaload (n := 32) ⟨dX8_leastRules_31, rfl⟩ l_46 hg1 ?_
      refine y_if_eq (t := 49) (n := 35) ⟨dX8_leastRules_32, rfl, rfl⟩ (fun (hc : (gI M 46 x2.toNatClampNeg) = 0) => ?_) (fun (hc : ¬ ((gI M 46 x2.toNatClampNeg) = 0)) => ?_)
      · replace hf := i_t hc hf
        refine y_iinc (i := 2) (n := 52) (b := (x2 + 1)) (L2 := [some (.ref 45), some (.int x1), some (.int (x2 + 1)), none, none]) ⟨dX8_leastRules_49, rfl⟩ rfl (by rw [ki_1]) (by decide) rfl rfl ?_
        refine y_goto (t := 4) ⟨dX8_leastRules_52, rfl, rfl⟩ ?_
        cases hf
        exact y_wk ⟨Or.inr rfl, Or.inr rfl, Or.inr rfl, Or.inr rfl, Or.inr rfl, trivial⟩ hk
      · replace hf := i_f hc hf
        refine y_aload_n (i := 0) (n := 36) ⟨dX8_leastRules_35, rfl⟩ rfl ?_
        refine y_getR (n := 39) ⟨dX8_leastRules_36, rfl⟩ kfX8_22 l_45 rfl r_45_14 ?_
        refine y_iload_n (i := 1) (n := 40) ⟨dX8_leastRules_39, rfl⟩ rfl ?_
        refine y_aload_n (i := 0) (n := 41) ⟨dX8_leastRules_40, rfl⟩ rfl ?_
        refine y_iload_n (i := 2) (n := 42) ⟨dX8_leastRules_41, rfl⟩ rfl ?_
        obtain ⟨q2, hv3, hf⟩ := b_s hf
        refine c_sy_rulesAgainst x2 M (n := 45) ⟨dX8_leastRules_42, rfl⟩ klX8_153 hv3 (by decide) (Nat.le_of_ble_eq_true rfl) rfl rfl ?_
        obtain ⟨hg4, hf⟩ := g_s hf
        refine y_iastore (n := 46) ⟨dX8_leastRules_45, rfl⟩ l_49 hg4 ?_
        refine y_iinc (i := 1) (n := 49) (b := (x1 + 1)) (L2 := [some (.ref 45), some (.int (x1 + 1)), some (.int x2), none, none]) ⟨dX8_leastRules_46, rfl⟩ rfl (by rw [ki_1]) (by decide) rfl rfl ?_
        refine y_iinc (i := 2) (n := 52) (b := (x2 + 1)) (L2 := [some (.ref 45), some (.int (x1 + 1)), some (.int (x2 + 1)), none, none]) ⟨dX8_leastRules_49, rfl⟩ rfl (by rw [ki_1]) (by decide) rfl rfl ?_
        refine y_goto (t := 4) ⟨dX8_leastRules_52, rfl, rfl⟩ ?_
        cases hf
        exact y_wk ⟨Or.inr rfl, Or.inr rfl, Or.inr rfl, Or.inr rfl, Or.inr rfl, trivial⟩ hk
theorem wl_sy_leastRules_4 (x1 : Int32) (x2 : Int32) (M : dM) {Q : mz_P} {x : (Int32 × dM)} (hf : l_sy_leastRules_4 x1 x2 M = some x) (hk : K_sy_leastRules_4 Q  M (.inr x)) : mW mX8_leastRules 5 Q 4 [some (.ref 45), some (.int x1), some (.int x2), none, none] [] M :=
  lpc_wp (Wh := fun s => mW mX8_leastRules 5 Q 4 [some (.ref 45), some (.int s.1), some (.int s.2.1), none, none] [] s.2.2) (K := K_sy_leastRules_4 Q  M) (fun _ h => h) (fun s o hb hk => w_b_sy_leastRules_4_4 s.1 s.2.1 s.2.2 hb hk) hf hk
theorem w_b_sy_leastRules_59_87 (x1 : Int32) (x2 : Int32) (x3 : Int32) (y0 : Int32) (M : dM) {Q : mz_P} {o : ((Int32 × Int32) ⊕ (Int32 × dM))} (hf : b_sy_leastRules_59_87 x1 x2 x3 y0 M = some o) (hk : K_sy_leastRules_59 Q x1 M o) : mW mX8_leastRules 5 Q 87 [some (.ref 45), some (.int x1), some (.int x2), some (.int x3), none] [.int y0] M := by
  unfold b_sy_leastRules_59_87 at hf
  refine y_istore (i := 4) (n := 89) (L2 := [some (.ref 45), some (.int x1), some (.int x2), some (.int x3), some (.int y0)]) ⟨dX8_leastRules_87, rfl⟩ (by decide) rfl rfl ?_
  refine y_iload (i := 4) (n := 91) ⟨dX8_leastRules_89, rfl⟩ rfl ?_
  refine y_if_eq (t := 105) (n := 94) ⟨dX8_leastRules_91, rfl, rfl⟩ (fun (hc : y0 = 0) => ?_) (fun (hc : ¬ (y0 = 0)) => ?_)
  · replace hf := i_t hc hf
    refine y_iinc (i := 3) (n := 108) (b := (x3 + 1)) (L2 := [some (.ref 45), some (.int x1), some (.int x2), some (.int (x3 + 1)), some (.int y0)]) ⟨dX8_leastRules_105, rfl⟩ rfl (by rw [ki_1]) (by decide) rfl rfl ?_
    refine y_goto (t := 59) ⟨dX8_leastRules_108, rfl, rfl⟩ ?_
    cases hf
    exact y_wk ⟨Or.inr rfl, Or.inr rfl, Or.inr rfl, Or.inr rfl, Or.inl rfl, trivial⟩ hk
  · replace hf := i_f hc hf
    refine y_aload_n (i := 0) (n := 95) ⟨dX8_leastRules_94, rfl⟩ rfl ?_
    refine y_iload_n (i := 3) (n := 96) ⟨dX8_leastRules_95, rfl⟩ rfl ?_
    refine y_iload_n (i := 1) (n := 97) ⟨dX8_leastRules_96, rfl⟩ rfl ?_
    obtain ⟨v8, hv9, hf⟩ := b_s hf
    refine c_sy_stopsAll x3 x1 M (n := 100) ⟨dX8_leastRules_97, rfl⟩ klX8_156 hv9 (by decide) (Nat.le_of_ble_eq_true rfl) rfl rfl ?_
    refine y_if_eq (t := 105) (n := 103) ⟨dX8_leastRules_100, rfl, rfl⟩ (fun h0 => ?_) (fun h0 => ?_)
    · have hc := bI_0 h0
      replace hf := i_f hc hf
      refine y_iinc (i := 3) (n := 108) (b := (x3 + 1)) (L2 := [some (.ref 45), some (.int x1), some (.int x2), some (.int (x3 + 1)), some (.int y0)]) ⟨dX8_leastRules_105, rfl⟩ rfl (by rw [ki_1]) (by decide) rfl rfl ?_
      refine y_goto (t := 59) ⟨dX8_leastRules_108, rfl, rfl⟩ ?_
      cases hf
      exact y_wk ⟨Or.inr rfl, Or.inr rfl, Or.inr rfl, Or.inr rfl, Or.inl rfl, trivial⟩ hk
    · have hc := bI_1 h0
      replace hf := i_t hc hf
      refine y_iload_n (i := 3) (n := 104) ⟨dX8_leastRules_103, rfl⟩ rfl ?_
      refine y_istore_n (i := 2) (n := 105) (L2 := [some (.ref 45), some (.int x1), some (.int x3), some (.int x3), some (.int y0)]) ⟨dX8_leastRules_104, rfl⟩ (by decide) rfl rfl ?_
      refine y_iinc (i := 3) (n := 108) (b := (x3 + 1)) (L2 := [some (.ref 45), some (.int x1), some (.int x3), some (.int (x3 + 1)), some (.int y0)]) ⟨dX8_leastRules_105, rfl⟩ rfl (by rw [ki_1]) (by decide) rfl rfl ?_
      refine y_goto (t := 59) ⟨dX8_leastRules_108, rfl, rfl⟩ ?_
      cases hf
      exact y_wk ⟨Or.inr rfl, Or.inr rfl, Or.inr rfl, Or.inr rfl, Or.inl rfl, trivial⟩ hk
theorem w_b_sy_leastRules_59_82 (x1 : Int32) (x2 : Int32) (x3 : Int32) (M : dM) {Q : mz_P} {o : ((Int32 × Int32) ⊕ (Int32 × dM))} (hf : b_sy_leastRules_59_82 x1 x2 x3 M = some o) (hk : K_sy_leastRules_59 Q x1 M o) : mW mX8_leastRules 5 Q 82 [some (.ref 45), some (.int x1), some (.int x2), some (.int x3), none] [] M := by
  unfold b_sy_leastRules_59_82 at hf
  refine y_iconst (n := 83) (v := 1) ⟨dX8_leastRules_82, rfl⟩ ki_1 ?_
  refine y_goto (t := 87) ⟨dX8_leastRules_83, rfl, rfl⟩ ?_
  exact y_wk ⟨Or.inr rfl, Or.inr rfl, Or.inr rfl, Or.inr rfl, Or.inr rfl, trivial⟩ (w_b_sy_leastRules_59_87 x1 x2 x3 1 M hf hk)
theorem w_b_sy_leastRules_59_59 (x1 : Int32) (x2 : Int32) (x3 : Int32) (M : dM) {Q : mz_P} {o : ((Int32 × Int32) ⊕ (Int32 × dM))} (hf : b_sy_leastRules_59_59 x1 x2 x3 M = some o) (hk : K_sy_leastRules_59 Q x1 M o) : mW mX8_leastRules 5 Q 59 [some (.ref 45), some (.int x1), some (.int x2), some (.int x3), none] [] M := by
  unfold b_sy_leastRules_59_59 at hf
  refine y_iload_n (i := 3) (n := 60) ⟨dX8_leastRules_59, rfl⟩ rfl ?_
  refine y_sipush (n := 63) (v := 256) ⟨dX8_leastRules_60, rfl⟩ ks_256 ?_
  refine y_icmp_ge (t := 111) (n := 66) ⟨dX8_leastRules_63, rfl, rfl⟩ (fun (hc : 256 ≤ x3) => ?_) (fun (hc : ¬ (256 ≤ x3)) => ?_)
  · replace hf := i_t hc hf
    refine y_iload_n (i := 2) (n := 112) ⟨dX8_leastRules_111, rfl⟩ rfl ?_
    cases hf
    exact y_ireturn (n := 113) ⟨dX8_leastRules_112, rfl⟩ rfl rfl hk
  · replace hf := i_f hc hf
    refine y_iload_n (i := 2) (n := 67) ⟨dX8_leastRules_66, rfl⟩ rfl ?_
    refine y_iconst (n := 68) (v := (-1)) ⟨dX8_leastRules_67, rfl⟩ ki_m1 ?_
    refine y_icmp_eq (t := 82) (n := 71) ⟨dX8_leastRules_68, rfl, rfl⟩ (fun (hc : x2 = (-1)) => ?_) (fun (hc : ¬ (x2 = (-1))) => ?_)
    · replace hf := i_t hc hf
      exact y_wk ⟨Or.inr rfl, Or.inr rfl, Or.inr rfl, Or.inr rfl, Or.inr rfl, trivial⟩ (w_b_sy_leastRules_59_82 x1 x2 x3 M hf hk)
    · replace hf := i_f hc hf
      refine y_iload_n (i := 3) (n := 72) ⟨dX8_leastRules_71, rfl⟩ rfl ?_
      refine c_jd_bitCount_0f7a4 x3 M (n := 75) ⟨dX8_leastRules_72, rfl⟩ klX8_144 rfl (by decide) (Nat.le_of_ble_eq_true rfl) rfl rfl ?_
      refine y_iload_n (i := 2) (n := 76) ⟨dX8_leastRules_75, rfl⟩ rfl ?_
      refine c_jd_bitCount_0f7a4 x2 M (n := 79) ⟨dX8_leastRules_76, rfl⟩ klX8_144 rfl (by decide) (Nat.le_of_ble_eq_true rfl) rfl rfl ?_
      refine y_icmp_ge (t := 86) (n := 82) ⟨dX8_leastRules_79, rfl, rfl⟩ (fun (hc : (f_jd_bitCount_0f7a4 x2) ≤ (f_jd_bitCount_0f7a4 x3)) => ?_) (fun (hc : ¬ ((f_jd_bitCount_0f7a4 x2) ≤ (f_jd_bitCount_0f7a4 x3))) => ?_)
      · replace hf := i_t hc hf
        refine y_iconst (n := 87) (v := 0) ⟨dX8_leastRules_86, rfl⟩ ki_0 ?_
        exact y_wk ⟨Or.inr rfl, Or.inr rfl, Or.inr rfl, Or.inr rfl, Or.inr rfl, trivial⟩ (w_b_sy_leastRules_59_87 x1 x2 x3 0 M hf hk)
      · replace hf := i_f hc hf
        exact y_wk ⟨Or.inr rfl, Or.inr rfl, Or.inr rfl, Or.inr rfl, Or.inr rfl, trivial⟩ (w_b_sy_leastRules_59_82 x1 x2 x3 M hf hk)
theorem wl_sy_leastRules_59 (x1 : Int32) (x2 : Int32) (x3 : Int32) (M : dM) {Q : mz_P} {x : (Int32 × dM)} (hf : l_sy_leastRules_59 x1 x2 x3 M = some x) (hk : K_sy_leastRules_59 Q x1 M (.inr x)) : mW mX8_leastRules 5 Q 59 [some (.ref 45), some (.int x1), some (.int x2), some (.int x3), none] [] M :=
  lpc_wp (Wh := fun s => mW mX8_leastRules 5 Q 59 [some (.ref 45), some (.int x1), some (.int s.1), some (.int s.2), none] [] M) (K := K_sy_leastRules_59 Q x1 M) (fun _ h => h) (fun s o hb hk => w_b_sy_leastRules_59_59 x1 s.1 s.2 M hb hk) hf hk
theorem ok_sy_leastRules  (M : dM) {o : (Int32 × dM)} (hf : f_sy_leastRules M = some o) : mO mX8_leastRules 5 [.ref 45] M (some (.int o.1)) o.2 := by
  refine y_ok (by decide +kernel) (by decide) (L0 := [some (.ref 45), none, none, none, none]) rfl ?_
  have hk := mR_mQ (some (.int o.1)) o.2
  generalize mQ _ _ = Q at hk ⊢
  unfold f_sy_leastRules at hf
  refine y_iconst (n := 1) (v := 0) ⟨dX8_leastRules_0, rfl⟩ ki_0 ?_
  refine y_istore_n (i := 1) (n := 2) (L2 := [some (.ref 45), some (.int 0), none, none, none]) ⟨dX8_leastRules_1, rfl⟩ (by decide) rfl rfl ?_
  refine y_iconst (n := 3) (v := 0) ⟨dX8_leastRules_2, rfl⟩ ki_0 ?_
  refine y_istore_n (i := 2) (n := 4) (L2 := [some (.ref 45), some (.int 0), some (.int 0), none, none]) ⟨dX8_leastRules_3, rfl⟩ (by decide) rfl rfl ?_
  obtain ⟨t5, hl6, hf⟩ := b_s hf
  refine y_wk ⟨Or.inr rfl, Or.inr rfl, Or.inr rfl, Or.inr rfl, Or.inr rfl, trivial⟩ (wl_sy_leastRules_4 0 0 M hl6 ?_)
  show mW mX8_leastRules 5 Q 55 [some (.ref 45), some (.int t5.1), none, none, none] [] t5.2
  refine y_iconst (n := 56) (v := (-1)) ⟨dX8_leastRules_55, rfl⟩ ki_m1 ?_
  refine y_istore_n (i := 2) (n := 57) (L2 := [some (.ref 45), some (.int t5.1), some (.int (-1)), none, none]) ⟨dX8_leastRules_56, rfl⟩ (by decide) rfl rfl ?_
  refine y_iconst (n := 58) (v := 0) ⟨dX8_leastRules_57, rfl⟩ ki_0 ?_
  refine y_istore_n (i := 3) (n := 59) (L2 := [some (.ref 45), some (.int t5.1), some (.int (-1)), some (.int 0), none]) ⟨dX8_leastRules_58, rfl⟩ (by decide) rfl rfl ?_
  obtain ⟨r12, hl11, hf⟩ := b_s hf
  cases hf
  exact y_wk ⟨Or.inr rfl, Or.inr rfl, Or.inr rfl, Or.inr rfl, Or.inr rfl, trivial⟩ (wl_sy_leastRules_59 t5.1 (-1) 0 t5.2 hl11 hk)
theorem c_sy_leastRules  (M : dM) {o : (Int32 × dM)} {y : mz_M} {d : Nat} {Q : mz_P} {pc n i : Nat} {L : List (Option Value)} {st : List Value} (h : mz_d y.2.1 pc n 3 (.invokevirtual i)) (hl : mz_ml y.1.cls i yX8_leastRules) (hf : f_sy_leastRules M = some o) (hd : 5 + 1 ≤ d) (hsm : (st.map (fun v => v.category)).sum ≤ 8) (hLr : mz_rL 133 L = true) (hSr : mz_rS 133 st = true) (kk : mW y d Q n L (.int o.1 :: st) o.2) : mW y d Q pc L (.ref 45 :: st) M :=
  y_callV kmX8_leastRules kvX8_leastRules l_45 (by decide +kernel) (by decide +kernel) h hl (ok_sy_leastRules  M hf) (vs := []) rfl rfl hd hsm hLr hSr kk
noncomputable def f_ax_rules (a1 : Int32) (M : dM) : Option (Int32 × dM) :=
  if (f_ax_within a1 2) = true then
    (f_ax_study 2 M).bind fun q1 =>
    (f_sy_leastRules q1).bind fun q3 =>
    if q3.1 = (-1) then
      some ((-1), q3.2)
    else
      if a1 = 0 then
        some ((f_jd_bitCount_0f7a4 q3.1), q3.2)
      else
        some (q3.1, q3.2)
  else
    some ((-1), M)
theorem ok_ax_rules (a1 : Int32) (M : dM) {o : (Int32 × dM)} (hf : f_ax_rules a1 M = some o) : mO mX11_rules 6 [.ref 0, .int a1] M (some (.int o.1)) o.2 := by
  refine y_ok (by decide +kernel) (by decide) (L0 := [some (.ref 0), some (.int a1), none]) rfl ?_
  have hk := mR_mQ (some (.int o.1)) o.2
  generalize mQ _ _ = Q at hk ⊢
  unfold f_ax_rules at hf
  refine y_iload_n (i := 1) (n := 1) ⟨dX11_rules_0, rfl⟩ rfl ?_
  refine y_iconst (n := 2) (v := 2) ⟨dX11_rules_1, rfl⟩ ki_2 ?_
  refine c_ax_within a1 2 M (n := 5) ⟨dX11_rules_2, rfl⟩ klX11_91 rfl (by decide) (Nat.le_of_ble_eq_true rfl) rfl rfl ?_
  refine y_if_ne (t := 10) (n := 8) ⟨dX11_rules_5, rfl, rfl⟩ (fun h0 => ?_) (fun h0 => ?_)
  · have hc := bI_1 h0
    replace hf := i_t hc hf
    refine y_aload_n (i := 0) (n := 11) ⟨dX11_rules_10, rfl⟩ rfl ?_
    refine y_iconst (n := 12) (v := 2) ⟨dX11_rules_11, rfl⟩ ki_2 ?_
    obtain ⟨q1, hv2, hf⟩ := b_s hf
    refine c_ax_study 2 M (n := 15) ⟨dX11_rules_12, rfl⟩ klX11_156 hv2 (by decide) (Nat.le_of_ble_eq_true rfl) rfl rfl ?_
    refine y_aload_n (i := 0) (n := 16) ⟨dX11_rules_15, rfl⟩ rfl ?_
    refine y_getR (n := 19) ⟨dX11_rules_16, rfl⟩ kfX11_65 l_0 rfl r_0_7 ?_
    obtain ⟨q3, hv4, hf⟩ := b_s hf
    refine c_sy_leastRules q1 (n := 22) ⟨dX11_rules_19, rfl⟩ klX11_280 hv4 (by decide) (Nat.le_of_ble_eq_true rfl) rfl rfl ?_
    refine y_istore_n (i := 2) (n := 23) (L2 := [some (.ref 0), some (.int a1), some (.int q3.1)]) ⟨dX11_rules_22, rfl⟩ (by decide) rfl rfl ?_
    refine y_iload_n (i := 2) (n := 24) ⟨dX11_rules_23, rfl⟩ rfl ?_
    refine y_iconst (n := 25) (v := (-1)) ⟨dX11_rules_24, rfl⟩ ki_m1 ?_
    refine y_icmp_ne (t := 30) (n := 28) ⟨dX11_rules_25, rfl, rfl⟩ (fun (hc : ¬ (q3.1 = (-1))) => ?_) (fun (hc : q3.1 = (-1)) => ?_)
    · replace hf := i_f hc hf
      refine y_iload_n (i := 1) (n := 31) ⟨dX11_rules_30, rfl⟩ rfl ?_
      refine y_if_ne (t := 41) (n := 34) ⟨dX11_rules_31, rfl, rfl⟩ (fun (hc : ¬ (a1 = 0)) => ?_) (fun (hc : a1 = 0) => ?_)
      · replace hf := i_f hc hf
        refine y_iload_n (i := 2) (n := 42) ⟨dX11_rules_41, rfl⟩ rfl ?_
        cases hf
        exact y_ireturn (n := 43) ⟨dX11_rules_42, rfl⟩ rfl rfl hk
      · replace hf := i_t hc hf
        refine y_iload_n (i := 2) (n := 35) ⟨dX11_rules_34, rfl⟩ rfl ?_
        refine c_jd_bitCount_0f7a4 q3.1 q3.2 (n := 38) ⟨dX11_rules_35, rfl⟩ klX11_283 rfl (by decide) (Nat.le_of_ble_eq_true rfl) rfl rfl ?_
        refine y_goto (t := 42) ⟨dX11_rules_38, rfl, rfl⟩ ?_
        cases hf
        exact y_ireturn (n := 43) ⟨dX11_rules_42, rfl⟩ rfl rfl hk
    · replace hf := i_t hc hf
      refine y_iconst (n := 29) (v := (-1)) ⟨dX11_rules_28, rfl⟩ ki_m1 ?_
      cases hf
      exact y_ireturn (n := 30) ⟨dX11_rules_29, rfl⟩ rfl rfl hk
  · have hc := bI_0 h0
    replace hf := i_f hc hf
    refine y_iconst (n := 9) (v := (-1)) ⟨dX11_rules_8, rfl⟩ ki_m1 ?_
    cases hf
    exact y_ireturn (n := 10) ⟨dX11_rules_9, rfl⟩ rfl rfl hk
theorem c_ax_rules (a1 : Int32) (M : dM) {o : (Int32 × dM)} {y : mz_M} {d : Nat} {Q : mz_P} {pc n i : Nat} {L : List (Option Value)} {st : List Value} (h : mz_d y.2.1 pc n 3 (.invokevirtual i)) (hl : mz_ml y.1.cls i yX11_rules) (hf : f_ax_rules a1 M = some o) (hd : 6 + 1 ≤ d) (hsm : (st.map (fun v => v.category)).sum ≤ 8) (hLr : mz_rL 133 L = true) (hSr : mz_rS 133 st = true) (kk : mW y d Q n L (.int o.1 :: st) o.2) : mW y d Q pc L (.int a1 :: .ref 0 :: st) M :=
  y_callV kmX11_rules kvX11_rules l_0 (by decide +kernel) (by decide +kernel) h hl (ok_ax_rules a1 M hf) (vs := [.int a1]) rfl rfl hd hsm hLr hSr kk
noncomputable def f_to_tellPaper (a1 : Int32) (M : dM) : Option (Bool × dM) :=
  if (gI M 12 13) < 40 then
    gd (vp_in (gI M 12 13) 40) <|
    some (true, (sI (sI M 23 (gI M 12 13).toNatClampNeg a1) 12 13 ((gI (sI M 23 (gI M 12 13).toNatClampNeg a1) 12 13) + 1)))
  else
    some (false, M)
theorem ok_to_tellPaper (a1 : Int32) (M : dM) {o : (Bool × dM)} (hf : f_to_tellPaper a1 M = some o) : mO mX9_tellPaper 1 [.ref 12, .int a1] M (some (.int (bI o.1))) o.2 := by
  refine y_ok (by decide +kernel) (by decide) (L0 := [some (.ref 12), some (.int a1)]) rfl ?_
  have hk := mR_mQ (some (.int (bI o.1))) o.2
  generalize mQ _ _ = Q at hk ⊢
  unfold f_to_tellPaper at hf
  refine y_aload_n (i := 0) (n := 1) ⟨dX9_tellPaper_0, rfl⟩ rfl ?_
  refine y_getI (n := 4) ⟨dX9_tellPaper_1, rfl⟩ kfX9_52 l_12 rfl ?_
  refine y_bipush (n := 6) (v := 40) ⟨dX9_tellPaper_4, rfl⟩ kb_40 ?_
  refine y_icmp_lt (t := 11) (n := 9) ⟨dX9_tellPaper_6, rfl, rfl⟩ (fun (hc : (gI M 12 13) < 40) => ?_) (fun (hc : ¬ ((gI M 12 13) < 40)) => ?_)
  · replace hf := i_t hc hf
    refine y_aload_n (i := 0) (n := 12) ⟨dX9_tellPaper_11, rfl⟩ rfl ?_
    refine y_getR (n := 15) ⟨dX9_tellPaper_12, rfl⟩ kfX9_42 l_12 rfl r_12_12 ?_
    refine y_aload_n (i := 0) (n := 16) ⟨dX9_tellPaper_15, rfl⟩ rfl ?_
    refine y_getI (n := 19) ⟨dX9_tellPaper_16, rfl⟩ kfX9_52 l_12 rfl ?_
    refine y_iload_n (i := 1) (n := 20) ⟨dX9_tellPaper_19, rfl⟩ rfl ?_
    obtain ⟨hg1, hf⟩ := g_s hf
    refine y_iastore (n := 21) ⟨dX9_tellPaper_20, rfl⟩ l_23 hg1 ?_
    refine y_aload_n (i := 0) (n := 22) ⟨dX9_tellPaper_21, rfl⟩ rfl ?_
    refine y_dup_r (n := 23) ⟨dX9_tellPaper_22, rfl⟩ ?_
    refine y_getI (n := 26) ⟨dX9_tellPaper_23, rfl⟩ kfX9_52 l_12 rfl ?_
    refine y_iconst (n := 27) (v := 1) ⟨dX9_tellPaper_26, rfl⟩ ki_1 ?_
    refine y_iadd (n := 28) ⟨dX9_tellPaper_27, rfl⟩ ?_
    refine y_putI (n := 31) ⟨dX9_tellPaper_28, rfl⟩ kfX9_52 l_12 (by decide +kernel) rfl ?_
    refine y_iconst (n := 32) (v := 1) ⟨dX9_tellPaper_31, rfl⟩ ki_1 ?_
    cases hf
    exact y_ireturn (n := 33) ⟨dX9_tellPaper_32, rfl⟩ rfl rfl hk
  · replace hf := i_f hc hf
    refine y_iconst (n := 10) (v := 0) ⟨dX9_tellPaper_9, rfl⟩ ki_0 ?_
    cases hf
    exact y_ireturn (n := 11) ⟨dX9_tellPaper_10, rfl⟩ rfl rfl hk
theorem c_to_tellPaper (a1 : Int32) (M : dM) {o : (Bool × dM)} {y : mz_M} {d : Nat} {Q : mz_P} {pc n i : Nat} {L : List (Option Value)} {st : List Value} (h : mz_d y.2.1 pc n 3 (.invokevirtual i)) (hl : mz_ml y.1.cls i yX9_tellPaper) (hf : f_to_tellPaper a1 M = some o) (hd : 1 + 1 ≤ d) (hsm : (st.map (fun v => v.category)).sum ≤ 8) (hLr : mz_rL 133 L = true) (hSr : mz_rS 133 st = true) (kk : mW y d Q n L (.int (bI o.1) :: st) o.2) : mW y d Q pc L (.int a1 :: .ref 12 :: st) M :=
  y_callV kmX9_tellPaper kvX9_tellPaper l_12 (by decide +kernel) (by decide +kernel) h hl (ok_to_tellPaper a1 M hf) (vs := [.int a1]) rfl rfl hd hsm hLr hSr kk
noncomputable def f_ax_paper (a1 : Int32) (M : dM) : Option (Bool × dM) :=
  if (f_ax_within a1 1000) = true then
    (f_to_tellPaper a1 M).bind fun q1 =>
    if q1.1 = true then
      some (true, (f_ax_changed q1.2))
    else
      some (false, q1.2)
  else
    some (false, M)
theorem ok_ax_paper (a1 : Int32) (M : dM) {o : (Bool × dM)} (hf : f_ax_paper a1 M = some o) : mO mX11_paper 3 [.ref 0, .int a1] M (some (.int (bI o.1))) o.2 := by
  refine y_ok (by decide +kernel) (by decide) (L0 := [some (.ref 0), some (.int a1)]) rfl ?_
  have hk := mR_mQ (some (.int (bI o.1))) o.2
  generalize mQ _ _ = Q at hk ⊢
  unfold f_ax_paper at hf
  refine y_iload_n (i := 1) (n := 1) ⟨dX11_paper_0, rfl⟩ rfl ?_
  refine y_sipush (n := 4) (v := 1000) ⟨dX11_paper_1, rfl⟩ ks_1000 ?_
  refine c_ax_within a1 1000 M (n := 7) ⟨dX11_paper_4, rfl⟩ klX11_91 rfl (by decide) (Nat.le_of_ble_eq_true rfl) rfl rfl ?_
  refine y_if_eq (t := 21) (n := 10) ⟨dX11_paper_7, rfl, rfl⟩ (fun h0 => ?_) (fun h0 => ?_)
  · have hc := bI_0 h0
    replace hf := i_f hc hf
    refine y_iconst (n := 22) (v := 0) ⟨dX11_paper_21, rfl⟩ ki_0 ?_
    cases hf
    exact y_ireturn (n := 23) ⟨dX11_paper_22, rfl⟩ rfl rfl hk
  · have hc := bI_1 h0
    replace hf := i_t hc hf
    refine y_aload_n (i := 0) (n := 11) ⟨dX11_paper_10, rfl⟩ rfl ?_
    refine y_getR (n := 14) ⟨dX11_paper_11, rfl⟩ kfX11_26 l_0 rfl r_0_2 ?_
    refine y_iload_n (i := 1) (n := 15) ⟨dX11_paper_14, rfl⟩ rfl ?_
    obtain ⟨q1, hv2, hf⟩ := b_s hf
    refine c_to_tellPaper a1 M (n := 18) ⟨dX11_paper_15, rfl⟩ klX11_288 hv2 (by decide) (Nat.le_of_ble_eq_true rfl) rfl rfl ?_
    refine y_if_ne (t := 23) (n := 21) ⟨dX11_paper_18, rfl, rfl⟩ (fun h0 => ?_) (fun h0 => ?_)
    · have hc := bI_1 h0
      replace hf := i_t hc hf
      refine y_aload_n (i := 0) (n := 24) ⟨dX11_paper_23, rfl⟩ rfl ?_
      refine c_ax_changed q1.2 (n := 27) ⟨dX11_paper_24, rfl⟩ klX11_99 rfl (by decide) (Nat.le_of_ble_eq_true rfl) rfl rfl ?_
      refine y_iconst (n := 28) (v := 1) ⟨dX11_paper_27, rfl⟩ ki_1 ?_
      cases hf
      exact y_ireturn (n := 29) ⟨dX11_paper_28, rfl⟩ rfl rfl hk
    · have hc := bI_0 h0
      replace hf := i_f hc hf
      refine y_iconst (n := 22) (v := 0) ⟨dX11_paper_21, rfl⟩ ki_0 ?_
      cases hf
      exact y_ireturn (n := 23) ⟨dX11_paper_22, rfl⟩ rfl rfl hk
theorem c_ax_paper (a1 : Int32) (M : dM) {o : (Bool × dM)} {y : mz_M} {d : Nat} {Q : mz_P} {pc n i : Nat} {L : List (Option Value)} {st : List Value} (h : mz_d y.2.1 pc n 3 (.invokevirtual i)) (hl : mz_ml y.1.cls i yX11_paper) (hf : f_ax_paper a1 M = some o) (hd : 3 + 1 ≤ d) (hsm : (st.map (fun v => v.category)).sum ≤ 8) (hLr : mz_rL 133 L = true) (hSr : mz_rS 133 st = true) (kk : mW y d Q n L (.int (bI o.1) :: st) o.2) : mW y d Q pc L (.int a1 :: .ref 0 :: st) M :=
  y_callV kmX11_paper kvX11_paper l_0 (by decide +kernel) (by decide +kernel) h hl (ok_ax_paper a1 M hf) (vs := [.int a1]) rfl rfl hd hsm hLr hSr kk
def K_jd_fill_43_5 (Q : mz_P) (x1 : Int32) (x3 : Int32) (M : dM) : ((Int32 × dM) ⊕ dM) → Prop
  | .inl s => mW mJ7_fill_53178 1 Q 5 [some (.ref 43), some (.int x1), some (.int s.1), some (.int x3)] [] s.2
  | .inr r => mR Q none r
noncomputable def b_jd_fill_43_5_5 (x1 : Int32) (x2 : Int32) (x3 : Int32) (M : dM) : Option ((Int32 × dM) ⊕ dM) :=
  if x3 ≤ x2 then
    some (.inr M)
  else
    gd (vp_in x2 8) <|
    some (.inl ((x2 + 1), (sI M 43 x2.toNatClampNeg x1)))
noncomputable def l_jd_fill_43_5 (x1 : Int32) (x2 : Int32) (x3 : Int32) (M : dM) : Option dM := lpc (fun s => b_jd_fill_43_5_5 x1 s.1 x3 s.2) (x2, M)
noncomputable def f_jd_fill_43 (a2 : Int32) (M : dM) : Option dM :=
  (l_jd_fill_43_5 a2 0 8 M).bind fun r4 => some r4
theorem w_b_jd_fill_43_5_5 (x1 : Int32) (x2 : Int32) (x3 : Int32) (M : dM) {Q : mz_P} {o : ((Int32 × dM) ⊕ dM)} (hf : b_jd_fill_43_5_5 x1 x2 x3 M = some o) (hk : K_jd_fill_43_5 Q x1 x3 M o) : mW mJ7_fill_53178 1 Q 5 [some (.ref 43), some (.int x1), some (.int x2), some (.int x3)] [] M := by
  unfold b_jd_fill_43_5_5 at hf
  refine y_iload_n (i := 2) (n := 6) ⟨dJ7_fill_53178_5, rfl⟩ rfl ?_
  refine y_iload_n (i := 3) (n := 7) ⟨dJ7_fill_53178_6, rfl⟩ rfl ?_
  refine y_icmp_ge (t := 20) (n := 10) ⟨dJ7_fill_53178_7, rfl, rfl⟩ (fun (hc : x3 ≤ x2) => ?_) (fun (hc : ¬ (x3 ≤ x2)) => ?_)
  · replace hf := i_t hc hf
    cases hf
    exact y_return (n := 21) ⟨dJ7_fill_53178_20, rfl⟩ rfl hk
  · replace hf := i_f hc hf
    refine y_aload_n (i := 0) (n := 11) ⟨dJ7_fill_53178_10, rfl⟩ rfl ?_
    refine y_iload_n (i := 2) (n := 12) ⟨dJ7_fill_53178_11, rfl⟩ rfl ?_
    refine y_iload_n (i := 1) (n := 13) ⟨dJ7_fill_53178_12, rfl⟩ rfl ?_
    obtain ⟨hg1, hf⟩ := g_s hf
    refine y_iastore (n := 14) ⟨dJ7_fill_53178_13, rfl⟩ l_43 hg1 ?_
    refine y_iinc (i := 2) (n := 17) (b := (x2 + 1)) (L2 := [some (.ref 43), some (.int x1), some (.int (x2 + 1)), some (.int x3)]) ⟨dJ7_fill_53178_14, rfl⟩ rfl (by rw [ki_1]) (by decide) rfl rfl ?_
    refine y_goto (t := 5) ⟨dJ7_fill_53178_17, rfl, rfl⟩ ?_
    cases hf
    exact y_wk ⟨Or.inr rfl, Or.inr rfl, Or.inr rfl, Or.inr rfl, trivial⟩ hk
theorem wl_jd_fill_43_5 (x1 : Int32) (x2 : Int32) (x3 : Int32) (M : dM) {Q : mz_P} {x : dM} (hf : l_jd_fill_43_5 x1 x2 x3 M = some x) (hk : K_jd_fill_43_5 Q x1 x3 M (.inr x)) : mW mJ7_fill_53178 1 Q 5 [some (.ref 43), some (.int x1), some (.int x2), some (.int x3)] [] M :=
  lpc_wp (Wh := fun s => mW mJ7_fill_53178 1 Q 5 [some (.ref 43), some (.int x1), some (.int s.1), some (.int x3)] [] s.2) (K := K_jd_fill_43_5 Q x1 x3 M) (fun _ h => h) (fun s o hb hk => w_b_jd_fill_43_5_5 x1 s.1 x3 s.2 hb hk) hf hk
theorem ok_jd_fill_43 (a2 : Int32) (M : dM) {o : dM} (hf : f_jd_fill_43 a2 M = some o) : mO mJ7_fill_53178 1 [.ref 43, .int a2] M none o := by
  refine y_ok (by decide +kernel) (by decide) (L0 := [some (.ref 43), some (.int a2), none, none]) rfl ?_
  have hk := mR_mQ none o
  generalize mQ _ _ = Q at hk ⊢
  unfold f_jd_fill_43 at hf
  refine y_iconst (n := 1) (v := 0) ⟨dJ7_fill_53178_0, rfl⟩ ki_0 ?_
  refine y_istore_n (i := 2) (n := 2) (L2 := [some (.ref 43), some (.int a2), some (.int 0), none]) ⟨dJ7_fill_53178_1, rfl⟩ (by decide) rfl rfl ?_
  refine y_aload_n (i := 0) (n := 3) ⟨dJ7_fill_53178_2, rfl⟩ rfl ?_
  refine y_alen (n := 4) (v := 8) ⟨dJ7_fill_53178_3, rfl⟩ l_43 (fun _ => rfl) (by decide) ?_
  refine y_istore_n (i := 3) (n := 5) (L2 := [some (.ref 43), some (.int a2), some (.int 0), some (.int 8)]) ⟨dJ7_fill_53178_4, rfl⟩ (by decide) rfl rfl ?_
  obtain ⟨r4, hl3, hf⟩ := b_s hf
  cases hf
  exact y_wk ⟨Or.inr rfl, Or.inr rfl, Or.inr rfl, Or.inr rfl, trivial⟩ (wl_jd_fill_43_5 a2 0 8 M hl3 hk)
theorem c_jd_fill_43 (a2 : Int32) (M : dM) {o : dM} {y : mz_M} {d : Nat} {Q : mz_P} {pc n i : Nat} {L : List (Option Value)} {st : List Value} (h : mz_d y.2.1 pc n 3 (.invokestatic i)) (hl : mz_ml y.1.cls i yJ7_fill_53178) (hf : f_jd_fill_43 a2 M = some o) (hd : 1 + 1 ≤ d) (hsm : (st.map (fun v => v.category)).sum ≤ 8) (hLr : mz_rL 133 L = true) (hSr : mz_rS 133 st = true) (kk : mW y d Q n L st o) : mW y d Q pc L (.int a2 :: .ref 43 :: st) M :=
  y_callS kmJ7_fill_53178 ksJ7_fill_53178 h hl (ok_jd_fill_43 a2 M hf) (vs := [.ref 43, .int a2]) rfl rfl hd hsm hLr hSr kk
def K_jd_fill_44_5 (Q : mz_P) (x1 : Int32) (x3 : Int32) (M : dM) : ((Int32 × dM) ⊕ dM) → Prop
  | .inl s => mW mJ7_fill_53178 1 Q 5 [some (.ref 44), some (.int x1), some (.int s.1), some (.int x3)] [] s.2
  | .inr r => mR Q none r
noncomputable def b_jd_fill_44_5_5 (x1 : Int32) (x2 : Int32) (x3 : Int32) (M : dM) : Option ((Int32 × dM) ⊕ dM) :=
  if x3 ≤ x2 then
    some (.inr M)
  else
    gd (vp_in x2 10) <|
    some (.inl ((x2 + 1), (sI M 44 x2.toNatClampNeg x1)))
noncomputable def l_jd_fill_44_5 (x1 : Int32) (x2 : Int32) (x3 : Int32) (M : dM) : Option dM := lpc (fun s => b_jd_fill_44_5_5 x1 s.1 x3 s.2) (x2, M)
noncomputable def f_jd_fill_44 (a2 : Int32) (M : dM) : Option dM :=
  (l_jd_fill_44_5 a2 0 10 M).bind fun r4 => some r4
theorem w_b_jd_fill_44_5_5 (x1 : Int32) (x2 : Int32) (x3 : Int32) (M : dM) {Q : mz_P} {o : ((Int32 × dM) ⊕ dM)} (hf : b_jd_fill_44_5_5 x1 x2 x3 M = some o) (hk : K_jd_fill_44_5 Q x1 x3 M o) : mW mJ7_fill_53178 1 Q 5 [some (.ref 44), some (.int x1), some (.int x2), some (.int x3)] [] M := by
  unfold b_jd_fill_44_5_5 at hf
  refine y_iload_n (i := 2) (n := 6) ⟨dJ7_fill_53178_5, rfl⟩ rfl ?_
  refine y_iload_n (i := 3) (n := 7) ⟨dJ7_fill_53178_6, rfl⟩ rfl ?_
  refine y_icmp_ge (t := 20) (n := 10) ⟨dJ7_fill_53178_7, rfl, rfl⟩ (fun (hc : x3 ≤ x2) => ?_) (fun (hc : ¬ (x3 ≤ x2)) => ?_)
  · replace hf := i_t hc hf
    cases hf
    exact y_return (n := 21) ⟨dJ7_fill_53178_20, rfl⟩ rfl hk
  · replace hf := i_f hc hf
    refine y_aload_n (i := 0) (n := 11) ⟨dJ7_fill_53178_10, rfl⟩ rfl ?_
    refine y_iload_n (i := 2) (n := 12) ⟨dJ7_fill_53178_11, rfl⟩ rfl ?_
    refine y_iload_n (i := 1) (n := 13) ⟨dJ7_fill_53178_12, rfl⟩ rfl ?_
    obtain ⟨hg1, hf⟩ := g_s hf
    refine y_iastore (n := 14) ⟨dJ7_fill_53178_13, rfl⟩ l_44 hg1 ?_
    refine y_iinc (i := 2) (n := 17) (b := (x2 + 1)) (L2 := [some (.ref 44), some (.int x1), some (.int (x2 + 1)), some (.int x3)]) ⟨dJ7_fill_53178_14, rfl⟩ rfl (by rw [ki_1]) (by decide) rfl rfl ?_
    refine y_goto (t := 5) ⟨dJ7_fill_53178_17, rfl, rfl⟩ ?_
    cases hf
    exact y_wk ⟨Or.inr rfl, Or.inr rfl, Or.inr rfl, Or.inr rfl, trivial⟩ hk
theorem wl_jd_fill_44_5 (x1 : Int32) (x2 : Int32) (x3 : Int32) (M : dM) {Q : mz_P} {x : dM} (hf : l_jd_fill_44_5 x1 x2 x3 M = some x) (hk : K_jd_fill_44_5 Q x1 x3 M (.inr x)) : mW mJ7_fill_53178 1 Q 5 [some (.ref 44), some (.int x1), some (.int x2), some (.int x3)] [] M :=
  lpc_wp (Wh := fun s => mW mJ7_fill_53178 1 Q 5 [some (.ref 44), some (.int x1), some (.int s.1), some (.int x3)] [] s.2) (K := K_jd_fill_44_5 Q x1 x3 M) (fun _ h => h) (fun s o hb hk => w_b_jd_fill_44_5_5 x1 s.1 x3 s.2 hb hk) hf hk
theorem ok_jd_fill_44 (a2 : Int32) (M : dM) {o : dM} (hf : f_jd_fill_44 a2 M = some o) : mO mJ7_fill_53178 1 [.ref 44, .int a2] M none o := by
  refine y_ok (by decide +kernel) (by decide) (L0 := [some (.ref 44), some (.int a2), none, none]) rfl ?_
  have hk := mR_mQ none o
  generalize mQ _ _ = Q at hk ⊢
  unfold f_jd_fill_44 at hf
  refine y_iconst (n := 1) (v := 0) ⟨dJ7_fill_53178_0, rfl⟩ ki_0 ?_
  refine y_istore_n (i := 2) (n := 2) (L2 := [some (.ref 44), some (.int a2), some (.int 0), none]) ⟨dJ7_fill_53178_1, rfl⟩ (by decide) rfl rfl ?_
  refine y_aload_n (i := 0) (n := 3) ⟨dJ7_fill_53178_2, rfl⟩ rfl ?_
  refine y_alen (n := 4) (v := 10) ⟨dJ7_fill_53178_3, rfl⟩ l_44 (fun _ => rfl) (by decide) ?_
  refine y_istore_n (i := 3) (n := 5) (L2 := [some (.ref 44), some (.int a2), some (.int 0), some (.int 10)]) ⟨dJ7_fill_53178_4, rfl⟩ (by decide) rfl rfl ?_
  obtain ⟨r4, hl3, hf⟩ := b_s hf
  cases hf
  exact y_wk ⟨Or.inr rfl, Or.inr rfl, Or.inr rfl, Or.inr rfl, trivial⟩ (wl_jd_fill_44_5 a2 0 10 M hl3 hk)
theorem c_jd_fill_44 (a2 : Int32) (M : dM) {o : dM} {y : mz_M} {d : Nat} {Q : mz_P} {pc n i : Nat} {L : List (Option Value)} {st : List Value} (h : mz_d y.2.1 pc n 3 (.invokestatic i)) (hl : mz_ml y.1.cls i yJ7_fill_53178) (hf : f_jd_fill_44 a2 M = some o) (hd : 1 + 1 ≤ d) (hsm : (st.map (fun v => v.category)).sum ≤ 8) (hLr : mz_rL 133 L = true) (hSr : mz_rS 133 st = true) (kk : mW y d Q n L st o) : mW y d Q pc L (.int a2 :: .ref 44 :: st) M :=
  y_callS kmJ7_fill_53178 ksJ7_fill_53178 h hl (ok_jd_fill_44 a2 M hf) (vs := [.ref 44, .int a2]) rfl rfl hd hsm hLr hSr kk
noncomputable def t_ju_addToDay_151 (y1 : Int32) (y2 : Int32) (y3 : Int32) (M : dM) : Option dM :=
  gd (vp_in y1 8) <|
  some (sI M 43 y1.toNatClampNeg (y2 + y3))
noncomputable def t_ju_addToDay_56 (x1 : Int32) (y1 : Int32) (y2 : Int32) (y3 : Int32) (M : dM) : Option dM :=
  gd (vp_in y1 8) <|
  gd (vp_in x1 40) <|
  gd (vp_in (gI (sI (sI M 43 y1.toNatClampNeg (y2 + y3)) 43 4 ((gI (sI M 43 y1.toNatClampNeg (y2 + y3)) 43 4) + (f_jd_bitCount_95d88 ((gJ (sI M 43 y1.toNatClampNeg (y2 + y3)) 42 x1.toNatClampNeg) &&& (((1 : Int64) <<< (x1.toInt64 &&& 63)) - 1))))) 17 x1.toNatClampNeg) 10) <|
  gd (vp_in ((x1 * 17) + 14) 697) <|
  if (gI (sI (sI (sI (sI M 43 y1.toNatClampNeg (y2 + y3)) 43 4 ((gI (sI M 43 y1.toNatClampNeg (y2 + y3)) 43 4) + (f_jd_bitCount_95d88 ((gJ (sI M 43 y1.toNatClampNeg (y2 + y3)) 42 x1.toNatClampNeg) &&& (((1 : Int64) <<< (x1.toInt64 &&& 63)) - 1))))) 44 (gI (sI (sI M 43 y1.toNatClampNeg (y2 + y3)) 43 4 ((gI (sI M 43 y1.toNatClampNeg (y2 + y3)) 43 4) + (f_jd_bitCount_95d88 ((gJ (sI M 43 y1.toNatClampNeg (y2 + y3)) 42 x1.toNatClampNeg) &&& (((1 : Int64) <<< (x1.toInt64 &&& 63)) - 1))))) 17 x1.toNatClampNeg).toNatClampNeg ((gI (sI (sI M 43 y1.toNatClampNeg (y2 + y3)) 43 4 ((gI (sI M 43 y1.toNatClampNeg (y2 + y3)) 43 4) + (f_jd_bitCount_95d88 ((gJ (sI M 43 y1.toNatClampNeg (y2 + y3)) 42 x1.toNatClampNeg) &&& (((1 : Int64) <<< (x1.toInt64 &&& 63)) - 1))))) 44 (gI (sI (sI M 43 y1.toNatClampNeg (y2 + y3)) 43 4 ((gI (sI M 43 y1.toNatClampNeg (y2 + y3)) 43 4) + (f_jd_bitCount_95d88 ((gJ (sI M 43 y1.toNatClampNeg (y2 + y3)) 42 x1.toNatClampNeg) &&& (((1 : Int64) <<< (x1.toInt64 &&& 63)) - 1))))) 17 x1.toNatClampNeg).toNatClampNeg) + 1)) 43 5 (f_jd_max (gI (sI (sI (sI M 43 y1.toNatClampNeg (y2 + y3)) 43 4 ((gI (sI M 43 y1.toNatClampNeg (y2 + y3)) 43 4) + (f_jd_bitCount_95d88 ((gJ (sI M 43 y1.toNatClampNeg (y2 + y3)) 42 x1.toNatClampNeg) &&& (((1 : Int64) <<< (x1.toInt64 &&& 63)) - 1))))) 44 (gI (sI (sI M 43 y1.toNatClampNeg (y2 + y3)) 43 4 ((gI (sI M 43 y1.toNatClampNeg (y2 + y3)) 43 4) + (f_jd_bitCount_95d88 ((gJ (sI M 43 y1.toNatClampNeg (y2 + y3)) 42 x1.toNatClampNeg) &&& (((1 : Int64) <<< (x1.toInt64 &&& 63)) - 1))))) 17 x1.toNatClampNeg).toNatClampNeg ((gI (sI (sI M 43 y1.toNatClampNeg (y2 + y3)) 43 4 ((gI (sI M 43 y1.toNatClampNeg (y2 + y3)) 43 4) + (f_jd_bitCount_95d88 ((gJ (sI M 43 y1.toNatClampNeg (y2 + y3)) 42 x1.toNatClampNeg) &&& (((1 : Int64) <<< (x1.toInt64 &&& 63)) - 1))))) 44 (gI (sI (sI M 43 y1.toNatClampNeg (y2 + y3)) 43 4 ((gI (sI M 43 y1.toNatClampNeg (y2 + y3)) 43 4) + (f_jd_bitCount_95d88 ((gJ (sI M 43 y1.toNatClampNeg (y2 + y3)) 42 x1.toNatClampNeg) &&& (((1 : Int64) <<< (x1.toInt64 &&& 63)) - 1))))) 17 x1.toNatClampNeg).toNatClampNeg) + 1)) 43 5) (gI (sI (sI (sI M 43 y1.toNatClampNeg (y2 + y3)) 43 4 ((gI (sI M 43 y1.toNatClampNeg (y2 + y3)) 43 4) + (f_jd_bitCount_95d88 ((gJ (sI M 43 y1.toNatClampNeg (y2 + y3)) 42 x1.toNatClampNeg) &&& (((1 : Int64) <<< (x1.toInt64 &&& 63)) - 1))))) 44 (gI (sI (sI M 43 y1.toNatClampNeg (y2 + y3)) 43 4 ((gI (sI M 43 y1.toNatClampNeg (y2 + y3)) 43 4) + (f_jd_bitCount_95d88 ((gJ (sI M 43 y1.toNatClampNeg (y2 + y3)) 42 x1.toNatClampNeg) &&& (((1 : Int64) <<< (x1.toInt64 &&& 63)) - 1))))) 17 x1.toNatClampNeg).toNatClampNeg ((gI (sI (sI M 43 y1.toNatClampNeg (y2 + y3)) 43 4 ((gI (sI M 43 y1.toNatClampNeg (y2 + y3)) 43 4) + (f_jd_bitCount_95d88 ((gJ (sI M 43 y1.toNatClampNeg (y2 + y3)) 42 x1.toNatClampNeg) &&& (((1 : Int64) <<< (x1.toInt64 &&& 63)) - 1))))) 44 (gI (sI (sI M 43 y1.toNatClampNeg (y2 + y3)) 43 4 ((gI (sI M 43 y1.toNatClampNeg (y2 + y3)) 43 4) + (f_jd_bitCount_95d88 ((gJ (sI M 43 y1.toNatClampNeg (y2 + y3)) 42 x1.toNatClampNeg) &&& (((1 : Int64) <<< (x1.toInt64 &&& 63)) - 1))))) 17 x1.toNatClampNeg).toNatClampNeg) + 1)) 44 (gI (sI (sI M 43 y1.toNatClampNeg (y2 + y3)) 43 4 ((gI (sI M 43 y1.toNatClampNeg (y2 + y3)) 43 4) + (f_jd_bitCount_95d88 ((gJ (sI M 43 y1.toNatClampNeg (y2 + y3)) 42 x1.toNatClampNeg) &&& (((1 : Int64) <<< (x1.toInt64 &&& 63)) - 1))))) 17 x1.toNatClampNeg).toNatClampNeg))) 40 ((x1 * 17) + 14).toNatClampNeg) ≤ 0 then
    t_ju_addToDay_151 6 (gI (sI (sI (sI (sI M 43 y1.toNatClampNeg (y2 + y3)) 43 4 ((gI (sI M 43 y1.toNatClampNeg (y2 + y3)) 43 4) + (f_jd_bitCount_95d88 ((gJ (sI M 43 y1.toNatClampNeg (y2 + y3)) 42 x1.toNatClampNeg) &&& (((1 : Int64) <<< (x1.toInt64 &&& 63)) - 1))))) 44 (gI (sI (sI M 43 y1.toNatClampNeg (y2 + y3)) 43 4 ((gI (sI M 43 y1.toNatClampNeg (y2 + y3)) 43 4) + (f_jd_bitCount_95d88 ((gJ (sI M 43 y1.toNatClampNeg (y2 + y3)) 42 x1.toNatClampNeg) &&& (((1 : Int64) <<< (x1.toInt64 &&& 63)) - 1))))) 17 x1.toNatClampNeg).toNatClampNeg ((gI (sI (sI M 43 y1.toNatClampNeg (y2 + y3)) 43 4 ((gI (sI M 43 y1.toNatClampNeg (y2 + y3)) 43 4) + (f_jd_bitCount_95d88 ((gJ (sI M 43 y1.toNatClampNeg (y2 + y3)) 42 x1.toNatClampNeg) &&& (((1 : Int64) <<< (x1.toInt64 &&& 63)) - 1))))) 44 (gI (sI (sI M 43 y1.toNatClampNeg (y2 + y3)) 43 4 ((gI (sI M 43 y1.toNatClampNeg (y2 + y3)) 43 4) + (f_jd_bitCount_95d88 ((gJ (sI M 43 y1.toNatClampNeg (y2 + y3)) 42 x1.toNatClampNeg) &&& (((1 : Int64) <<< (x1.toInt64 &&& 63)) - 1))))) 17 x1.toNatClampNeg).toNatClampNeg) + 1)) 43 5 (f_jd_max (gI (sI (sI (sI M 43 y1.toNatClampNeg (y2 + y3)) 43 4 ((gI (sI M 43 y1.toNatClampNeg (y2 + y3)) 43 4) + (f_jd_bitCount_95d88 ((gJ (sI M 43 y1.toNatClampNeg (y2 + y3)) 42 x1.toNatClampNeg) &&& (((1 : Int64) <<< (x1.toInt64 &&& 63)) - 1))))) 44 (gI (sI (sI M 43 y1.toNatClampNeg (y2 + y3)) 43 4 ((gI (sI M 43 y1.toNatClampNeg (y2 + y3)) 43 4) + (f_jd_bitCount_95d88 ((gJ (sI M 43 y1.toNatClampNeg (y2 + y3)) 42 x1.toNatClampNeg) &&& (((1 : Int64) <<< (x1.toInt64 &&& 63)) - 1))))) 17 x1.toNatClampNeg).toNatClampNeg ((gI (sI (sI M 43 y1.toNatClampNeg (y2 + y3)) 43 4 ((gI (sI M 43 y1.toNatClampNeg (y2 + y3)) 43 4) + (f_jd_bitCount_95d88 ((gJ (sI M 43 y1.toNatClampNeg (y2 + y3)) 42 x1.toNatClampNeg) &&& (((1 : Int64) <<< (x1.toInt64 &&& 63)) - 1))))) 44 (gI (sI (sI M 43 y1.toNatClampNeg (y2 + y3)) 43 4 ((gI (sI M 43 y1.toNatClampNeg (y2 + y3)) 43 4) + (f_jd_bitCount_95d88 ((gJ (sI M 43 y1.toNatClampNeg (y2 + y3)) 42 x1.toNatClampNeg) &&& (((1 : Int64) <<< (x1.toInt64 &&& 63)) - 1))))) 17 x1.toNatClampNeg).toNatClampNeg) + 1)) 43 5) (gI (sI (sI (sI M 43 y1.toNatClampNeg (y2 + y3)) 43 4 ((gI (sI M 43 y1.toNatClampNeg (y2 + y3)) 43 4) + (f_jd_bitCount_95d88 ((gJ (sI M 43 y1.toNatClampNeg (y2 + y3)) 42 x1.toNatClampNeg) &&& (((1 : Int64) <<< (x1.toInt64 &&& 63)) - 1))))) 44 (gI (sI (sI M 43 y1.toNatClampNeg (y2 + y3)) 43 4 ((gI (sI M 43 y1.toNatClampNeg (y2 + y3)) 43 4) + (f_jd_bitCount_95d88 ((gJ (sI M 43 y1.toNatClampNeg (y2 + y3)) 42 x1.toNatClampNeg) &&& (((1 : Int64) <<< (x1.toInt64 &&& 63)) - 1))))) 17 x1.toNatClampNeg).toNatClampNeg ((gI (sI (sI M 43 y1.toNatClampNeg (y2 + y3)) 43 4 ((gI (sI M 43 y1.toNatClampNeg (y2 + y3)) 43 4) + (f_jd_bitCount_95d88 ((gJ (sI M 43 y1.toNatClampNeg (y2 + y3)) 42 x1.toNatClampNeg) &&& (((1 : Int64) <<< (x1.toInt64 &&& 63)) - 1))))) 44 (gI (sI (sI M 43 y1.toNatClampNeg (y2 + y3)) 43 4 ((gI (sI M 43 y1.toNatClampNeg (y2 + y3)) 43 4) + (f_jd_bitCount_95d88 ((gJ (sI M 43 y1.toNatClampNeg (y2 + y3)) 42 x1.toNatClampNeg) &&& (((1 : Int64) <<< (x1.toInt64 &&& 63)) - 1))))) 17 x1.toNatClampNeg).toNatClampNeg) + 1)) 44 (gI (sI (sI M 43 y1.toNatClampNeg (y2 + y3)) 43 4 ((gI (sI M 43 y1.toNatClampNeg (y2 + y3)) 43 4) + (f_jd_bitCount_95d88 ((gJ (sI M 43 y1.toNatClampNeg (y2 + y3)) 42 x1.toNatClampNeg) &&& (((1 : Int64) <<< (x1.toInt64 &&& 63)) - 1))))) 17 x1.toNatClampNeg).toNatClampNeg))) 43 6) 0 (sI (sI (sI (sI M 43 y1.toNatClampNeg (y2 + y3)) 43 4 ((gI (sI M 43 y1.toNatClampNeg (y2 + y3)) 43 4) + (f_jd_bitCount_95d88 ((gJ (sI M 43 y1.toNatClampNeg (y2 + y3)) 42 x1.toNatClampNeg) &&& (((1 : Int64) <<< (x1.toInt64 &&& 63)) - 1))))) 44 (gI (sI (sI M 43 y1.toNatClampNeg (y2 + y3)) 43 4 ((gI (sI M 43 y1.toNatClampNeg (y2 + y3)) 43 4) + (f_jd_bitCount_95d88 ((gJ (sI M 43 y1.toNatClampNeg (y2 + y3)) 42 x1.toNatClampNeg) &&& (((1 : Int64) <<< (x1.toInt64 &&& 63)) - 1))))) 17 x1.toNatClampNeg).toNatClampNeg ((gI (sI (sI M 43 y1.toNatClampNeg (y2 + y3)) 43 4 ((gI (sI M 43 y1.toNatClampNeg (y2 + y3)) 43 4) + (f_jd_bitCount_95d88 ((gJ (sI M 43 y1.toNatClampNeg (y2 + y3)) 42 x1.toNatClampNeg) &&& (((1 : Int64) <<< (x1.toInt64 &&& 63)) - 1))))) 44 (gI (sI (sI M 43 y1.toNatClampNeg (y2 + y3)) 43 4 ((gI (sI M 43 y1.toNatClampNeg (y2 + y3)) 43 4) + (f_jd_bitCount_95d88 ((gJ (sI M 43 y1.toNatClampNeg (y2 + y3)) 42 x1.toNatClampNeg) &&& (((1 : Int64) <<< (x1.toInt64 &&& 63)) - 1))))) 17 x1.toNatClampNeg).toNatClampNeg) + 1)) 43 5 (f_jd_max (gI (sI (sI (sI M 43 y1.toNatClampNeg (y2 + y3)) 43 4 ((gI (sI M 43 y1.toNatClampNeg (y2 + y3)) 43 4) + (f_jd_bitCount_95d88 ((gJ (sI M 43 y1.toNatClampNeg (y2 + y3)) 42 x1.toNatClampNeg) &&& (((1 : Int64) <<< (x1.toInt64 &&& 63)) - 1))))) 44 (gI (sI (sI M 43 y1.toNatClampNeg (y2 + y3)) 43 4 ((gI (sI M 43 y1.toNatClampNeg (y2 + y3)) 43 4) + (f_jd_bitCount_95d88 ((gJ (sI M 43 y1.toNatClampNeg (y2 + y3)) 42 x1.toNatClampNeg) &&& (((1 : Int64) <<< (x1.toInt64 &&& 63)) - 1))))) 17 x1.toNatClampNeg).toNatClampNeg ((gI (sI (sI M 43 y1.toNatClampNeg (y2 + y3)) 43 4 ((gI (sI M 43 y1.toNatClampNeg (y2 + y3)) 43 4) + (f_jd_bitCount_95d88 ((gJ (sI M 43 y1.toNatClampNeg (y2 + y3)) 42 x1.toNatClampNeg) &&& (((1 : Int64) <<< (x1.toInt64 &&& 63)) - 1))))) 44 (gI (sI (sI M 43 y1.toNatClampNeg (y2 + y3)) 43 4 ((gI (sI M 43 y1.toNatClampNeg (y2 + y3)) 43 4) + (f_jd_bitCount_95d88 ((gJ (sI M 43 y1.toNatClampNeg (y2 + y3)) 42 x1.toNatClampNeg) &&& (((1 : Int64) <<< (x1.toInt64 &&& 63)) - 1))))) 17 x1.toNatClampNeg).toNatClampNeg) + 1)) 43 5) (gI (sI (sI (sI M 43 y1.toNatClampNeg (y2 + y3)) 43 4 ((gI (sI M 43 y1.toNatClampNeg (y2 + y3)) 43 4) + (f_jd_bitCount_95d88 ((gJ (sI M 43 y1.toNatClampNeg (y2 + y3)) 42 x1.toNatClampNeg) &&& (((1 : Int64) <<< (x1.toInt64 &&& 63)) - 1))))) 44 (gI (sI (sI M 43 y1.toNatClampNeg (y2 + y3)) 43 4 ((gI (sI M 43 y1.toNatClampNeg (y2 + y3)) 43 4) + (f_jd_bitCount_95d88 ((gJ (sI M 43 y1.toNatClampNeg (y2 + y3)) 42 x1.toNatClampNeg) &&& (((1 : Int64) <<< (x1.toInt64 &&& 63)) - 1))))) 17 x1.toNatClampNeg).toNatClampNeg ((gI (sI (sI M 43 y1.toNatClampNeg (y2 + y3)) 43 4 ((gI (sI M 43 y1.toNatClampNeg (y2 + y3)) 43 4) + (f_jd_bitCount_95d88 ((gJ (sI M 43 y1.toNatClampNeg (y2 + y3)) 42 x1.toNatClampNeg) &&& (((1 : Int64) <<< (x1.toInt64 &&& 63)) - 1))))) 44 (gI (sI (sI M 43 y1.toNatClampNeg (y2 + y3)) 43 4 ((gI (sI M 43 y1.toNatClampNeg (y2 + y3)) 43 4) + (f_jd_bitCount_95d88 ((gJ (sI M 43 y1.toNatClampNeg (y2 + y3)) 42 x1.toNatClampNeg) &&& (((1 : Int64) <<< (x1.toInt64 &&& 63)) - 1))))) 17 x1.toNatClampNeg).toNatClampNeg) + 1)) 44 (gI (sI (sI M 43 y1.toNatClampNeg (y2 + y3)) 43 4 ((gI (sI M 43 y1.toNatClampNeg (y2 + y3)) 43 4) + (f_jd_bitCount_95d88 ((gJ (sI M 43 y1.toNatClampNeg (y2 + y3)) 42 x1.toNatClampNeg) &&& (((1 : Int64) <<< (x1.toInt64 &&& 63)) - 1))))) 17 x1.toNatClampNeg).toNatClampNeg)))
  else
    t_ju_addToDay_151 6 (gI (sI (sI (sI (sI M 43 y1.toNatClampNeg (y2 + y3)) 43 4 ((gI (sI M 43 y1.toNatClampNeg (y2 + y3)) 43 4) + (f_jd_bitCount_95d88 ((gJ (sI M 43 y1.toNatClampNeg (y2 + y3)) 42 x1.toNatClampNeg) &&& (((1 : Int64) <<< (x1.toInt64 &&& 63)) - 1))))) 44 (gI (sI (sI M 43 y1.toNatClampNeg (y2 + y3)) 43 4 ((gI (sI M 43 y1.toNatClampNeg (y2 + y3)) 43 4) + (f_jd_bitCount_95d88 ((gJ (sI M 43 y1.toNatClampNeg (y2 + y3)) 42 x1.toNatClampNeg) &&& (((1 : Int64) <<< (x1.toInt64 &&& 63)) - 1))))) 17 x1.toNatClampNeg).toNatClampNeg ((gI (sI (sI M 43 y1.toNatClampNeg (y2 + y3)) 43 4 ((gI (sI M 43 y1.toNatClampNeg (y2 + y3)) 43 4) + (f_jd_bitCount_95d88 ((gJ (sI M 43 y1.toNatClampNeg (y2 + y3)) 42 x1.toNatClampNeg) &&& (((1 : Int64) <<< (x1.toInt64 &&& 63)) - 1))))) 44 (gI (sI (sI M 43 y1.toNatClampNeg (y2 + y3)) 43 4 ((gI (sI M 43 y1.toNatClampNeg (y2 + y3)) 43 4) + (f_jd_bitCount_95d88 ((gJ (sI M 43 y1.toNatClampNeg (y2 + y3)) 42 x1.toNatClampNeg) &&& (((1 : Int64) <<< (x1.toInt64 &&& 63)) - 1))))) 17 x1.toNatClampNeg).toNatClampNeg) + 1)) 43 5 (f_jd_max (gI (sI (sI (sI M 43 y1.toNatClampNeg (y2 + y3)) 43 4 ((gI (sI M 43 y1.toNatClampNeg (y2 + y3)) 43 4) + (f_jd_bitCount_95d88 ((gJ (sI M 43 y1.toNatClampNeg (y2 + y3)) 42 x1.toNatClampNeg) &&& (((1 : Int64) <<< (x1.toInt64 &&& 63)) - 1))))) 44 (gI (sI (sI M 43 y1.toNatClampNeg (y2 + y3)) 43 4 ((gI (sI M 43 y1.toNatClampNeg (y2 + y3)) 43 4) + (f_jd_bitCount_95d88 ((gJ (sI M 43 y1.toNatClampNeg (y2 + y3)) 42 x1.toNatClampNeg) &&& (((1 : Int64) <<< (x1.toInt64 &&& 63)) - 1))))) 17 x1.toNatClampNeg).toNatClampNeg ((gI (sI (sI M 43 y1.toNatClampNeg (y2 + y3)) 43 4 ((gI (sI M 43 y1.toNatClampNeg (y2 + y3)) 43 4) + (f_jd_bitCount_95d88 ((gJ (sI M 43 y1.toNatClampNeg (y2 + y3)) 42 x1.toNatClampNeg) &&& (((1 : Int64) <<< (x1.toInt64 &&& 63)) - 1))))) 44 (gI (sI (sI M 43 y1.toNatClampNeg (y2 + y3)) 43 4 ((gI (sI M 43 y1.toNatClampNeg (y2 + y3)) 43 4) + (f_jd_bitCount_95d88 ((gJ (sI M 43 y1.toNatClampNeg (y2 + y3)) 42 x1.toNatClampNeg) &&& (((1 : Int64) <<< (x1.toInt64 &&& 63)) - 1))))) 17 x1.toNatClampNeg).toNatClampNeg) + 1)) 43 5) (gI (sI (sI (sI M 43 y1.toNatClampNeg (y2 + y3)) 43 4 ((gI (sI M 43 y1.toNatClampNeg (y2 + y3)) 43 4) + (f_jd_bitCount_95d88 ((gJ (sI M 43 y1.toNatClampNeg (y2 + y3)) 42 x1.toNatClampNeg) &&& (((1 : Int64) <<< (x1.toInt64 &&& 63)) - 1))))) 44 (gI (sI (sI M 43 y1.toNatClampNeg (y2 + y3)) 43 4 ((gI (sI M 43 y1.toNatClampNeg (y2 + y3)) 43 4) + (f_jd_bitCount_95d88 ((gJ (sI M 43 y1.toNatClampNeg (y2 + y3)) 42 x1.toNatClampNeg) &&& (((1 : Int64) <<< (x1.toInt64 &&& 63)) - 1))))) 17 x1.toNatClampNeg).toNatClampNeg ((gI (sI (sI M 43 y1.toNatClampNeg (y2 + y3)) 43 4 ((gI (sI M 43 y1.toNatClampNeg (y2 + y3)) 43 4) + (f_jd_bitCount_95d88 ((gJ (sI M 43 y1.toNatClampNeg (y2 + y3)) 42 x1.toNatClampNeg) &&& (((1 : Int64) <<< (x1.toInt64 &&& 63)) - 1))))) 44 (gI (sI (sI M 43 y1.toNatClampNeg (y2 + y3)) 43 4 ((gI (sI M 43 y1.toNatClampNeg (y2 + y3)) 43 4) + (f_jd_bitCount_95d88 ((gJ (sI M 43 y1.toNatClampNeg (y2 + y3)) 42 x1.toNatClampNeg) &&& (((1 : Int64) <<< (x1.toInt64 &&& 63)) - 1))))) 17 x1.toNatClampNeg).toNatClampNeg) + 1)) 44 (gI (sI (sI M 43 y1.toNatClampNeg (y2 + y3)) 43 4 ((gI (sI M 43 y1.toNatClampNeg (y2 + y3)) 43 4) + (f_jd_bitCount_95d88 ((gJ (sI M 43 y1.toNatClampNeg (y2 + y3)) 42 x1.toNatClampNeg) &&& (((1 : Int64) <<< (x1.toInt64 &&& 63)) - 1))))) 17 x1.toNatClampNeg).toNatClampNeg))) 43 6) 1 (sI (sI (sI (sI M 43 y1.toNatClampNeg (y2 + y3)) 43 4 ((gI (sI M 43 y1.toNatClampNeg (y2 + y3)) 43 4) + (f_jd_bitCount_95d88 ((gJ (sI M 43 y1.toNatClampNeg (y2 + y3)) 42 x1.toNatClampNeg) &&& (((1 : Int64) <<< (x1.toInt64 &&& 63)) - 1))))) 44 (gI (sI (sI M 43 y1.toNatClampNeg (y2 + y3)) 43 4 ((gI (sI M 43 y1.toNatClampNeg (y2 + y3)) 43 4) + (f_jd_bitCount_95d88 ((gJ (sI M 43 y1.toNatClampNeg (y2 + y3)) 42 x1.toNatClampNeg) &&& (((1 : Int64) <<< (x1.toInt64 &&& 63)) - 1))))) 17 x1.toNatClampNeg).toNatClampNeg ((gI (sI (sI M 43 y1.toNatClampNeg (y2 + y3)) 43 4 ((gI (sI M 43 y1.toNatClampNeg (y2 + y3)) 43 4) + (f_jd_bitCount_95d88 ((gJ (sI M 43 y1.toNatClampNeg (y2 + y3)) 42 x1.toNatClampNeg) &&& (((1 : Int64) <<< (x1.toInt64 &&& 63)) - 1))))) 44 (gI (sI (sI M 43 y1.toNatClampNeg (y2 + y3)) 43 4 ((gI (sI M 43 y1.toNatClampNeg (y2 + y3)) 43 4) + (f_jd_bitCount_95d88 ((gJ (sI M 43 y1.toNatClampNeg (y2 + y3)) 42 x1.toNatClampNeg) &&& (((1 : Int64) <<< (x1.toInt64 &&& 63)) - 1))))) 17 x1.toNatClampNeg).toNatClampNeg) + 1)) 43 5 (f_jd_max (gI (sI (sI (sI M 43 y1.toNatClampNeg (y2 + y3)) 43 4 ((gI (sI M 43 y1.toNatClampNeg (y2 + y3)) 43 4) + (f_jd_bitCount_95d88 ((gJ (sI M 43 y1.toNatClampNeg (y2 + y3)) 42 x1.toNatClampNeg) &&& (((1 : Int64) <<< (x1.toInt64 &&& 63)) - 1))))) 44 (gI (sI (sI M 43 y1.toNatClampNeg (y2 + y3)) 43 4 ((gI (sI M 43 y1.toNatClampNeg (y2 + y3)) 43 4) + (f_jd_bitCount_95d88 ((gJ (sI M 43 y1.toNatClampNeg (y2 + y3)) 42 x1.toNatClampNeg) &&& (((1 : Int64) <<< (x1.toInt64 &&& 63)) - 1))))) 17 x1.toNatClampNeg).toNatClampNeg ((gI (sI (sI M 43 y1.toNatClampNeg (y2 + y3)) 43 4 ((gI (sI M 43 y1.toNatClampNeg (y2 + y3)) 43 4) + (f_jd_bitCount_95d88 ((gJ (sI M 43 y1.toNatClampNeg (y2 + y3)) 42 x1.toNatClampNeg) &&& (((1 : Int64) <<< (x1.toInt64 &&& 63)) - 1))))) 44 (gI (sI (sI M 43 y1.toNatClampNeg (y2 + y3)) 43 4 ((gI (sI M 43 y1.toNatClampNeg (y2 + y3)) 43 4) + (f_jd_bitCount_95d88 ((gJ (sI M 43 y1.toNatClampNeg (y2 + y3)) 42 x1.toNatClampNeg) &&& (((1 : Int64) <<< (x1.toInt64 &&& 63)) - 1))))) 17 x1.toNatClampNeg).toNatClampNeg) + 1)) 43 5) (gI (sI (sI (sI M 43 y1.toNatClampNeg (y2 + y3)) 43 4 ((gI (sI M 43 y1.toNatClampNeg (y2 + y3)) 43 4) + (f_jd_bitCount_95d88 ((gJ (sI M 43 y1.toNatClampNeg (y2 + y3)) 42 x1.toNatClampNeg) &&& (((1 : Int64) <<< (x1.toInt64 &&& 63)) - 1))))) 44 (gI (sI (sI M 43 y1.toNatClampNeg (y2 + y3)) 43 4 ((gI (sI M 43 y1.toNatClampNeg (y2 + y3)) 43 4) + (f_jd_bitCount_95d88 ((gJ (sI M 43 y1.toNatClampNeg (y2 + y3)) 42 x1.toNatClampNeg) &&& (((1 : Int64) <<< (x1.toInt64 &&& 63)) - 1))))) 17 x1.toNatClampNeg).toNatClampNeg ((gI (sI (sI M 43 y1.toNatClampNeg (y2 + y3)) 43 4 ((gI (sI M 43 y1.toNatClampNeg (y2 + y3)) 43 4) + (f_jd_bitCount_95d88 ((gJ (sI M 43 y1.toNatClampNeg (y2 + y3)) 42 x1.toNatClampNeg) &&& (((1 : Int64) <<< (x1.toInt64 &&& 63)) - 1))))) 44 (gI (sI (sI M 43 y1.toNatClampNeg (y2 + y3)) 43 4 ((gI (sI M 43 y1.toNatClampNeg (y2 + y3)) 43 4) + (f_jd_bitCount_95d88 ((gJ (sI M 43 y1.toNatClampNeg (y2 + y3)) 42 x1.toNatClampNeg) &&& (((1 : Int64) <<< (x1.toInt64 &&& 63)) - 1))))) 17 x1.toNatClampNeg).toNatClampNeg) + 1)) 44 (gI (sI (sI M 43 y1.toNatClampNeg (y2 + y3)) 43 4 ((gI (sI M 43 y1.toNatClampNeg (y2 + y3)) 43 4) + (f_jd_bitCount_95d88 ((gJ (sI M 43 y1.toNatClampNeg (y2 + y3)) 42 x1.toNatClampNeg) &&& (((1 : Int64) <<< (x1.toInt64 &&& 63)) - 1))))) 17 x1.toNatClampNeg).toNatClampNeg)))
noncomputable def t_ju_addToDay_32 (x1 : Int32) (y1 : Int32) (y2 : Int32) (y3 : Int32) (M : dM) : Option dM :=
  gd (vp_in y1 8) <|
  gd (vp_in x1 40) <|
  if (gI (sI M 43 y1.toNatClampNeg (y2 + y3)) 41 x1.toNatClampNeg) = 1 then
    t_ju_addToDay_56 x1 3 (gI (sI M 43 y1.toNatClampNeg (y2 + y3)) 43 3) 1 (sI M 43 y1.toNatClampNeg (y2 + y3))
  else
    t_ju_addToDay_56 x1 3 (gI (sI M 43 y1.toNatClampNeg (y2 + y3)) 43 3) 0 (sI M 43 y1.toNatClampNeg (y2 + y3))
noncomputable def f_ju_addToDay (a1 : Int32) (M : dM) : Option dM :=
  gd (vp_in a1 40) <|
  if (gI (sI M 43 1 ((gI M 43 1) + 1)) 41 a1.toNatClampNeg) = 2 then
    t_ju_addToDay_32 a1 2 (gI (sI M 43 1 ((gI M 43 1) + 1)) 43 2) 1 (sI M 43 1 ((gI M 43 1) + 1))
  else
    t_ju_addToDay_32 a1 2 (gI (sI M 43 1 ((gI M 43 1) + 1)) 43 2) 0 (sI M 43 1 ((gI M 43 1) + 1))
theorem w_t_ju_addToDay_151 (y1 : Int32) (y2 : Int32) (y3 : Int32) (M : dM) {Q : mz_P} {o : dM} (hf : t_ju_addToDay_151 y1 y2 y3 M = some o) (hk : mR Q none o) : mW mX2_addToDay 2 Q 151 [none, none, none] [.ref 43, .int y1, .int y2, .int y3] M := by
  unfold t_ju_addToDay_151 at hf
  refine y_iadd (n := 152) ⟨dX2_addToDay_151, rfl⟩ ?_
  obtain ⟨hg8, hf⟩ := g_s hf
  refine y_iastore (n := 153) ⟨dX2_addToDay_152, rfl⟩ l_43 hg8 ?_
  cases hf
  exact y_return (n := 154) ⟨dX2_addToDay_153, rfl⟩ rfl hk
theorem w_t_ju_addToDay_56 (x1 : Int32) (y1 : Int32) (y2 : Int32) (y3 : Int32) (M : dM) {Q : mz_P} {o : dM} (hf : t_ju_addToDay_56 x1 y1 y2 y3 M = some o) (hk : mR Q none o) : mW mX2_addToDay 2 Q 56 [some (.ref 39), some (.int x1), none] [.ref 43, .int y1, .int y2, .int y3] M := by
  unfold t_ju_addToDay_56 at hf
  refine y_iadd (n := 57) ⟨dX2_addToDay_56, rfl⟩ ?_
  obtain ⟨hg4, hf⟩ := g_s hf
  refine y_iastore (n := 58) ⟨dX2_addToDay_57, rfl⟩ l_43 hg4 ?_
  refine y_aload_n (i := 0) (n := 59) ⟨dX2_addToDay_58, rfl⟩ rfl ?_
  refine y_getR (n := 62) ⟨dX2_addToDay_59, rfl⟩ kfX2_22 l_39 rfl r_39_7 ?_
  refine y_iconst (n := 63) (v := 4) ⟨dX2_addToDay_62, rfl⟩ ki_4 ?_
  refine y_dup2 (n := 64) ⟨dX2_addToDay_63, rfl⟩ ?_
  refine y_iaload (n := 65) ⟨dX2_addToDay_64, rfl⟩ l_43 (by unfold vp_in; decide) ?_
  refine y_aload_n (i := 0) (n := 66) ⟨dX2_addToDay_65, rfl⟩ rfl ?_
  refine y_getR (n := 69) ⟨dX2_addToDay_66, rfl⟩ kfX2_18 l_39 rfl r_39_6 ?_
  refine y_iload_n (i := 1) (n := 70) ⟨dX2_addToDay_69, rfl⟩ rfl ?_
  obtain ⟨hg5, hf⟩ := g_s hf
  refine y_laload (n := 71) ⟨dX2_addToDay_70, rfl⟩ l_42 hg5 ?_
  refine y_lconst (n := 72) (v := 1) ⟨dX2_addToDay_71, rfl⟩ kl_1 ?_
  refine y_iload_n (i := 1) (n := 73) ⟨dX2_addToDay_72, rfl⟩ rfl ?_
  refine y_lshl (n := 74) ⟨dX2_addToDay_73, rfl⟩ ?_
  refine y_lconst (n := 75) (v := 1) ⟨dX2_addToDay_74, rfl⟩ kl_1 ?_
  refine y_lsub (n := 76) ⟨dX2_addToDay_75, rfl⟩ ?_
  refine y_land (n := 77) ⟨dX2_addToDay_76, rfl⟩ ?_
  refine c_jd_bitCount_95d88 ((gJ (sI M 43 y1.toNatClampNeg (y2 + y3)) 42 x1.toNatClampNeg) &&& (((1 : Int64) <<< (x1.toInt64 &&& 63)) - 1)) (sI M 43 y1.toNatClampNeg (y2 + y3)) (n := 80) ⟨dX2_addToDay_77, rfl⟩ klX2_85 rfl (by decide) (Nat.le_of_ble_eq_true rfl) rfl rfl ?_
  refine y_iadd (n := 81) ⟨dX2_addToDay_80, rfl⟩ ?_
  refine y_iastore (n := 82) ⟨dX2_addToDay_81, rfl⟩ l_43 (by unfold vp_in; decide) ?_
  refine y_aload_n (i := 0) (n := 83) ⟨dX2_addToDay_82, rfl⟩ rfl ?_
  refine y_getR (n := 86) ⟨dX2_addToDay_83, rfl⟩ kfX2_40 l_39 rfl r_39_2 ?_
  refine y_getR (n := 89) ⟨dX2_addToDay_86, rfl⟩ kfX2_65 l_12 rfl r_12_4 ?_
  refine y_iload_n (i := 1) (n := 90) ⟨dX2_addToDay_89, rfl⟩ rfl ?_
  refine y_iaload (n := 91) ⟨dX2_addToDay_90, rfl⟩ l_17 hg5 ?_
  refine y_istore_n (i := 2) (n := 92) (L2 := [some (.ref 39), some (.int x1), some (.int (gI (sI (sI M 43 y1.toNatClampNeg (y2 + y3)) 43 4 ((gI (sI M 43 y1.toNatClampNeg (y2 + y3)) 43 4) + (f_jd_bitCount_95d88 ((gJ (sI M 43 y1.toNatClampNeg (y2 + y3)) 42 x1.toNatClampNeg) &&& (((1 : Int64) <<< (x1.toInt64 &&& 63)) - 1))))) 17 x1.toNatClampNeg))]) ⟨dX2_addToDay_91, rfl⟩ (by decide) rfl rfl ?_
  refine y_aload_n (i := 0) (n := 93) ⟨dX2_addToDay_92, rfl⟩ rfl ?_
  refine y_getR (n := 96) ⟨dX2_addToDay_93, rfl⟩ kfX2_25 l_39 rfl r_39_8 ?_
  refine y_iload_n (i := 2) (n := 97) ⟨dX2_addToDay_96, rfl⟩ rfl ?_
  refine y_dup2 (n := 98) ⟨dX2_addToDay_97, rfl⟩ ?_
  obtain ⟨hg6, hf⟩ := g_s hf
  refine y_iaload (n := 99) ⟨dX2_addToDay_98, rfl⟩ l_44 hg6 ?_
  refine y_iconst (n := 100) (v := 1) ⟨dX2_addToDay_99, rfl⟩ ki_1 ?_
  refine y_iadd (n := 101) ⟨dX2_addToDay_100, rfl⟩ ?_
  refine y_iastore (n := 102) ⟨dX2_addToDay_101, rfl⟩ l_44 hg6 ?_
  refine y_aload_n (i := 0) (n := 103) ⟨dX2_addToDay_102, rfl⟩ rfl ?_
  refine y_getR (n := 106) ⟨dX2_addToDay_103, rfl⟩ kfX2_22 l_39 rfl r_39_7 ?_
  refine y_iconst (n := 107) (v := 5) ⟨dX2_addToDay_106, rfl⟩ ki_5 ?_
  refine y_aload_n (i := 0) (n := 108) ⟨dX2_addToDay_107, rfl⟩ rfl ?_
  refine y_getR (n := 111) ⟨dX2_addToDay_108, rfl⟩ kfX2_22 l_39 rfl r_39_7 ?_
  refine y_iconst (n := 112) (v := 5) ⟨dX2_addToDay_111, rfl⟩ ki_5 ?_
  refine y_iaload (n := 113) ⟨dX2_addToDay_112, rfl⟩ l_43 (by unfold vp_in; decide) ?_
  refine y_aload_n (i := 0) (n := 114) ⟨dX2_addToDay_113, rfl⟩ rfl ?_
  refine y_getR (n := 117) ⟨dX2_addToDay_114, rfl⟩ kfX2_25 l_39 rfl r_39_8 ?_
  refine y_iload_n (i := 2) (n := 118) ⟨dX2_addToDay_117, rfl⟩ rfl ?_
  refine y_iaload (n := 119) ⟨dX2_addToDay_118, rfl⟩ l_44 hg6 ?_
  refine c_jd_max (gI (sI (sI (sI M 43 y1.toNatClampNeg (y2 + y3)) 43 4 ((gI (sI M 43 y1.toNatClampNeg (y2 + y3)) 43 4) + (f_jd_bitCount_95d88 ((gJ (sI M 43 y1.toNatClampNeg (y2 + y3)) 42 x1.toNatClampNeg) &&& (((1 : Int64) <<< (x1.toInt64 &&& 63)) - 1))))) 44 (gI (sI (sI M 43 y1.toNatClampNeg (y2 + y3)) 43 4 ((gI (sI M 43 y1.toNatClampNeg (y2 + y3)) 43 4) + (f_jd_bitCount_95d88 ((gJ (sI M 43 y1.toNatClampNeg (y2 + y3)) 42 x1.toNatClampNeg) &&& (((1 : Int64) <<< (x1.toInt64 &&& 63)) - 1))))) 17 x1.toNatClampNeg).toNatClampNeg ((gI (sI (sI M 43 y1.toNatClampNeg (y2 + y3)) 43 4 ((gI (sI M 43 y1.toNatClampNeg (y2 + y3)) 43 4) + (f_jd_bitCount_95d88 ((gJ (sI M 43 y1.toNatClampNeg (y2 + y3)) 42 x1.toNatClampNeg) &&& (((1 : Int64) <<< (x1.toInt64 &&& 63)) - 1))))) 44 (gI (sI (sI M 43 y1.toNatClampNeg (y2 + y3)) 43 4 ((gI (sI M 43 y1.toNatClampNeg (y2 + y3)) 43 4) + (f_jd_bitCount_95d88 ((gJ (sI M 43 y1.toNatClampNeg (y2 + y3)) 42 x1.toNatClampNeg) &&& (((1 : Int64) <<< (x1.toInt64 &&& 63)) - 1))))) 17 x1.toNatClampNeg).toNatClampNeg) + 1)) 43 5) (gI (sI (sI (sI M 43 y1.toNatClampNeg (y2 + y3)) 43 4 ((gI (sI M 43 y1.toNatClampNeg (y2 + y3)) 43 4) + (f_jd_bitCount_95d88 ((gJ (sI M 43 y1.toNatClampNeg (y2 + y3)) 42 x1.toNatClampNeg) &&& (((1 : Int64) <<< (x1.toInt64 &&& 63)) - 1))))) 44 (gI (sI (sI M 43 y1.toNatClampNeg (y2 + y3)) 43 4 ((gI (sI M 43 y1.toNatClampNeg (y2 + y3)) 43 4) + (f_jd_bitCount_95d88 ((gJ (sI M 43 y1.toNatClampNeg (y2 + y3)) 42 x1.toNatClampNeg) &&& (((1 : Int64) <<< (x1.toInt64 &&& 63)) - 1))))) 17 x1.toNatClampNeg).toNatClampNeg ((gI (sI (sI M 43 y1.toNatClampNeg (y2 + y3)) 43 4 ((gI (sI M 43 y1.toNatClampNeg (y2 + y3)) 43 4) + (f_jd_bitCount_95d88 ((gJ (sI M 43 y1.toNatClampNeg (y2 + y3)) 42 x1.toNatClampNeg) &&& (((1 : Int64) <<< (x1.toInt64 &&& 63)) - 1))))) 44 (gI (sI (sI M 43 y1.toNatClampNeg (y2 + y3)) 43 4 ((gI (sI M 43 y1.toNatClampNeg (y2 + y3)) 43 4) + (f_jd_bitCount_95d88 ((gJ (sI M 43 y1.toNatClampNeg (y2 + y3)) 42 x1.toNatClampNeg) &&& (((1 : Int64) <<< (x1.toInt64 &&& 63)) - 1))))) 17 x1.toNatClampNeg).toNatClampNeg) + 1)) 44 (gI (sI (sI M 43 y1.toNatClampNeg (y2 + y3)) 43 4 ((gI (sI M 43 y1.toNatClampNeg (y2 + y3)) 43 4) + (f_jd_bitCount_95d88 ((gJ (sI M 43 y1.toNatClampNeg (y2 + y3)) 42 x1.toNatClampNeg) &&& (((1 : Int64) <<< (x1.toInt64 &&& 63)) - 1))))) 17 x1.toNatClampNeg).toNatClampNeg) (sI (sI (sI M 43 y1.toNatClampNeg (y2 + y3)) 43 4 ((gI (sI M 43 y1.toNatClampNeg (y2 + y3)) 43 4) + (f_jd_bitCount_95d88 ((gJ (sI M 43 y1.toNatClampNeg (y2 + y3)) 42 x1.toNatClampNeg) &&& (((1 : Int64) <<< (x1.toInt64 &&& 63)) - 1))))) 44 (gI (sI (sI M 43 y1.toNatClampNeg (y2 + y3)) 43 4 ((gI (sI M 43 y1.toNatClampNeg (y2 + y3)) 43 4) + (f_jd_bitCount_95d88 ((gJ (sI M 43 y1.toNatClampNeg (y2 + y3)) 42 x1.toNatClampNeg) &&& (((1 : Int64) <<< (x1.toInt64 &&& 63)) - 1))))) 17 x1.toNatClampNeg).toNatClampNeg ((gI (sI (sI M 43 y1.toNatClampNeg (y2 + y3)) 43 4 ((gI (sI M 43 y1.toNatClampNeg (y2 + y3)) 43 4) + (f_jd_bitCount_95d88 ((gJ (sI M 43 y1.toNatClampNeg (y2 + y3)) 42 x1.toNatClampNeg) &&& (((1 : Int64) <<< (x1.toInt64 &&& 63)) - 1))))) 44 (gI (sI (sI M 43 y1.toNatClampNeg (y2 + y3)) 43 4 ((gI (sI M 43 y1.toNatClampNeg (y2 + y3)) 43 4) + (f_jd_bitCount_95d88 ((gJ (sI M 43 y1.toNatClampNeg (y2 + y3)) 42 x1.toNatClampNeg) &&& (((1 : Int64) <<< (x1.toInt64 &&& 63)) - 1))))) 17 x1.toNatClampNeg).toNatClampNeg) + 1)) (n := 122) ⟨dX2_addToDay_119, rfl⟩ klX2_130 rfl (by decide) (Nat.le_of_ble_eq_true rfl) rfl rfl ?_
  refine y_iastore (n := 123) ⟨dX2_addToDay_122, rfl⟩ l_43 (by unfold vp_in; decide) ?_
  refine y_aload_n (i := 0) (n := 124) ⟨dX2_addToDay_123, rfl⟩ rfl ?_
  refine y_getR (n := 127) ⟨dX2_addToDay_124, rfl⟩ kfX2_22 l_39 rfl r_39_7 ?_
  refine y_bipush (n := 129) (v := 6) ⟨dX2_addToDay_127, rfl⟩ kb_6 ?_
  refine y_dup2 (n := 130) ⟨dX2_addToDay_129, rfl⟩ ?_
  refine y_iaload (n := 131) ⟨dX2_addToDay_130, rfl⟩ l_43 (by unfold vp_in; decide) ?_
  refine y_aload_n (i := 0) (n := 132) ⟨dX2_addToDay_131, rfl⟩ rfl ?_
  refine y_getR (n := 135) ⟨dX2_addToDay_132, rfl⟩ kfX2_9 l_39 rfl r_39_4 ?_
  refine y_iload_n (i := 1) (n := 136) ⟨dX2_addToDay_135, rfl⟩ rfl ?_
  refine y_bipush (n := 138) (v := 17) ⟨dX2_addToDay_136, rfl⟩ kb_17 ?_
  refine y_imul (n := 139) ⟨dX2_addToDay_138, rfl⟩ ?_
  refine y_bipush (n := 141) (v := 14) ⟨dX2_addToDay_139, rfl⟩ kb_14 ?_
  refine y_iadd (n := 142) ⟨dX2_addToDay_141, rfl⟩ ?_
  obtain ⟨hg7, hf⟩ := g_s hf
  refine y_iaload (n := 143) ⟨dX2_addToDay_142, rfl⟩ l_40 hg7 ?_
  refine y_if_le (t := 150) (n := 146) ⟨dX2_addToDay_143, rfl, rfl⟩ (fun (hc : (gI (sI (sI (sI (sI M 43 y1.toNatClampNeg (y2 + y3)) 43 4 ((gI (sI M 43 y1.toNatClampNeg (y2 + y3)) 43 4) + (f_jd_bitCount_95d88 ((gJ (sI M 43 y1.toNatClampNeg (y2 + y3)) 42 x1.toNatClampNeg) &&& (((1 : Int64) <<< (x1.toInt64 &&& 63)) - 1))))) 44 (gI (sI (sI M 43 y1.toNatClampNeg (y2 + y3)) 43 4 ((gI (sI M 43 y1.toNatClampNeg (y2 + y3)) 43 4) + (f_jd_bitCount_95d88 ((gJ (sI M 43 y1.toNatClampNeg (y2 + y3)) 42 x1.toNatClampNeg) &&& (((1 : Int64) <<< (x1.toInt64 &&& 63)) - 1))))) 17 x1.toNatClampNeg).toNatClampNeg ((gI (sI (sI M 43 y1.toNatClampNeg (y2 + y3)) 43 4 ((gI (sI M 43 y1.toNatClampNeg (y2 + y3)) 43 4) + (f_jd_bitCount_95d88 ((gJ (sI M 43 y1.toNatClampNeg (y2 + y3)) 42 x1.toNatClampNeg) &&& (((1 : Int64) <<< (x1.toInt64 &&& 63)) - 1))))) 44 (gI (sI (sI M 43 y1.toNatClampNeg (y2 + y3)) 43 4 ((gI (sI M 43 y1.toNatClampNeg (y2 + y3)) 43 4) + (f_jd_bitCount_95d88 ((gJ (sI M 43 y1.toNatClampNeg (y2 + y3)) 42 x1.toNatClampNeg) &&& (((1 : Int64) <<< (x1.toInt64 &&& 63)) - 1))))) 17 x1.toNatClampNeg).toNatClampNeg) + 1)) 43 5 (f_jd_max (gI (sI (sI (sI M 43 y1.toNatClampNeg (y2 + y3)) 43 4 ((gI (sI M 43 y1.toNatClampNeg (y2 + y3)) 43 4) + (f_jd_bitCount_95d88 ((gJ (sI M 43 y1.toNatClampNeg (y2 + y3)) 42 x1.toNatClampNeg) &&& (((1 : Int64) <<< (x1.toInt64 &&& 63)) - 1))))) 44 (gI (sI (sI M 43 y1.toNatClampNeg (y2 + y3)) 43 4 ((gI (sI M 43 y1.toNatClampNeg (y2 + y3)) 43 4) + (f_jd_bitCount_95d88 ((gJ (sI M 43 y1.toNatClampNeg (y2 + y3)) 42 x1.toNatClampNeg) &&& (((1 : Int64) <<< (x1.toInt64 &&& 63)) - 1))))) 17 x1.toNatClampNeg).toNatClampNeg ((gI (sI (sI M 43 y1.toNatClampNeg (y2 + y3)) 43 4 ((gI (sI M 43 y1.toNatClampNeg (y2 + y3)) 43 4) + (f_jd_bitCount_95d88 ((gJ (sI M 43 y1.toNatClampNeg (y2 + y3)) 42 x1.toNatClampNeg) &&& (((1 : Int64) <<< (x1.toInt64 &&& 63)) - 1))))) 44 (gI (sI (sI M 43 y1.toNatClampNeg (y2 + y3)) 43 4 ((gI (sI M 43 y1.toNatClampNeg (y2 + y3)) 43 4) + (f_jd_bitCount_95d88 ((gJ (sI M 43 y1.toNatClampNeg (y2 + y3)) 42 x1.toNatClampNeg) &&& (((1 : Int64) <<< (x1.toInt64 &&& 63)) - 1))))) 17 x1.toNatClampNeg).toNatClampNeg) + 1)) 43 5) (gI (sI (sI (sI M 43 y1.toNatClampNeg (y2 + y3)) 43 4 ((gI (sI M 43 y1.toNatClampNeg (y2 + y3)) 43 4) + (f_jd_bitCount_95d88 ((gJ (sI M 43 y1.toNatClampNeg (y2 + y3)) 42 x1.toNatClampNeg) &&& (((1 : Int64) <<< (x1.toInt64 &&& 63)) - 1))))) 44 (gI (sI (sI M 43 y1.toNatClampNeg (y2 + y3)) 43 4 ((gI (sI M 43 y1.toNatClampNeg (y2 + y3)) 43 4) + (f_jd_bitCount_95d88 ((gJ (sI M 43 y1.toNatClampNeg (y2 + y3)) 42 x1.toNatClampNeg) &&& (((1 : Int64) <<< (x1.toInt64 &&& 63)) - 1))))) 17 x1.toNatClampNeg).toNatClampNeg ((gI (sI (sI M 43 y1.toNatClampNeg (y2 + y3)) 43 4 ((gI (sI M 43 y1.toNatClampNeg (y2 + y3)) 43 4) + (f_jd_bitCount_95d88 ((gJ (sI M 43 y1.toNatClampNeg (y2 + y3)) 42 x1.toNatClampNeg) &&& (((1 : Int64) <<< (x1.toInt64 &&& 63)) - 1))))) 44 (gI (sI (sI M 43 y1.toNatClampNeg (y2 + y3)) 43 4 ((gI (sI M 43 y1.toNatClampNeg (y2 + y3)) 43 4) + (f_jd_bitCount_95d88 ((gJ (sI M 43 y1.toNatClampNeg (y2 + y3)) 42 x1.toNatClampNeg) &&& (((1 : Int64) <<< (x1.toInt64 &&& 63)) - 1))))) 17 x1.toNatClampNeg).toNatClampNeg) + 1)) 44 (gI (sI (sI M 43 y1.toNatClampNeg (y2 + y3)) 43 4 ((gI (sI M 43 y1.toNatClampNeg (y2 + y3)) 43 4) + (f_jd_bitCount_95d88 ((gJ (sI M 43 y1.toNatClampNeg (y2 + y3)) 42 x1.toNatClampNeg) &&& (((1 : Int64) <<< (x1.toInt64 &&& 63)) - 1))))) 17 x1.toNatClampNeg).toNatClampNeg))) 40 ((x1 * 17) + 14).toNatClampNeg) ≤ 0) => ?_) (fun (hc : ¬ ((gI (sI (sI (sI (sI M 43 y1.toNatClampNeg (y2 + y3)) 43 4 ((gI (sI M 43 y1.toNatClampNeg (y2 + y3)) 43 4) + (f_jd_bitCount_95d88 ((gJ (sI M 43 y1.toNatClampNeg (y2 + y3)) 42 x1.toNatClampNeg) &&& (((1 : Int64) <<< (x1.toInt64 &&& 63)) - 1))))) 44 (gI (sI (sI M 43 y1.toNatClampNeg (y2 + y3)) 43 4 ((gI (sI M 43 y1.toNatClampNeg (y2 + y3)) 43 4) + (f_jd_bitCount_95d88 ((gJ (sI M 43 y1.toNatClampNeg (y2 + y3)) 42 x1.toNatClampNeg) &&& (((1 : Int64) <<< (x1.toInt64 &&& 63)) - 1))))) 17 x1.toNatClampNeg).toNatClampNeg ((gI (sI (sI M 43 y1.toNatClampNeg (y2 + y3)) 43 4 ((gI (sI M 43 y1.toNatClampNeg (y2 + y3)) 43 4) + (f_jd_bitCount_95d88 ((gJ (sI M 43 y1.toNatClampNeg (y2 + y3)) 42 x1.toNatClampNeg) &&& (((1 : Int64) <<< (x1.toInt64 &&& 63)) - 1))))) 44 (gI (sI (sI M 43 y1.toNatClampNeg (y2 + y3)) 43 4 ((gI (sI M 43 y1.toNatClampNeg (y2 + y3)) 43 4) + (f_jd_bitCount_95d88 ((gJ (sI M 43 y1.toNatClampNeg (y2 + y3)) 42 x1.toNatClampNeg) &&& (((1 : Int64) <<< (x1.toInt64 &&& 63)) - 1))))) 17 x1.toNatClampNeg).toNatClampNeg) + 1)) 43 5 (f_jd_max (gI (sI (sI (sI M 43 y1.toNatClampNeg (y2 + y3)) 43 4 ((gI (sI M 43 y1.toNatClampNeg (y2 + y3)) 43 4) + (f_jd_bitCount_95d88 ((gJ (sI M 43 y1.toNatClampNeg (y2 + y3)) 42 x1.toNatClampNeg) &&& (((1 : Int64) <<< (x1.toInt64 &&& 63)) - 1))))) 44 (gI (sI (sI M 43 y1.toNatClampNeg (y2 + y3)) 43 4 ((gI (sI M 43 y1.toNatClampNeg (y2 + y3)) 43 4) + (f_jd_bitCount_95d88 ((gJ (sI M 43 y1.toNatClampNeg (y2 + y3)) 42 x1.toNatClampNeg) &&& (((1 : Int64) <<< (x1.toInt64 &&& 63)) - 1))))) 17 x1.toNatClampNeg).toNatClampNeg ((gI (sI (sI M 43 y1.toNatClampNeg (y2 + y3)) 43 4 ((gI (sI M 43 y1.toNatClampNeg (y2 + y3)) 43 4) + (f_jd_bitCount_95d88 ((gJ (sI M 43 y1.toNatClampNeg (y2 + y3)) 42 x1.toNatClampNeg) &&& (((1 : Int64) <<< (x1.toInt64 &&& 63)) - 1))))) 44 (gI (sI (sI M 43 y1.toNatClampNeg (y2 + y3)) 43 4 ((gI (sI M 43 y1.toNatClampNeg (y2 + y3)) 43 4) + (f_jd_bitCount_95d88 ((gJ (sI M 43 y1.toNatClampNeg (y2 + y3)) 42 x1.toNatClampNeg) &&& (((1 : Int64) <<< (x1.toInt64 &&& 63)) - 1))))) 17 x1.toNatClampNeg).toNatClampNeg) + 1)) 43 5) (gI (sI (sI (sI M 43 y1.toNatClampNeg (y2 + y3)) 43 4 ((gI (sI M 43 y1.toNatClampNeg (y2 + y3)) 43 4) + (f_jd_bitCount_95d88 ((gJ (sI M 43 y1.toNatClampNeg (y2 + y3)) 42 x1.toNatClampNeg) &&& (((1 : Int64) <<< (x1.toInt64 &&& 63)) - 1))))) 44 (gI (sI (sI M 43 y1.toNatClampNeg (y2 + y3)) 43 4 ((gI (sI M 43 y1.toNatClampNeg (y2 + y3)) 43 4) + (f_jd_bitCount_95d88 ((gJ (sI M 43 y1.toNatClampNeg (y2 + y3)) 42 x1.toNatClampNeg) &&& (((1 : Int64) <<< (x1.toInt64 &&& 63)) - 1))))) 17 x1.toNatClampNeg).toNatClampNeg ((gI (sI (sI M 43 y1.toNatClampNeg (y2 + y3)) 43 4 ((gI (sI M 43 y1.toNatClampNeg (y2 + y3)) 43 4) + (f_jd_bitCount_95d88 ((gJ (sI M 43 y1.toNatClampNeg (y2 + y3)) 42 x1.toNatClampNeg) &&& (((1 : Int64) <<< (x1.toInt64 &&& 63)) - 1))))) 44 (gI (sI (sI M 43 y1.toNatClampNeg (y2 + y3)) 43 4 ((gI (sI M 43 y1.toNatClampNeg (y2 + y3)) 43 4) + (f_jd_bitCount_95d88 ((gJ (sI M 43 y1.toNatClampNeg (y2 + y3)) 42 x1.toNatClampNeg) &&& (((1 : Int64) <<< (x1.toInt64 &&& 63)) - 1))))) 17 x1.toNatClampNeg).toNatClampNeg) + 1)) 44 (gI (sI (sI M 43 y1.toNatClampNeg (y2 + y3)) 43 4 ((gI (sI M 43 y1.toNatClampNeg (y2 + y3)) 43 4) + (f_jd_bitCount_95d88 ((gJ (sI M 43 y1.toNatClampNeg (y2 + y3)) 42 x1.toNatClampNeg) &&& (((1 : Int64) <<< (x1.toInt64 &&& 63)) - 1))))) 17 x1.toNatClampNeg).toNatClampNeg))) 40 ((x1 * 17) + 14).toNatClampNeg) ≤ 0)) => ?_)
  · replace hf := i_t hc hf
    refine y_iconst (n := 151) (v := 0) ⟨dX2_addToDay_150, rfl⟩ ki_0 ?_
    exact y_wk ⟨Or.inl rfl, Or.inl rfl, Or.inl rfl, trivial⟩ (w_t_ju_addToDay_151 6 (gI (sI (sI (sI (sI M 43 y1.toNatClampNeg (y2 + y3)) 43 4 ((gI (sI M 43 y1.toNatClampNeg (y2 + y3)) 43 4) + (f_jd_bitCount_95d88 ((gJ (sI M 43 y1.toNatClampNeg (y2 + y3)) 42 x1.toNatClampNeg) &&& (((1 : Int64) <<< (x1.toInt64 &&& 63)) - 1))))) 44 (gI (sI (sI M 43 y1.toNatClampNeg (y2 + y3)) 43 4 ((gI (sI M 43 y1.toNatClampNeg (y2 + y3)) 43 4) + (f_jd_bitCount_95d88 ((gJ (sI M 43 y1.toNatClampNeg (y2 + y3)) 42 x1.toNatClampNeg) &&& (((1 : Int64) <<< (x1.toInt64 &&& 63)) - 1))))) 17 x1.toNatClampNeg).toNatClampNeg ((gI (sI (sI M 43 y1.toNatClampNeg (y2 + y3)) 43 4 ((gI (sI M 43 y1.toNatClampNeg (y2 + y3)) 43 4) + (f_jd_bitCount_95d88 ((gJ (sI M 43 y1.toNatClampNeg (y2 + y3)) 42 x1.toNatClampNeg) &&& (((1 : Int64) <<< (x1.toInt64 &&& 63)) - 1))))) 44 (gI (sI (sI M 43 y1.toNatClampNeg (y2 + y3)) 43 4 ((gI (sI M 43 y1.toNatClampNeg (y2 + y3)) 43 4) + (f_jd_bitCount_95d88 ((gJ (sI M 43 y1.toNatClampNeg (y2 + y3)) 42 x1.toNatClampNeg) &&& (((1 : Int64) <<< (x1.toInt64 &&& 63)) - 1))))) 17 x1.toNatClampNeg).toNatClampNeg) + 1)) 43 5 (f_jd_max (gI (sI (sI (sI M 43 y1.toNatClampNeg (y2 + y3)) 43 4 ((gI (sI M 43 y1.toNatClampNeg (y2 + y3)) 43 4) + (f_jd_bitCount_95d88 ((gJ (sI M 43 y1.toNatClampNeg (y2 + y3)) 42 x1.toNatClampNeg) &&& (((1 : Int64) <<< (x1.toInt64 &&& 63)) - 1))))) 44 (gI (sI (sI M 43 y1.toNatClampNeg (y2 + y3)) 43 4 ((gI (sI M 43 y1.toNatClampNeg (y2 + y3)) 43 4) + (f_jd_bitCount_95d88 ((gJ (sI M 43 y1.toNatClampNeg (y2 + y3)) 42 x1.toNatClampNeg) &&& (((1 : Int64) <<< (x1.toInt64 &&& 63)) - 1))))) 17 x1.toNatClampNeg).toNatClampNeg ((gI (sI (sI M 43 y1.toNatClampNeg (y2 + y3)) 43 4 ((gI (sI M 43 y1.toNatClampNeg (y2 + y3)) 43 4) + (f_jd_bitCount_95d88 ((gJ (sI M 43 y1.toNatClampNeg (y2 + y3)) 42 x1.toNatClampNeg) &&& (((1 : Int64) <<< (x1.toInt64 &&& 63)) - 1))))) 44 (gI (sI (sI M 43 y1.toNatClampNeg (y2 + y3)) 43 4 ((gI (sI M 43 y1.toNatClampNeg (y2 + y3)) 43 4) + (f_jd_bitCount_95d88 ((gJ (sI M 43 y1.toNatClampNeg (y2 + y3)) 42 x1.toNatClampNeg) &&& (((1 : Int64) <<< (x1.toInt64 &&& 63)) - 1))))) 17 x1.toNatClampNeg).toNatClampNeg) + 1)) 43 5) (gI (sI (sI (sI M 43 y1.toNatClampNeg (y2 + y3)) 43 4 ((gI (sI M 43 y1.toNatClampNeg (y2 + y3)) 43 4) + (f_jd_bitCount_95d88 ((gJ (sI M 43 y1.toNatClampNeg (y2 + y3)) 42 x1.toNatClampNeg) &&& (((1 : Int64) <<< (x1.toInt64 &&& 63)) - 1))))) 44 (gI (sI (sI M 43 y1.toNatClampNeg (y2 + y3)) 43 4 ((gI (sI M 43 y1.toNatClampNeg (y2 + y3)) 43 4) + (f_jd_bitCount_95d88 ((gJ (sI M 43 y1.toNatClampNeg (y2 + y3)) 42 x1.toNatClampNeg) &&& (((1 : Int64) <<< (x1.toInt64 &&& 63)) - 1))))) 17 x1.toNatClampNeg).toNatClampNeg ((gI (sI (sI M 43 y1.toNatClampNeg (y2 + y3)) 43 4 ((gI (sI M 43 y1.toNatClampNeg (y2 + y3)) 43 4) + (f_jd_bitCount_95d88 ((gJ (sI M 43 y1.toNatClampNeg (y2 + y3)) 42 x1.toNatClampNeg) &&& (((1 : Int64) <<< (x1.toInt64 &&& 63)) - 1))))) 44 (gI (sI (sI M 43 y1.toNatClampNeg (y2 + y3)) 43 4 ((gI (sI M 43 y1.toNatClampNeg (y2 + y3)) 43 4) + (f_jd_bitCount_95d88 ((gJ (sI M 43 y1.toNatClampNeg (y2 + y3)) 42 x1.toNatClampNeg) &&& (((1 : Int64) <<< (x1.toInt64 &&& 63)) - 1))))) 17 x1.toNatClampNeg).toNatClampNeg) + 1)) 44 (gI (sI (sI M 43 y1.toNatClampNeg (y2 + y3)) 43 4 ((gI (sI M 43 y1.toNatClampNeg (y2 + y3)) 43 4) + (f_jd_bitCount_95d88 ((gJ (sI M 43 y1.toNatClampNeg (y2 + y3)) 42 x1.toNatClampNeg) &&& (((1 : Int64) <<< (x1.toInt64 &&& 63)) - 1))))) 17 x1.toNatClampNeg).toNatClampNeg))) 43 6) 0 (sI (sI (sI (sI M 43 y1.toNatClampNeg (y2 + y3)) 43 4 ((gI (sI M 43 y1.toNatClampNeg (y2 + y3)) 43 4) + (f_jd_bitCount_95d88 ((gJ (sI M 43 y1.toNatClampNeg (y2 + y3)) 42 x1.toNatClampNeg) &&& (((1 : Int64) <<< (x1.toInt64 &&& 63)) - 1))))) 44 (gI (sI (sI M 43 y1.toNatClampNeg (y2 + y3)) 43 4 ((gI (sI M 43 y1.toNatClampNeg (y2 + y3)) 43 4) + (f_jd_bitCount_95d88 ((gJ (sI M 43 y1.toNatClampNeg (y2 + y3)) 42 x1.toNatClampNeg) &&& (((1 : Int64) <<< (x1.toInt64 &&& 63)) - 1))))) 17 x1.toNatClampNeg).toNatClampNeg ((gI (sI (sI M 43 y1.toNatClampNeg (y2 + y3)) 43 4 ((gI (sI M 43 y1.toNatClampNeg (y2 + y3)) 43 4) + (f_jd_bitCount_95d88 ((gJ (sI M 43 y1.toNatClampNeg (y2 + y3)) 42 x1.toNatClampNeg) &&& (((1 : Int64) <<< (x1.toInt64 &&& 63)) - 1))))) 44 (gI (sI (sI M 43 y1.toNatClampNeg (y2 + y3)) 43 4 ((gI (sI M 43 y1.toNatClampNeg (y2 + y3)) 43 4) + (f_jd_bitCount_95d88 ((gJ (sI M 43 y1.toNatClampNeg (y2 + y3)) 42 x1.toNatClampNeg) &&& (((1 : Int64) <<< (x1.toInt64 &&& 63)) - 1))))) 17 x1.toNatClampNeg).toNatClampNeg) + 1)) 43 5 (f_jd_max (gI (sI (sI (sI M 43 y1.toNatClampNeg (y2 + y3)) 43 4 ((gI (sI M 43 y1.toNatClampNeg (y2 + y3)) 43 4) + (f_jd_bitCount_95d88 ((gJ (sI M 43 y1.toNatClampNeg (y2 + y3)) 42 x1.toNatClampNeg) &&& (((1 : Int64) <<< (x1.toInt64 &&& 63)) - 1))))) 44 (gI (sI (sI M 43 y1.toNatClampNeg (y2 + y3)) 43 4 ((gI (sI M 43 y1.toNatClampNeg (y2 + y3)) 43 4) + (f_jd_bitCount_95d88 ((gJ (sI M 43 y1.toNatClampNeg (y2 + y3)) 42 x1.toNatClampNeg) &&& (((1 : Int64) <<< (x1.toInt64 &&& 63)) - 1))))) 17 x1.toNatClampNeg).toNatClampNeg ((gI (sI (sI M 43 y1.toNatClampNeg (y2 + y3)) 43 4 ((gI (sI M 43 y1.toNatClampNeg (y2 + y3)) 43 4) + (f_jd_bitCount_95d88 ((gJ (sI M 43 y1.toNatClampNeg (y2 + y3)) 42 x1.toNatClampNeg) &&& (((1 : Int64) <<< (x1.toInt64 &&& 63)) - 1))))) 44 (gI (sI (sI M 43 y1.toNatClampNeg (y2 + y3)) 43 4 ((gI (sI M 43 y1.toNatClampNeg (y2 + y3)) 43 4) + (f_jd_bitCount_95d88 ((gJ (sI M 43 y1.toNatClampNeg (y2 + y3)) 42 x1.toNatClampNeg) &&& (((1 : Int64) <<< (x1.toInt64 &&& 63)) - 1))))) 17 x1.toNatClampNeg).toNatClampNeg) + 1)) 43 5) (gI (sI (sI (sI M 43 y1.toNatClampNeg (y2 + y3)) 43 4 ((gI (sI M 43 y1.toNatClampNeg (y2 + y3)) 43 4) + (f_jd_bitCount_95d88 ((gJ (sI M 43 y1.toNatClampNeg (y2 + y3)) 42 x1.toNatClampNeg) &&& (((1 : Int64) <<< (x1.toInt64 &&& 63)) - 1))))) 44 (gI (sI (sI M 43 y1.toNatClampNeg (y2 + y3)) 43 4 ((gI (sI M 43 y1.toNatClampNeg (y2 + y3)) 43 4) + (f_jd_bitCount_95d88 ((gJ (sI M 43 y1.toNatClampNeg (y2 + y3)) 42 x1.toNatClampNeg) &&& (((1 : Int64) <<< (x1.toInt64 &&& 63)) - 1))))) 17 x1.toNatClampNeg).toNatClampNeg ((gI (sI (sI M 43 y1.toNatClampNeg (y2 + y3)) 43 4 ((gI (sI M 43 y1.toNatClampNeg (y2 + y3)) 43 4) + (f_jd_bitCount_95d88 ((gJ (sI M 43 y1.toNatClampNeg (y2 + y3)) 42 x1.toNatClampNeg) &&& (((1 : Int64) <<< (x1.toInt64 &&& 63)) - 1))))) 44 (gI (sI (sI M 43 y1.toNatClampNeg (y2 + y3)) 43 4 ((gI (sI M 43 y1.toNatClampNeg (y2 + y3)) 43 4) + (f_jd_bitCount_95d88 ((gJ (sI M 43 y1.toNatClampNeg (y2 + y3)) 42 x1.toNatClampNeg) &&& (((1 : Int64) <<< (x1.toInt64 &&& 63)) - 1))))) 17 x1.toNatClampNeg).toNatClampNeg) + 1)) 44 (gI (sI (sI M 43 y1.toNatClampNeg (y2 + y3)) 43 4 ((gI (sI M 43 y1.toNatClampNeg (y2 + y3)) 43 4) + (f_jd_bitCount_95d88 ((gJ (sI M 43 y1.toNatClampNeg (y2 + y3)) 42 x1.toNatClampNeg) &&& (((1 : Int64) <<< (x1.toInt64 &&& 63)) - 1))))) 17 x1.toNatClampNeg).toNatClampNeg))) hf hk)
  · replace hf := i_f hc hf
    refine y_iconst (n := 147) (v := 1) ⟨dX2_addToDay_146, rfl⟩ ki_1 ?_
    refine y_goto (t := 151) ⟨dX2_addToDay_147, rfl, rfl⟩ ?_
    exact y_wk ⟨Or.inl rfl, Or.inl rfl, Or.inl rfl, trivial⟩ (w_t_ju_addToDay_151 6 (gI (sI (sI (sI (sI M 43 y1.toNatClampNeg (y2 + y3)) 43 4 ((gI (sI M 43 y1.toNatClampNeg (y2 + y3)) 43 4) + (f_jd_bitCount_95d88 ((gJ (sI M 43 y1.toNatClampNeg (y2 + y3)) 42 x1.toNatClampNeg) &&& (((1 : Int64) <<< (x1.toInt64 &&& 63)) - 1))))) 44 (gI (sI (sI M 43 y1.toNatClampNeg (y2 + y3)) 43 4 ((gI (sI M 43 y1.toNatClampNeg (y2 + y3)) 43 4) + (f_jd_bitCount_95d88 ((gJ (sI M 43 y1.toNatClampNeg (y2 + y3)) 42 x1.toNatClampNeg) &&& (((1 : Int64) <<< (x1.toInt64 &&& 63)) - 1))))) 17 x1.toNatClampNeg).toNatClampNeg ((gI (sI (sI M 43 y1.toNatClampNeg (y2 + y3)) 43 4 ((gI (sI M 43 y1.toNatClampNeg (y2 + y3)) 43 4) + (f_jd_bitCount_95d88 ((gJ (sI M 43 y1.toNatClampNeg (y2 + y3)) 42 x1.toNatClampNeg) &&& (((1 : Int64) <<< (x1.toInt64 &&& 63)) - 1))))) 44 (gI (sI (sI M 43 y1.toNatClampNeg (y2 + y3)) 43 4 ((gI (sI M 43 y1.toNatClampNeg (y2 + y3)) 43 4) + (f_jd_bitCount_95d88 ((gJ (sI M 43 y1.toNatClampNeg (y2 + y3)) 42 x1.toNatClampNeg) &&& (((1 : Int64) <<< (x1.toInt64 &&& 63)) - 1))))) 17 x1.toNatClampNeg).toNatClampNeg) + 1)) 43 5 (f_jd_max (gI (sI (sI (sI M 43 y1.toNatClampNeg (y2 + y3)) 43 4 ((gI (sI M 43 y1.toNatClampNeg (y2 + y3)) 43 4) + (f_jd_bitCount_95d88 ((gJ (sI M 43 y1.toNatClampNeg (y2 + y3)) 42 x1.toNatClampNeg) &&& (((1 : Int64) <<< (x1.toInt64 &&& 63)) - 1))))) 44 (gI (sI (sI M 43 y1.toNatClampNeg (y2 + y3)) 43 4 ((gI (sI M 43 y1.toNatClampNeg (y2 + y3)) 43 4) + (f_jd_bitCount_95d88 ((gJ (sI M 43 y1.toNatClampNeg (y2 + y3)) 42 x1.toNatClampNeg) &&& (((1 : Int64) <<< (x1.toInt64 &&& 63)) - 1))))) 17 x1.toNatClampNeg).toNatClampNeg ((gI (sI (sI M 43 y1.toNatClampNeg (y2 + y3)) 43 4 ((gI (sI M 43 y1.toNatClampNeg (y2 + y3)) 43 4) + (f_jd_bitCount_95d88 ((gJ (sI M 43 y1.toNatClampNeg (y2 + y3)) 42 x1.toNatClampNeg) &&& (((1 : Int64) <<< (x1.toInt64 &&& 63)) - 1))))) 44 (gI (sI (sI M 43 y1.toNatClampNeg (y2 + y3)) 43 4 ((gI (sI M 43 y1.toNatClampNeg (y2 + y3)) 43 4) + (f_jd_bitCount_95d88 ((gJ (sI M 43 y1.toNatClampNeg (y2 + y3)) 42 x1.toNatClampNeg) &&& (((1 : Int64) <<< (x1.toInt64 &&& 63)) - 1))))) 17 x1.toNatClampNeg).toNatClampNeg) + 1)) 43 5) (gI (sI (sI (sI M 43 y1.toNatClampNeg (y2 + y3)) 43 4 ((gI (sI M 43 y1.toNatClampNeg (y2 + y3)) 43 4) + (f_jd_bitCount_95d88 ((gJ (sI M 43 y1.toNatClampNeg (y2 + y3)) 42 x1.toNatClampNeg) &&& (((1 : Int64) <<< (x1.toInt64 &&& 63)) - 1))))) 44 (gI (sI (sI M 43 y1.toNatClampNeg (y2 + y3)) 43 4 ((gI (sI M 43 y1.toNatClampNeg (y2 + y3)) 43 4) + (f_jd_bitCount_95d88 ((gJ (sI M 43 y1.toNatClampNeg (y2 + y3)) 42 x1.toNatClampNeg) &&& (((1 : Int64) <<< (x1.toInt64 &&& 63)) - 1))))) 17 x1.toNatClampNeg).toNatClampNeg ((gI (sI (sI M 43 y1.toNatClampNeg (y2 + y3)) 43 4 ((gI (sI M 43 y1.toNatClampNeg (y2 + y3)) 43 4) + (f_jd_bitCount_95d88 ((gJ (sI M 43 y1.toNatClampNeg (y2 + y3)) 42 x1.toNatClampNeg) &&& (((1 : Int64) <<< (x1.toInt64 &&& 63)) - 1))))) 44 (gI (sI (sI M 43 y1.toNatClampNeg (y2 + y3)) 43 4 ((gI (sI M 43 y1.toNatClampNeg (y2 + y3)) 43 4) + (f_jd_bitCount_95d88 ((gJ (sI M 43 y1.toNatClampNeg (y2 + y3)) 42 x1.toNatClampNeg) &&& (((1 : Int64) <<< (x1.toInt64 &&& 63)) - 1))))) 17 x1.toNatClampNeg).toNatClampNeg) + 1)) 44 (gI (sI (sI M 43 y1.toNatClampNeg (y2 + y3)) 43 4 ((gI (sI M 43 y1.toNatClampNeg (y2 + y3)) 43 4) + (f_jd_bitCount_95d88 ((gJ (sI M 43 y1.toNatClampNeg (y2 + y3)) 42 x1.toNatClampNeg) &&& (((1 : Int64) <<< (x1.toInt64 &&& 63)) - 1))))) 17 x1.toNatClampNeg).toNatClampNeg))) 43 6) 1 (sI (sI (sI (sI M 43 y1.toNatClampNeg (y2 + y3)) 43 4 ((gI (sI M 43 y1.toNatClampNeg (y2 + y3)) 43 4) + (f_jd_bitCount_95d88 ((gJ (sI M 43 y1.toNatClampNeg (y2 + y3)) 42 x1.toNatClampNeg) &&& (((1 : Int64) <<< (x1.toInt64 &&& 63)) - 1))))) 44 (gI (sI (sI M 43 y1.toNatClampNeg (y2 + y3)) 43 4 ((gI (sI M 43 y1.toNatClampNeg (y2 + y3)) 43 4) + (f_jd_bitCount_95d88 ((gJ (sI M 43 y1.toNatClampNeg (y2 + y3)) 42 x1.toNatClampNeg) &&& (((1 : Int64) <<< (x1.toInt64 &&& 63)) - 1))))) 17 x1.toNatClampNeg).toNatClampNeg ((gI (sI (sI M 43 y1.toNatClampNeg (y2 + y3)) 43 4 ((gI (sI M 43 y1.toNatClampNeg (y2 + y3)) 43 4) + (f_jd_bitCount_95d88 ((gJ (sI M 43 y1.toNatClampNeg (y2 + y3)) 42 x1.toNatClampNeg) &&& (((1 : Int64) <<< (x1.toInt64 &&& 63)) - 1))))) 44 (gI (sI (sI M 43 y1.toNatClampNeg (y2 + y3)) 43 4 ((gI (sI M 43 y1.toNatClampNeg (y2 + y3)) 43 4) + (f_jd_bitCount_95d88 ((gJ (sI M 43 y1.toNatClampNeg (y2 + y3)) 42 x1.toNatClampNeg) &&& (((1 : Int64) <<< (x1.toInt64 &&& 63)) - 1))))) 17 x1.toNatClampNeg).toNatClampNeg) + 1)) 43 5 (f_jd_max (gI (sI (sI (sI M 43 y1.toNatClampNeg (y2 + y3)) 43 4 ((gI (sI M 43 y1.toNatClampNeg (y2 + y3)) 43 4) + (f_jd_bitCount_95d88 ((gJ (sI M 43 y1.toNatClampNeg (y2 + y3)) 42 x1.toNatClampNeg) &&& (((1 : Int64) <<< (x1.toInt64 &&& 63)) - 1))))) 44 (gI (sI (sI M 43 y1.toNatClampNeg (y2 + y3)) 43 4 ((gI (sI M 43 y1.toNatClampNeg (y2 + y3)) 43 4) + (f_jd_bitCount_95d88 ((gJ (sI M 43 y1.toNatClampNeg (y2 + y3)) 42 x1.toNatClampNeg) &&& (((1 : Int64) <<< (x1.toInt64 &&& 63)) - 1))))) 17 x1.toNatClampNeg).toNatClampNeg ((gI (sI (sI M 43 y1.toNatClampNeg (y2 + y3)) 43 4 ((gI (sI M 43 y1.toNatClampNeg (y2 + y3)) 43 4) + (f_jd_bitCount_95d88 ((gJ (sI M 43 y1.toNatClampNeg (y2 + y3)) 42 x1.toNatClampNeg) &&& (((1 : Int64) <<< (x1.toInt64 &&& 63)) - 1))))) 44 (gI (sI (sI M 43 y1.toNatClampNeg (y2 + y3)) 43 4 ((gI (sI M 43 y1.toNatClampNeg (y2 + y3)) 43 4) + (f_jd_bitCount_95d88 ((gJ (sI M 43 y1.toNatClampNeg (y2 + y3)) 42 x1.toNatClampNeg) &&& (((1 : Int64) <<< (x1.toInt64 &&& 63)) - 1))))) 17 x1.toNatClampNeg).toNatClampNeg) + 1)) 43 5) (gI (sI (sI (sI M 43 y1.toNatClampNeg (y2 + y3)) 43 4 ((gI (sI M 43 y1.toNatClampNeg (y2 + y3)) 43 4) + (f_jd_bitCount_95d88 ((gJ (sI M 43 y1.toNatClampNeg (y2 + y3)) 42 x1.toNatClampNeg) &&& (((1 : Int64) <<< (x1.toInt64 &&& 63)) - 1))))) 44 (gI (sI (sI M 43 y1.toNatClampNeg (y2 + y3)) 43 4 ((gI (sI M 43 y1.toNatClampNeg (y2 + y3)) 43 4) + (f_jd_bitCount_95d88 ((gJ (sI M 43 y1.toNatClampNeg (y2 + y3)) 42 x1.toNatClampNeg) &&& (((1 : Int64) <<< (x1.toInt64 &&& 63)) - 1))))) 17 x1.toNatClampNeg).toNatClampNeg ((gI (sI (sI M 43 y1.toNatClampNeg (y2 + y3)) 43 4 ((gI (sI M 43 y1.toNatClampNeg (y2 + y3)) 43 4) + (f_jd_bitCount_95d88 ((gJ (sI M 43 y1.toNatClampNeg (y2 + y3)) 42 x1.toNatClampNeg) &&& (((1 : Int64) <<< (x1.toInt64 &&& 63)) - 1))))) 44 (gI (sI (sI M 43 y1.toNatClampNeg (y2 + y3)) 43 4 ((gI (sI M 43 y1.toNatClampNeg (y2 + y3)) 43 4) + (f_jd_bitCount_95d88 ((gJ (sI M 43 y1.toNatClampNeg (y2 + y3)) 42 x1.toNatClampNeg) &&& (((1 : Int64) <<< (x1.toInt64 &&& 63)) - 1))))) 17 x1.toNatClampNeg).toNatClampNeg) + 1)) 44 (gI (sI (sI M 43 y1.toNatClampNeg (y2 + y3)) 43 4 ((gI (sI M 43 y1.toNatClampNeg (y2 + y3)) 43 4) + (f_jd_bitCount_95d88 ((gJ (sI M 43 y1.toNatClampNeg (y2 + y3)) 42 x1.toNatClampNeg) &&& (((1 : Int64) <<< (x1.toInt64 &&& 63)) - 1))))) 17 x1.toNatClampNeg).toNatClampNeg))) hf hk)
theorem w_t_ju_addToDay_32 (x1 : Int32) (y1 : Int32) (y2 : Int32) (y3 : Int32) (M : dM) {Q : mz_P} {o : dM} (hf : t_ju_addToDay_32 x1 y1 y2 y3 M = some o) (hk : mR Q none o) : mW mX2_addToDay 2 Q 32 [some (.ref 39), some (.int x1), none] [.ref 43, .int y1, .int y2, .int y3] M := by
  unfold t_ju_addToDay_32 at hf
  refine y_iadd (n := 33) ⟨dX2_addToDay_32, rfl⟩ ?_
  obtain ⟨hg2, hf⟩ := g_s hf
  refine y_iastore (n := 34) ⟨dX2_addToDay_33, rfl⟩ l_43 hg2 ?_
  refine y_aload_n (i := 0) (n := 35) ⟨dX2_addToDay_34, rfl⟩ rfl ?_
  refine y_getR (n := 38) ⟨dX2_addToDay_35, rfl⟩ kfX2_22 l_39 rfl r_39_7 ?_
  refine y_iconst (n := 39) (v := 3) ⟨dX2_addToDay_38, rfl⟩ ki_3 ?_
  refine y_dup2 (n := 40) ⟨dX2_addToDay_39, rfl⟩ ?_
  refine y_iaload (n := 41) ⟨dX2_addToDay_40, rfl⟩ l_43 (by unfold vp_in; decide) ?_
  refine y_aload_n (i := 0) (n := 42) ⟨dX2_addToDay_41, rfl⟩ rfl ?_
  refine y_getR (n := 45) ⟨dX2_addToDay_42, rfl⟩ kfX2_15 l_39 rfl r_39_5 ?_
  refine y_iload_n (i := 1) (n := 46) ⟨dX2_addToDay_45, rfl⟩ rfl ?_
  obtain ⟨hg3, hf⟩ := g_s hf
  refine y_iaload (n := 47) ⟨dX2_addToDay_46, rfl⟩ l_41 hg3 ?_
  refine y_iconst (n := 48) (v := 1) ⟨dX2_addToDay_47, rfl⟩ ki_1 ?_
  refine y_icmp_ne (t := 55) (n := 51) ⟨dX2_addToDay_48, rfl, rfl⟩ (fun (hc : ¬ ((gI (sI M 43 y1.toNatClampNeg (y2 + y3)) 41 x1.toNatClampNeg) = 1)) => ?_) (fun (hc : (gI (sI M 43 y1.toNatClampNeg (y2 + y3)) 41 x1.toNatClampNeg) = 1) => ?_)
  · replace hf := i_f hc hf
    refine y_iconst (n := 56) (v := 0) ⟨dX2_addToDay_55, rfl⟩ ki_0 ?_
    exact y_wk ⟨Or.inr rfl, Or.inr rfl, Or.inr rfl, trivial⟩ (w_t_ju_addToDay_56 x1 3 (gI (sI M 43 y1.toNatClampNeg (y2 + y3)) 43 3) 0 (sI M 43 y1.toNatClampNeg (y2 + y3)) hf hk)
  · replace hf := i_t hc hf
    refine y_iconst (n := 52) (v := 1) ⟨dX2_addToDay_51, rfl⟩ ki_1 ?_
    refine y_goto (t := 56) ⟨dX2_addToDay_52, rfl, rfl⟩ ?_
    exact y_wk ⟨Or.inr rfl, Or.inr rfl, Or.inr rfl, trivial⟩ (w_t_ju_addToDay_56 x1 3 (gI (sI M 43 y1.toNatClampNeg (y2 + y3)) 43 3) 1 (sI M 43 y1.toNatClampNeg (y2 + y3)) hf hk)
theorem ok_ju_addToDay (a1 : Int32) (M : dM) {o : dM} (hf : f_ju_addToDay a1 M = some o) : mO mX2_addToDay 2 [.ref 39, .int a1] M none o := by
  refine y_ok (by decide +kernel) (by decide) (L0 := [some (.ref 39), some (.int a1), none]) rfl ?_
  have hk := mR_mQ none o
  generalize mQ _ _ = Q at hk ⊢
  unfold f_ju_addToDay at hf
  refine y_aload_n (i := 0) (n := 1) ⟨dX2_addToDay_0, rfl⟩ rfl ?_
  refine y_getR (n := 4) ⟨dX2_addToDay_1, rfl⟩ kfX2_22 l_39 rfl r_39_7 ?_
  refine y_iconst (n := 5) (v := 1) ⟨dX2_addToDay_4, rfl⟩ ki_1 ?_
  refine y_dup2 (n := 6) ⟨dX2_addToDay_5, rfl⟩ ?_
  refine y_iaload (n := 7) ⟨dX2_addToDay_6, rfl⟩ l_43 (by unfold vp_in; decide) ?_
  refine y_iconst (n := 8) (v := 1) ⟨dX2_addToDay_7, rfl⟩ ki_1 ?_
  refine y_iadd (n := 9) ⟨dX2_addToDay_8, rfl⟩ ?_
  refine y_iastore (n := 10) ⟨dX2_addToDay_9, rfl⟩ l_43 (by unfold vp_in; decide) ?_
  refine y_aload_n (i := 0) (n := 11) ⟨dX2_addToDay_10, rfl⟩ rfl ?_
  refine y_getR (n := 14) ⟨dX2_addToDay_11, rfl⟩ kfX2_22 l_39 rfl r_39_7 ?_
  refine y_iconst (n := 15) (v := 2) ⟨dX2_addToDay_14, rfl⟩ ki_2 ?_
  refine y_dup2 (n := 16) ⟨dX2_addToDay_15, rfl⟩ ?_
  refine y_iaload (n := 17) ⟨dX2_addToDay_16, rfl⟩ l_43 (by unfold vp_in; decide) ?_
  refine y_aload_n (i := 0) (n := 18) ⟨dX2_addToDay_17, rfl⟩ rfl ?_
  refine y_getR (n := 21) ⟨dX2_addToDay_18, rfl⟩ kfX2_15 l_39 rfl r_39_5 ?_
  refine y_iload_n (i := 1) (n := 22) ⟨dX2_addToDay_21, rfl⟩ rfl ?_
  obtain ⟨hg1, hf⟩ := g_s hf
  refine y_iaload (n := 23) ⟨dX2_addToDay_22, rfl⟩ l_41 hg1 ?_
  refine y_iconst (n := 24) (v := 2) ⟨dX2_addToDay_23, rfl⟩ ki_2 ?_
  refine y_icmp_ne (t := 31) (n := 27) ⟨dX2_addToDay_24, rfl, rfl⟩ (fun (hc : ¬ ((gI (sI M 43 1 ((gI M 43 1) + 1)) 41 a1.toNatClampNeg) = 2)) => ?_) (fun (hc : (gI (sI M 43 1 ((gI M 43 1) + 1)) 41 a1.toNatClampNeg) = 2) => ?_)
  · replace hf := i_f hc hf
    refine y_iconst (n := 32) (v := 0) ⟨dX2_addToDay_31, rfl⟩ ki_0 ?_
    exact y_wk ⟨Or.inr rfl, Or.inr rfl, Or.inr rfl, trivial⟩ (w_t_ju_addToDay_32 a1 2 (gI (sI M 43 1 ((gI M 43 1) + 1)) 43 2) 0 (sI M 43 1 ((gI M 43 1) + 1)) hf hk)
  · replace hf := i_t hc hf
    refine y_iconst (n := 28) (v := 1) ⟨dX2_addToDay_27, rfl⟩ ki_1 ?_
    refine y_goto (t := 32) ⟨dX2_addToDay_28, rfl, rfl⟩ ?_
    exact y_wk ⟨Or.inr rfl, Or.inr rfl, Or.inr rfl, trivial⟩ (w_t_ju_addToDay_32 a1 2 (gI (sI M 43 1 ((gI M 43 1) + 1)) 43 2) 1 (sI M 43 1 ((gI M 43 1) + 1)) hf hk)
theorem c_ju_addToDay (a1 : Int32) (M : dM) {o : dM} {y : mz_M} {d : Nat} {Q : mz_P} {pc n i : Nat} {L : List (Option Value)} {st : List Value} (h : mz_d y.2.1 pc n 3 (.invokevirtual i)) (hl : mz_ml y.1.cls i yX2_addToDay) (hf : f_ju_addToDay a1 M = some o) (hd : 2 + 1 ≤ d) (hsm : (st.map (fun v => v.category)).sum ≤ 8) (hLr : mz_rL 133 L = true) (hSr : mz_rS 133 st = true) (kk : mW y d Q n L st o) : mW y d Q pc L (.int a1 :: .ref 39 :: st) M :=
  y_callV kmX2_addToDay kvX2_addToDay l_39 (by decide +kernel) (by decide +kernel) h hl (ok_ju_addToDay a1 M hf) (vs := [.int a1]) rfl rfl hd hsm hLr hSr kk
def K_to_papersUpTo_4 (Q : mz_P) (x1 : Int32) (M : dM) : ((Int32 × Int32) ⊕ Int32) → Prop
  | .inl s => mW mX9_papersUpTo 1 Q 4 [some (.ref 12), some (.int x1), some (.int s.1), some (.int s.2)] [] M
  | .inr r => mR Q (some (.int r)) M
noncomputable def b_to_papersUpTo_4_4 (x1 : Int32) (x2 : Int32) (x3 : Int32) (M : dM) : Option ((Int32 × Int32) ⊕ Int32) :=
  if (gI M 12 13) ≤ x3 then
    some (.inr x2)
  else
    gd (vp_in x3 40) <|
    if x1 < (gI M 23 x3.toNatClampNeg) then
      some (.inl (x2, (x3 + 1)))
    else
      some (.inl ((x2 + 1), (x3 + 1)))
noncomputable def l_to_papersUpTo_4 (x1 : Int32) (x2 : Int32) (x3 : Int32) (M : dM) : Option Int32 := lpc (fun s => b_to_papersUpTo_4_4 x1 s.1 s.2 M) (x2, x3)
noncomputable def f_to_papersUpTo (a1 : Int32) (M : dM) : Option Int32 :=
  (l_to_papersUpTo_4 a1 0 0 M).bind fun r4 => some r4
theorem w_b_to_papersUpTo_4_4 (x1 : Int32) (x2 : Int32) (x3 : Int32) (M : dM) {Q : mz_P} {o : ((Int32 × Int32) ⊕ Int32)} (hf : b_to_papersUpTo_4_4 x1 x2 x3 M = some o) (hk : K_to_papersUpTo_4 Q x1 M o) : mW mX9_papersUpTo 1 Q 4 [some (.ref 12), some (.int x1), some (.int x2), some (.int x3)] [] M := by
  unfold b_to_papersUpTo_4_4 at hf
  refine y_iload_n (i := 3) (n := 5) ⟨dX9_papersUpTo_4, rfl⟩ rfl ?_
  refine y_aload_n (i := 0) (n := 6) ⟨dX9_papersUpTo_5, rfl⟩ rfl ?_
  refine y_getI (n := 9) ⟨dX9_papersUpTo_6, rfl⟩ kfX9_52 l_12 rfl ?_
  refine y_icmp_ge (t := 31) (n := 12) ⟨dX9_papersUpTo_9, rfl, rfl⟩ (fun (hc : (gI M 12 13) ≤ x3) => ?_) (fun (hc : ¬ ((gI M 12 13) ≤ x3)) => ?_)
  · replace hf := i_t hc hf
    refine y_iload_n (i := 2) (n := 32) ⟨dX9_papersUpTo_31, rfl⟩ rfl ?_
    cases hf
    exact y_ireturn (n := 33) ⟨dX9_papersUpTo_32, rfl⟩ rfl rfl hk
  · replace hf := i_f hc hf
    refine y_aload_n (i := 0) (n := 13) ⟨dX9_papersUpTo_12, rfl⟩ rfl ?_
    refine y_getR (n := 16) ⟨dX9_papersUpTo_13, rfl⟩ kfX9_42 l_12 rfl r_12_12 ?_
    refine y_iload_n (i := 3) (n := 17) ⟨dX9_papersUpTo_16, rfl⟩ rfl ?_
    obtain ⟨hg1, hf⟩ := g_s hf
    refine y_iaload (n := 18) ⟨dX9_papersUpTo_17, rfl⟩ l_23 hg1 ?_
    refine y_iload_n (i := 1) (n := 19) ⟨dX9_papersUpTo_18, rfl⟩ rfl ?_
    refine y_icmp_gt (t := 25) (n := 22) ⟨dX9_papersUpTo_19, rfl, rfl⟩ (fun (hc : x1 < (gI M 23 x3.toNatClampNeg)) => ?_) (fun (hc : ¬ (x1 < (gI M 23 x3.toNatClampNeg))) => ?_)
    · replace hf := i_t hc hf
      refine y_iinc (i := 3) (n := 28) (b := (x3 + 1)) (L2 := [some (.ref 12), some (.int x1), some (.int x2), some (.int (x3 + 1))]) ⟨dX9_papersUpTo_25, rfl⟩ rfl (by rw [ki_1]) (by decide) rfl rfl ?_
      refine y_goto (t := 4) ⟨dX9_papersUpTo_28, rfl, rfl⟩ ?_
      cases hf
      exact y_wk ⟨Or.inr rfl, Or.inr rfl, Or.inr rfl, Or.inr rfl, trivial⟩ hk
    · replace hf := i_f hc hf
      refine y_iinc (i := 2) (n := 25) (b := (x2 + 1)) (L2 := [some (.ref 12), some (.int x1), some (.int (x2 + 1)), some (.int x3)]) ⟨dX9_papersUpTo_22, rfl⟩ rfl (by rw [ki_1]) (by decide) rfl rfl ?_
      refine y_iinc (i := 3) (n := 28) (b := (x3 + 1)) (L2 := [some (.ref 12), some (.int x1), some (.int (x2 + 1)), some (.int (x3 + 1))]) ⟨dX9_papersUpTo_25, rfl⟩ rfl (by rw [ki_1]) (by decide) rfl rfl ?_
      refine y_goto (t := 4) ⟨dX9_papersUpTo_28, rfl, rfl⟩ ?_
      cases hf
      exact y_wk ⟨Or.inr rfl, Or.inr rfl, Or.inr rfl, Or.inr rfl, trivial⟩ hk
theorem wl_to_papersUpTo_4 (x1 : Int32) (x2 : Int32) (x3 : Int32) (M : dM) {Q : mz_P} {x : Int32} (hf : l_to_papersUpTo_4 x1 x2 x3 M = some x) (hk : K_to_papersUpTo_4 Q x1 M (.inr x)) : mW mX9_papersUpTo 1 Q 4 [some (.ref 12), some (.int x1), some (.int x2), some (.int x3)] [] M :=
  lpc_wp (Wh := fun s => mW mX9_papersUpTo 1 Q 4 [some (.ref 12), some (.int x1), some (.int s.1), some (.int s.2)] [] M) (K := K_to_papersUpTo_4 Q x1 M) (fun _ h => h) (fun s o hb hk => w_b_to_papersUpTo_4_4 x1 s.1 s.2 M hb hk) hf hk
theorem ok_to_papersUpTo (a1 : Int32) (M : dM) {o : Int32} (hf : f_to_papersUpTo a1 M = some o) : mO mX9_papersUpTo 1 [.ref 12, .int a1] M (some (.int o)) M := by
  refine y_ok (by decide +kernel) (by decide) (L0 := [some (.ref 12), some (.int a1), none, none]) rfl ?_
  have hk := mR_mQ (some (.int o)) M
  generalize mQ _ _ = Q at hk ⊢
  unfold f_to_papersUpTo at hf
  refine y_iconst (n := 1) (v := 0) ⟨dX9_papersUpTo_0, rfl⟩ ki_0 ?_
  refine y_istore_n (i := 2) (n := 2) (L2 := [some (.ref 12), some (.int a1), some (.int 0), none]) ⟨dX9_papersUpTo_1, rfl⟩ (by decide) rfl rfl ?_
  refine y_iconst (n := 3) (v := 0) ⟨dX9_papersUpTo_2, rfl⟩ ki_0 ?_
  refine y_istore_n (i := 3) (n := 4) (L2 := [some (.ref 12), some (.int a1), some (.int 0), some (.int 0)]) ⟨dX9_papersUpTo_3, rfl⟩ (by decide) rfl rfl ?_
  obtain ⟨r4, hl3, hf⟩ := b_s hf
  cases hf
  exact y_wk ⟨Or.inr rfl, Or.inr rfl, Or.inr rfl, Or.inr rfl, trivial⟩ (wl_to_papersUpTo_4 a1 0 0 M hl3 hk)
theorem c_to_papersUpTo (a1 : Int32) (M : dM) {o : Int32} {y : mz_M} {d : Nat} {Q : mz_P} {pc n i : Nat} {L : List (Option Value)} {st : List Value} (h : mz_d y.2.1 pc n 3 (.invokevirtual i)) (hl : mz_ml y.1.cls i yX9_papersUpTo) (hf : f_to_papersUpTo a1 M = some o) (hd : 1 + 1 ≤ d) (hsm : (st.map (fun v => v.category)).sum ≤ 8) (hLr : mz_rL 133 L = true) (hSr : mz_rS 133 st = true) (kk : mW y d Q n L (.int o :: st) M) : mW y d Q pc L (.int a1 :: .ref 12 :: st) M :=
  y_callV kmX9_papersUpTo kvX9_papersUpTo l_12 (by decide +kernel) (by decide +kernel) h hl (ok_to_papersUpTo a1 M hf) (vs := [.int a1]) rfl rfl hd hsm hLr hSr kk
def K_la_valueOf_27_43_11 (Q : mz_P) (x1 : Int32) (x3 : Int32) (M : dM) : ((Int32 × Int32 × dM) ⊕ (Int32 × dM)) → Prop
  | .inl s => mW mX3_valueOf 2 Q 11 [some (.ref 27), some (.int x1), some (.ref 43), some (.int x3), some (.int s.1), some (.int s.2.1), none] [] s.2.2
  | .inr t => mW mX3_valueOf 2 Q 169 [some (.ref 27), none, none, none, some (.int t.1), none, none] [] t.2
noncomputable def b_la_valueOf_27_43_11_120 (x1 : Int32) (x3 : Int32) (x4 : Int32) (x5 : Int32) (y1 : Int32) (y2 : Int32) (M : dM) : Option ((Int32 × Int32 × dM) ⊕ (Int32 × dM)) :=
  gd (vp_in y1 32) <|
  some (.inl (x4, (x5 + 1), (sI M 31 y1.toNatClampNeg y2)))
noncomputable def b_la_valueOf_27_43_11_75 (x1 : Int32) (x3 : Int32) (x4 : Int32) (x5 : Int32) (y1 : Int32) (y2 : Int32) (M : dM) : Option ((Int32 × Int32 × dM) ⊕ (Int32 × dM)) :=
  gd (vp_in y1 32) <|
  some (.inl ((x4 + 1), (x5 + 1), (sI M 31 y1.toNatClampNeg y2)))
noncomputable def b_la_valueOf_27_43_11_11 (x1 : Int32) (x3 : Int32) (x4 : Int32) (x5 : Int32) (M : dM) : Option ((Int32 × Int32 × dM) ⊕ (Int32 × dM)) :=
  gd (vp_in x1 21) <|
  if (gI M 30 x1.toNatClampNeg) ≤ x5 then
    some (.inr (x4, M))
  else
    gd (vp_in x5 1000) <|
    if 20000 ≤ (gI M 28 x5.toNatClampNeg) then
      if (gI M 28 x5.toNatClampNeg) = 20000 then
        if x4 ≤ 0 then
          some (.inl (x4, (x5 + 1), M))
        else
          gd (vp_in (x4 - 1) 32) <|
          if (gI M 31 (x4 - 1).toNatClampNeg) = 0 then
            b_la_valueOf_27_43_11_120 x1 x3 x4 x5 (x4 - 1) 1 M
          else
            b_la_valueOf_27_43_11_120 x1 x3 x4 x5 (x4 - 1) 0 M
      else
        if x4 ≤ 1 then
          some (.inl (x4, (x5 + 1), M))
        else
          gd (vp_in ((x4 + (-1)) - 1) 32) <|
          gd (vp_in (x4 + (-1)) 32) <|
          some (.inl ((x4 + (-1)), (x5 + 1), (sI M 31 ((x4 + (-1)) - 1).toNatClampNeg (f_la_join (gI M 28 x5.toNatClampNeg) (gI M 31 ((x4 + (-1)) - 1).toNatClampNeg) (gI M 31 (x4 + (-1)).toNatClampNeg)))))
    else
      if 32 ≤ x4 then
        some (.inl (x4, (x5 + 1), M))
      else
        if 10000 ≤ (gI M 28 x5.toNatClampNeg) then
          gd (vp_in ((x3 + (gI M 28 x5.toNatClampNeg)) - 10000) 8) <|
          b_la_valueOf_27_43_11_75 x1 x3 x4 x5 x4 (gI M 43 ((x3 + (gI M 28 x5.toNatClampNeg)) - 10000).toNatClampNeg) M
        else
          b_la_valueOf_27_43_11_75 x1 x3 x4 x5 x4 (gI M 28 x5.toNatClampNeg) M
noncomputable def l_la_valueOf_27_43_11 (x1 : Int32) (x3 : Int32) (x4 : Int32) (x5 : Int32) (M : dM) : Option (Int32 × dM) := lpc (fun s => b_la_valueOf_27_43_11_11 x1 x3 s.1 s.2.1 s.2.2) (x4, x5, M)
noncomputable def f_la_valueOf_27_43 (a1 : Int32) (a3 : Int32) (M : dM) : Option (Int32 × dM) :=
  gd (vp_in a1 21) <|
  (l_la_valueOf_27_43_11 a1 a3 0 (gI M 29 a1.toNatClampNeg) M).bind fun t10 =>
    if t10.1 ≤ 0 then
      some (0, t10.2)
    else
      some ((gI t10.2 31 0), t10.2)
theorem w_b_la_valueOf_27_43_11_120 (x1 : Int32) (x3 : Int32) (x4 : Int32) (x5 : Int32) (y1 : Int32) (y2 : Int32) (M : dM) {Q : mz_P} {o : ((Int32 × Int32 × dM) ⊕ (Int32 × dM))} (hf : b_la_valueOf_27_43_11_120 x1 x3 x4 x5 y1 y2 M = some o) (hk : K_la_valueOf_27_43_11 Q x1 x3 M o) : mW mX3_valueOf 2 Q 120 [some (.ref 27), some (.int x1), some (.ref 43), some (.int x3), some (.int x4), some (.int x5), none] [.ref 31, .int y1, .int y2] M := by
  unfold b_la_valueOf_27_43_11_120 at hf
  obtain ⟨hg7, hf⟩ := g_s hf
  refine y_iastore (n := 121) ⟨dX3_valueOf_120, rfl⟩ l_31 hg7 ?_
  refine y_goto (t := 163) ⟨dX3_valueOf_121, rfl, rfl⟩ ?_
  refine y_iinc (i := 5) (n := 166) (b := (x5 + 1)) (L2 := [some (.ref 27), some (.int x1), some (.ref 43), some (.int x3), some (.int x4), some (.int (x5 + 1)), none]) ⟨dX3_valueOf_163, rfl⟩ rfl (by rw [ki_1]) (by decide) rfl rfl ?_
  refine y_goto (t := 11) ⟨dX3_valueOf_166, rfl, rfl⟩ ?_
  cases hf
  exact y_wk ⟨Or.inr rfl, Or.inr rfl, Or.inr rfl, Or.inr rfl, Or.inr rfl, Or.inr rfl, Or.inr rfl, trivial⟩ hk
theorem w_b_la_valueOf_27_43_11_75 (x1 : Int32) (x3 : Int32) (x4 : Int32) (x5 : Int32) (y1 : Int32) (y2 : Int32) (M : dM) {Q : mz_P} {o : ((Int32 × Int32 × dM) ⊕ (Int32 × dM))} (hf : b_la_valueOf_27_43_11_75 x1 x3 x4 x5 y1 y2 M = some o) (hk : K_la_valueOf_27_43_11 Q x1 x3 M o) : mW mX3_valueOf 2 Q 75 [some (.ref 27), some (.int x1), some (.ref 43), some (.int x3), some (.int x4), some (.int x5), none] [.ref 31, .int y1, .int y2] M := by
  unfold b_la_valueOf_27_43_11_75 at hf
  obtain ⟨hg9, hf⟩ := g_s hf
  refine y_iastore (n := 76) ⟨dX3_valueOf_75, rfl⟩ l_31 hg9 ?_
  refine y_iinc (i := 4) (n := 79) (b := (x4 + 1)) (L2 := [some (.ref 27), some (.int x1), some (.ref 43), some (.int x3), some (.int (x4 + 1)), some (.int x5), none]) ⟨dX3_valueOf_76, rfl⟩ rfl (by rw [ki_1]) (by decide) rfl rfl ?_
  refine y_goto (t := 163) ⟨dX3_valueOf_79, rfl, rfl⟩ ?_
  refine y_iinc (i := 5) (n := 166) (b := (x5 + 1)) (L2 := [some (.ref 27), some (.int x1), some (.ref 43), some (.int x3), some (.int (x4 + 1)), some (.int (x5 + 1)), none]) ⟨dX3_valueOf_163, rfl⟩ rfl (by rw [ki_1]) (by decide) rfl rfl ?_
  refine y_goto (t := 11) ⟨dX3_valueOf_166, rfl, rfl⟩ ?_
  cases hf
  exact y_wk ⟨Or.inr rfl, Or.inr rfl, Or.inr rfl, Or.inr rfl, Or.inr rfl, Or.inr rfl, Or.inr rfl, trivial⟩ hk
theorem w_b_la_valueOf_27_43_11_11 (x1 : Int32) (x3 : Int32) (x4 : Int32) (x5 : Int32) (M : dM) {Q : mz_P} {o : ((Int32 × Int32 × dM) ⊕ (Int32 × dM))} (hf : b_la_valueOf_27_43_11_11 x1 x3 x4 x5 M = some o) (hk : K_la_valueOf_27_43_11 Q x1 x3 M o) : mW mX3_valueOf 2 Q 11 [some (.ref 27), some (.int x1), some (.ref 43), some (.int x3), some (.int x4), some (.int x5), none] [] M := by
  unfold b_la_valueOf_27_43_11_11 at hf
  refine y_iload (i := 5) (n := 13) ⟨dX3_valueOf_11, rfl⟩ rfl ?_
  refine y_aload_n (i := 0) (n := 14) ⟨dX3_valueOf_13, rfl⟩ rfl ?_
  refine y_getR (n := 17) ⟨dX3_valueOf_14, rfl⟩ kfX3_18 l_27 rfl r_27_3 ?_
  refine y_iload_n (i := 1) (n := 18) ⟨dX3_valueOf_17, rfl⟩ rfl ?_
  obtain ⟨hg2, hf⟩ := g_s hf
  refine y_iaload (n := 19) ⟨dX3_valueOf_18, rfl⟩ l_30 hg2 ?_
  refine y_icmp_ge (t := 169) (n := 22) ⟨dX3_valueOf_19, rfl, rfl⟩ (fun (hc : (gI M 30 x1.toNatClampNeg) ≤ x5) => ?_) (fun (hc : ¬ ((gI M 30 x1.toNatClampNeg) ≤ x5)) => ?_)
  · replace hf := i_t hc hf
    cases hf
    exact y_wk ⟨Or.inr rfl, Or.inl rfl, Or.inl rfl, Or.inl rfl, Or.inr rfl, Or.inl rfl, Or.inr rfl, trivial⟩ hk
  · replace hf := i_f hc hf
    refine y_aload_n (i := 0) (n := 23) ⟨dX3_valueOf_22, rfl⟩ rfl ?_
    refine y_getR (n := 26) ⟨dX3_valueOf_23, rfl⟩ kfX3_11 l_27 rfl r_27_0 ?_
    refine y_iload (i := 5) (n := 28) ⟨dX3_valueOf_26, rfl⟩ rfl ?_
    obtain ⟨hg3, hf⟩ := g_s hf
    refine y_iaload (n := 29) ⟨dX3_valueOf_28, rfl⟩ l_28 hg3 ?_
    refine y_istore (i := 6) (n := 31) (L2 := [some (.ref 27), some (.int x1), some (.ref 43), some (.int x3), some (.int x4), some (.int x5), some (.int (gI M 28 x5.toNatClampNeg))]) ⟨dX3_valueOf_29, rfl⟩ (by decide) rfl rfl ?_
    refine y_iload (i := 6) (n := 33) ⟨dX3_valueOf_31, rfl⟩ rfl ?_
    refine y_sipush (n := 36) (v := 20000) ⟨dX3_valueOf_33, rfl⟩ ks_20000 ?_
    refine y_icmp_ge (t := 82) (n := 39) ⟨dX3_valueOf_36, rfl, rfl⟩ (fun (hc : 20000 ≤ (gI M 28 x5.toNatClampNeg)) => ?_) (fun (hc : ¬ (20000 ≤ (gI M 28 x5.toNatClampNeg))) => ?_)
    · replace hf := i_t hc hf
      refine y_iload (i := 6) (n := 84) ⟨dX3_valueOf_82, rfl⟩ rfl ?_
      refine y_sipush (n := 87) (v := 20000) ⟨dX3_valueOf_84, rfl⟩ ks_20000 ?_
      refine y_icmp_ne (t := 124) (n := 90) ⟨dX3_valueOf_87, rfl, rfl⟩ (fun (hc : ¬ ((gI M 28 x5.toNatClampNeg) = 20000)) => ?_) (fun (hc : (gI M 28 x5.toNatClampNeg) = 20000) => ?_)
      · replace hf := i_f hc hf
        refine y_iload (i := 4) (n := 126) ⟨dX3_valueOf_124, rfl⟩ rfl ?_
        refine y_iconst (n := 127) (v := 1) ⟨dX3_valueOf_126, rfl⟩ ki_1 ?_
        refine y_icmp_le (t := 163) (n := 130) ⟨dX3_valueOf_127, rfl, rfl⟩ (fun (hc : x4 ≤ 1) => ?_) (fun (hc : ¬ (x4 ≤ 1)) => ?_)
        · replace hf := i_t hc hf
          refine y_iinc (i := 5) (n := 166) (b := (x5 + 1)) (L2 := [some (.ref 27), some (.int x1), some (.ref 43), some (.int x3), some (.int x4), some (.int (x5 + 1)), some (.int (gI M 28 x5.toNatClampNeg))]) ⟨dX3_valueOf_163, rfl⟩ rfl (by rw [ki_1]) (by decide) rfl rfl ?_
          refine y_goto (t := 11) ⟨dX3_valueOf_166, rfl, rfl⟩ ?_
          cases hf
          exact y_wk ⟨Or.inr rfl, Or.inr rfl, Or.inr rfl, Or.inr rfl, Or.inr rfl, Or.inr rfl, Or.inl rfl, trivial⟩ hk
        · replace hf := i_f hc hf
          refine y_iinc (i := 4) (n := 133) (b := (x4 + (-1))) (L2 := [some (.ref 27), some (.int x1), some (.ref 43), some (.int x3), some (.int (x4 + (-1))), some (.int x5), some (.int (gI M 28 x5.toNatClampNeg))]) ⟨dX3_valueOf_130, rfl⟩ rfl (by rw [ki_m1]) (by decide) rfl rfl ?_
          refine y_aload_n (i := 0) (n := 134) ⟨dX3_valueOf_133, rfl⟩ rfl ?_
          refine y_getR (n := 137) ⟨dX3_valueOf_134, rfl⟩ kfX3_28 l_27 rfl r_27_8 ?_
          refine y_iload (i := 4) (n := 139) ⟨dX3_valueOf_137, rfl⟩ rfl ?_
          refine y_iconst (n := 140) (v := 1) ⟨dX3_valueOf_139, rfl⟩ ki_1 ?_
          refine y_isub (n := 141) ⟨dX3_valueOf_140, rfl⟩ ?_
          refine y_iload (i := 6) (n := 143) ⟨dX3_valueOf_141, rfl⟩ rfl ?_
          refine y_aload_n (i := 0) (n := 144) ⟨dX3_valueOf_143, rfl⟩ rfl ?_
          refine y_getR (n := 147) ⟨dX3_valueOf_144, rfl⟩ kfX3_28 l_27 rfl r_27_8 ?_
          refine y_iload (i := 4) (n := 149) ⟨dX3_valueOf_147, rfl⟩ rfl ?_
          refine y_iconst (n := 150) (v := 1) ⟨dX3_valueOf_149, rfl⟩ ki_1 ?_
          refine y_isub (n := 151) ⟨dX3_valueOf_150, rfl⟩ ?_
          obtain ⟨hg4, hf⟩ := g_s hf
          refine y_iaload (n := 152) ⟨dX3_valueOf_151, rfl⟩ l_31 hg4 ?_
          refine y_aload_n (i := 0) (n := 153) ⟨dX3_valueOf_152, rfl⟩ rfl ?_
          refine y_getR (n := 156) ⟨dX3_valueOf_153, rfl⟩ kfX3_28 l_27 rfl r_27_8 ?_
          refine y_iload (i := 4) (n := 158) ⟨dX3_valueOf_156, rfl⟩ rfl ?_
          obtain ⟨hg5, hf⟩ := g_s hf
          refine y_iaload (n := 159) ⟨dX3_valueOf_158, rfl⟩ l_31 hg5 ?_
          refine c_la_join (gI M 28 x5.toNatClampNeg) (gI M 31 ((x4 + (-1)) - 1).toNatClampNeg) (gI M 31 (x4 + (-1)).toNatClampNeg) M (n := 162) ⟨dX3_valueOf_159, rfl⟩ klX3_60 rfl (by decide) (Nat.le_of_ble_eq_true rfl) rfl rfl ?_
          refine y_iastore (n := 163) ⟨dX3_valueOf_162, rfl⟩ l_31 hg4 ?_
          refine y_iinc (i := 5) (n := 166) (b := (x5 + 1)) (L2 := [some (.ref 27), some (.int x1), some (.ref 43), some (.int x3), some (.int (x4 + (-1))), some (.int (x5 + 1)), some (.int (gI M 28 x5.toNatClampNeg))]) ⟨dX3_valueOf_163, rfl⟩ rfl (by rw [ki_1]) (by decide) rfl rfl ?_
          refine y_goto (t := 11) ⟨dX3_valueOf_166, rfl, rfl⟩ ?_
          cases hf
          exact y_wk ⟨Or.inr rfl, Or.inr rfl, Or.inr rfl, Or.inr rfl, Or.inr rfl, Or.inr rfl, Or.inl rfl, trivial⟩ hk
      · replace hf := i_t hc hf
        refine y_iload (i := 4) (n := 92) ⟨dX3_valueOf_90, rfl⟩ rfl ?_
        refine y_if_le (t := 163) (n := 95) ⟨dX3_valueOf_92, rfl, rfl⟩ (fun (hc : x4 ≤ 0) => ?_) (fun (hc : ¬ (x4 ≤ 0)) => ?_)
        · replace hf := i_t hc hf
          refine y_iinc (i := 5) (n := 166) (b := (x5 + 1)) (L2 := [some (.ref 27), some (.int x1), some (.ref 43), some (.int x3), some (.int x4), some (.int (x5 + 1)), some (.int (gI M 28 x5.toNatClampNeg))]) ⟨dX3_valueOf_163, rfl⟩ rfl (by rw [ki_1]) (by decide) rfl rfl ?_
          refine y_goto (t := 11) ⟨dX3_valueOf_166, rfl, rfl⟩ ?_
          cases hf
          exact y_wk ⟨Or.inr rfl, Or.inr rfl, Or.inr rfl, Or.inr rfl, Or.inr rfl, Or.inr rfl, Or.inl rfl, trivial⟩ hk
        · replace hf := i_f hc hf
          refine y_aload_n (i := 0) (n := 96) ⟨dX3_valueOf_95, rfl⟩ rfl ?_
          refine y_getR (n := 99) ⟨dX3_valueOf_96, rfl⟩ kfX3_28 l_27 rfl r_27_8 ?_
          refine y_iload (i := 4) (n := 101) ⟨dX3_valueOf_99, rfl⟩ rfl ?_
          refine y_iconst (n := 102) (v := 1) ⟨dX3_valueOf_101, rfl⟩ ki_1 ?_
          refine y_isub (n := 103) ⟨dX3_valueOf_102, rfl⟩ ?_
          refine y_aload_n (i := 0) (n := 104) ⟨dX3_valueOf_103, rfl⟩ rfl ?_
          refine y_getR (n := 107) ⟨dX3_valueOf_104, rfl⟩ kfX3_28 l_27 rfl r_27_8 ?_
          refine y_iload (i := 4) (n := 109) ⟨dX3_valueOf_107, rfl⟩ rfl ?_
          refine y_iconst (n := 110) (v := 1) ⟨dX3_valueOf_109, rfl⟩ ki_1 ?_
          refine y_isub (n := 111) ⟨dX3_valueOf_110, rfl⟩ ?_
          obtain ⟨hg6, hf⟩ := g_s hf
          refine y_iaload (n := 112) ⟨dX3_valueOf_111, rfl⟩ l_31 hg6 ?_
          refine y_if_ne (t := 119) (n := 115) ⟨dX3_valueOf_112, rfl, rfl⟩ (fun (hc : ¬ ((gI M 31 (x4 - 1).toNatClampNeg) = 0)) => ?_) (fun (hc : (gI M 31 (x4 - 1).toNatClampNeg) = 0) => ?_)
          · replace hf := i_f hc hf
            refine y_iconst (n := 120) (v := 0) ⟨dX3_valueOf_119, rfl⟩ ki_0 ?_
            exact y_wk ⟨Or.inr rfl, Or.inr rfl, Or.inr rfl, Or.inr rfl, Or.inr rfl, Or.inr rfl, Or.inl rfl, trivial⟩ (w_b_la_valueOf_27_43_11_120 x1 x3 x4 x5 (x4 - 1) 0 M hf hk)
          · replace hf := i_t hc hf
            refine y_iconst (n := 116) (v := 1) ⟨dX3_valueOf_115, rfl⟩ ki_1 ?_
            refine y_goto (t := 120) ⟨dX3_valueOf_116, rfl, rfl⟩ ?_
            exact y_wk ⟨Or.inr rfl, Or.inr rfl, Or.inr rfl, Or.inr rfl, Or.inr rfl, Or.inr rfl, Or.inl rfl, trivial⟩ (w_b_la_valueOf_27_43_11_120 x1 x3 x4 x5 (x4 - 1) 1 M hf hk)
    · replace hf := i_f hc hf
      refine y_iload (i := 4) (n := 41) ⟨dX3_valueOf_39, rfl⟩ rfl ?_
      refine y_bipush (n := 43) (v := 32) ⟨dX3_valueOf_41, rfl⟩ kb_32 ?_
      refine y_icmp_ge (t := 163) (n := 46) ⟨dX3_valueOf_43, rfl, rfl⟩ (fun (hc : 32 ≤ x4) => ?_) (fun (hc : ¬ (32 ≤ x4)) => ?_)
      · replace hf := i_t hc hf
        refine y_iinc (i := 5) (n := 166) (b := (x5 + 1)) (L2 := [some (.ref 27), some (.int x1), some (.ref 43), some (.int x3), some (.int x4), some (.int (x5 + 1)), some (.int (gI M 28 x5.toNatClampNeg))]) ⟨dX3_valueOf_163, rfl⟩ rfl (by rw [ki_1]) (by decide) rfl rfl ?_
        refine y_goto (t := 11) ⟨dX3_valueOf_166, rfl, rfl⟩ ?_
        cases hf
        exact y_wk ⟨Or.inr rfl, Or.inr rfl, Or.inr rfl, Or.inr rfl, Or.inr rfl, Or.inr rfl, Or.inl rfl, trivial⟩ hk
      · replace hf := i_f hc hf
        refine y_aload_n (i := 0) (n := 47) ⟨dX3_valueOf_46, rfl⟩ rfl ?_
        refine y_getR (n := 50) ⟨dX3_valueOf_47, rfl⟩ kfX3_28 l_27 rfl r_27_8 ?_
        refine y_iload (i := 4) (n := 52) ⟨dX3_valueOf_50, rfl⟩ rfl ?_
        refine y_iload (i := 6) (n := 54) ⟨dX3_valueOf_52, rfl⟩ rfl ?_
        refine y_sipush (n := 57) (v := 10000) ⟨dX3_valueOf_54, rfl⟩ ks_10000 ?_
        refine y_icmp_ge (t := 65) (n := 60) ⟨dX3_valueOf_57, rfl, rfl⟩ (fun (hc : 10000 ≤ (gI M 28 x5.toNatClampNeg)) => ?_) (fun (hc : ¬ (10000 ≤ (gI M 28 x5.toNatClampNeg))) => ?_)
        · replace hf := i_t hc hf
          refine y_aload_n (i := 2) (n := 66) ⟨dX3_valueOf_65, rfl⟩ rfl ?_
          refine y_iload_n (i := 3) (n := 67) ⟨dX3_valueOf_66, rfl⟩ rfl ?_
          refine y_iload (i := 6) (n := 69) ⟨dX3_valueOf_67, rfl⟩ rfl ?_
          refine y_iadd (n := 70) ⟨dX3_valueOf_69, rfl⟩ ?_
          refine y_sipush (n := 73) (v := 10000) ⟨dX3_valueOf_70, rfl⟩ ks_10000 ?_
          refine y_isub (n := 74) ⟨dX3_valueOf_73, rfl⟩ ?_
          obtain ⟨hg8, hf⟩ := g_s hf
          refine y_iaload (n := 75) ⟨dX3_valueOf_74, rfl⟩ l_43 hg8 ?_
          exact y_wk ⟨Or.inr rfl, Or.inr rfl, Or.inr rfl, Or.inr rfl, Or.inr rfl, Or.inr rfl, Or.inl rfl, trivial⟩ (w_b_la_valueOf_27_43_11_75 x1 x3 x4 x5 x4 (gI M 43 ((x3 + (gI M 28 x5.toNatClampNeg)) - 10000).toNatClampNeg) M hf hk)
        · replace hf := i_f hc hf
          refine y_iload (i := 6) (n := 62) ⟨dX3_valueOf_60, rfl⟩ rfl ?_
          refine y_goto (t := 75) ⟨dX3_valueOf_62, rfl, rfl⟩ ?_
          exact y_wk ⟨Or.inr rfl, Or.inr rfl, Or.inr rfl, Or.inr rfl, Or.inr rfl, Or.inr rfl, Or.inl rfl, trivial⟩ (w_b_la_valueOf_27_43_11_75 x1 x3 x4 x5 x4 (gI M 28 x5.toNatClampNeg) M hf hk)
theorem wl_la_valueOf_27_43_11 (x1 : Int32) (x3 : Int32) (x4 : Int32) (x5 : Int32) (M : dM) {Q : mz_P} {x : (Int32 × dM)} (hf : l_la_valueOf_27_43_11 x1 x3 x4 x5 M = some x) (hk : K_la_valueOf_27_43_11 Q x1 x3 M (.inr x)) : mW mX3_valueOf 2 Q 11 [some (.ref 27), some (.int x1), some (.ref 43), some (.int x3), some (.int x4), some (.int x5), none] [] M :=
  lpc_wp (Wh := fun s => mW mX3_valueOf 2 Q 11 [some (.ref 27), some (.int x1), some (.ref 43), some (.int x3), some (.int s.1), some (.int s.2.1), none] [] s.2.2) (K := K_la_valueOf_27_43_11 Q x1 x3 M) (fun _ h => h) (fun s o hb hk => w_b_la_valueOf_27_43_11_11 x1 x3 s.1 s.2.1 s.2.2 hb hk) hf hk
theorem ok_la_valueOf_27_43 (a1 : Int32) (a3 : Int32) (M : dM) {o : (Int32 × dM)} (hf : f_la_valueOf_27_43 a1 a3 M = some o) : mO mX3_valueOf 2 [.ref 27, .int a1, .ref 43, .int a3] M (some (.int o.1)) o.2 := by
  refine y_ok (by decide +kernel) (by decide) (L0 := [some (.ref 27), some (.int a1), some (.ref 43), some (.int a3), none, none, none]) rfl ?_
  have hk := mR_mQ (some (.int o.1)) o.2
  generalize mQ _ _ = Q at hk ⊢
  unfold f_la_valueOf_27_43 at hf
  refine y_iconst (n := 1) (v := 0) ⟨dX3_valueOf_0, rfl⟩ ki_0 ?_
  refine y_istore (i := 4) (n := 3) (L2 := [some (.ref 27), some (.int a1), some (.ref 43), some (.int a3), some (.int 0), none, none]) ⟨dX3_valueOf_1, rfl⟩ (by decide) rfl rfl ?_
  refine y_aload_n (i := 0) (n := 4) ⟨dX3_valueOf_3, rfl⟩ rfl ?_
  refine y_getR (n := 7) ⟨dX3_valueOf_4, rfl⟩ kfX3_15 l_27 rfl r_27_2 ?_
  refine y_iload_n (i := 1) (n := 8) ⟨dX3_valueOf_7, rfl⟩ rfl ?_
  obtain ⟨hg1, hf⟩ := g_s hf
  refine y_iaload (n := 9) ⟨dX3_valueOf_8, rfl⟩ l_29 hg1 ?_
  refine y_istore (i := 5) (n := 11) (L2 := [some (.ref 27), some (.int a1), some (.ref 43), some (.int a3), some (.int 0), some (.int (gI M 29 a1.toNatClampNeg)), none]) ⟨dX3_valueOf_9, rfl⟩ (by decide) rfl rfl ?_
  obtain ⟨t10, hl11, hf⟩ := b_s hf
  refine y_wk ⟨Or.inr rfl, Or.inr rfl, Or.inr rfl, Or.inr rfl, Or.inr rfl, Or.inr rfl, Or.inr rfl, trivial⟩ (wl_la_valueOf_27_43_11 a1 a3 0 (gI M 29 a1.toNatClampNeg) M hl11 ?_)
  show mW mX3_valueOf 2 Q 169 [some (.ref 27), none, none, none, some (.int t10.1), none, none] [] t10.2
  refine y_iload (i := 4) (n := 171) ⟨dX3_valueOf_169, rfl⟩ rfl ?_
  refine y_if_le (t := 183) (n := 174) ⟨dX3_valueOf_171, rfl, rfl⟩ (fun (hc : t10.1 ≤ 0) => ?_) (fun (hc : ¬ (t10.1 ≤ 0)) => ?_)
  · replace hf := i_t hc hf
    refine y_iconst (n := 184) (v := 0) ⟨dX3_valueOf_183, rfl⟩ ki_0 ?_
    cases hf
    exact y_ireturn (n := 185) ⟨dX3_valueOf_184, rfl⟩ rfl rfl hk
  · replace hf := i_f hc hf
    refine y_aload_n (i := 0) (n := 175) ⟨dX3_valueOf_174, rfl⟩ rfl ?_
    refine y_getR (n := 178) ⟨dX3_valueOf_175, rfl⟩ kfX3_28 l_27 rfl r_27_8 ?_
    refine y_iconst (n := 179) (v := 0) ⟨dX3_valueOf_178, rfl⟩ ki_0 ?_
    refine y_iaload (n := 180) ⟨dX3_valueOf_179, rfl⟩ l_31 (by unfold vp_in; decide) ?_
    refine y_goto (t := 184) ⟨dX3_valueOf_180, rfl, rfl⟩ ?_
    cases hf
    exact y_ireturn (n := 185) ⟨dX3_valueOf_184, rfl⟩ rfl rfl hk
theorem c_la_valueOf_27_43 (a1 : Int32) (a3 : Int32) (M : dM) {o : (Int32 × dM)} {y : mz_M} {d : Nat} {Q : mz_P} {pc n i : Nat} {L : List (Option Value)} {st : List Value} (h : mz_d y.2.1 pc n 3 (.invokevirtual i)) (hl : mz_ml y.1.cls i yX3_valueOf) (hf : f_la_valueOf_27_43 a1 a3 M = some o) (hd : 2 + 1 ≤ d) (hsm : (st.map (fun v => v.category)).sum ≤ 8) (hLr : mz_rL 133 L = true) (hSr : mz_rS 133 st = true) (kk : mW y d Q n L (.int o.1 :: st) o.2) : mW y d Q pc L (.int a3 :: .ref 43 :: .int a1 :: .ref 27 :: st) M :=
  y_callV kmX3_valueOf kvX3_valueOf l_27 (by decide +kernel) (by decide +kernel) h hl (ok_la_valueOf_27_43 a1 a3 M hf) (vs := [.int a1, .ref 43, .int a3]) rfl rfl hd hsm hLr hSr kk
def K_ju_seekDay_20 (Q : mz_P)  (M : dM) : ((Int32 × Int32 × dM) ⊕ (Int32 × dM)) → Prop
  | .inl s => mW mX2_seekDay 3 Q 20 [some (.ref 39), some (.int s.1), some (.int s.2.1)] [] s.2.2
  | .inr r => mR Q (some (.int r.1)) r.2
def K_ju_seekDay_27 (Q : mz_P) (x2 : Int32) (M : dM) : ((Int32 × dM) ⊕ (Int32 × dM)) → Prop
  | .inl s => mW mX2_seekDay 3 Q 27 [some (.ref 39), some (.int s.1), some (.int x2)] [] s.2
  | .inr t => mW mX2_seekDay 3 Q 62 [some (.ref 39), some (.int t.1), some (.int x2)] [] t.2
noncomputable def b_ju_seekDay_27_27 (x1 : Int32) (x2 : Int32) (M : dM) : Option ((Int32 × dM) ⊕ (Int32 × dM)) :=
  if (gI M 12 7) ≤ x1 then
    some (.inr (x1, M))
  else
    gd (vp_in x1 40) <|
    if x2 < (gI M 15 x1.toNatClampNeg) then
      some (.inr (x1, M))
    else
      (f_ju_addToDay x1 M).bind fun q6 =>
      some (.inl ((x1 + 1), q6))
noncomputable def l_ju_seekDay_27 (x1 : Int32) (x2 : Int32) (M : dM) : Option (Int32 × dM) := lpc (fun s => b_ju_seekDay_27_27 s.1 x2 s.2) (x1, M)
noncomputable def b_ju_seekDay_20_62 (x1 : Int32) (x2 : Int32) (M : dM) : Option ((Int32 × Int32 × dM) ⊕ (Int32 × dM)) :=
  (f_to_papersUpTo x2 (sI M 43 0 x2)).bind fun v11 =>
  (f_la_valueOf_27_43 20 0 (sI (sI M 43 0 x2) 43 7 v11)).bind fun q13 =>
  if q13.1 = 0 then
    some (.inl (x1, (x2 + 1), q13.2))
  else
    some (.inr (x2, q13.2))
noncomputable def b_ju_seekDay_20_20 (x1 : Int32) (x2 : Int32) (M : dM) : Option ((Int32 × Int32 × dM) ⊕ (Int32 × dM)) :=
  if 1000 ≤ x2 then
    some (.inr ((-1), M))
  else
    (l_ju_seekDay_27 x1 x2 M).bind fun t8 =>
      b_ju_seekDay_20_62 t8.1 x2 t8.2
noncomputable def l_ju_seekDay_20 (x1 : Int32) (x2 : Int32) (M : dM) : Option (Int32 × dM) := lpc (fun s => b_ju_seekDay_20_20 s.1 s.2.1 s.2.2) (x1, x2, M)
noncomputable def f_ju_seekDay (M : dM) : Option (Int32 × dM) :=
  (f_jd_fill_43 0 M).bind fun q1 =>
  (f_jd_fill_44 0 q1).bind fun q3 =>
  (l_ju_seekDay_20 0 0 q3).bind fun r17 => some r17
theorem w_b_ju_seekDay_27_27 (x1 : Int32) (x2 : Int32) (M : dM) {Q : mz_P} {o : ((Int32 × dM) ⊕ (Int32 × dM))} (hf : b_ju_seekDay_27_27 x1 x2 M = some o) (hk : K_ju_seekDay_27 Q x2 M o) : mW mX2_seekDay 3 Q 27 [some (.ref 39), some (.int x1), some (.int x2)] [] M := by
  unfold b_ju_seekDay_27_27 at hf
  refine y_iload_n (i := 1) (n := 28) ⟨dX2_seekDay_27, rfl⟩ rfl ?_
  refine y_aload_n (i := 0) (n := 29) ⟨dX2_seekDay_28, rfl⟩ rfl ?_
  refine y_getR (n := 32) ⟨dX2_seekDay_29, rfl⟩ kfX2_40 l_39 rfl r_39_2 ?_
  refine y_getI (n := 35) ⟨dX2_seekDay_32, rfl⟩ kfX2_51 l_12 rfl ?_
  refine y_icmp_ge (t := 62) (n := 38) ⟨dX2_seekDay_35, rfl, rfl⟩ (fun (hc : (gI M 12 7) ≤ x1) => ?_) (fun (hc : ¬ ((gI M 12 7) ≤ x1)) => ?_)
  · replace hf := i_t hc hf
    cases hf
    exact y_wk ⟨Or.inr rfl, Or.inr rfl, Or.inr rfl, trivial⟩ hk
  · replace hf := i_f hc hf
    refine y_aload_n (i := 0) (n := 39) ⟨dX2_seekDay_38, rfl⟩ rfl ?_
    refine y_getR (n := 42) ⟨dX2_seekDay_39, rfl⟩ kfX2_40 l_39 rfl r_39_2 ?_
    refine y_getR (n := 45) ⟨dX2_seekDay_42, rfl⟩ kfX2_59 l_12 rfl r_12_2 ?_
    refine y_iload_n (i := 1) (n := 46) ⟨dX2_seekDay_45, rfl⟩ rfl ?_
    obtain ⟨hg5, hf⟩ := g_s hf
    refine y_iaload (n := 47) ⟨dX2_seekDay_46, rfl⟩ l_15 hg5 ?_
    refine y_iload_n (i := 2) (n := 48) ⟨dX2_seekDay_47, rfl⟩ rfl ?_
    refine y_icmp_gt (t := 62) (n := 51) ⟨dX2_seekDay_48, rfl, rfl⟩ (fun (hc : x2 < (gI M 15 x1.toNatClampNeg)) => ?_) (fun (hc : ¬ (x2 < (gI M 15 x1.toNatClampNeg))) => ?_)
    · replace hf := i_t hc hf
      cases hf
      exact y_wk ⟨Or.inr rfl, Or.inr rfl, Or.inr rfl, trivial⟩ hk
    · replace hf := i_f hc hf
      refine y_aload_n (i := 0) (n := 52) ⟨dX2_seekDay_51, rfl⟩ rfl ?_
      refine y_iload_n (i := 1) (n := 53) ⟨dX2_seekDay_52, rfl⟩ rfl ?_
      obtain ⟨q6, hv7, hf⟩ := b_s hf
      refine c_ju_addToDay x1 M (n := 56) ⟨dX2_seekDay_53, rfl⟩ klX2_160 hv7 (by decide) (Nat.le_of_ble_eq_true rfl) rfl rfl ?_
      refine y_iinc (i := 1) (n := 59) (b := (x1 + 1)) (L2 := [some (.ref 39), some (.int (x1 + 1)), some (.int x2)]) ⟨dX2_seekDay_56, rfl⟩ rfl (by rw [ki_1]) (by decide) rfl rfl ?_
      refine y_goto (t := 27) ⟨dX2_seekDay_59, rfl, rfl⟩ ?_
      cases hf
      exact y_wk ⟨Or.inr rfl, Or.inr rfl, Or.inr rfl, trivial⟩ hk
theorem wl_ju_seekDay_27 (x1 : Int32) (x2 : Int32) (M : dM) {Q : mz_P} {x : (Int32 × dM)} (hf : l_ju_seekDay_27 x1 x2 M = some x) (hk : K_ju_seekDay_27 Q x2 M (.inr x)) : mW mX2_seekDay 3 Q 27 [some (.ref 39), some (.int x1), some (.int x2)] [] M :=
  lpc_wp (Wh := fun s => mW mX2_seekDay 3 Q 27 [some (.ref 39), some (.int s.1), some (.int x2)] [] s.2) (K := K_ju_seekDay_27 Q x2 M) (fun _ h => h) (fun s o hb hk => w_b_ju_seekDay_27_27 s.1 x2 s.2 hb hk) hf hk
theorem w_b_ju_seekDay_20_62 (x1 : Int32) (x2 : Int32) (M : dM) {Q : mz_P} {o : ((Int32 × Int32 × dM) ⊕ (Int32 × dM))} (hf : b_ju_seekDay_20_62 x1 x2 M = some o) (hk : K_ju_seekDay_20 Q  M o) : mW mX2_seekDay 3 Q 62 [some (.ref 39), some (.int x1), some (.int x2)] [] M := by
  unfold b_ju_seekDay_20_62 at hf
  refine y_aload_n (i := 0) (n := 63) ⟨dX2_seekDay_62, rfl⟩ rfl ?_
  refine y_getR (n := 66) ⟨dX2_seekDay_63, rfl⟩ kfX2_22 l_39 rfl r_39_7 ?_
  refine y_iconst (n := 67) (v := 0) ⟨dX2_seekDay_66, rfl⟩ ki_0 ?_
  refine y_iload_n (i := 2) (n := 68) ⟨dX2_seekDay_67, rfl⟩ rfl ?_
  refine y_iastore (n := 69) ⟨dX2_seekDay_68, rfl⟩ l_43 (by unfold vp_in; decide) ?_
  refine y_aload_n (i := 0) (n := 70) ⟨dX2_seekDay_69, rfl⟩ rfl ?_
  refine y_getR (n := 73) ⟨dX2_seekDay_70, rfl⟩ kfX2_22 l_39 rfl r_39_7 ?_
  refine y_bipush (n := 75) (v := 7) ⟨dX2_seekDay_73, rfl⟩ kb_7 ?_
  refine y_aload_n (i := 0) (n := 76) ⟨dX2_seekDay_75, rfl⟩ rfl ?_
  refine y_getR (n := 79) ⟨dX2_seekDay_76, rfl⟩ kfX2_40 l_39 rfl r_39_2 ?_
  refine y_iload_n (i := 2) (n := 80) ⟨dX2_seekDay_79, rfl⟩ rfl ?_
  obtain ⟨v11, hv12, hf⟩ := b_s hf
  refine c_to_papersUpTo x2 (sI M 43 0 x2) (n := 83) ⟨dX2_seekDay_80, rfl⟩ klX2_164 hv12 (by decide) (Nat.le_of_ble_eq_true rfl) rfl rfl ?_
  refine y_iastore (n := 84) ⟨dX2_seekDay_83, rfl⟩ l_43 (by unfold vp_in; decide) ?_
  refine y_aload_n (i := 0) (n := 85) ⟨dX2_seekDay_84, rfl⟩ rfl ?_
  refine y_getR (n := 88) ⟨dX2_seekDay_85, rfl⟩ kfX2_44 l_39 rfl r_39_3 ?_
  refine y_bipush (n := 90) (v := 20) ⟨dX2_seekDay_88, rfl⟩ kb_20 ?_
  refine y_aload_n (i := 0) (n := 91) ⟨dX2_seekDay_90, rfl⟩ rfl ?_
  refine y_getR (n := 94) ⟨dX2_seekDay_91, rfl⟩ kfX2_22 l_39 rfl r_39_7 ?_
  refine y_iconst (n := 95) (v := 0) ⟨dX2_seekDay_94, rfl⟩ ki_0 ?_
  obtain ⟨q13, hv14, hf⟩ := b_s hf
  refine c_la_valueOf_27_43 20 0 (sI (sI M 43 0 x2) 43 7 v11) (n := 98) ⟨dX2_seekDay_95, rfl⟩ klX2_138 hv14 (by decide) (Nat.le_of_ble_eq_true rfl) rfl rfl ?_
  refine y_if_eq (t := 103) (n := 101) ⟨dX2_seekDay_98, rfl, rfl⟩ (fun (hc : q13.1 = 0) => ?_) (fun (hc : ¬ (q13.1 = 0)) => ?_)
  · replace hf := i_t hc hf
    refine y_iinc (i := 2) (n := 106) (b := (x2 + 1)) (L2 := [some (.ref 39), some (.int x1), some (.int (x2 + 1))]) ⟨dX2_seekDay_103, rfl⟩ rfl (by rw [ki_1]) (by decide) rfl rfl ?_
    refine y_goto (t := 20) ⟨dX2_seekDay_106, rfl, rfl⟩ ?_
    cases hf
    exact y_wk ⟨Or.inr rfl, Or.inr rfl, Or.inr rfl, trivial⟩ hk
  · replace hf := i_f hc hf
    refine y_iload_n (i := 2) (n := 102) ⟨dX2_seekDay_101, rfl⟩ rfl ?_
    cases hf
    exact y_ireturn (n := 103) ⟨dX2_seekDay_102, rfl⟩ rfl rfl hk
theorem w_b_ju_seekDay_20_20 (x1 : Int32) (x2 : Int32) (M : dM) {Q : mz_P} {o : ((Int32 × Int32 × dM) ⊕ (Int32 × dM))} (hf : b_ju_seekDay_20_20 x1 x2 M = some o) (hk : K_ju_seekDay_20 Q  M o) : mW mX2_seekDay 3 Q 20 [some (.ref 39), some (.int x1), some (.int x2)] [] M := by
  unfold b_ju_seekDay_20_20 at hf
  refine y_iload_n (i := 2) (n := 21) ⟨dX2_seekDay_20, rfl⟩ rfl ?_
  refine y_sipush (n := 24) (v := 1000) ⟨dX2_seekDay_21, rfl⟩ ks_1000 ?_
  refine y_icmp_ge (t := 109) (n := 27) ⟨dX2_seekDay_24, rfl, rfl⟩ (fun (hc : 1000 ≤ x2) => ?_) (fun (hc : ¬ (1000 ≤ x2)) => ?_)
  · replace hf := i_t hc hf
    refine y_iconst (n := 110) (v := (-1)) ⟨dX2_seekDay_109, rfl⟩ ki_m1 ?_
    cases hf
    exact y_ireturn (n := 111) ⟨dX2_seekDay_110, rfl⟩ rfl rfl hk
  · replace hf := i_f hc hf
    obtain ⟨t8, hl9, hf⟩ := b_s hf
    refine y_wk ⟨Or.inr rfl, Or.inr rfl, Or.inr rfl, trivial⟩ (wl_ju_seekDay_27 x1 x2 M hl9 ?_)
    show mW mX2_seekDay 3 Q 62 [some (.ref 39), some (.int t8.1), some (.int x2)] [] t8.2
    exact y_wk ⟨Or.inr rfl, Or.inr rfl, Or.inr rfl, trivial⟩ (w_b_ju_seekDay_20_62 t8.1 x2 t8.2 hf hk)
theorem wl_ju_seekDay_20 (x1 : Int32) (x2 : Int32) (M : dM) {Q : mz_P} {x : (Int32 × dM)} (hf : l_ju_seekDay_20 x1 x2 M = some x) (hk : K_ju_seekDay_20 Q  M (.inr x)) : mW mX2_seekDay 3 Q 20 [some (.ref 39), some (.int x1), some (.int x2)] [] M :=
  lpc_wp (Wh := fun s => mW mX2_seekDay 3 Q 20 [some (.ref 39), some (.int s.1), some (.int s.2.1)] [] s.2.2) (K := K_ju_seekDay_20 Q  M) (fun _ h => h) (fun s o hb hk => w_b_ju_seekDay_20_20 s.1 s.2.1 s.2.2 hb hk) hf hk
theorem ok_ju_seekDay  (M : dM) {o : (Int32 × dM)} (hf : f_ju_seekDay M = some o) : mO mX2_seekDay 3 [.ref 39] M (some (.int o.1)) o.2 := by
  refine y_ok (by decide +kernel) (by decide) (L0 := [some (.ref 39), none, none]) rfl ?_
  have hk := mR_mQ (some (.int o.1)) o.2
  generalize mQ _ _ = Q at hk ⊢
  unfold f_ju_seekDay at hf
  refine y_aload_n (i := 0) (n := 1) ⟨dX2_seekDay_0, rfl⟩ rfl ?_
  refine y_getR (n := 4) ⟨dX2_seekDay_1, rfl⟩ kfX2_22 l_39 rfl r_39_7 ?_
  refine y_iconst (n := 5) (v := 0) ⟨dX2_seekDay_4, rfl⟩ ki_0 ?_
  obtain ⟨q1, hv2, hf⟩ := b_s hf
  refine c_jd_fill_43 0 M (n := 8) ⟨dX2_seekDay_5, rfl⟩ klX2_154 hv2 (by decide) (Nat.le_of_ble_eq_true rfl) rfl rfl ?_
  refine y_aload_n (i := 0) (n := 9) ⟨dX2_seekDay_8, rfl⟩ rfl ?_
  refine y_getR (n := 12) ⟨dX2_seekDay_9, rfl⟩ kfX2_25 l_39 rfl r_39_8 ?_
  refine y_iconst (n := 13) (v := 0) ⟨dX2_seekDay_12, rfl⟩ ki_0 ?_
  obtain ⟨q3, hv4, hf⟩ := b_s hf
  refine c_jd_fill_44 0 q1 (n := 16) ⟨dX2_seekDay_13, rfl⟩ klX2_154 hv4 (by decide) (Nat.le_of_ble_eq_true rfl) rfl rfl ?_
  refine y_iconst (n := 17) (v := 0) ⟨dX2_seekDay_16, rfl⟩ ki_0 ?_
  refine y_istore_n (i := 1) (n := 18) (L2 := [some (.ref 39), some (.int 0), none]) ⟨dX2_seekDay_17, rfl⟩ (by decide) rfl rfl ?_
  refine y_iconst (n := 19) (v := 0) ⟨dX2_seekDay_18, rfl⟩ ki_0 ?_
  refine y_istore_n (i := 2) (n := 20) (L2 := [some (.ref 39), some (.int 0), some (.int 0)]) ⟨dX2_seekDay_19, rfl⟩ (by decide) rfl rfl ?_
  obtain ⟨r17, hl16, hf⟩ := b_s hf
  cases hf
  exact y_wk ⟨Or.inr rfl, Or.inr rfl, Or.inr rfl, trivial⟩ (wl_ju_seekDay_20 0 0 q3 hl16 hk)
theorem c_ju_seekDay  (M : dM) {o : (Int32 × dM)} {y : mz_M} {d : Nat} {Q : mz_P} {pc n i : Nat} {L : List (Option Value)} {st : List Value} (h : mz_d y.2.1 pc n 3 (.invokevirtual i)) (hl : mz_ml y.1.cls i yX2_seekDay) (hf : f_ju_seekDay M = some o) (hd : 3 + 1 ≤ d) (hsm : (st.map (fun v => v.category)).sum ≤ 8) (hLr : mz_rL 133 L = true) (hSr : mz_rS 133 st = true) (kk : mW y d Q n L (.int o.1 :: st) o.2) : mW y d Q pc L (.ref 39 :: st) M :=
  y_callV kmX2_seekDay kvX2_seekDay l_39 (by decide +kernel) (by decide +kernel) h hl (ok_ju_seekDay  M hf) (vs := []) rfl rfl hd hsm hLr hSr kk
noncomputable def t_ju_dayOfEnough_30 (y1 : Int32) (M : dM) : Option (Int32 × dM) :=
  some ((gI (sI M 39 9 y1) 39 9), (sI M 39 9 y1))
noncomputable def f_ju_dayOfEnough (M : dM) : Option (Int32 × dM) :=
  if (gI M 39 9) = (-2) then
    (f_la_isTold_27 20 M).bind fun v1 =>
    if v1 = true then
      (f_ju_seekDay M).bind fun q3 =>
      t_ju_dayOfEnough_30 q3.1 q3.2
    else
      t_ju_dayOfEnough_30 (-1) M
  else
    some ((gI M 39 9), M)
theorem w_t_ju_dayOfEnough_30 (y1 : Int32) (M : dM) {Q : mz_P} {o : (Int32 × dM)} (hf : t_ju_dayOfEnough_30 y1 M = some o) (hk : mR Q (some (.int o.1)) o.2) : mW mX2_dayOfEnough 4 Q 30 [some (.ref 39)] [.ref 39, .int y1] M := by
  unfold t_ju_dayOfEnough_30 at hf
  refine y_putI (n := 33) ⟨dX2_dayOfEnough_30, rfl⟩ kfX2_28 l_39 (by decide +kernel) rfl ?_
  refine y_aload_n (i := 0) (n := 34) ⟨dX2_dayOfEnough_33, rfl⟩ rfl ?_
  refine y_getI (n := 37) ⟨dX2_dayOfEnough_34, rfl⟩ kfX2_28 l_39 rfl ?_
  cases hf
  exact y_ireturn (n := 38) ⟨dX2_dayOfEnough_37, rfl⟩ rfl rfl hk
theorem ok_ju_dayOfEnough  (M : dM) {o : (Int32 × dM)} (hf : f_ju_dayOfEnough M = some o) : mO mX2_dayOfEnough 4 [.ref 39] M (some (.int o.1)) o.2 := by
  refine y_ok (by decide +kernel) (by decide) (L0 := [some (.ref 39)]) rfl ?_
  have hk := mR_mQ (some (.int o.1)) o.2
  generalize mQ _ _ = Q at hk ⊢
  unfold f_ju_dayOfEnough at hf
  refine y_aload_n (i := 0) (n := 1) ⟨dX2_dayOfEnough_0, rfl⟩ rfl ?_
  refine y_getI (n := 4) ⟨dX2_dayOfEnough_1, rfl⟩ kfX2_28 l_39 rfl ?_
  refine y_bipush (n := 6) (v := (-2)) ⟨dX2_dayOfEnough_4, rfl⟩ kb_m2 ?_
  refine y_icmp_ne (t := 33) (n := 9) ⟨dX2_dayOfEnough_6, rfl, rfl⟩ (fun (hc : ¬ ((gI M 39 9) = (-2))) => ?_) (fun (hc : (gI M 39 9) = (-2)) => ?_)
  · replace hf := i_f hc hf
    refine y_aload_n (i := 0) (n := 34) ⟨dX2_dayOfEnough_33, rfl⟩ rfl ?_
    refine y_getI (n := 37) ⟨dX2_dayOfEnough_34, rfl⟩ kfX2_28 l_39 rfl ?_
    cases hf
    exact y_ireturn (n := 38) ⟨dX2_dayOfEnough_37, rfl⟩ rfl rfl hk
  · replace hf := i_t hc hf
    refine y_aload_n (i := 0) (n := 10) ⟨dX2_dayOfEnough_9, rfl⟩ rfl ?_
    refine y_aload_n (i := 0) (n := 11) ⟨dX2_dayOfEnough_10, rfl⟩ rfl ?_
    refine y_getR (n := 14) ⟨dX2_dayOfEnough_11, rfl⟩ kfX2_44 l_39 rfl r_39_3 ?_
    refine y_bipush (n := 16) (v := 20) ⟨dX2_dayOfEnough_14, rfl⟩ kb_20 ?_
    obtain ⟨v1, hv2, hf⟩ := b_s hf
    refine c_la_isTold_27 20 M (n := 19) ⟨dX2_dayOfEnough_16, rfl⟩ klX2_146 hv2 (by decide) (Nat.le_of_ble_eq_true rfl) rfl rfl ?_
    refine y_if_eq (t := 29) (n := 22) ⟨dX2_dayOfEnough_19, rfl, rfl⟩ (fun h0 => ?_) (fun h0 => ?_)
    · have hc := bI_0 h0
      replace hf := i_f hc hf
      refine y_iconst (n := 30) (v := (-1)) ⟨dX2_dayOfEnough_29, rfl⟩ ki_m1 ?_
      exact y_wk ⟨Or.inr rfl, trivial⟩ (w_t_ju_dayOfEnough_30 (-1) M hf hk)
    · have hc := bI_1 h0
      replace hf := i_t hc hf
      refine y_aload_n (i := 0) (n := 23) ⟨dX2_dayOfEnough_22, rfl⟩ rfl ?_
      obtain ⟨q3, hv4, hf⟩ := b_s hf
      refine c_ju_seekDay M (n := 26) ⟨dX2_dayOfEnough_23, rfl⟩ klX2_150 hv4 (by decide) (Nat.le_of_ble_eq_true rfl) rfl rfl ?_
      refine y_goto (t := 30) ⟨dX2_dayOfEnough_26, rfl, rfl⟩ ?_
      exact y_wk ⟨Or.inr rfl, trivial⟩ (w_t_ju_dayOfEnough_30 q3.1 q3.2 hf hk)
theorem c_ju_dayOfEnough  (M : dM) {o : (Int32 × dM)} {y : mz_M} {d : Nat} {Q : mz_P} {pc n i : Nat} {L : List (Option Value)} {st : List Value} (h : mz_d y.2.1 pc n 3 (.invokevirtual i)) (hl : mz_ml y.1.cls i yX2_dayOfEnough) (hf : f_ju_dayOfEnough M = some o) (hd : 4 + 1 ≤ d) (hsm : (st.map (fun v => v.category)).sum ≤ 8) (hLr : mz_rL 133 L = true) (hSr : mz_rS 133 st = true) (kk : mW y d Q n L (.int o.1 :: st) o.2) : mW y d Q pc L (.ref 39 :: st) M :=
  y_callV kmX2_dayOfEnough kvX2_dayOfEnough l_39 (by decide +kernel) (by decide +kernel) h hl (ok_ju_dayOfEnough  M hf) (vs := []) rfl rfl hd hsm hLr hSr kk
noncomputable def f_ax_enough (M : dM) : Option (Int32 × dM) :=
  (f_ax_study 1 M).bind fun q1 =>
  (f_ju_dayOfEnough q1).bind fun q3 =>
  some (q3.1, q3.2)
theorem ok_ax_enough  (M : dM) {o : (Int32 × dM)} (hf : f_ax_enough M = some o) : mO mX11_enough 6 [.ref 0] M (some (.int o.1)) o.2 := by
  refine y_ok (by decide +kernel) (by decide) (L0 := [some (.ref 0)]) rfl ?_
  have hk := mR_mQ (some (.int o.1)) o.2
  generalize mQ _ _ = Q at hk ⊢
  unfold f_ax_enough at hf
  refine y_aload_n (i := 0) (n := 1) ⟨dX11_enough_0, rfl⟩ rfl ?_
  refine y_iconst (n := 2) (v := 1) ⟨dX11_enough_1, rfl⟩ ki_1 ?_
  obtain ⟨q1, hv2, hf⟩ := b_s hf
  refine c_ax_study 1 M (n := 5) ⟨dX11_enough_2, rfl⟩ klX11_156 hv2 (by decide) (Nat.le_of_ble_eq_true rfl) rfl rfl ?_
  refine y_aload_n (i := 0) (n := 6) ⟨dX11_enough_5, rfl⟩ rfl ?_
  refine y_getR (n := 9) ⟨dX11_enough_6, rfl⟩ kfX11_56 l_0 rfl r_0_6 ?_
  obtain ⟨q3, hv4, hf⟩ := b_s hf
  refine c_ju_dayOfEnough q1 (n := 12) ⟨dX11_enough_9, rfl⟩ klX11_291 hv4 (by decide) (Nat.le_of_ble_eq_true rfl) rfl rfl ?_
  cases hf
  exact y_ireturn (n := 13) ⟨dX11_enough_12, rfl⟩ rfl rfl hk
theorem c_ax_enough  (M : dM) {o : (Int32 × dM)} {y : mz_M} {d : Nat} {Q : mz_P} {pc n i : Nat} {L : List (Option Value)} {st : List Value} (h : mz_d y.2.1 pc n 3 (.invokevirtual i)) (hl : mz_ml y.1.cls i yX11_enough) (hf : f_ax_enough M = some o) (hd : 6 + 1 ≤ d) (hsm : (st.map (fun v => v.category)).sum ≤ 8) (hLr : mz_rL 133 L = true) (hSr : mz_rS 133 st = true) (kk : mW y d Q n L (.int o.1 :: st) o.2) : mW y d Q pc L (.ref 0 :: st) M :=
  y_callV kmX11_enough kvX11_enough l_0 (by decide +kernel) (by decide +kernel) h hl (ok_ax_enough  M hf) (vs := []) rfl rfl hd hsm hLr hSr kk
noncomputable def f_pl_lay (a1 : Int32) (a3 : Int32) (a4 : Int32) (M : dM) : Option dM :=
  gd (vp_in ((a1 * 5) + 0) 20) <|
  gd (vp_in ((a1 * 5) + 1) 20) <|
  gd (vp_in ((a1 * 5) + 2) 20) <|
  gd (vp_in ((a1 * 5) + 3) 20) <|
  gd (vp_in ((a1 * 5) + 4) 20) <|
  gd (vp_in a1 4) <|
  some (sI (sI (sI (sI (sI (sI (sI M 25 ((a1 * 5) + 0).toNatClampNeg (gI M 12 7)) 25 ((a1 * 5) + 1).toNatClampNeg a3) 25 ((a1 * 5) + 2).toNatClampNeg (gI (sI (sI M 25 ((a1 * 5) + 0).toNatClampNeg (gI M 12 7)) 25 ((a1 * 5) + 1).toNatClampNeg a3) 12 11)) 25 ((a1 * 5) + 3).toNatClampNeg (gI (sI (sI (sI M 25 ((a1 * 5) + 0).toNatClampNeg (gI M 12 7)) 25 ((a1 * 5) + 1).toNatClampNeg a3) 25 ((a1 * 5) + 2).toNatClampNeg (gI (sI (sI M 25 ((a1 * 5) + 0).toNatClampNeg (gI M 12 7)) 25 ((a1 * 5) + 1).toNatClampNeg a3) 12 11)) 12 13)) 25 ((a1 * 5) + 4).toNatClampNeg a4) 24 2 ((gI (sI (sI (sI (sI (sI M 25 ((a1 * 5) + 0).toNatClampNeg (gI M 12 7)) 25 ((a1 * 5) + 1).toNatClampNeg a3) 25 ((a1 * 5) + 2).toNatClampNeg (gI (sI (sI M 25 ((a1 * 5) + 0).toNatClampNeg (gI M 12 7)) 25 ((a1 * 5) + 1).toNatClampNeg a3) 12 11)) 25 ((a1 * 5) + 3).toNatClampNeg (gI (sI (sI (sI M 25 ((a1 * 5) + 0).toNatClampNeg (gI M 12 7)) 25 ((a1 * 5) + 1).toNatClampNeg a3) 25 ((a1 * 5) + 2).toNatClampNeg (gI (sI (sI M 25 ((a1 * 5) + 0).toNatClampNeg (gI M 12 7)) 25 ((a1 * 5) + 1).toNatClampNeg a3) 12 11)) 12 13)) 25 ((a1 * 5) + 4).toNatClampNeg a4) 24 2) + 1)) 26 a1.toNatClampNeg (gI (sI (sI (sI (sI (sI (sI M 25 ((a1 * 5) + 0).toNatClampNeg (gI M 12 7)) 25 ((a1 * 5) + 1).toNatClampNeg a3) 25 ((a1 * 5) + 2).toNatClampNeg (gI (sI (sI M 25 ((a1 * 5) + 0).toNatClampNeg (gI M 12 7)) 25 ((a1 * 5) + 1).toNatClampNeg a3) 12 11)) 25 ((a1 * 5) + 3).toNatClampNeg (gI (sI (sI (sI M 25 ((a1 * 5) + 0).toNatClampNeg (gI M 12 7)) 25 ((a1 * 5) + 1).toNatClampNeg a3) 25 ((a1 * 5) + 2).toNatClampNeg (gI (sI (sI M 25 ((a1 * 5) + 0).toNatClampNeg (gI M 12 7)) 25 ((a1 * 5) + 1).toNatClampNeg a3) 12 11)) 12 13)) 25 ((a1 * 5) + 4).toNatClampNeg a4) 24 2 ((gI (sI (sI (sI (sI (sI M 25 ((a1 * 5) + 0).toNatClampNeg (gI M 12 7)) 25 ((a1 * 5) + 1).toNatClampNeg a3) 25 ((a1 * 5) + 2).toNatClampNeg (gI (sI (sI M 25 ((a1 * 5) + 0).toNatClampNeg (gI M 12 7)) 25 ((a1 * 5) + 1).toNatClampNeg a3) 12 11)) 25 ((a1 * 5) + 3).toNatClampNeg (gI (sI (sI (sI M 25 ((a1 * 5) + 0).toNatClampNeg (gI M 12 7)) 25 ((a1 * 5) + 1).toNatClampNeg a3) 25 ((a1 * 5) + 2).toNatClampNeg (gI (sI (sI M 25 ((a1 * 5) + 0).toNatClampNeg (gI M 12 7)) 25 ((a1 * 5) + 1).toNatClampNeg a3) 12 11)) 12 13)) 25 ((a1 * 5) + 4).toNatClampNeg a4) 24 2) + 1)) 24 2))
theorem ok_pl_lay (a1 : Int32) (a3 : Int32) (a4 : Int32) (M : dM) {o : dM} (hf : f_pl_lay a1 a3 a4 M = some o) : mO mX5_lay 1 [.ref 24, .int a1, .ref 12, .int a3, .int a4] M none o := by
  refine y_ok (by decide +kernel) (by decide) (L0 := [some (.ref 24), some (.int a1), some (.ref 12), some (.int a3), some (.int a4), none]) rfl ?_
  have hk := mR_mQ none o
  generalize mQ _ _ = Q at hk ⊢
  unfold f_pl_lay at hf
  refine y_iload_n (i := 1) (n := 1) ⟨dX5_lay_0, rfl⟩ rfl ?_
  refine y_iconst (n := 2) (v := 5) ⟨dX5_lay_1, rfl⟩ ki_5 ?_
  refine y_imul (n := 3) ⟨dX5_lay_2, rfl⟩ ?_
  refine y_istore (i := 5) (n := 5) (L2 := [some (.ref 24), some (.int a1), some (.ref 12), some (.int a3), some (.int a4), some (.int (a1 * 5))]) ⟨dX5_lay_3, rfl⟩ (by decide) rfl rfl ?_
  refine y_aload_n (i := 0) (n := 6) ⟨dX5_lay_5, rfl⟩ rfl ?_
  refine y_getR (n := 9) ⟨dX5_lay_6, rfl⟩ kfX5_11 l_24 rfl r_24_0 ?_
  refine y_iload (i := 5) (n := 11) ⟨dX5_lay_9, rfl⟩ rfl ?_
  refine y_iconst (n := 12) (v := 0) ⟨dX5_lay_11, rfl⟩ ki_0 ?_
  refine y_iadd (n := 13) ⟨dX5_lay_12, rfl⟩ ?_
  refine y_aload_n (i := 2) (n := 14) ⟨dX5_lay_13, rfl⟩ rfl ?_
  refine y_getI (n := 17) ⟨dX5_lay_14, rfl⟩ kfX5_18 l_12 rfl ?_
  obtain ⟨hg1, hf⟩ := g_s hf
  refine y_iastore (n := 18) ⟨dX5_lay_17, rfl⟩ l_25 hg1 ?_
  refine y_aload_n (i := 0) (n := 19) ⟨dX5_lay_18, rfl⟩ rfl ?_
  refine y_getR (n := 22) ⟨dX5_lay_19, rfl⟩ kfX5_11 l_24 rfl r_24_0 ?_
  refine y_iload (i := 5) (n := 24) ⟨dX5_lay_22, rfl⟩ rfl ?_
  refine y_iconst (n := 25) (v := 1) ⟨dX5_lay_24, rfl⟩ ki_1 ?_
  refine y_iadd (n := 26) ⟨dX5_lay_25, rfl⟩ ?_
  refine y_iload_n (i := 3) (n := 27) ⟨dX5_lay_26, rfl⟩ rfl ?_
  obtain ⟨hg2, hf⟩ := g_s hf
  refine y_iastore (n := 28) ⟨dX5_lay_27, rfl⟩ l_25 hg2 ?_
  refine y_aload_n (i := 0) (n := 29) ⟨dX5_lay_28, rfl⟩ rfl ?_
  refine y_getR (n := 32) ⟨dX5_lay_29, rfl⟩ kfX5_11 l_24 rfl r_24_0 ?_
  refine y_iload (i := 5) (n := 34) ⟨dX5_lay_32, rfl⟩ rfl ?_
  refine y_iconst (n := 35) (v := 2) ⟨dX5_lay_34, rfl⟩ ki_2 ?_
  refine y_iadd (n := 36) ⟨dX5_lay_35, rfl⟩ ?_
  refine y_aload_n (i := 2) (n := 37) ⟨dX5_lay_36, rfl⟩ rfl ?_
  refine y_getI (n := 40) ⟨dX5_lay_37, rfl⟩ kfX5_24 l_12 rfl ?_
  obtain ⟨hg3, hf⟩ := g_s hf
  refine y_iastore (n := 41) ⟨dX5_lay_40, rfl⟩ l_25 hg3 ?_
  refine y_aload_n (i := 0) (n := 42) ⟨dX5_lay_41, rfl⟩ rfl ?_
  refine y_getR (n := 45) ⟨dX5_lay_42, rfl⟩ kfX5_11 l_24 rfl r_24_0 ?_
  refine y_iload (i := 5) (n := 47) ⟨dX5_lay_45, rfl⟩ rfl ?_
  refine y_iconst (n := 48) (v := 3) ⟨dX5_lay_47, rfl⟩ ki_3 ?_
  refine y_iadd (n := 49) ⟨dX5_lay_48, rfl⟩ ?_
  refine y_aload_n (i := 2) (n := 50) ⟨dX5_lay_49, rfl⟩ rfl ?_
  refine y_getI (n := 53) ⟨dX5_lay_50, rfl⟩ kfX5_27 l_12 rfl ?_
  obtain ⟨hg4, hf⟩ := g_s hf
  refine y_iastore (n := 54) ⟨dX5_lay_53, rfl⟩ l_25 hg4 ?_
  refine y_aload_n (i := 0) (n := 55) ⟨dX5_lay_54, rfl⟩ rfl ?_
  refine y_getR (n := 58) ⟨dX5_lay_55, rfl⟩ kfX5_11 l_24 rfl r_24_0 ?_
  refine y_iload (i := 5) (n := 60) ⟨dX5_lay_58, rfl⟩ rfl ?_
  refine y_iconst (n := 61) (v := 4) ⟨dX5_lay_60, rfl⟩ ki_4 ?_
  refine y_iadd (n := 62) ⟨dX5_lay_61, rfl⟩ ?_
  refine y_iload (i := 4) (n := 64) ⟨dX5_lay_62, rfl⟩ rfl ?_
  obtain ⟨hg5, hf⟩ := g_s hf
  refine y_iastore (n := 65) ⟨dX5_lay_64, rfl⟩ l_25 hg5 ?_
  refine y_aload_n (i := 0) (n := 66) ⟨dX5_lay_65, rfl⟩ rfl ?_
  refine y_dup_r (n := 67) ⟨dX5_lay_66, rfl⟩ ?_
  refine y_getI (n := 70) ⟨dX5_lay_67, rfl⟩ kfX5_30 l_24 rfl ?_
  refine y_iconst (n := 71) (v := 1) ⟨dX5_lay_70, rfl⟩ ki_1 ?_
  refine y_iadd (n := 72) ⟨dX5_lay_71, rfl⟩ ?_
  refine y_putI (n := 75) ⟨dX5_lay_72, rfl⟩ kfX5_30 l_24 (by decide +kernel) rfl ?_
  refine y_aload_n (i := 0) (n := 76) ⟨dX5_lay_75, rfl⟩ rfl ?_
  refine y_getR (n := 79) ⟨dX5_lay_76, rfl⟩ kfX5_15 l_24 rfl r_24_1 ?_
  refine y_iload_n (i := 1) (n := 80) ⟨dX5_lay_79, rfl⟩ rfl ?_
  refine y_aload_n (i := 0) (n := 81) ⟨dX5_lay_80, rfl⟩ rfl ?_
  refine y_getI (n := 84) ⟨dX5_lay_81, rfl⟩ kfX5_30 l_24 rfl ?_
  obtain ⟨hg6, hf⟩ := g_s hf
  refine y_iastore (n := 85) ⟨dX5_lay_84, rfl⟩ l_26 hg6 ?_
  cases hf
  exact y_return (n := 86) ⟨dX5_lay_85, rfl⟩ rfl hk
theorem c_pl_lay (a1 : Int32) (a3 : Int32) (a4 : Int32) (M : dM) {o : dM} {y : mz_M} {d : Nat} {Q : mz_P} {pc n i : Nat} {L : List (Option Value)} {st : List Value} (h : mz_d y.2.1 pc n 3 (.invokevirtual i)) (hl : mz_ml y.1.cls i yX5_lay) (hf : f_pl_lay a1 a3 a4 M = some o) (hd : 1 + 1 ≤ d) (hsm : (st.map (fun v => v.category)).sum ≤ 8) (hLr : mz_rL 133 L = true) (hSr : mz_rS 133 st = true) (kk : mW y d Q n L st o) : mW y d Q pc L (.int a4 :: .int a3 :: .ref 12 :: .int a1 :: .ref 24 :: st) M :=
  y_callV kmX5_lay kvX5_lay l_24 (by decide +kernel) (by decide +kernel) h hl (ok_pl_lay a1 a3 a4 M hf) (vs := [.int a1, .ref 12, .int a3, .int a4]) rfl rfl hd hsm hLr hSr kk
def K_pl_goBack_13 (Q : mz_P) (x1 : Int32) (M : dM) : ((Int32 × dM) ⊕ (Bool × dM)) → Prop
  | .inl s => mW mX5_goBack 1 Q 13 [some (.ref 24), some (.int x1), some (.int s.1)] [] s.2
  | .inr r => mR Q (some (.int (bI r.1))) r.2
noncomputable def b_pl_goBack_13_13 (x1 : Int32) (x2 : Int32) (M : dM) : Option ((Int32 × dM) ⊕ (Bool × dM)) :=
  if 4 ≤ x2 then
    some (.inr (true, M))
  else
    gd (vp_in x2 4) <|
    gd (vp_in x1 4) <|
    if (gI M 26 x2.toNatClampNeg) ≤ (gI M 26 x1.toNatClampNeg) then
      some (.inl ((x2 + 1), M))
    else
      some (.inl ((x2 + 1), (sI M 26 x2.toNatClampNeg 0)))
noncomputable def l_pl_goBack_13 (x1 : Int32) (x2 : Int32) (M : dM) : Option (Bool × dM) := lpc (fun s => b_pl_goBack_13_13 x1 s.1 s.2) (x2, M)
noncomputable def f_pl_goBack (a1 : Int32) (M : dM) : Option (Bool × dM) :=
  gd (vp_in a1 4) <|
  if (gI M 26 a1.toNatClampNeg) = 0 then
    some (false, M)
  else
    (l_pl_goBack_13 a1 0 M).bind fun r6 => some r6
theorem w_b_pl_goBack_13_13 (x1 : Int32) (x2 : Int32) (M : dM) {Q : mz_P} {o : ((Int32 × dM) ⊕ (Bool × dM))} (hf : b_pl_goBack_13_13 x1 x2 M = some o) (hk : K_pl_goBack_13 Q x1 M o) : mW mX5_goBack 1 Q 13 [some (.ref 24), some (.int x1), some (.int x2)] [] M := by
  unfold b_pl_goBack_13_13 at hf
  refine y_iload_n (i := 2) (n := 14) ⟨dX5_goBack_13, rfl⟩ rfl ?_
  refine y_iconst (n := 15) (v := 4) ⟨dX5_goBack_14, rfl⟩ ki_4 ?_
  refine y_icmp_ge (t := 46) (n := 18) ⟨dX5_goBack_15, rfl, rfl⟩ (fun (hc : 4 ≤ x2) => ?_) (fun (hc : ¬ (4 ≤ x2)) => ?_)
  · replace hf := i_t hc hf
    refine y_iconst (n := 47) (v := 1) ⟨dX5_goBack_46, rfl⟩ ki_1 ?_
    cases hf
    exact y_ireturn (n := 48) ⟨dX5_goBack_47, rfl⟩ rfl rfl hk
  · replace hf := i_f hc hf
    refine y_aload_n (i := 0) (n := 19) ⟨dX5_goBack_18, rfl⟩ rfl ?_
    refine y_getR (n := 22) ⟨dX5_goBack_19, rfl⟩ kfX5_15 l_24 rfl r_24_1 ?_
    refine y_iload_n (i := 2) (n := 23) ⟨dX5_goBack_22, rfl⟩ rfl ?_
    obtain ⟨hg2, hf⟩ := g_s hf
    refine y_iaload (n := 24) ⟨dX5_goBack_23, rfl⟩ l_26 hg2 ?_
    refine y_aload_n (i := 0) (n := 25) ⟨dX5_goBack_24, rfl⟩ rfl ?_
    refine y_getR (n := 28) ⟨dX5_goBack_25, rfl⟩ kfX5_15 l_24 rfl r_24_1 ?_
    refine y_iload_n (i := 1) (n := 29) ⟨dX5_goBack_28, rfl⟩ rfl ?_
    obtain ⟨hg3, hf⟩ := g_s hf
    refine y_iaload (n := 30) ⟨dX5_goBack_29, rfl⟩ l_26 hg3 ?_
    refine y_icmp_le (t := 40) (n := 33) ⟨dX5_goBack_30, rfl, rfl⟩ (fun (hc : (gI M 26 x2.toNatClampNeg) ≤ (gI M 26 x1.toNatClampNeg)) => ?_) (fun (hc : ¬ ((gI M 26 x2.toNatClampNeg) ≤ (gI M 26 x1.toNatClampNeg))) => ?_)
    · replace hf := i_t hc hf
      refine y_iinc (i := 2) (n := 43) (b := (x2 + 1)) (L2 := [some (.ref 24), some (.int x1), some (.int (x2 + 1))]) ⟨dX5_goBack_40, rfl⟩ rfl (by rw [ki_1]) (by decide) rfl rfl ?_
      refine y_goto (t := 13) ⟨dX5_goBack_43, rfl, rfl⟩ ?_
      cases hf
      exact y_wk ⟨Or.inr rfl, Or.inr rfl, Or.inr rfl, trivial⟩ hk
    · replace hf := i_f hc hf
      refine y_aload_n (i := 0) (n := 34) ⟨dX5_goBack_33, rfl⟩ rfl ?_
      refine y_getR (n := 37) ⟨dX5_goBack_34, rfl⟩ kfX5_15 l_24 rfl r_24_1 ?_
      refine y_iload_n (i := 2) (n := 38) ⟨dX5_goBack_37, rfl⟩ rfl ?_
      refine y_iconst (n := 39) (v := 0) ⟨dX5_goBack_38, rfl⟩ ki_0 ?_
      refine y_iastore (n := 40) ⟨dX5_goBack_39, rfl⟩ l_26 hg2 ?_
      refine y_iinc (i := 2) (n := 43) (b := (x2 + 1)) (L2 := [some (.ref 24), some (.int x1), some (.int (x2 + 1))]) ⟨dX5_goBack_40, rfl⟩ rfl (by rw [ki_1]) (by decide) rfl rfl ?_
      refine y_goto (t := 13) ⟨dX5_goBack_43, rfl, rfl⟩ ?_
      cases hf
      exact y_wk ⟨Or.inr rfl, Or.inr rfl, Or.inr rfl, trivial⟩ hk
theorem wl_pl_goBack_13 (x1 : Int32) (x2 : Int32) (M : dM) {Q : mz_P} {x : (Bool × dM)} (hf : l_pl_goBack_13 x1 x2 M = some x) (hk : K_pl_goBack_13 Q x1 M (.inr x)) : mW mX5_goBack 1 Q 13 [some (.ref 24), some (.int x1), some (.int x2)] [] M :=
  lpc_wp (Wh := fun s => mW mX5_goBack 1 Q 13 [some (.ref 24), some (.int x1), some (.int s.1)] [] s.2) (K := K_pl_goBack_13 Q x1 M) (fun _ h => h) (fun s o hb hk => w_b_pl_goBack_13_13 x1 s.1 s.2 hb hk) hf hk
theorem ok_pl_goBack (a1 : Int32) (M : dM) {o : (Bool × dM)} (hf : f_pl_goBack a1 M = some o) : mO mX5_goBack 1 [.ref 24, .int a1] M (some (.int (bI o.1))) o.2 := by
  refine y_ok (by decide +kernel) (by decide) (L0 := [some (.ref 24), some (.int a1), none]) rfl ?_
  have hk := mR_mQ (some (.int (bI o.1))) o.2
  generalize mQ _ _ = Q at hk ⊢
  unfold f_pl_goBack at hf
  refine y_aload_n (i := 0) (n := 1) ⟨dX5_goBack_0, rfl⟩ rfl ?_
  refine y_getR (n := 4) ⟨dX5_goBack_1, rfl⟩ kfX5_15 l_24 rfl r_24_1 ?_
  refine y_iload_n (i := 1) (n := 5) ⟨dX5_goBack_4, rfl⟩ rfl ?_
  obtain ⟨hg1, hf⟩ := g_s hf
  refine y_iaload (n := 6) ⟨dX5_goBack_5, rfl⟩ l_26 hg1 ?_
  refine y_if_ne (t := 11) (n := 9) ⟨dX5_goBack_6, rfl, rfl⟩ (fun (hc : ¬ ((gI M 26 a1.toNatClampNeg) = 0)) => ?_) (fun (hc : (gI M 26 a1.toNatClampNeg) = 0) => ?_)
  · replace hf := i_f hc hf
    refine y_iconst (n := 12) (v := 0) ⟨dX5_goBack_11, rfl⟩ ki_0 ?_
    refine y_istore_n (i := 2) (n := 13) (L2 := [some (.ref 24), some (.int a1), some (.int 0)]) ⟨dX5_goBack_12, rfl⟩ (by decide) rfl rfl ?_
    obtain ⟨r6, hl5, hf⟩ := b_s hf
    cases hf
    exact y_wk ⟨Or.inr rfl, Or.inr rfl, Or.inr rfl, trivial⟩ (wl_pl_goBack_13 a1 0 M hl5 hk)
  · replace hf := i_t hc hf
    refine y_iconst (n := 10) (v := 0) ⟨dX5_goBack_9, rfl⟩ ki_0 ?_
    cases hf
    exact y_ireturn (n := 11) ⟨dX5_goBack_10, rfl⟩ rfl rfl hk
theorem c_pl_goBack (a1 : Int32) (M : dM) {o : (Bool × dM)} {y : mz_M} {d : Nat} {Q : mz_P} {pc n i : Nat} {L : List (Option Value)} {st : List Value} (h : mz_d y.2.1 pc n 3 (.invokevirtual i)) (hl : mz_ml y.1.cls i yX5_goBack) (hf : f_pl_goBack a1 M = some o) (hd : 1 + 1 ≤ d) (hsm : (st.map (fun v => v.category)).sum ≤ 8) (hLr : mz_rL 133 L = true) (hSr : mz_rS 133 st = true) (kk : mW y d Q n L (.int (bI o.1) :: st) o.2) : mW y d Q pc L (.int a1 :: .ref 24 :: st) M :=
  y_callV kmX5_goBack kvX5_goBack l_24 (by decide +kernel) (by decide +kernel) h hl (ok_pl_goBack a1 M hf) (vs := [.int a1]) rfl rfl hd hsm hLr hSr kk
noncomputable def f_pl_kept (a1 : Int32) (a2 : Int32) (M : dM) : Option Int32 :=
  gd (vp_in ((a1 * 5) + a2) 20) <|
  some (gI M 25 ((a1 * 5) + a2).toNatClampNeg)
theorem ok_pl_kept (a1 : Int32) (a2 : Int32) (M : dM) {o : Int32} (hf : f_pl_kept a1 a2 M = some o) : mO mX5_kept 1 [.ref 24, .int a1, .int a2] M (some (.int o)) M := by
  refine y_ok (by decide +kernel) (by decide) (L0 := [some (.ref 24), some (.int a1), some (.int a2)]) rfl ?_
  have hk := mR_mQ (some (.int o)) M
  generalize mQ _ _ = Q at hk ⊢
  unfold f_pl_kept at hf
  refine y_aload_n (i := 0) (n := 1) ⟨dX5_kept_0, rfl⟩ rfl ?_
  refine y_getR (n := 4) ⟨dX5_kept_1, rfl⟩ kfX5_11 l_24 rfl r_24_0 ?_
  refine y_iload_n (i := 1) (n := 5) ⟨dX5_kept_4, rfl⟩ rfl ?_
  refine y_iconst (n := 6) (v := 5) ⟨dX5_kept_5, rfl⟩ ki_5 ?_
  refine y_imul (n := 7) ⟨dX5_kept_6, rfl⟩ ?_
  refine y_iload_n (i := 2) (n := 8) ⟨dX5_kept_7, rfl⟩ rfl ?_
  refine y_iadd (n := 9) ⟨dX5_kept_8, rfl⟩ ?_
  obtain ⟨hg1, hf⟩ := g_s hf
  refine y_iaload (n := 10) ⟨dX5_kept_9, rfl⟩ l_25 hg1 ?_
  cases hf
  exact y_ireturn (n := 11) ⟨dX5_kept_10, rfl⟩ rfl rfl hk
theorem c_pl_kept (a1 : Int32) (a2 : Int32) (M : dM) {o : Int32} {y : mz_M} {d : Nat} {Q : mz_P} {pc n i : Nat} {L : List (Option Value)} {st : List Value} (h : mz_d y.2.1 pc n 3 (.invokevirtual i)) (hl : mz_ml y.1.cls i yX5_kept) (hf : f_pl_kept a1 a2 M = some o) (hd : 1 + 1 ≤ d) (hsm : (st.map (fun v => v.category)).sum ≤ 8) (hLr : mz_rL 133 L = true) (hSr : mz_rS 133 st = true) (kk : mW y d Q n L (.int o :: st) M) : mW y d Q pc L (.int a2 :: .int a1 :: .ref 24 :: st) M :=
  y_callV kmX5_kept kvX5_kept l_24 (by decide +kernel) (by decide +kernel) h hl (ok_pl_kept a1 a2 M hf) (vs := [.int a1, .int a2]) rfl rfl hd hsm hLr hSr kk
noncomputable def f_li_keepFirst (a1 : Int32) (M : dM) : Option dM :=
  some (sI (sI M 6 5 a1) 6 6 0)
theorem ok_li_keepFirst (a1 : Int32) (M : dM) {o : dM} (hf : f_li_keepFirst a1 M = some o) : mO mX4_keepFirst 1 [.ref 6, .int a1] M none o := by
  refine y_ok (by decide +kernel) (by decide) (L0 := [some (.ref 6), some (.int a1)]) rfl ?_
  have hk := mR_mQ none o
  generalize mQ _ _ = Q at hk ⊢
  unfold f_li_keepFirst at hf
  refine y_aload_n (i := 0) (n := 1) ⟨dX4_keepFirst_0, rfl⟩ rfl ?_
  refine y_iload_n (i := 1) (n := 2) ⟨dX4_keepFirst_1, rfl⟩ rfl ?_
  refine y_putI (n := 5) ⟨dX4_keepFirst_2, rfl⟩ kfX4_27 l_6 (by decide +kernel) rfl ?_
  refine y_aload_n (i := 0) (n := 6) ⟨dX4_keepFirst_5, rfl⟩ rfl ?_
  refine y_iconst (n := 7) (v := 0) ⟨dX4_keepFirst_6, rfl⟩ ki_0 ?_
  refine y_putZ (n := 10) ⟨dX4_keepFirst_7, rfl⟩ kfX4_35 l_6 (by decide +kernel) rfl (by decide) ?_
  cases hf
  exact y_return (n := 11) ⟨dX4_keepFirst_10, rfl⟩ rfl hk
theorem c_li_keepFirst (a1 : Int32) (M : dM) {o : dM} {y : mz_M} {d : Nat} {Q : mz_P} {pc n i : Nat} {L : List (Option Value)} {st : List Value} (h : mz_d y.2.1 pc n 3 (.invokevirtual i)) (hl : mz_ml y.1.cls i yX4_keepFirst) (hf : f_li_keepFirst a1 M = some o) (hd : 1 + 1 ≤ d) (hsm : (st.map (fun v => v.category)).sum ≤ 8) (hLr : mz_rL 133 L = true) (hSr : mz_rS 133 st = true) (kk : mW y d Q n L st o) : mW y d Q pc L (.int a1 :: .ref 6 :: st) M :=
  y_callV kmX4_keepFirst kvX4_keepFirst l_6 (by decide +kernel) (by decide +kernel) h hl (ok_li_keepFirst a1 M hf) (vs := [.int a1]) rfl rfl hd hsm hLr hSr kk
noncomputable def f_ax_mark (a1 : Int32) (a2 : Int32) (M : dM) : Option (Bool × dM) :=
  if (f_ax_within a1 4) = true then
    if a2 = 0 then
      (f_pl_lay a1 (gI M 6 5) (gI M 50 4) M).bind fun q16 =>
      some (true, q16)
    else
      (f_pl_goBack a1 M).bind fun q1 =>
      if q1.1 = true then
        (f_pl_kept a1 0 q1.2).bind fun v3 =>
        (f_pl_kept a1 2 (sI q1.2 12 7 v3)).bind fun v5 =>
        (f_pl_kept a1 3 (sI (sI q1.2 12 7 v3) 12 11 v5)).bind fun v7 =>
        (f_pl_kept a1 1 (sI (sI (sI q1.2 12 7 v3) 12 11 v5) 12 13 v7)).bind fun v9 =>
        (f_li_keepFirst v9 (sI (sI (sI q1.2 12 7 v3) 12 11 v5) 12 13 v7)).bind fun q11 =>
        (f_pl_kept a1 4 q11).bind fun v13 =>
        some (true, (f_ax_changed (sI q11 50 4 v13)))
      else
        some (false, q1.2)
  else
    some (false, M)
theorem ok_ax_mark (a1 : Int32) (a2 : Int32) (M : dM) {o : (Bool × dM)} (hf : f_ax_mark a1 a2 M = some o) : mO mX11_mark 3 [.ref 0, .int a1, .int a2] M (some (.int (bI o.1))) o.2 := by
  refine y_ok (by decide +kernel) (by decide) (L0 := [some (.ref 0), some (.int a1), some (.int a2)]) rfl ?_
  have hk := mR_mQ (some (.int (bI o.1))) o.2
  generalize mQ _ _ = Q at hk ⊢
  unfold f_ax_mark at hf
  refine y_iload_n (i := 1) (n := 1) ⟨dX11_mark_0, rfl⟩ rfl ?_
  refine y_iconst (n := 2) (v := 4) ⟨dX11_mark_1, rfl⟩ ki_4 ?_
  refine c_ax_within a1 4 M (n := 5) ⟨dX11_mark_2, rfl⟩ klX11_91 rfl (by decide) (Nat.le_of_ble_eq_true rfl) rfl rfl ?_
  refine y_if_ne (t := 10) (n := 8) ⟨dX11_mark_5, rfl, rfl⟩ (fun h0 => ?_) (fun h0 => ?_)
  · have hc := bI_1 h0
    replace hf := i_t hc hf
    refine y_iload_n (i := 2) (n := 11) ⟨dX11_mark_10, rfl⟩ rfl ?_
    refine y_if_ne (t := 42) (n := 14) ⟨dX11_mark_11, rfl, rfl⟩ (fun (hc : ¬ (a2 = 0)) => ?_) (fun (hc : a2 = 0) => ?_)
    · replace hf := i_f hc hf
      refine y_aload_n (i := 0) (n := 43) ⟨dX11_mark_42, rfl⟩ rfl ?_
      refine y_getR (n := 46) ⟨dX11_mark_43, rfl⟩ kfX11_33 l_0 rfl r_0_3 ?_
      refine y_iload_n (i := 1) (n := 47) ⟨dX11_mark_46, rfl⟩ rfl ?_
      obtain ⟨q1, hv2, hf⟩ := b_s hf
      refine c_pl_goBack a1 M (n := 50) ⟨dX11_mark_47, rfl⟩ klX11_300 hv2 (by decide) (Nat.le_of_ble_eq_true rfl) rfl rfl ?_
      refine y_if_ne (t := 55) (n := 53) ⟨dX11_mark_50, rfl, rfl⟩ (fun h0 => ?_) (fun h0 => ?_)
      · have hc := bI_1 h0
        replace hf := i_t hc hf
        refine y_aload_n (i := 0) (n := 56) ⟨dX11_mark_55, rfl⟩ rfl ?_
        refine y_getR (n := 59) ⟨dX11_mark_56, rfl⟩ kfX11_26 l_0 rfl r_0_2 ?_
        refine y_aload_n (i := 0) (n := 60) ⟨dX11_mark_59, rfl⟩ rfl ?_
        refine y_getR (n := 63) ⟨dX11_mark_60, rfl⟩ kfX11_33 l_0 rfl r_0_3 ?_
        refine y_iload_n (i := 1) (n := 64) ⟨dX11_mark_63, rfl⟩ rfl ?_
        refine y_iconst (n := 65) (v := 0) ⟨dX11_mark_64, rfl⟩ ki_0 ?_
        obtain ⟨v3, hv4, hf⟩ := b_s hf
        refine c_pl_kept a1 0 q1.2 (n := 68) ⟨dX11_mark_65, rfl⟩ klX11_303 hv4 (by decide) (Nat.le_of_ble_eq_true rfl) rfl rfl ?_
        refine y_putI (n := 71) ⟨dX11_mark_68, rfl⟩ kfX11_146 l_12 (by decide +kernel) rfl ?_
        refine y_aload_n (i := 0) (n := 72) ⟨dX11_mark_71, rfl⟩ rfl ?_
        refine y_getR (n := 75) ⟨dX11_mark_72, rfl⟩ kfX11_26 l_0 rfl r_0_2 ?_
        refine y_aload_n (i := 0) (n := 76) ⟨dX11_mark_75, rfl⟩ rfl ?_
        refine y_getR (n := 79) ⟨dX11_mark_76, rfl⟩ kfX11_33 l_0 rfl r_0_3 ?_
        refine y_iload_n (i := 1) (n := 80) ⟨dX11_mark_79, rfl⟩ rfl ?_
        refine y_iconst (n := 81) (v := 2) ⟨dX11_mark_80, rfl⟩ ki_2 ?_
        obtain ⟨v5, hv6, hf⟩ := b_s hf
        refine c_pl_kept a1 2 (sI q1.2 12 7 v3) (n := 84) ⟨dX11_mark_81, rfl⟩ klX11_303 hv6 (by decide) (Nat.le_of_ble_eq_true rfl) rfl rfl ?_
        refine y_putI (n := 87) ⟨dX11_mark_84, rfl⟩ kfX11_306 l_12 (by decide +kernel) rfl ?_
        refine y_aload_n (i := 0) (n := 88) ⟨dX11_mark_87, rfl⟩ rfl ?_
        refine y_getR (n := 91) ⟨dX11_mark_88, rfl⟩ kfX11_26 l_0 rfl r_0_2 ?_
        refine y_aload_n (i := 0) (n := 92) ⟨dX11_mark_91, rfl⟩ rfl ?_
        refine y_getR (n := 95) ⟨dX11_mark_92, rfl⟩ kfX11_33 l_0 rfl r_0_3 ?_
        refine y_iload_n (i := 1) (n := 96) ⟨dX11_mark_95, rfl⟩ rfl ?_
        refine y_iconst (n := 97) (v := 3) ⟨dX11_mark_96, rfl⟩ ki_3 ?_
        obtain ⟨v7, hv8, hf⟩ := b_s hf
        refine c_pl_kept a1 3 (sI (sI q1.2 12 7 v3) 12 11 v5) (n := 100) ⟨dX11_mark_97, rfl⟩ klX11_303 hv8 (by decide) (Nat.le_of_ble_eq_true rfl) rfl rfl ?_
        refine y_putI (n := 103) ⟨dX11_mark_100, rfl⟩ kfX11_309 l_12 (by decide +kernel) rfl ?_
        refine y_aload_n (i := 0) (n := 104) ⟨dX11_mark_103, rfl⟩ rfl ?_
        refine y_getR (n := 107) ⟨dX11_mark_104, rfl⟩ kfX11_19 l_0 rfl r_0_1 ?_
        refine y_aload_n (i := 0) (n := 108) ⟨dX11_mark_107, rfl⟩ rfl ?_
        refine y_getR (n := 111) ⟨dX11_mark_108, rfl⟩ kfX11_33 l_0 rfl r_0_3 ?_
        refine y_iload_n (i := 1) (n := 112) ⟨dX11_mark_111, rfl⟩ rfl ?_
        refine y_iconst (n := 113) (v := 1) ⟨dX11_mark_112, rfl⟩ ki_1 ?_
        obtain ⟨v9, hv10, hf⟩ := b_s hf
        refine c_pl_kept a1 1 (sI (sI (sI q1.2 12 7 v3) 12 11 v5) 12 13 v7) (n := 116) ⟨dX11_mark_113, rfl⟩ klX11_303 hv10 (by decide) (Nat.le_of_ble_eq_true rfl) rfl rfl ?_
        obtain ⟨q11, hv12, hf⟩ := b_s hf
        refine c_li_keepFirst v9 (sI (sI (sI q1.2 12 7 v3) 12 11 v5) 12 13 v7) (n := 119) ⟨dX11_mark_116, rfl⟩ klX11_312 hv12 (by decide) (Nat.le_of_ble_eq_true rfl) rfl rfl ?_
        refine y_aload_n (i := 0) (n := 120) ⟨dX11_mark_119, rfl⟩ rfl ?_
        refine y_getR (n := 123) ⟨dX11_mark_120, rfl⟩ kfX11_74 l_0 rfl r_0_8 ?_
        refine y_aload_n (i := 0) (n := 124) ⟨dX11_mark_123, rfl⟩ rfl ?_
        refine y_getR (n := 127) ⟨dX11_mark_124, rfl⟩ kfX11_33 l_0 rfl r_0_3 ?_
        refine y_iload_n (i := 1) (n := 128) ⟨dX11_mark_127, rfl⟩ rfl ?_
        refine y_iconst (n := 129) (v := 4) ⟨dX11_mark_128, rfl⟩ ki_4 ?_
        obtain ⟨v13, hv14, hf⟩ := b_s hf
        refine c_pl_kept a1 4 q11 (n := 132) ⟨dX11_mark_129, rfl⟩ klX11_303 hv14 (by decide) (Nat.le_of_ble_eq_true rfl) rfl rfl ?_
        refine y_putI (n := 135) ⟨dX11_mark_132, rfl⟩ kfX11_295 l_50 (by decide +kernel) rfl ?_
        refine y_aload_n (i := 0) (n := 136) ⟨dX11_mark_135, rfl⟩ rfl ?_
        refine c_ax_changed (sI q11 50 4 v13) (n := 139) ⟨dX11_mark_136, rfl⟩ klX11_99 rfl (by decide) (Nat.le_of_ble_eq_true rfl) rfl rfl ?_
        refine y_iconst (n := 140) (v := 1) ⟨dX11_mark_139, rfl⟩ ki_1 ?_
        cases hf
        exact y_ireturn (n := 141) ⟨dX11_mark_140, rfl⟩ rfl rfl hk
      · have hc := bI_0 h0
        replace hf := i_f hc hf
        refine y_iconst (n := 54) (v := 0) ⟨dX11_mark_53, rfl⟩ ki_0 ?_
        cases hf
        exact y_ireturn (n := 55) ⟨dX11_mark_54, rfl⟩ rfl rfl hk
    · replace hf := i_t hc hf
      refine y_aload_n (i := 0) (n := 15) ⟨dX11_mark_14, rfl⟩ rfl ?_
      refine y_getR (n := 18) ⟨dX11_mark_15, rfl⟩ kfX11_33 l_0 rfl r_0_3 ?_
      refine y_iload_n (i := 1) (n := 19) ⟨dX11_mark_18, rfl⟩ rfl ?_
      refine y_aload_n (i := 0) (n := 20) ⟨dX11_mark_19, rfl⟩ rfl ?_
      refine y_getR (n := 23) ⟨dX11_mark_20, rfl⟩ kfX11_26 l_0 rfl r_0_2 ?_
      refine y_aload_n (i := 0) (n := 24) ⟨dX11_mark_23, rfl⟩ rfl ?_
      refine y_getR (n := 27) ⟨dX11_mark_24, rfl⟩ kfX11_19 l_0 rfl r_0_1 ?_
      refine y_getI (n := 30) ⟨dX11_mark_27, rfl⟩ kfX11_294 l_6 rfl ?_
      refine y_aload_n (i := 0) (n := 31) ⟨dX11_mark_30, rfl⟩ rfl ?_
      refine y_getR (n := 34) ⟨dX11_mark_31, rfl⟩ kfX11_74 l_0 rfl r_0_8 ?_
      refine y_getI (n := 37) ⟨dX11_mark_34, rfl⟩ kfX11_295 l_50 rfl ?_
      obtain ⟨q16, hv17, hf⟩ := b_s hf
      refine c_pl_lay a1 (gI M 6 5) (gI M 50 4) M (n := 40) ⟨dX11_mark_37, rfl⟩ klX11_296 hv17 (by decide) (Nat.le_of_ble_eq_true rfl) rfl rfl ?_
      refine y_iconst (n := 41) (v := 1) ⟨dX11_mark_40, rfl⟩ ki_1 ?_
      cases hf
      exact y_ireturn (n := 42) ⟨dX11_mark_41, rfl⟩ rfl rfl hk
  · have hc := bI_0 h0
    replace hf := i_f hc hf
    refine y_iconst (n := 9) (v := 0) ⟨dX11_mark_8, rfl⟩ ki_0 ?_
    cases hf
    exact y_ireturn (n := 10) ⟨dX11_mark_9, rfl⟩ rfl rfl hk
theorem c_ax_mark (a1 : Int32) (a2 : Int32) (M : dM) {o : (Bool × dM)} {y : mz_M} {d : Nat} {Q : mz_P} {pc n i : Nat} {L : List (Option Value)} {st : List Value} (h : mz_d y.2.1 pc n 3 (.invokevirtual i)) (hl : mz_ml y.1.cls i yX11_mark) (hf : f_ax_mark a1 a2 M = some o) (hd : 3 + 1 ≤ d) (hsm : (st.map (fun v => v.category)).sum ≤ 8) (hLr : mz_rL 133 L = true) (hSr : mz_rS 133 st = true) (kk : mW y d Q n L (.int (bI o.1) :: st) o.2) : mW y d Q pc L (.int a2 :: .int a1 :: .ref 0 :: st) M :=
  y_callV kmX11_mark kvX11_mark l_0 (by decide +kernel) (by decide +kernel) h hl (ok_ax_mark a1 a2 M hf) (vs := [.int a1, .int a2]) rfl rfl hd hsm hLr hSr kk
