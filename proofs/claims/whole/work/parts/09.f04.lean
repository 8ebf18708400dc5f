noncomputable def f_ax_skill (a1 : Int32) (a2 : Int32) (a3 : Int32) (M : dM) : Option (Bool × dM) :=
  if (f_ax_within a1 10) = true then
    if (f_ax_within a2 10) = true then
      if (f_ax_within a3 10) = true then
        gd (vp_in a1 10) <|
        some (true, (f_ax_changed (sI (sI M 57 a1.toNatClampNeg a2) 58 a1.toNatClampNeg a3)))
      else
        some (false, M)
    else
      some (false, M)
  else
    some (false, M)
theorem ok_ax_skill (a1 : Int32) (a2 : Int32) (a3 : Int32) (M : dM) {o : (Bool × dM)} (hf : f_ax_skill a1 a2 a3 M = some o) : mO mX11_skill 3 [.ref 0, .int a1, .int a2, .int a3] M (some (.int (bI o.1))) o.2 := by
  refine y_ok (by decide +kernel) (by decide) (L0 := [some (.ref 0), some (.int a1), some (.int a2), some (.int a3)]) rfl ?_
  have hk := mR_mQ (some (.int (bI o.1))) o.2
  generalize mQ _ _ = Q at hk ⊢
  unfold f_ax_skill at hf
  refine y_iload_n (i := 1) (n := 1) ⟨dX11_skill_0, rfl⟩ rfl ?_
  refine y_bipush (n := 3) (v := 10) ⟨dX11_skill_1, rfl⟩ kb_10 ?_
  refine c_ax_within a1 10 M (n := 6) ⟨dX11_skill_3, rfl⟩ klX11_91 rfl (by decide) (Nat.le_of_ble_eq_true rfl) rfl rfl ?_
  refine y_if_eq (t := 27) (n := 9) ⟨dX11_skill_6, rfl, rfl⟩ (fun h0 => ?_) (fun h0 => ?_)
  · have hc := bI_0 h0
    replace hf := i_f hc hf
    refine y_iconst (n := 28) (v := 0) ⟨dX11_skill_27, rfl⟩ ki_0 ?_
    cases hf
    exact y_ireturn (n := 29) ⟨dX11_skill_28, rfl⟩ rfl rfl hk
  · have hc := bI_1 h0
    replace hf := i_t hc hf
    refine y_iload_n (i := 2) (n := 10) ⟨dX11_skill_9, rfl⟩ rfl ?_
    refine y_bipush (n := 12) (v := 10) ⟨dX11_skill_10, rfl⟩ kb_10 ?_
    refine c_ax_within a2 10 M (n := 15) ⟨dX11_skill_12, rfl⟩ klX11_91 rfl (by decide) (Nat.le_of_ble_eq_true rfl) rfl rfl ?_
    refine y_if_eq (t := 27) (n := 18) ⟨dX11_skill_15, rfl, rfl⟩ (fun h0 => ?_) (fun h0 => ?_)
    · have hc := bI_0 h0
      replace hf := i_f hc hf
      refine y_iconst (n := 28) (v := 0) ⟨dX11_skill_27, rfl⟩ ki_0 ?_
      cases hf
      exact y_ireturn (n := 29) ⟨dX11_skill_28, rfl⟩ rfl rfl hk
    · have hc := bI_1 h0
      replace hf := i_t hc hf
      refine y_iload_n (i := 3) (n := 19) ⟨dX11_skill_18, rfl⟩ rfl ?_
      refine y_bipush (n := 21) (v := 10) ⟨dX11_skill_19, rfl⟩ kb_10 ?_
      refine c_ax_within a3 10 M (n := 24) ⟨dX11_skill_21, rfl⟩ klX11_91 rfl (by decide) (Nat.le_of_ble_eq_true rfl) rfl rfl ?_
      refine y_if_ne (t := 29) (n := 27) ⟨dX11_skill_24, rfl, rfl⟩ (fun h0 => ?_) (fun h0 => ?_)
      · have hc := bI_1 h0
        replace hf := i_t hc hf
        refine y_aload_n (i := 0) (n := 30) ⟨dX11_skill_29, rfl⟩ rfl ?_
        refine y_getR (n := 33) ⟨dX11_skill_30, rfl⟩ kfX11_83 l_0 rfl r_0_9 ?_
        refine y_getR (n := 36) ⟨dX11_skill_33, rfl⟩ kfX11_315 l_56 rfl r_56_3 ?_
        refine y_iload_n (i := 1) (n := 37) ⟨dX11_skill_36, rfl⟩ rfl ?_
        refine y_iload_n (i := 2) (n := 38) ⟨dX11_skill_37, rfl⟩ rfl ?_
        obtain ⟨hg1, hf⟩ := g_s hf
        refine y_iastore (n := 39) ⟨dX11_skill_38, rfl⟩ l_57 hg1 ?_
        refine y_aload_n (i := 0) (n := 40) ⟨dX11_skill_39, rfl⟩ rfl ?_
        refine y_getR (n := 43) ⟨dX11_skill_40, rfl⟩ kfX11_83 l_0 rfl r_0_9 ?_
        refine y_getR (n := 46) ⟨dX11_skill_43, rfl⟩ kfX11_318 l_56 rfl r_56_4 ?_
        refine y_iload_n (i := 1) (n := 47) ⟨dX11_skill_46, rfl⟩ rfl ?_
        refine y_iload_n (i := 3) (n := 48) ⟨dX11_skill_47, rfl⟩ rfl ?_
        refine y_iastore (n := 49) ⟨dX11_skill_48, rfl⟩ l_58 hg1 ?_
        refine y_aload_n (i := 0) (n := 50) ⟨dX11_skill_49, rfl⟩ rfl ?_
        refine c_ax_changed (sI (sI M 57 a1.toNatClampNeg a2) 58 a1.toNatClampNeg a3) (n := 53) ⟨dX11_skill_50, rfl⟩ klX11_99 rfl (by decide) (Nat.le_of_ble_eq_true rfl) rfl rfl ?_
        refine y_iconst (n := 54) (v := 1) ⟨dX11_skill_53, rfl⟩ ki_1 ?_
        cases hf
        exact y_ireturn (n := 55) ⟨dX11_skill_54, rfl⟩ rfl rfl hk
      · have hc := bI_0 h0
        replace hf := i_f hc hf
        refine y_iconst (n := 28) (v := 0) ⟨dX11_skill_27, rfl⟩ ki_0 ?_
        cases hf
        exact y_ireturn (n := 29) ⟨dX11_skill_28, rfl⟩ rfl rfl hk
theorem c_ax_skill (a1 : Int32) (a2 : Int32) (a3 : Int32) (M : dM) {o : (Bool × dM)} {y : mz_M} {d : Nat} {Q : mz_P} {pc n i : Nat} {L : List (Option Value)} {st : List Value} (h : mz_d y.2.1 pc n 3 (.invokevirtual i)) (hl : mz_ml y.1.cls i yX11_skill) (hf : f_ax_skill a1 a2 a3 M = some o) (hd : 3 + 1 ≤ d) (hsm : (st.map (fun v => v.category)).sum ≤ 8) (hLr : mz_rL 133 L = true) (hSr : mz_rS 133 st = true) (kk : mW y d Q n L (.int (bI o.1) :: st) o.2) : mW y d Q pc L (.int a3 :: .int a2 :: .int a1 :: .ref 0 :: st) M :=
  y_callV kmX11_skill kvX11_skill l_0 (by decide +kernel) (by decide +kernel) h hl (ok_ax_skill a1 a2 a3 M hf) (vs := [.int a1, .int a2, .int a3]) rfl rfl hd hsm hLr hSr kk
noncomputable def f_ax_wealth (a1 : Int32) (a2 : Int32) (a3 : Int32) (M : dM) : Option (Bool × dM) :=
  if (f_ax_within a1 8) = true then
    if (f_ax_within a2 10) = true then
      if (f_ax_within a3 10) = true then
        (f_si_isTold a1 a2 M).bind fun v1 =>
        if v1 = true then
          gd (vp_in ((a1 * 10) + a2) 80) <|
          some (true, (f_ax_changed (sI M 3 ((a1 * 10) + a2).toNatClampNeg a3)))
        else
          some (false, M)
      else
        some (false, M)
    else
      some (false, M)
  else
    some (false, M)
theorem ok_ax_wealth (a1 : Int32) (a2 : Int32) (a3 : Int32) (M : dM) {o : (Bool × dM)} (hf : f_ax_wealth a1 a2 a3 M = some o) : mO mX11_wealth 3 [.ref 0, .int a1, .int a2, .int a3] M (some (.int (bI o.1))) o.2 := by
  refine y_ok (by decide +kernel) (by decide) (L0 := [some (.ref 0), some (.int a1), some (.int a2), some (.int a3)]) rfl ?_
  have hk := mR_mQ (some (.int (bI o.1))) o.2
  generalize mQ _ _ = Q at hk ⊢
  unfold f_ax_wealth at hf
  refine y_iload_n (i := 1) (n := 1) ⟨dX11_wealth_0, rfl⟩ rfl ?_
  refine y_bipush (n := 3) (v := 8) ⟨dX11_wealth_1, rfl⟩ kb_8 ?_
  refine c_ax_within a1 8 M (n := 6) ⟨dX11_wealth_3, rfl⟩ klX11_91 rfl (by decide) (Nat.le_of_ble_eq_true rfl) rfl rfl ?_
  refine y_if_eq (t := 27) (n := 9) ⟨dX11_wealth_6, rfl, rfl⟩ (fun h0 => ?_) (fun h0 => ?_)
  · have hc := bI_0 h0
    replace hf := i_f hc hf
    refine y_iconst (n := 28) (v := 0) ⟨dX11_wealth_27, rfl⟩ ki_0 ?_
    cases hf
    exact y_ireturn (n := 29) ⟨dX11_wealth_28, rfl⟩ rfl rfl hk
  · have hc := bI_1 h0
    replace hf := i_t hc hf
    refine y_iload_n (i := 2) (n := 10) ⟨dX11_wealth_9, rfl⟩ rfl ?_
    refine y_bipush (n := 12) (v := 10) ⟨dX11_wealth_10, rfl⟩ kb_10 ?_
    refine c_ax_within a2 10 M (n := 15) ⟨dX11_wealth_12, rfl⟩ klX11_91 rfl (by decide) (Nat.le_of_ble_eq_true rfl) rfl rfl ?_
    refine y_if_eq (t := 27) (n := 18) ⟨dX11_wealth_15, rfl, rfl⟩ (fun h0 => ?_) (fun h0 => ?_)
    · have hc := bI_0 h0
      replace hf := i_f hc hf
      refine y_iconst (n := 28) (v := 0) ⟨dX11_wealth_27, rfl⟩ ki_0 ?_
      cases hf
      exact y_ireturn (n := 29) ⟨dX11_wealth_28, rfl⟩ rfl rfl hk
    · have hc := bI_1 h0
      replace hf := i_t hc hf
      refine y_iload_n (i := 3) (n := 19) ⟨dX11_wealth_18, rfl⟩ rfl ?_
      refine y_bipush (n := 21) (v := 10) ⟨dX11_wealth_19, rfl⟩ kb_10 ?_
      refine c_ax_within a3 10 M (n := 24) ⟨dX11_wealth_21, rfl⟩ klX11_91 rfl (by decide) (Nat.le_of_ble_eq_true rfl) rfl rfl ?_
      refine y_if_ne (t := 29) (n := 27) ⟨dX11_wealth_24, rfl, rfl⟩ (fun h0 => ?_) (fun h0 => ?_)
      · have hc := bI_1 h0
        replace hf := i_t hc hf
        refine y_aload_n (i := 0) (n := 30) ⟨dX11_wealth_29, rfl⟩ rfl ?_
        refine y_getR (n := 33) ⟨dX11_wealth_30, rfl⟩ kfX11_10 l_0 rfl r_0_0 ?_
        refine y_iload_n (i := 1) (n := 34) ⟨dX11_wealth_33, rfl⟩ rfl ?_
        refine y_iload_n (i := 2) (n := 35) ⟨dX11_wealth_34, rfl⟩ rfl ?_
        obtain ⟨v1, hv2, hf⟩ := b_s hf
        refine c_si_isTold a1 a2 M (n := 38) ⟨dX11_wealth_35, rfl⟩ klX11_113 hv2 (by decide) (Nat.le_of_ble_eq_true rfl) rfl rfl ?_
        refine y_if_ne (t := 43) (n := 41) ⟨dX11_wealth_38, rfl, rfl⟩ (fun h0 => ?_) (fun h0 => ?_)
        · have hc := bI_1 h0
          replace hf := i_t hc hf
          refine y_aload_n (i := 0) (n := 44) ⟨dX11_wealth_43, rfl⟩ rfl ?_
          refine y_getR (n := 47) ⟨dX11_wealth_44, rfl⟩ kfX11_10 l_0 rfl r_0_0 ?_
          refine y_getR (n := 50) ⟨dX11_wealth_47, rfl⟩ kfX11_321 l_1 rfl r_1_1 ?_
          refine y_iload_n (i := 1) (n := 51) ⟨dX11_wealth_50, rfl⟩ rfl ?_
          refine y_bipush (n := 53) (v := 10) ⟨dX11_wealth_51, rfl⟩ kb_10 ?_
          refine y_imul (n := 54) ⟨dX11_wealth_53, rfl⟩ ?_
          refine y_iload_n (i := 2) (n := 55) ⟨dX11_wealth_54, rfl⟩ rfl ?_
          refine y_iadd (n := 56) ⟨dX11_wealth_55, rfl⟩ ?_
          refine y_iload_n (i := 3) (n := 57) ⟨dX11_wealth_56, rfl⟩ rfl ?_
          obtain ⟨hg3, hf⟩ := g_s hf
          refine y_iastore (n := 58) ⟨dX11_wealth_57, rfl⟩ l_3 hg3 ?_
          refine y_aload_n (i := 0) (n := 59) ⟨dX11_wealth_58, rfl⟩ rfl ?_
          refine c_ax_changed (sI M 3 ((a1 * 10) + a2).toNatClampNeg a3) (n := 62) ⟨dX11_wealth_59, rfl⟩ klX11_99 rfl (by decide) (Nat.le_of_ble_eq_true rfl) rfl rfl ?_
          refine y_iconst (n := 63) (v := 1) ⟨dX11_wealth_62, rfl⟩ ki_1 ?_
          cases hf
          exact y_ireturn (n := 64) ⟨dX11_wealth_63, rfl⟩ rfl rfl hk
        · have hc := bI_0 h0
          replace hf := i_f hc hf
          refine y_iconst (n := 42) (v := 0) ⟨dX11_wealth_41, rfl⟩ ki_0 ?_
          cases hf
          exact y_ireturn (n := 43) ⟨dX11_wealth_42, rfl⟩ rfl rfl hk
      · have hc := bI_0 h0
        replace hf := i_f hc hf
        refine y_iconst (n := 28) (v := 0) ⟨dX11_wealth_27, rfl⟩ ki_0 ?_
        cases hf
        exact y_ireturn (n := 29) ⟨dX11_wealth_28, rfl⟩ rfl rfl hk
theorem c_ax_wealth (a1 : Int32) (a2 : Int32) (a3 : Int32) (M : dM) {o : (Bool × dM)} {y : mz_M} {d : Nat} {Q : mz_P} {pc n i : Nat} {L : List (Option Value)} {st : List Value} (h : mz_d y.2.1 pc n 3 (.invokevirtual i)) (hl : mz_ml y.1.cls i yX11_wealth) (hf : f_ax_wealth a1 a2 a3 M = some o) (hd : 3 + 1 ≤ d) (hsm : (st.map (fun v => v.category)).sum ≤ 8) (hLr : mz_rL 133 L = true) (hSr : mz_rS 133 st = true) (kk : mW y d Q n L (.int (bI o.1) :: st) o.2) : mW y d Q pc L (.int a3 :: .int a2 :: .int a1 :: .ref 0 :: st) M :=
  y_callV kmX11_wealth kvX11_wealth l_0 (by decide +kernel) (by decide +kernel) h hl (ok_ax_wealth a1 a2 a3 M hf) (vs := [.int a1, .int a2, .int a3]) rfl rfl hd hsm hLr hSr kk
noncomputable def f_ax_shows (a1 : Int32) (a2 : Int32) (a3 : Int32) (M : dM) : Option (Bool × dM) :=
  if (f_ax_within a1 8) = true then
    if (f_ax_within a2 10) = true then
      if (f_ax_within a3 10) = true then
        gd (vp_in a1 16) <|
        gd (vp_in (8 + a1) 16) <|
        some (true, (f_ax_changed (sI (sI M 59 a1.toNatClampNeg a2) 59 (8 + a1).toNatClampNeg a3)))
      else
        some (false, M)
    else
      some (false, M)
  else
    some (false, M)
theorem ok_ax_shows (a1 : Int32) (a2 : Int32) (a3 : Int32) (M : dM) {o : (Bool × dM)} (hf : f_ax_shows a1 a2 a3 M = some o) : mO mX11_shows 3 [.ref 0, .int a1, .int a2, .int a3] M (some (.int (bI o.1))) o.2 := by
  refine y_ok (by decide +kernel) (by decide) (L0 := [some (.ref 0), some (.int a1), some (.int a2), some (.int a3)]) rfl ?_
  have hk := mR_mQ (some (.int (bI o.1))) o.2
  generalize mQ _ _ = Q at hk ⊢
  unfold f_ax_shows at hf
  refine y_iload_n (i := 1) (n := 1) ⟨dX11_shows_0, rfl⟩ rfl ?_
  refine y_bipush (n := 3) (v := 8) ⟨dX11_shows_1, rfl⟩ kb_8 ?_
  refine c_ax_within a1 8 M (n := 6) ⟨dX11_shows_3, rfl⟩ klX11_91 rfl (by decide) (Nat.le_of_ble_eq_true rfl) rfl rfl ?_
  refine y_if_eq (t := 27) (n := 9) ⟨dX11_shows_6, rfl, rfl⟩ (fun h0 => ?_) (fun h0 => ?_)
  · have hc := bI_0 h0
    replace hf := i_f hc hf
    refine y_iconst (n := 28) (v := 0) ⟨dX11_shows_27, rfl⟩ ki_0 ?_
    cases hf
    exact y_ireturn (n := 29) ⟨dX11_shows_28, rfl⟩ rfl rfl hk
  · have hc := bI_1 h0
    replace hf := i_t hc hf
    refine y_iload_n (i := 2) (n := 10) ⟨dX11_shows_9, rfl⟩ rfl ?_
    refine y_bipush (n := 12) (v := 10) ⟨dX11_shows_10, rfl⟩ kb_10 ?_
    refine c_ax_within a2 10 M (n := 15) ⟨dX11_shows_12, rfl⟩ klX11_91 rfl (by decide) (Nat.le_of_ble_eq_true rfl) rfl rfl ?_
    refine y_if_eq (t := 27) (n := 18) ⟨dX11_shows_15, rfl, rfl⟩ (fun h0 => ?_) (fun h0 => ?_)
    · have hc := bI_0 h0
      replace hf := i_f hc hf
      refine y_iconst (n := 28) (v := 0) ⟨dX11_shows_27, rfl⟩ ki_0 ?_
      cases hf
      exact y_ireturn (n := 29) ⟨dX11_shows_28, rfl⟩ rfl rfl hk
    · have hc := bI_1 h0
      replace hf := i_t hc hf
      refine y_iload_n (i := 3) (n := 19) ⟨dX11_shows_18, rfl⟩ rfl ?_
      refine y_bipush (n := 21) (v := 10) ⟨dX11_shows_19, rfl⟩ kb_10 ?_
      refine c_ax_within a3 10 M (n := 24) ⟨dX11_shows_21, rfl⟩ klX11_91 rfl (by decide) (Nat.le_of_ble_eq_true rfl) rfl rfl ?_
      refine y_if_ne (t := 29) (n := 27) ⟨dX11_shows_24, rfl, rfl⟩ (fun h0 => ?_) (fun h0 => ?_)
      · have hc := bI_1 h0
        replace hf := i_t hc hf
        refine y_aload_n (i := 0) (n := 30) ⟨dX11_shows_29, rfl⟩ rfl ?_
        refine y_getR (n := 33) ⟨dX11_shows_30, rfl⟩ kfX11_83 l_0 rfl r_0_9 ?_
        refine y_getR (n := 36) ⟨dX11_shows_33, rfl⟩ kfX11_324 l_56 rfl r_56_5 ?_
        refine y_iload_n (i := 1) (n := 37) ⟨dX11_shows_36, rfl⟩ rfl ?_
        refine y_iload_n (i := 2) (n := 38) ⟨dX11_shows_37, rfl⟩ rfl ?_
        obtain ⟨hg1, hf⟩ := g_s hf
        refine y_iastore (n := 39) ⟨dX11_shows_38, rfl⟩ l_59 hg1 ?_
        refine y_aload_n (i := 0) (n := 40) ⟨dX11_shows_39, rfl⟩ rfl ?_
        refine y_getR (n := 43) ⟨dX11_shows_40, rfl⟩ kfX11_83 l_0 rfl r_0_9 ?_
        refine y_getR (n := 46) ⟨dX11_shows_43, rfl⟩ kfX11_324 l_56 rfl r_56_5 ?_
        refine y_bipush (n := 48) (v := 8) ⟨dX11_shows_46, rfl⟩ kb_8 ?_
        refine y_iload_n (i := 1) (n := 49) ⟨dX11_shows_48, rfl⟩ rfl ?_
        refine y_iadd (n := 50) ⟨dX11_shows_49, rfl⟩ ?_
        refine y_iload_n (i := 3) (n := 51) ⟨dX11_shows_50, rfl⟩ rfl ?_
        obtain ⟨hg2, hf⟩ := g_s hf
        refine y_iastore (n := 52) ⟨dX11_shows_51, rfl⟩ l_59 hg2 ?_
        refine y_aload_n (i := 0) (n := 53) ⟨dX11_shows_52, rfl⟩ rfl ?_
        refine c_ax_changed (sI (sI M 59 a1.toNatClampNeg a2) 59 (8 + a1).toNatClampNeg a3) (n := 56) ⟨dX11_shows_53, rfl⟩ klX11_99 rfl (by decide) (Nat.le_of_ble_eq_true rfl) rfl rfl ?_
        refine y_iconst (n := 57) (v := 1) ⟨dX11_shows_56, rfl⟩ ki_1 ?_
        cases hf
        exact y_ireturn (n := 58) ⟨dX11_shows_57, rfl⟩ rfl rfl hk
      · have hc := bI_0 h0
        replace hf := i_f hc hf
        refine y_iconst (n := 28) (v := 0) ⟨dX11_shows_27, rfl⟩ ki_0 ?_
        cases hf
        exact y_ireturn (n := 29) ⟨dX11_shows_28, rfl⟩ rfl rfl hk
theorem c_ax_shows (a1 : Int32) (a2 : Int32) (a3 : Int32) (M : dM) {o : (Bool × dM)} {y : mz_M} {d : Nat} {Q : mz_P} {pc n i : Nat} {L : List (Option Value)} {st : List Value} (h : mz_d y.2.1 pc n 3 (.invokevirtual i)) (hl : mz_ml y.1.cls i yX11_shows) (hf : f_ax_shows a1 a2 a3 M = some o) (hd : 3 + 1 ≤ d) (hsm : (st.map (fun v => v.category)).sum ≤ 8) (hLr : mz_rL 133 L = true) (hSr : mz_rS 133 st = true) (kk : mW y d Q n L (.int (bI o.1) :: st) o.2) : mW y d Q pc L (.int a3 :: .int a2 :: .int a1 :: .ref 0 :: st) M :=
  y_callV kmX11_shows kvX11_shows l_0 (by decide +kernel) (by decide +kernel) h hl (ok_ax_shows a1 a2 a3 M hf) (vs := [.int a1, .int a2, .int a3]) rfl rfl hd hsm hLr hSr kk
def K_jd_fill_61_5 (Q : mz_P) (x1 : Int32) (x3 : Int32) (M : dM) : ((Int32 × dM) ⊕ dM) → Prop
  | .inl s => mW mJ7_fill_53178 1 Q 5 [some (.ref 61), some (.int x1), some (.int s.1), some (.int x3)] [] s.2
  | .inr r => mR Q none r
noncomputable def b_jd_fill_61_5_5 (x1 : Int32) (x2 : Int32) (x3 : Int32) (M : dM) : Option ((Int32 × dM) ⊕ dM) :=
  if x3 ≤ x2 then
    some (.inr M)
  else
    gd (vp_in x2 8) <|
    some (.inl ((x2 + 1), (sI M 61 x2.toNatClampNeg x1)))
noncomputable def l_jd_fill_61_5 (x1 : Int32) (x2 : Int32) (x3 : Int32) (M : dM) : Option dM := lpc (fun s => b_jd_fill_61_5_5 x1 s.1 x3 s.2) (x2, M)
noncomputable def f_jd_fill_61 (a2 : Int32) (M : dM) : Option dM :=
  (l_jd_fill_61_5 a2 0 8 M).bind fun r4 => some r4
theorem w_b_jd_fill_61_5_5 (x1 : Int32) (x2 : Int32) (x3 : Int32) (M : dM) {Q : mz_P} {o : ((Int32 × dM) ⊕ dM)} (hf : b_jd_fill_61_5_5 x1 x2 x3 M = some o) (hk : K_jd_fill_61_5 Q x1 x3 M o) : mW mJ7_fill_53178 1 Q 5 [some (.ref 61), some (.int x1), some (.int x2), some (.int x3)] [] M := by
  unfold b_jd_fill_61_5_5 at hf
  refine y_iload_n (i := 2) (n := 6) ⟨dJ7_fill_53178_5, rfl⟩ rfl ?_
  refine y_iload_n (i := 3) (n := 7) ⟨dJ7_fill_53178_6, rfl⟩ rfl ?_
  refine y_icmp_ge (t := 20) (n := 10) ⟨dJ7_fill_53178_7, rfl, rfl⟩ (fun (hc : x3 ≤ x2) => ?_) (fun (hc : ¬ (x3 ≤ x2)) => ?_)
  · replace hf := i_t hc hf
    cases hf
    exact y_return (n := 21) ⟨dJ7_fill_53178_20, rfl⟩ rfl hk
  · replace hf := i_f hc hf
    refine y_aload_n (i := 0) (n := 11) ⟨dJ7_fill_53178_10, rfl⟩ rfl ?_
    refine y_iload_n (i := 2) (n := 12) ⟨dJ7_fill_53178_11, rfl⟩ rfl ?_
    refine y_iload_n (i := 1) (n := 13) ⟨dJ7_fill_53178_12, rfl⟩ rfl ?_
    obtain ⟨hg1, hf⟩ := g_s hf
    refine y_iastore (n := 14) ⟨dJ7_fill_53178_13, rfl⟩ l_61 hg1 ?_
    refine y_iinc (i := 2) (n := 17) (b := (x2 + 1)) (L2 := [some (.ref 61), some (.int x1), some (.int (x2 + 1)), some (.int x3)]) ⟨dJ7_fill_53178_14, rfl⟩ rfl (by rw [ki_1]) (by decide) rfl rfl ?_
    refine y_goto (t := 5) ⟨dJ7_fill_53178_17, rfl, rfl⟩ ?_
    cases hf
    exact y_wk ⟨Or.inr rfl, Or.inr rfl, Or.inr rfl, Or.inr rfl, trivial⟩ hk
theorem wl_jd_fill_61_5 (x1 : Int32) (x2 : Int32) (x3 : Int32) (M : dM) {Q : mz_P} {x : dM} (hf : l_jd_fill_61_5 x1 x2 x3 M = some x) (hk : K_jd_fill_61_5 Q x1 x3 M (.inr x)) : mW mJ7_fill_53178 1 Q 5 [some (.ref 61), some (.int x1), some (.int x2), some (.int x3)] [] M :=
  lpc_wp (Wh := fun s => mW mJ7_fill_53178 1 Q 5 [some (.ref 61), some (.int x1), some (.int s.1), some (.int x3)] [] s.2) (K := K_jd_fill_61_5 Q x1 x3 M) (fun _ h => h) (fun s o hb hk => w_b_jd_fill_61_5_5 x1 s.1 x3 s.2 hb hk) hf hk
theorem ok_jd_fill_61 (a2 : Int32) (M : dM) {o : dM} (hf : f_jd_fill_61 a2 M = some o) : mO mJ7_fill_53178 1 [.ref 61, .int a2] M none o := by
  refine y_ok (by decide +kernel) (by decide) (L0 := [some (.ref 61), some (.int a2), none, none]) rfl ?_
  have hk := mR_mQ none o
  generalize mQ _ _ = Q at hk ⊢
  unfold f_jd_fill_61 at hf
  refine y_iconst (n := 1) (v := 0) ⟨dJ7_fill_53178_0, rfl⟩ ki_0 ?_
  refine y_istore_n (i := 2) (n := 2) (L2 := [some (.ref 61), some (.int a2), some (.int 0), none]) ⟨dJ7_fill_53178_1, rfl⟩ (by decide) rfl rfl ?_
  refine y_aload_n (i := 0) (n := 3) ⟨dJ7_fill_53178_2, rfl⟩ rfl ?_
  refine y_alen (n := 4) (v := 8) ⟨dJ7_fill_53178_3, rfl⟩ l_61 (fun _ => rfl) (by decide) ?_
  refine y_istore_n (i := 3) (n := 5) (L2 := [some (.ref 61), some (.int a2), some (.int 0), some (.int 8)]) ⟨dJ7_fill_53178_4, rfl⟩ (by decide) rfl rfl ?_
  obtain ⟨r4, hl3, hf⟩ := b_s hf
  cases hf
  exact y_wk ⟨Or.inr rfl, Or.inr rfl, Or.inr rfl, Or.inr rfl, trivial⟩ (wl_jd_fill_61_5 a2 0 8 M hl3 hk)
theorem c_jd_fill_61 (a2 : Int32) (M : dM) {o : dM} {y : mz_M} {d : Nat} {Q : mz_P} {pc n i : Nat} {L : List (Option Value)} {st : List Value} (h : mz_d y.2.1 pc n 3 (.invokestatic i)) (hl : mz_ml y.1.cls i yJ7_fill_53178) (hf : f_jd_fill_61 a2 M = some o) (hd : 1 + 1 ≤ d) (hsm : (st.map (fun v => v.category)).sum ≤ 8) (hLr : mz_rL 133 L = true) (hSr : mz_rS 133 st = true) (kk : mW y d Q n L st o) : mW y d Q pc L (.int a2 :: .ref 61 :: st) M :=
  y_callS kmJ7_fill_53178 ksJ7_fill_53178 h hl (ok_jd_fill_61 a2 M hf) (vs := [.ref 61, .int a2]) rfl rfl hd hsm hLr hSr kk
def K_jd_fill_63_5 (Q : mz_P) (x1 : Int32) (x3 : Int32) (M : dM) : ((Int32 × dM) ⊕ dM) → Prop
  | .inl s => mW mJ7_fill_53178 1 Q 5 [some (.ref 63), some (.int x1), some (.int s.1), some (.int x3)] [] s.2
  | .inr r => mR Q none r
noncomputable def b_jd_fill_63_5_5 (x1 : Int32) (x2 : Int32) (x3 : Int32) (M : dM) : Option ((Int32 × dM) ⊕ dM) :=
  if x3 ≤ x2 then
    some (.inr M)
  else
    gd (vp_in x2 14) <|
    some (.inl ((x2 + 1), (sI M 63 x2.toNatClampNeg x1)))
noncomputable def l_jd_fill_63_5 (x1 : Int32) (x2 : Int32) (x3 : Int32) (M : dM) : Option dM := lpc (fun s => b_jd_fill_63_5_5 x1 s.1 x3 s.2) (x2, M)
noncomputable def f_jd_fill_63 (a2 : Int32) (M : dM) : Option dM :=
  (l_jd_fill_63_5 a2 0 14 M).bind fun r4 => some r4
theorem w_b_jd_fill_63_5_5 (x1 : Int32) (x2 : Int32) (x3 : Int32) (M : dM) {Q : mz_P} {o : ((Int32 × dM) ⊕ dM)} (hf : b_jd_fill_63_5_5 x1 x2 x3 M = some o) (hk : K_jd_fill_63_5 Q x1 x3 M o) : mW mJ7_fill_53178 1 Q 5 [some (.ref 63), some (.int x1), some (.int x2), some (.int x3)] [] M := by
  unfold b_jd_fill_63_5_5 at hf
  refine y_iload_n (i := 2) (n := 6) ⟨dJ7_fill_53178_5, rfl⟩ rfl ?_
  refine y_iload_n (i := 3) (n := 7) ⟨dJ7_fill_53178_6, rfl⟩ rfl ?_
  refine y_icmp_ge (t := 20) (n := 10) ⟨dJ7_fill_53178_7, rfl, rfl⟩ (fun (hc : x3 ≤ x2) => ?_) (fun (hc : ¬ (x3 ≤ x2)) => ?_)
  · replace hf := i_t hc hf
    cases hf
    exact y_return (n := 21) ⟨dJ7_fill_53178_20, rfl⟩ rfl hk
  · replace hf := i_f hc hf
    refine y_aload_n (i := 0) (n := 11) ⟨dJ7_fill_53178_10, rfl⟩ rfl ?_
    refine y_iload_n (i := 2) (n := 12) ⟨dJ7_fill_53178_11, rfl⟩ rfl ?_
    refine y_iload_n (i := 1) (n := 13) ⟨dJ7_fill_53178_12, rfl⟩ rfl ?_
    obtain ⟨hg1, hf⟩ := g_s hf
    refine y_iastore (n := 14) ⟨dJ7_fill_53178_13, rfl⟩ l_63 hg1 ?_
    refine y_iinc (i := 2) (n := 17) (b := (x2 + 1)) (L2 := [some (.ref 63), some (.int x1), some (.int (x2 + 1)), some (.int x3)]) ⟨dJ7_fill_53178_14, rfl⟩ rfl (by rw [ki_1]) (by decide) rfl rfl ?_
    refine y_goto (t := 5) ⟨dJ7_fill_53178_17, rfl, rfl⟩ ?_
    cases hf
    exact y_wk ⟨Or.inr rfl, Or.inr rfl, Or.inr rfl, Or.inr rfl, trivial⟩ hk
theorem wl_jd_fill_63_5 (x1 : Int32) (x2 : Int32) (x3 : Int32) (M : dM) {Q : mz_P} {x : dM} (hf : l_jd_fill_63_5 x1 x2 x3 M = some x) (hk : K_jd_fill_63_5 Q x1 x3 M (.inr x)) : mW mJ7_fill_53178 1 Q 5 [some (.ref 63), some (.int x1), some (.int x2), some (.int x3)] [] M :=
  lpc_wp (Wh := fun s => mW mJ7_fill_53178 1 Q 5 [some (.ref 63), some (.int x1), some (.int s.1), some (.int x3)] [] s.2) (K := K_jd_fill_63_5 Q x1 x3 M) (fun _ h => h) (fun s o hb hk => w_b_jd_fill_63_5_5 x1 s.1 x3 s.2 hb hk) hf hk
theorem ok_jd_fill_63 (a2 : Int32) (M : dM) {o : dM} (hf : f_jd_fill_63 a2 M = some o) : mO mJ7_fill_53178 1 [.ref 63, .int a2] M none o := by
  refine y_ok (by decide +kernel) (by decide) (L0 := [some (.ref 63), some (.int a2), none, none]) rfl ?_
  have hk := mR_mQ none o
  generalize mQ _ _ = Q at hk ⊢
  unfold f_jd_fill_63 at hf
  refine y_iconst (n := 1) (v := 0) ⟨dJ7_fill_53178_0, rfl⟩ ki_0 ?_
  refine y_istore_n (i := 2) (n := 2) (L2 := [some (.ref 63), some (.int a2), some (.int 0), none]) ⟨dJ7_fill_53178_1, rfl⟩ (by decide) rfl rfl ?_
  refine y_aload_n (i := 0) (n := 3) ⟨dJ7_fill_53178_2, rfl⟩ rfl ?_
  refine y_alen (n := 4) (v := 14) ⟨dJ7_fill_53178_3, rfl⟩ l_63 (fun _ => rfl) (by decide) ?_
  refine y_istore_n (i := 3) (n := 5) (L2 := [some (.ref 63), some (.int a2), some (.int 0), some (.int 14)]) ⟨dJ7_fill_53178_4, rfl⟩ (by decide) rfl rfl ?_
  obtain ⟨r4, hl3, hf⟩ := b_s hf
  cases hf
  exact y_wk ⟨Or.inr rfl, Or.inr rfl, Or.inr rfl, Or.inr rfl, trivial⟩ (wl_jd_fill_63_5 a2 0 14 M hl3 hk)
theorem c_jd_fill_63 (a2 : Int32) (M : dM) {o : dM} {y : mz_M} {d : Nat} {Q : mz_P} {pc n i : Nat} {L : List (Option Value)} {st : List Value} (h : mz_d y.2.1 pc n 3 (.invokestatic i)) (hl : mz_ml y.1.cls i yJ7_fill_53178) (hf : f_jd_fill_63 a2 M = some o) (hd : 1 + 1 ≤ d) (hsm : (st.map (fun v => v.category)).sum ≤ 8) (hLr : mz_rL 133 L = true) (hSr : mz_rS 133 st = true) (kk : mW y d Q n L st o) : mW y d Q pc L (.int a2 :: .ref 63 :: st) M :=
  y_callS kmJ7_fill_53178 ksJ7_fill_53178 h hl (ok_jd_fill_63 a2 M hf) (vs := [.ref 63, .int a2]) rfl rfl hd hsm hLr hSr kk
def K_jd_fill_64_5 (Q : mz_P) (x1 : Int32) (x3 : Int32) (M : dM) : ((Int32 × dM) ⊕ dM) → Prop
  | .inl s => mW mJ7_fill_53178 1 Q 5 [some (.ref 64), some (.int x1), some (.int s.1), some (.int x3)] [] s.2
  | .inr r => mR Q none r
noncomputable def b_jd_fill_64_5_5 (x1 : Int32) (x2 : Int32) (x3 : Int32) (M : dM) : Option ((Int32 × dM) ⊕ dM) :=
  if x3 ≤ x2 then
    some (.inr M)
  else
    gd (vp_in x2 10) <|
    some (.inl ((x2 + 1), (sI M 64 x2.toNatClampNeg x1)))
noncomputable def l_jd_fill_64_5 (x1 : Int32) (x2 : Int32) (x3 : Int32) (M : dM) : Option dM := lpc (fun s => b_jd_fill_64_5_5 x1 s.1 x3 s.2) (x2, M)
noncomputable def f_jd_fill_64 (a2 : Int32) (M : dM) : Option dM :=
  (l_jd_fill_64_5 a2 0 10 M).bind fun r4 => some r4
theorem w_b_jd_fill_64_5_5 (x1 : Int32) (x2 : Int32) (x3 : Int32) (M : dM) {Q : mz_P} {o : ((Int32 × dM) ⊕ dM)} (hf : b_jd_fill_64_5_5 x1 x2 x3 M = some o) (hk : K_jd_fill_64_5 Q x1 x3 M o) : mW mJ7_fill_53178 1 Q 5 [some (.ref 64), some (.int x1), some (.int x2), some (.int x3)] [] M := by
  unfold b_jd_fill_64_5_5 at hf
  refine y_iload_n (i := 2) (n := 6) ⟨dJ7_fill_53178_5, rfl⟩ rfl ?_
  refine y_iload_n (i := 3) (n := 7) ⟨dJ7_fill_53178_6, rfl⟩ rfl ?_
  refine y_icmp_ge (t := 20) (n := 10) ⟨dJ7_fill_53178_7, rfl, rfl⟩ (fun (hc : x3 ≤ x2) => ?_) (fun (hc : ¬ (x3 ≤ x2)) => ?_)
  · replace hf := i_t hc hf
    cases hf
    exact y_return (n := 21) ⟨dJ7_fill_53178_20, rfl⟩ rfl hk
  · replace hf := i_f hc hf
    refine y_aload_n (i := 0) (n := 11) ⟨dJ7_fill_53178_10, rfl⟩ rfl ?_
    refine y_iload_n (i := 2) (n := 12) ⟨dJ7_fill_53178_11, rfl⟩ rfl ?_
    refine y_iload_n (i := 1) (n := 13) ⟨dJ7_fill_53178_12, rfl⟩ rfl ?_
    obtain ⟨hg1, hf⟩ := g_s hf
    refine y_iastore (n := 14) ⟨dJ7_fill_53178_13, rfl⟩ l_64 hg1 ?_
    refine y_iinc (i := 2) (n := 17) (b := (x2 + 1)) (L2 := [some (.ref 64), some (.int x1), some (.int (x2 + 1)), some (.int x3)]) ⟨dJ7_fill_53178_14, rfl⟩ rfl (by rw [ki_1]) (by decide) rfl rfl ?_
    refine y_goto (t := 5) ⟨dJ7_fill_53178_17, rfl, rfl⟩ ?_
    cases hf
    exact y_wk ⟨Or.inr rfl, Or.inr rfl, Or.inr rfl, Or.inr rfl, trivial⟩ hk
theorem wl_jd_fill_64_5 (x1 : Int32) (x2 : Int32) (x3 : Int32) (M : dM) {Q : mz_P} {x : dM} (hf : l_jd_fill_64_5 x1 x2 x3 M = some x) (hk : K_jd_fill_64_5 Q x1 x3 M (.inr x)) : mW mJ7_fill_53178 1 Q 5 [some (.ref 64), some (.int x1), some (.int x2), some (.int x3)] [] M :=
  lpc_wp (Wh := fun s => mW mJ7_fill_53178 1 Q 5 [some (.ref 64), some (.int x1), some (.int s.1), some (.int x3)] [] s.2) (K := K_jd_fill_64_5 Q x1 x3 M) (fun _ h => h) (fun s o hb hk => w_b_jd_fill_64_5_5 x1 s.1 x3 s.2 hb hk) hf hk
theorem ok_jd_fill_64 (a2 : Int32) (M : dM) {o : dM} (hf : f_jd_fill_64 a2 M = some o) : mO mJ7_fill_53178 1 [.ref 64, .int a2] M none o := by
  refine y_ok (by decide +kernel) (by decide) (L0 := [some (.ref 64), some (.int a2), none, none]) rfl ?_
  have hk := mR_mQ none o
  generalize mQ _ _ = Q at hk ⊢
  unfold f_jd_fill_64 at hf
  refine y_iconst (n := 1) (v := 0) ⟨dJ7_fill_53178_0, rfl⟩ ki_0 ?_
  refine y_istore_n (i := 2) (n := 2) (L2 := [some (.ref 64), some (.int a2), some (.int 0), none]) ⟨dJ7_fill_53178_1, rfl⟩ (by decide) rfl rfl ?_
  refine y_aload_n (i := 0) (n := 3) ⟨dJ7_fill_53178_2, rfl⟩ rfl ?_
  refine y_alen (n := 4) (v := 10) ⟨dJ7_fill_53178_3, rfl⟩ l_64 (fun _ => rfl) (by decide) ?_
  refine y_istore_n (i := 3) (n := 5) (L2 := [some (.ref 64), some (.int a2), some (.int 0), some (.int 10)]) ⟨dJ7_fill_53178_4, rfl⟩ (by decide) rfl rfl ?_
  obtain ⟨r4, hl3, hf⟩ := b_s hf
  cases hf
  exact y_wk ⟨Or.inr rfl, Or.inr rfl, Or.inr rfl, Or.inr rfl, trivial⟩ (wl_jd_fill_64_5 a2 0 10 M hl3 hk)
theorem c_jd_fill_64 (a2 : Int32) (M : dM) {o : dM} {y : mz_M} {d : Nat} {Q : mz_P} {pc n i : Nat} {L : List (Option Value)} {st : List Value} (h : mz_d y.2.1 pc n 3 (.invokestatic i)) (hl : mz_ml y.1.cls i yJ7_fill_53178) (hf : f_jd_fill_64 a2 M = some o) (hd : 1 + 1 ≤ d) (hsm : (st.map (fun v => v.category)).sum ≤ 8) (hLr : mz_rL 133 L = true) (hSr : mz_rS 133 st = true) (kk : mW y d Q n L st o) : mW y d Q pc L (.int a2 :: .ref 64 :: st) M :=
  y_callS kmJ7_fill_53178 ksJ7_fill_53178 h hl (ok_jd_fill_64 a2 M hf) (vs := [.ref 64, .int a2]) rfl rfl hd hsm hLr hSr kk
noncomputable def f_wo_draw (M : dM) : Option (Int32 × dM) :=
  some ((((gJ (sJ M 56 8 ((((gJ M 56 8) * 1103515245) + 12345) &&& 2147483647)) 56 8) / 65536) - ((gJ (sJ M 56 8 ((((gJ M 56 8) * 1103515245) + 12345) &&& 2147483647)) 56 8) / 65536) / 10 * 10).toInt32, (sJ M 56 8 ((((gJ M 56 8) * 1103515245) + 12345) &&& 2147483647)))
theorem ok_wo_draw  (M : dM) {o : (Int32 × dM)} (hf : f_wo_draw M = some o) : mO mX10_draw 1 [.ref 56] M (some (.int o.1)) o.2 := by
  refine y_ok (by decide +kernel) (by decide) (L0 := [some (.ref 56)]) rfl ?_
  have hk := mR_mQ (some (.int o.1)) o.2
  generalize mQ _ _ = Q at hk ⊢
  unfold f_wo_draw at hf
  refine y_aload_n (i := 0) (n := 1) ⟨dX10_draw_0, rfl⟩ rfl ?_
  refine y_aload_n (i := 0) (n := 2) ⟨dX10_draw_1, rfl⟩ rfl ?_
  refine y_getJ (n := 5) ⟨dX10_draw_2, rfl⟩ kfX10_77 l_56 rfl ?_
  refine y_ldc2 (n := 8) ⟨dX10_draw_5, rfl⟩ kcX10_115 ?_
  refine y_lmul (n := 9) ⟨dX10_draw_8, rfl⟩ ?_
  refine y_ldc2 (n := 12) ⟨dX10_draw_9, rfl⟩ kcX10_117 ?_
  refine y_ladd (n := 13) ⟨dX10_draw_12, rfl⟩ ?_
  refine y_ldc2 (n := 16) ⟨dX10_draw_13, rfl⟩ kcX10_119 ?_
  refine y_land (n := 17) ⟨dX10_draw_16, rfl⟩ ?_
  refine y_putJ (n := 20) ⟨dX10_draw_17, rfl⟩ kfX10_77 l_56 (by decide +kernel) rfl ?_
  refine y_aload_n (i := 0) (n := 21) ⟨dX10_draw_20, rfl⟩ rfl ?_
  refine y_getJ (n := 24) ⟨dX10_draw_21, rfl⟩ kfX10_77 l_56 rfl ?_
  refine y_ldc2 (n := 27) ⟨dX10_draw_24, rfl⟩ kcX10_121 ?_
  refine y_ldiv (n := 28) ⟨dX10_draw_27, rfl⟩ (by decide) ?_
  refine y_ldc2 (n := 31) ⟨dX10_draw_28, rfl⟩ kcX10_123 ?_
  refine y_lrem (n := 32) ⟨dX10_draw_31, rfl⟩ (by decide) ?_
  refine y_l2i (n := 33) ⟨dX10_draw_32, rfl⟩ ?_
  cases hf
  exact y_ireturn (n := 34) ⟨dX10_draw_33, rfl⟩ rfl rfl hk
theorem c_wo_draw  (M : dM) {o : (Int32 × dM)} {y : mz_M} {d : Nat} {Q : mz_P} {pc n i : Nat} {L : List (Option Value)} {st : List Value} (h : mz_d y.2.1 pc n 3 (.invokevirtual i)) (hl : mz_ml y.1.cls i yX10_draw) (hf : f_wo_draw M = some o) (hd : 1 + 1 ≤ d) (hsm : (st.map (fun v => v.category)).sum ≤ 8) (hLr : mz_rL 133 L = true) (hSr : mz_rS 133 st = true) (kk : mW y d Q n L (.int o.1 :: st) o.2) : mW y d Q pc L (.ref 56 :: st) M :=
  y_callV kmX10_draw kvX10_draw l_56 (by decide +kernel) (by decide +kernel) h hl (ok_wo_draw  M hf) (vs := []) rfl rfl hd hsm hLr hSr kk
noncomputable def f_si_layersAt (a1 : Int32) (M : dM) : Option Int32 :=
  gd (vp_in a1 8) <|
  some (f_jd_bitCount_0f7a4 (gI M 4 a1.toNatClampNeg))
theorem ok_si_layersAt (a1 : Int32) (M : dM) {o : Int32} (hf : f_si_layersAt a1 M = some o) : mO mX7_layersAt 2 [.ref 1, .int a1] M (some (.int o)) M := by
  refine y_ok (by decide +kernel) (by decide) (L0 := [some (.ref 1), some (.int a1)]) rfl ?_
  have hk := mR_mQ (some (.int o)) M
  generalize mQ _ _ = Q at hk ⊢
  unfold f_si_layersAt at hf
  refine y_aload_n (i := 0) (n := 1) ⟨dX7_layersAt_0, rfl⟩ rfl ?_
  refine y_getR (n := 4) ⟨dX7_layersAt_1, rfl⟩ kfX7_18 l_1 rfl r_1_2 ?_
  refine y_iload_n (i := 1) (n := 5) ⟨dX7_layersAt_4, rfl⟩ rfl ?_
  obtain ⟨hg1, hf⟩ := g_s hf
  refine y_iaload (n := 6) ⟨dX7_layersAt_5, rfl⟩ l_4 hg1 ?_
  refine c_jd_bitCount_0f7a4 (gI M 4 a1.toNatClampNeg) M (n := 9) ⟨dX7_layersAt_6, rfl⟩ klX7_28 rfl (by decide) (Nat.le_of_ble_eq_true rfl) rfl rfl ?_
  cases hf
  exact y_ireturn (n := 10) ⟨dX7_layersAt_9, rfl⟩ rfl rfl hk
theorem c_si_layersAt (a1 : Int32) (M : dM) {o : Int32} {y : mz_M} {d : Nat} {Q : mz_P} {pc n i : Nat} {L : List (Option Value)} {st : List Value} (h : mz_d y.2.1 pc n 3 (.invokevirtual i)) (hl : mz_ml y.1.cls i yX7_layersAt) (hf : f_si_layersAt a1 M = some o) (hd : 2 + 1 ≤ d) (hsm : (st.map (fun v => v.category)).sum ≤ 8) (hLr : mz_rL 133 L = true) (hSr : mz_rS 133 st = true) (kk : mW y d Q n L (.int o :: st) M) : mW y d Q pc L (.int a1 :: .ref 1 :: st) M :=
  y_callV kmX7_layersAt kvX7_layersAt l_1 (by decide +kernel) (by decide +kernel) h hl (ok_si_layersAt a1 M hf) (vs := [.int a1]) rfl rfl hd hsm hLr hSr kk
def K_si_layerOfNumber_5 (Q : mz_P) (x1 : Int32) (x2 : Int32) (M : dM) : ((Int32 × Int32) ⊕ Int32) → Prop
  | .inl s => mW mX7_layerOfNumber 3 Q 5 [some (.ref 1), some (.int x1), some (.int x2), some (.int s.1), some (.int s.2)] [] M
  | .inr r => mR Q (some (.int r)) M
noncomputable def b_si_layerOfNumber_5_5 (x1 : Int32) (x2 : Int32) (x3 : Int32) (x4 : Int32) (M : dM) : Option ((Int32 × Int32) ⊕ Int32) :=
  if 10 ≤ x4 then
    some (.inr 0)
  else
    (f_si_isTold x1 x4 M).bind fun v1 =>
    if v1 = true then
      if x3 = x2 then
        some (.inr x4)
      else
        some (.inl ((x3 + 1), (x4 + 1)))
    else
      some (.inl (x3, (x4 + 1)))
noncomputable def l_si_layerOfNumber_5 (x1 : Int32) (x2 : Int32) (x3 : Int32) (x4 : Int32) (M : dM) : Option Int32 := lpc (fun s => b_si_layerOfNumber_5_5 x1 x2 s.1 s.2 M) (x3, x4)
noncomputable def f_si_layerOfNumber (a1 : Int32) (a2 : Int32) (M : dM) : Option Int32 :=
  (l_si_layerOfNumber_5 a1 a2 0 0 M).bind fun r5 => some r5
theorem w_b_si_layerOfNumber_5_5 (x1 : Int32) (x2 : Int32) (x3 : Int32) (x4 : Int32) (M : dM) {Q : mz_P} {o : ((Int32 × Int32) ⊕ Int32)} (hf : b_si_layerOfNumber_5_5 x1 x2 x3 x4 M = some o) (hk : K_si_layerOfNumber_5 Q x1 x2 M o) : mW mX7_layerOfNumber 3 Q 5 [some (.ref 1), some (.int x1), some (.int x2), some (.int x3), some (.int x4)] [] M := by
  unfold b_si_layerOfNumber_5_5 at hf
  refine y_iload (i := 4) (n := 7) ⟨dX7_layerOfNumber_5, rfl⟩ rfl ?_
  refine y_bipush (n := 9) (v := 10) ⟨dX7_layerOfNumber_7, rfl⟩ kb_10 ?_
  refine y_icmp_ge (t := 39) (n := 12) ⟨dX7_layerOfNumber_9, rfl, rfl⟩ (fun (hc : 10 ≤ x4) => ?_) (fun (hc : ¬ (10 ≤ x4)) => ?_)
  · replace hf := i_t hc hf
    refine y_iconst (n := 40) (v := 0) ⟨dX7_layerOfNumber_39, rfl⟩ ki_0 ?_
    cases hf
    exact y_ireturn (n := 41) ⟨dX7_layerOfNumber_40, rfl⟩ rfl rfl hk
  · replace hf := i_f hc hf
    refine y_aload_n (i := 0) (n := 13) ⟨dX7_layerOfNumber_12, rfl⟩ rfl ?_
    refine y_iload_n (i := 1) (n := 14) ⟨dX7_layerOfNumber_13, rfl⟩ rfl ?_
    refine y_iload (i := 4) (n := 16) ⟨dX7_layerOfNumber_14, rfl⟩ rfl ?_
    obtain ⟨v1, hv2, hf⟩ := b_s hf
    refine c_si_isTold x1 x4 M (n := 19) ⟨dX7_layerOfNumber_16, rfl⟩ klX7_37 hv2 (by decide) (Nat.le_of_ble_eq_true rfl) rfl rfl ?_
    refine y_if_eq (t := 33) (n := 22) ⟨dX7_layerOfNumber_19, rfl, rfl⟩ (fun h0 => ?_) (fun h0 => ?_)
    · have hc := bI_0 h0
      replace hf := i_f hc hf
      refine y_iinc (i := 4) (n := 36) (b := (x4 + 1)) (L2 := [some (.ref 1), some (.int x1), some (.int x2), some (.int x3), some (.int (x4 + 1))]) ⟨dX7_layerOfNumber_33, rfl⟩ rfl (by rw [ki_1]) (by decide) rfl rfl ?_
      refine y_goto (t := 5) ⟨dX7_layerOfNumber_36, rfl, rfl⟩ ?_
      cases hf
      exact y_wk ⟨Or.inr rfl, Or.inr rfl, Or.inr rfl, Or.inr rfl, Or.inr rfl, trivial⟩ hk
    · have hc := bI_1 h0
      replace hf := i_t hc hf
      refine y_iload_n (i := 3) (n := 23) ⟨dX7_layerOfNumber_22, rfl⟩ rfl ?_
      refine y_iload_n (i := 2) (n := 24) ⟨dX7_layerOfNumber_23, rfl⟩ rfl ?_
      refine y_icmp_ne (t := 30) (n := 27) ⟨dX7_layerOfNumber_24, rfl, rfl⟩ (fun (hc : ¬ (x3 = x2)) => ?_) (fun (hc : x3 = x2) => ?_)
      · replace hf := i_f hc hf
        refine y_iinc (i := 3) (n := 33) (b := (x3 + 1)) (L2 := [some (.ref 1), some (.int x1), some (.int x2), some (.int (x3 + 1)), some (.int x4)]) ⟨dX7_layerOfNumber_30, rfl⟩ rfl (by rw [ki_1]) (by decide) rfl rfl ?_
        refine y_iinc (i := 4) (n := 36) (b := (x4 + 1)) (L2 := [some (.ref 1), some (.int x1), some (.int x2), some (.int (x3 + 1)), some (.int (x4 + 1))]) ⟨dX7_layerOfNumber_33, rfl⟩ rfl (by rw [ki_1]) (by decide) rfl rfl ?_
        refine y_goto (t := 5) ⟨dX7_layerOfNumber_36, rfl, rfl⟩ ?_
        cases hf
        exact y_wk ⟨Or.inr rfl, Or.inr rfl, Or.inr rfl, Or.inr rfl, Or.inr rfl, trivial⟩ hk
      · replace hf := i_t hc hf
        refine y_iload (i := 4) (n := 29) ⟨dX7_layerOfNumber_27, rfl⟩ rfl ?_
        cases hf
        exact y_ireturn (n := 30) ⟨dX7_layerOfNumber_29, rfl⟩ rfl rfl hk
theorem wl_si_layerOfNumber_5 (x1 : Int32) (x2 : Int32) (x3 : Int32) (x4 : Int32) (M : dM) {Q : mz_P} {x : Int32} (hf : l_si_layerOfNumber_5 x1 x2 x3 x4 M = some x) (hk : K_si_layerOfNumber_5 Q x1 x2 M (.inr x)) : mW mX7_layerOfNumber 3 Q 5 [some (.ref 1), some (.int x1), some (.int x2), some (.int x3), some (.int x4)] [] M :=
  lpc_wp (Wh := fun s => mW mX7_layerOfNumber 3 Q 5 [some (.ref 1), some (.int x1), some (.int x2), some (.int s.1), some (.int s.2)] [] M) (K := K_si_layerOfNumber_5 Q x1 x2 M) (fun _ h => h) (fun s o hb hk => w_b_si_layerOfNumber_5_5 x1 x2 s.1 s.2 M hb hk) hf hk
theorem ok_si_layerOfNumber (a1 : Int32) (a2 : Int32) (M : dM) {o : Int32} (hf : f_si_layerOfNumber a1 a2 M = some o) : mO mX7_layerOfNumber 3 [.ref 1, .int a1, .int a2] M (some (.int o)) M := by
  refine y_ok (by decide +kernel) (by decide) (L0 := [some (.ref 1), some (.int a1), some (.int a2), none, none]) rfl ?_
  have hk := mR_mQ (some (.int o)) M
  generalize mQ _ _ = Q at hk ⊢
  unfold f_si_layerOfNumber at hf
  refine y_iconst (n := 1) (v := 0) ⟨dX7_layerOfNumber_0, rfl⟩ ki_0 ?_
  refine y_istore_n (i := 3) (n := 2) (L2 := [some (.ref 1), some (.int a1), some (.int a2), some (.int 0), none]) ⟨dX7_layerOfNumber_1, rfl⟩ (by decide) rfl rfl ?_
  refine y_iconst (n := 3) (v := 0) ⟨dX7_layerOfNumber_2, rfl⟩ ki_0 ?_
  refine y_istore (i := 4) (n := 5) (L2 := [some (.ref 1), some (.int a1), some (.int a2), some (.int 0), some (.int 0)]) ⟨dX7_layerOfNumber_3, rfl⟩ (by decide) rfl rfl ?_
  obtain ⟨r5, hl4, hf⟩ := b_s hf
  cases hf
  exact y_wk ⟨Or.inr rfl, Or.inr rfl, Or.inr rfl, Or.inr rfl, Or.inr rfl, trivial⟩ (wl_si_layerOfNumber_5 a1 a2 0 0 M hl4 hk)
theorem c_si_layerOfNumber (a1 : Int32) (a2 : Int32) (M : dM) {o : Int32} {y : mz_M} {d : Nat} {Q : mz_P} {pc n i : Nat} {L : List (Option Value)} {st : List Value} (h : mz_d y.2.1 pc n 3 (.invokevirtual i)) (hl : mz_ml y.1.cls i yX7_layerOfNumber) (hf : f_si_layerOfNumber a1 a2 M = some o) (hd : 3 + 1 ≤ d) (hsm : (st.map (fun v => v.category)).sum ≤ 8) (hLr : mz_rL 133 L = true) (hSr : mz_rS 133 st = true) (kk : mW y d Q n L (.int o :: st) M) : mW y d Q pc L (.int a2 :: .int a1 :: .ref 1 :: st) M :=
  y_callV kmX7_layerOfNumber kvX7_layerOfNumber l_1 (by decide +kernel) (by decide +kernel) h hl (ok_si_layerOfNumber a1 a2 M hf) (vs := [.int a1, .int a2]) rfl rfl hd hsm hLr hSr kk
noncomputable def f_wo_drawLayer (a1 : Int32) (M : dM) : Option (Int32 × dM) :=
  (f_si_layersAt a1 M).bind fun v1 =>
  if v1 ≤ 0 then
    some ((-1), M)
  else
    (f_wo_draw M).bind fun q3 =>
    gd (¬ v1 = 0) <|
    (f_si_layerOfNumber a1 (q3.1 - q3.1 / v1 * v1) q3.2).bind fun v6 =>
    some (v6, q3.2)
theorem ok_wo_drawLayer (a1 : Int32) (M : dM) {o : (Int32 × dM)} (hf : f_wo_drawLayer a1 M = some o) : mO mX10_drawLayer 4 [.ref 56, .int a1] M (some (.int o.1)) o.2 := by
  refine y_ok (by decide +kernel) (by decide) (L0 := [some (.ref 56), some (.int a1), none]) rfl ?_
  have hk := mR_mQ (some (.int o.1)) o.2
  generalize mQ _ _ = Q at hk ⊢
  unfold f_wo_drawLayer at hf
  refine y_aload_n (i := 0) (n := 1) ⟨dX10_drawLayer_0, rfl⟩ rfl ?_
  refine y_getR (n := 4) ⟨dX10_drawLayer_1, rfl⟩ kfX10_43 l_56 rfl r_56_0 ?_
  refine y_iload_n (i := 1) (n := 5) ⟨dX10_drawLayer_4, rfl⟩ rfl ?_
  obtain ⟨v1, hv2, hf⟩ := b_s hf
  refine c_si_layersAt a1 M (n := 8) ⟨dX10_drawLayer_5, rfl⟩ klX10_125 hv2 (by decide) (Nat.le_of_ble_eq_true rfl) rfl rfl ?_
  refine y_istore_n (i := 2) (n := 9) (L2 := [some (.ref 56), some (.int a1), some (.int v1)]) ⟨dX10_drawLayer_8, rfl⟩ (by decide) rfl rfl ?_
  refine y_iload_n (i := 2) (n := 10) ⟨dX10_drawLayer_9, rfl⟩ rfl ?_
  refine y_if_le (t := 30) (n := 13) ⟨dX10_drawLayer_10, rfl, rfl⟩ (fun (hc : v1 ≤ 0) => ?_) (fun (hc : ¬ (v1 ≤ 0)) => ?_)
  · replace hf := i_t hc hf
    refine y_iconst (n := 31) (v := (-1)) ⟨dX10_drawLayer_30, rfl⟩ ki_m1 ?_
    cases hf
    exact y_ireturn (n := 32) ⟨dX10_drawLayer_31, rfl⟩ rfl rfl hk
  · replace hf := i_f hc hf
    refine y_aload_n (i := 0) (n := 14) ⟨dX10_drawLayer_13, rfl⟩ rfl ?_
    refine y_getR (n := 17) ⟨dX10_drawLayer_14, rfl⟩ kfX10_43 l_56 rfl r_56_0 ?_
    refine y_iload_n (i := 1) (n := 18) ⟨dX10_drawLayer_17, rfl⟩ rfl ?_
    refine y_aload_n (i := 0) (n := 19) ⟨dX10_drawLayer_18, rfl⟩ rfl ?_
    obtain ⟨q3, hv4, hf⟩ := b_s hf
    refine c_wo_draw M (n := 22) ⟨dX10_drawLayer_19, rfl⟩ klX10_130 hv4 (by decide) (Nat.le_of_ble_eq_true rfl) rfl rfl ?_
    refine y_iload_n (i := 2) (n := 23) ⟨dX10_drawLayer_22, rfl⟩ rfl ?_
    obtain ⟨hg5, hf⟩ := g_s hf
    refine y_irem (n := 24) ⟨dX10_drawLayer_23, rfl⟩ hg5 ?_
    obtain ⟨v6, hv7, hf⟩ := b_s hf
    refine c_si_layerOfNumber a1 (q3.1 - q3.1 / v1 * v1) q3.2 (n := 27) ⟨dX10_drawLayer_24, rfl⟩ klX10_134 hv7 (by decide) (Nat.le_of_ble_eq_true rfl) rfl rfl ?_
    refine y_goto (t := 31) ⟨dX10_drawLayer_27, rfl, rfl⟩ ?_
    cases hf
    exact y_ireturn (n := 32) ⟨dX10_drawLayer_31, rfl⟩ rfl rfl hk
theorem c_wo_drawLayer (a1 : Int32) (M : dM) {o : (Int32 × dM)} {y : mz_M} {d : Nat} {Q : mz_P} {pc n i : Nat} {L : List (Option Value)} {st : List Value} (h : mz_d y.2.1 pc n 3 (.invokevirtual i)) (hl : mz_ml y.1.cls i yX10_drawLayer) (hf : f_wo_drawLayer a1 M = some o) (hd : 4 + 1 ≤ d) (hsm : (st.map (fun v => v.category)).sum ≤ 8) (hLr : mz_rL 133 L = true) (hSr : mz_rS 133 st = true) (kk : mW y d Q n L (.int o.1 :: st) o.2) : mW y d Q pc L (.int a1 :: .ref 56 :: st) M :=
  y_callV kmX10_drawLayer kvX10_drawLayer l_56 (by decide +kernel) (by decide +kernel) h hl (ok_wo_drawLayer a1 M hf) (vs := [.int a1]) rfl rfl hd hsm hLr hSr kk
noncomputable def f_wo_putOne (a1 : Int32) (a2 : Int32) (M : dM) : Option dM :=
  gd (vp_in a1 80) <|
  if (f_ax_hasBit ((gI M 11 a1.toNatClampNeg).toInt64) a2) = true then
    (f_wo_draw M).bind fun q2 =>
    gd (vp_in (gI q2.2 7 a1.toNatClampNeg) 10) <|
    if (gI q2.2 58 (gI q2.2 7 a1.toNatClampNeg).toNatClampNeg) ≤ q2.1 then
      some q2.2
    else
      gd (vp_in (gI M 8 a1.toNatClampNeg) 8) <|
      if 9 ≤ (gI q2.2 61 (gI M 8 a1.toNatClampNeg).toNatClampNeg) then
        some q2.2
      else
        (f_wo_drawLayer (gI M 8 a1.toNatClampNeg) q2.2).bind fun q6 =>
        if q6.1 = (-1) then
          some q6.2
        else
          gd (vp_in (((gI M 8 a1.toNatClampNeg) * 9) + (gI q6.2 61 (gI M 8 a1.toNatClampNeg).toNatClampNeg)) 72) <|
          some (sI (sI q6.2 60 (((gI M 8 a1.toNatClampNeg) * 9) + (gI q6.2 61 (gI M 8 a1.toNatClampNeg).toNatClampNeg)).toNatClampNeg q6.1) 61 (gI M 8 a1.toNatClampNeg).toNatClampNeg ((gI (sI q6.2 60 (((gI M 8 a1.toNatClampNeg) * 9) + (gI q6.2 61 (gI M 8 a1.toNatClampNeg).toNatClampNeg)).toNatClampNeg q6.1) 61 (gI M 8 a1.toNatClampNeg).toNatClampNeg) + 1))
  else
    some M
theorem ok_wo_putOne (a1 : Int32) (a2 : Int32) (M : dM) {o : dM} (hf : f_wo_putOne a1 a2 M = some o) : mO mX10_putOne 5 [.ref 56, .int a1, .int a2] M none o := by
  refine y_ok (by decide +kernel) (by decide) (L0 := [some (.ref 56), some (.int a1), some (.int a2), none, none]) rfl ?_
  have hk := mR_mQ none o
  generalize mQ _ _ = Q at hk ⊢
  unfold f_wo_putOne at hf
  refine y_aload_n (i := 0) (n := 1) ⟨dX10_putOne_0, rfl⟩ rfl ?_
  refine y_getR (n := 4) ⟨dX10_putOne_1, rfl⟩ kfX10_47 l_56 rfl r_56_1 ?_
  refine y_getR (n := 7) ⟨dX10_putOne_4, rfl⟩ kfX10_138 l_6 rfl r_6_4 ?_
  refine y_iload_n (i := 1) (n := 8) ⟨dX10_putOne_7, rfl⟩ rfl ?_
  obtain ⟨hg1, hf⟩ := g_s hf
  refine y_iaload (n := 9) ⟨dX10_putOne_8, rfl⟩ l_11 hg1 ?_
  refine y_i2l (n := 10) ⟨dX10_putOne_9, rfl⟩ ?_
  refine y_iload_n (i := 2) (n := 11) ⟨dX10_putOne_10, rfl⟩ rfl ?_
  refine c_ax_hasBit ((gI M 11 a1.toNatClampNeg).toInt64) a2 M (n := 14) ⟨dX10_putOne_11, rfl⟩ klX10_58 rfl (by decide) (Nat.le_of_ble_eq_true rfl) rfl rfl ?_
  refine y_if_ne (t := 18) (n := 17) ⟨dX10_putOne_14, rfl, rfl⟩ (fun h0 => ?_) (fun h0 => ?_)
  · have hc := bI_1 h0
    replace hf := i_t hc hf
    refine y_aload_n (i := 0) (n := 19) ⟨dX10_putOne_18, rfl⟩ rfl ?_
    refine y_getR (n := 22) ⟨dX10_putOne_19, rfl⟩ kfX10_47 l_56 rfl r_56_1 ?_
    refine y_getR (n := 25) ⟨dX10_putOne_22, rfl⟩ kfX10_101 l_6 rfl r_6_1 ?_
    refine y_iload_n (i := 1) (n := 26) ⟨dX10_putOne_25, rfl⟩ rfl ?_
    refine y_iaload (n := 27) ⟨dX10_putOne_26, rfl⟩ l_8 hg1 ?_
    refine y_istore_n (i := 3) (n := 28) (L2 := [some (.ref 56), some (.int a1), some (.int a2), some (.int (gI M 8 a1.toNatClampNeg)), none]) ⟨dX10_putOne_27, rfl⟩ (by decide) rfl rfl ?_
    refine y_aload_n (i := 0) (n := 29) ⟨dX10_putOne_28, rfl⟩ rfl ?_
    obtain ⟨q2, hv3, hf⟩ := b_s hf
    refine c_wo_draw M (n := 32) ⟨dX10_putOne_29, rfl⟩ klX10_130 hv3 (by decide) (Nat.le_of_ble_eq_true rfl) rfl rfl ?_
    refine y_aload_n (i := 0) (n := 33) ⟨dX10_putOne_32, rfl⟩ rfl ?_
    refine y_getR (n := 36) ⟨dX10_putOne_33, rfl⟩ kfX10_15 l_56 rfl r_56_4 ?_
    refine y_aload_n (i := 0) (n := 37) ⟨dX10_putOne_36, rfl⟩ rfl ?_
    refine y_getR (n := 40) ⟨dX10_putOne_37, rfl⟩ kfX10_47 l_56 rfl r_56_1 ?_
    refine y_getR (n := 43) ⟨dX10_putOne_40, rfl⟩ kfX10_141 l_6 rfl r_6_0 ?_
    refine y_iload_n (i := 1) (n := 44) ⟨dX10_putOne_43, rfl⟩ rfl ?_
    refine y_iaload (n := 45) ⟨dX10_putOne_44, rfl⟩ l_7 hg1 ?_
    obtain ⟨hg4, hf⟩ := g_s hf
    refine y_iaload (n := 46) ⟨dX10_putOne_45, rfl⟩ l_58 hg4 ?_
    refine y_icmp_ge (t := 101) (n := 49) ⟨dX10_putOne_46, rfl, rfl⟩ (fun (hc : (gI q2.2 58 (gI q2.2 7 a1.toNatClampNeg).toNatClampNeg) ≤ q2.1) => ?_) (fun (hc : ¬ ((gI q2.2 58 (gI q2.2 7 a1.toNatClampNeg).toNatClampNeg) ≤ q2.1)) => ?_)
    · replace hf := i_t hc hf
      cases hf
      exact y_return (n := 102) ⟨dX10_putOne_101, rfl⟩ rfl hk
    · replace hf := i_f hc hf
      refine y_aload_n (i := 0) (n := 50) ⟨dX10_putOne_49, rfl⟩ rfl ?_
      refine y_getR (n := 53) ⟨dX10_putOne_50, rfl⟩ kfX10_24 l_56 rfl r_56_7 ?_
      refine y_iload_n (i := 3) (n := 54) ⟨dX10_putOne_53, rfl⟩ rfl ?_
      obtain ⟨hg5, hf⟩ := g_s hf
      refine y_iaload (n := 55) ⟨dX10_putOne_54, rfl⟩ l_61 hg5 ?_
      refine y_bipush (n := 57) (v := 9) ⟨dX10_putOne_55, rfl⟩ kb_9 ?_
      refine y_icmp_ge (t := 101) (n := 60) ⟨dX10_putOne_57, rfl, rfl⟩ (fun (hc : 9 ≤ (gI q2.2 61 (gI M 8 a1.toNatClampNeg).toNatClampNeg)) => ?_) (fun (hc : ¬ (9 ≤ (gI q2.2 61 (gI M 8 a1.toNatClampNeg).toNatClampNeg))) => ?_)
      · replace hf := i_t hc hf
        cases hf
        exact y_return (n := 102) ⟨dX10_putOne_101, rfl⟩ rfl hk
      · replace hf := i_f hc hf
        refine y_aload_n (i := 0) (n := 61) ⟨dX10_putOne_60, rfl⟩ rfl ?_
        refine y_iload_n (i := 3) (n := 62) ⟨dX10_putOne_61, rfl⟩ rfl ?_
        obtain ⟨q6, hv7, hf⟩ := b_s hf
        refine c_wo_drawLayer (gI M 8 a1.toNatClampNeg) q2.2 (n := 65) ⟨dX10_putOne_62, rfl⟩ klX10_144 hv7 (by decide) (Nat.le_of_ble_eq_true rfl) rfl rfl ?_
        refine y_istore (i := 4) (n := 67) (L2 := [some (.ref 56), some (.int a1), some (.int a2), some (.int (gI M 8 a1.toNatClampNeg)), some (.int q6.1)]) ⟨dX10_putOne_65, rfl⟩ (by decide) rfl rfl ?_
        refine y_iload (i := 4) (n := 69) ⟨dX10_putOne_67, rfl⟩ rfl ?_
        refine y_iconst (n := 70) (v := (-1)) ⟨dX10_putOne_69, rfl⟩ ki_m1 ?_
        refine y_icmp_eq (t := 101) (n := 73) ⟨dX10_putOne_70, rfl, rfl⟩ (fun (hc : q6.1 = (-1)) => ?_) (fun (hc : ¬ (q6.1 = (-1))) => ?_)
        · replace hf := i_t hc hf
          cases hf
          exact y_return (n := 102) ⟨dX10_putOne_101, rfl⟩ rfl hk
        · replace hf := i_f hc hf
          refine y_aload_n (i := 0) (n := 74) ⟨dX10_putOne_73, rfl⟩ rfl ?_
          refine y_getR (n := 77) ⟨dX10_putOne_74, rfl⟩ kfX10_21 l_56 rfl r_56_6 ?_
          refine y_iload_n (i := 3) (n := 78) ⟨dX10_putOne_77, rfl⟩ rfl ?_
          refine y_bipush (n := 80) (v := 9) ⟨dX10_putOne_78, rfl⟩ kb_9 ?_
          refine y_imul (n := 81) ⟨dX10_putOne_80, rfl⟩ ?_
          refine y_aload_n (i := 0) (n := 82) ⟨dX10_putOne_81, rfl⟩ rfl ?_
          refine y_getR (n := 85) ⟨dX10_putOne_82, rfl⟩ kfX10_24 l_56 rfl r_56_7 ?_
          refine y_iload_n (i := 3) (n := 86) ⟨dX10_putOne_85, rfl⟩ rfl ?_
          refine y_iaload (n := 87) ⟨dX10_putOne_86, rfl⟩ l_61 hg5 ?_
          refine y_iadd (n := 88) ⟨dX10_putOne_87, rfl⟩ ?_
          refine y_iload (i := 4) (n := 90) ⟨dX10_putOne_88, rfl⟩ rfl ?_
          obtain ⟨hg8, hf⟩ := g_s hf
          refine y_iastore (n := 91) ⟨dX10_putOne_90, rfl⟩ l_60 hg8 ?_
          refine y_aload_n (i := 0) (n := 92) ⟨dX10_putOne_91, rfl⟩ rfl ?_
          refine y_getR (n := 95) ⟨dX10_putOne_92, rfl⟩ kfX10_24 l_56 rfl r_56_7 ?_
          refine y_iload_n (i := 3) (n := 96) ⟨dX10_putOne_95, rfl⟩ rfl ?_
          refine y_dup2 (n := 97) ⟨dX10_putOne_96, rfl⟩ ?_
          refine y_iaload (n := 98) ⟨dX10_putOne_97, rfl⟩ l_61 hg5 ?_
          refine y_iconst (n := 99) (v := 1) ⟨dX10_putOne_98, rfl⟩ ki_1 ?_
          refine y_iadd (n := 100) ⟨dX10_putOne_99, rfl⟩ ?_
          refine y_iastore (n := 101) ⟨dX10_putOne_100, rfl⟩ l_61 hg5 ?_
          cases hf
          exact y_return (n := 102) ⟨dX10_putOne_101, rfl⟩ rfl hk
  · have hc := bI_0 h0
    replace hf := i_f hc hf
    cases hf
    exact y_return (n := 18) ⟨dX10_putOne_17, rfl⟩ rfl hk
theorem c_wo_putOne (a1 : Int32) (a2 : Int32) (M : dM) {o : dM} {y : mz_M} {d : Nat} {Q : mz_P} {pc n i : Nat} {L : List (Option Value)} {st : List Value} (h : mz_d y.2.1 pc n 3 (.invokevirtual i)) (hl : mz_ml y.1.cls i yX10_putOne) (hf : f_wo_putOne a1 a2 M = some o) (hd : 5 + 1 ≤ d) (hsm : (st.map (fun v => v.category)).sum ≤ 8) (hLr : mz_rL 133 L = true) (hSr : mz_rS 133 st = true) (kk : mW y d Q n L st o) : mW y d Q pc L (.int a2 :: .int a1 :: .ref 56 :: st) M :=
  y_callV kmX10_putOne kvX10_putOne l_56 (by decide +kernel) (by decide +kernel) h hl (ok_wo_putOne a1 a2 M hf) (vs := [.int a1, .int a2]) rfl rfl hd hsm hLr hSr kk
noncomputable def f_wo_takeEarliest (a1 : Int32) (M : dM) : Option (Int32 × dM) :=
  gd (vp_in (a1 * 9) 72) <|
  gd (vp_in a1 8) <|
  gd ((¬ ((a1 * 9) + 1) < 0 ∧ ¬ (a1 * 9) < 0 ∧ ¬ (gI (sI M 61 a1.toNatClampNeg ((gI M 61 a1.toNatClampNeg) - 1)) 61 a1.toNatClampNeg) < 0) ∧ ((a1 * 9) + 1).toNatClampNeg + (gI (sI M 61 a1.toNatClampNeg ((gI M 61 a1.toNatClampNeg) - 1)) 61 a1.toNatClampNeg).toNatClampNeg ≤ 72 ∧ (a1 * 9).toNatClampNeg + (gI (sI M 61 a1.toNatClampNeg ((gI M 61 a1.toNatClampNeg) - 1)) 61 a1.toNatClampNeg).toNatClampNeg ≤ 72) <|
  some ((gI M 60 (a1 * 9).toNatClampNeg), (cI (sI M 61 a1.toNatClampNeg ((gI M 61 a1.toNatClampNeg) - 1)) 60 60 ((a1 * 9) + 1).toNatClampNeg (a1 * 9).toNatClampNeg (gI (sI M 61 a1.toNatClampNeg ((gI M 61 a1.toNatClampNeg) - 1)) 61 a1.toNatClampNeg).toNatClampNeg))
theorem ok_wo_takeEarliest (a1 : Int32) (M : dM) {o : (Int32 × dM)} (hf : f_wo_takeEarliest a1 M = some o) : mO mX10_takeEarliest 1 [.ref 56, .int a1] M (some (.int o.1)) o.2 := by
  refine y_ok (by decide +kernel) (by decide) (L0 := [some (.ref 56), some (.int a1), none, none]) rfl ?_
  have hk := mR_mQ (some (.int o.1)) o.2
  generalize mQ _ _ = Q at hk ⊢
  unfold f_wo_takeEarliest at hf
  refine y_iload_n (i := 1) (n := 1) ⟨dX10_takeEarliest_0, rfl⟩ rfl ?_
  refine y_bipush (n := 3) (v := 9) ⟨dX10_takeEarliest_1, rfl⟩ kb_9 ?_
  refine y_imul (n := 4) ⟨dX10_takeEarliest_3, rfl⟩ ?_
  refine y_istore_n (i := 2) (n := 5) (L2 := [some (.ref 56), some (.int a1), some (.int (a1 * 9)), none]) ⟨dX10_takeEarliest_4, rfl⟩ (by decide) rfl rfl ?_
  refine y_aload_n (i := 0) (n := 6) ⟨dX10_takeEarliest_5, rfl⟩ rfl ?_
  refine y_getR (n := 9) ⟨dX10_takeEarliest_6, rfl⟩ kfX10_21 l_56 rfl r_56_6 ?_
  refine y_iload_n (i := 2) (n := 10) ⟨dX10_takeEarliest_9, rfl⟩ rfl ?_
  obtain ⟨hg1, hf⟩ := g_s hf
  refine y_iaload (n := 11) ⟨dX10_takeEarliest_10, rfl⟩ l_60 hg1 ?_
  refine y_istore_n (i := 3) (n := 12) (L2 := [some (.ref 56), some (.int a1), some (.int (a1 * 9)), some (.int (gI M 60 (a1 * 9).toNatClampNeg))]) ⟨dX10_takeEarliest_11, rfl⟩ (by decide) rfl rfl ?_
  refine y_aload_n (i := 0) (n := 13) ⟨dX10_takeEarliest_12, rfl⟩ rfl ?_
  refine y_getR (n := 16) ⟨dX10_takeEarliest_13, rfl⟩ kfX10_24 l_56 rfl r_56_7 ?_
  refine y_iload_n (i := 1) (n := 17) ⟨dX10_takeEarliest_16, rfl⟩ rfl ?_
  refine y_dup2 (n := 18) ⟨dX10_takeEarliest_17, rfl⟩ ?_
  obtain ⟨hg2, hf⟩ := g_s hf
  refine y_iaload (n := 19) ⟨dX10_takeEarliest_18, rfl⟩ l_61 hg2 ?_
  refine y_iconst (n := 20) (v := 1) ⟨dX10_takeEarliest_19, rfl⟩ ki_1 ?_
  refine y_isub (n := 21) ⟨dX10_takeEarliest_20, rfl⟩ ?_
  refine y_iastore (n := 22) ⟨dX10_takeEarliest_21, rfl⟩ l_61 hg2 ?_
  refine y_aload_n (i := 0) (n := 23) ⟨dX10_takeEarliest_22, rfl⟩ rfl ?_
  refine y_getR (n := 26) ⟨dX10_takeEarliest_23, rfl⟩ kfX10_21 l_56 rfl r_56_6 ?_
  refine y_iload_n (i := 2) (n := 27) ⟨dX10_takeEarliest_26, rfl⟩ rfl ?_
  refine y_iconst (n := 28) (v := 1) ⟨dX10_takeEarliest_27, rfl⟩ ki_1 ?_
  refine y_iadd (n := 29) ⟨dX10_takeEarliest_28, rfl⟩ ?_
  refine y_aload_n (i := 0) (n := 30) ⟨dX10_takeEarliest_29, rfl⟩ rfl ?_
  refine y_getR (n := 33) ⟨dX10_takeEarliest_30, rfl⟩ kfX10_21 l_56 rfl r_56_6 ?_
  refine y_iload_n (i := 2) (n := 34) ⟨dX10_takeEarliest_33, rfl⟩ rfl ?_
  refine y_aload_n (i := 0) (n := 35) ⟨dX10_takeEarliest_34, rfl⟩ rfl ?_
  refine y_getR (n := 38) ⟨dX10_takeEarliest_35, rfl⟩ kfX10_24 l_56 rfl r_56_7 ?_
  refine y_iload_n (i := 1) (n := 39) ⟨dX10_takeEarliest_38, rfl⟩ rfl ?_
  refine y_iaload (n := 40) ⟨dX10_takeEarliest_39, rfl⟩ l_61 hg2 ?_
  obtain ⟨hg3, hf⟩ := g_s hf
  refine y_copy (n := 43) ⟨dX10_takeEarliest_40, rfl⟩ (mz_in 1353 (by decide +kernel) (by decide +kernel)) kcopyN kcopyS kcopyI l_60 l_60 hg3.1.1 hg3.1.2.1 hg3.1.2.2 hg3.2.1 hg3.2.2 (by decide) (Nat.le_of_ble_eq_true rfl) ?_
  refine y_iload_n (i := 3) (n := 44) ⟨dX10_takeEarliest_43, rfl⟩ rfl ?_
  cases hf
  exact y_ireturn (n := 45) ⟨dX10_takeEarliest_44, rfl⟩ rfl rfl hk
theorem c_wo_takeEarliest (a1 : Int32) (M : dM) {o : (Int32 × dM)} {y : mz_M} {d : Nat} {Q : mz_P} {pc n i : Nat} {L : List (Option Value)} {st : List Value} (h : mz_d y.2.1 pc n 3 (.invokevirtual i)) (hl : mz_ml y.1.cls i yX10_takeEarliest) (hf : f_wo_takeEarliest a1 M = some o) (hd : 1 + 1 ≤ d) (hsm : (st.map (fun v => v.category)).sum ≤ 8) (hLr : mz_rL 133 L = true) (hSr : mz_rS 133 st = true) (kk : mW y d Q n L (.int o.1 :: st) o.2) : mW y d Q pc L (.int a1 :: .ref 56 :: st) M :=
  y_callV kmX10_takeEarliest kvX10_takeEarliest l_56 (by decide +kernel) (by decide +kernel) h hl (ok_wo_takeEarliest a1 M hf) (vs := [.int a1]) rfl rfl hd hsm hLr hSr kk
noncomputable def f_wo_seekPut (a1 : Int32) (M : dM) : Option (Int32 × dM) :=
  (f_wo_draw M).bind fun q1 =>
  gd (vp_in a1 80) <|
  gd (vp_in (gI q1.2 7 a1.toNatClampNeg) 10) <|
  if (gI q1.2 57 (gI q1.2 7 a1.toNatClampNeg).toNatClampNeg) ≤ q1.1 then
    some ((-1), q1.2)
  else
    (f_wo_takeEarliest (gI q1.2 8 a1.toNatClampNeg) q1.2).bind fun q5 =>
    some (q5.1, q5.2)
theorem ok_wo_seekPut (a1 : Int32) (M : dM) {o : (Int32 × dM)} (hf : f_wo_seekPut a1 M = some o) : mO mX10_seekPut 2 [.ref 56, .int a1] M (some (.int o.1)) o.2 := by
  refine y_ok (by decide +kernel) (by decide) (L0 := [some (.ref 56), some (.int a1)]) rfl ?_
  have hk := mR_mQ (some (.int o.1)) o.2
  generalize mQ _ _ = Q at hk ⊢
  unfold f_wo_seekPut at hf
  refine y_aload_n (i := 0) (n := 1) ⟨dX10_seekPut_0, rfl⟩ rfl ?_
  obtain ⟨q1, hv2, hf⟩ := b_s hf
  refine c_wo_draw M (n := 4) ⟨dX10_seekPut_1, rfl⟩ klX10_130 hv2 (by decide) (Nat.le_of_ble_eq_true rfl) rfl rfl ?_
  refine y_aload_n (i := 0) (n := 5) ⟨dX10_seekPut_4, rfl⟩ rfl ?_
  refine y_getR (n := 8) ⟨dX10_seekPut_5, rfl⟩ kfX10_11 l_56 rfl r_56_3 ?_
  refine y_aload_n (i := 0) (n := 9) ⟨dX10_seekPut_8, rfl⟩ rfl ?_
  refine y_getR (n := 12) ⟨dX10_seekPut_9, rfl⟩ kfX10_47 l_56 rfl r_56_1 ?_
  refine y_getR (n := 15) ⟨dX10_seekPut_12, rfl⟩ kfX10_141 l_6 rfl r_6_0 ?_
  refine y_iload_n (i := 1) (n := 16) ⟨dX10_seekPut_15, rfl⟩ rfl ?_
  obtain ⟨hg3, hf⟩ := g_s hf
  refine y_iaload (n := 17) ⟨dX10_seekPut_16, rfl⟩ l_7 hg3 ?_
  obtain ⟨hg4, hf⟩ := g_s hf
  refine y_iaload (n := 18) ⟨dX10_seekPut_17, rfl⟩ l_57 hg4 ?_
  refine y_icmp_ge (t := 37) (n := 21) ⟨dX10_seekPut_18, rfl, rfl⟩ (fun (hc : (gI q1.2 57 (gI q1.2 7 a1.toNatClampNeg).toNatClampNeg) ≤ q1.1) => ?_) (fun (hc : ¬ ((gI q1.2 57 (gI q1.2 7 a1.toNatClampNeg).toNatClampNeg) ≤ q1.1)) => ?_)
  · replace hf := i_t hc hf
    refine y_iconst (n := 38) (v := (-1)) ⟨dX10_seekPut_37, rfl⟩ ki_m1 ?_
    cases hf
    exact y_ireturn (n := 39) ⟨dX10_seekPut_38, rfl⟩ rfl rfl hk
  · replace hf := i_f hc hf
    refine y_aload_n (i := 0) (n := 22) ⟨dX10_seekPut_21, rfl⟩ rfl ?_
    refine y_aload_n (i := 0) (n := 23) ⟨dX10_seekPut_22, rfl⟩ rfl ?_
    refine y_getR (n := 26) ⟨dX10_seekPut_23, rfl⟩ kfX10_47 l_56 rfl r_56_1 ?_
    refine y_getR (n := 29) ⟨dX10_seekPut_26, rfl⟩ kfX10_101 l_6 rfl r_6_1 ?_
    refine y_iload_n (i := 1) (n := 30) ⟨dX10_seekPut_29, rfl⟩ rfl ?_
    refine y_iaload (n := 31) ⟨dX10_seekPut_30, rfl⟩ l_8 hg3 ?_
    obtain ⟨q5, hv6, hf⟩ := b_s hf
    refine c_wo_takeEarliest (gI q1.2 8 a1.toNatClampNeg) q1.2 (n := 34) ⟨dX10_seekPut_31, rfl⟩ klX10_147 hv6 (by decide) (Nat.le_of_ble_eq_true rfl) rfl rfl ?_
    refine y_goto (t := 38) ⟨dX10_seekPut_34, rfl, rfl⟩ ?_
    cases hf
    exact y_ireturn (n := 39) ⟨dX10_seekPut_38, rfl⟩ rfl rfl hk
theorem c_wo_seekPut (a1 : Int32) (M : dM) {o : (Int32 × dM)} {y : mz_M} {d : Nat} {Q : mz_P} {pc n i : Nat} {L : List (Option Value)} {st : List Value} (h : mz_d y.2.1 pc n 3 (.invokevirtual i)) (hl : mz_ml y.1.cls i yX10_seekPut) (hf : f_wo_seekPut a1 M = some o) (hd : 2 + 1 ≤ d) (hsm : (st.map (fun v => v.category)).sum ≤ 8) (hLr : mz_rL 133 L = true) (hSr : mz_rS 133 st = true) (kk : mW y d Q n L (.int o.1 :: st) o.2) : mW y d Q pc L (.int a1 :: .ref 56 :: st) M :=
  y_callV kmX10_seekPut kvX10_seekPut l_56 (by decide +kernel) (by decide +kernel) h hl (ok_wo_seekPut a1 M hf) (vs := [.int a1]) rfl rfl hd hsm hLr hSr kk
noncomputable def f_ju_judgeFound (a1 : Int32) (a2 : Int32) (a3 : Int32) (a4 : Int32) (a5 : Int32) (a6 : Int32) (M : dM) : Option (Int32 × dM) :=
  gd (vp_in a1 80) <|
  (f_ju_placeFacts 680 (gI M 8 a1.toNatClampNeg) (gI M 9 a1.toNatClampNeg) a2 (gI M 7 a1.toNatClampNeg) M).bind fun q2 =>
  (f_ju_thingFacts 680 (gI M 8 a1.toNatClampNeg) a3 a4 a6 q2).bind fun q4 =>
  (f_la_judgeBy 680 (sI (sI q4.2 40 691 a5) 40 696 0)).bind fun q6 =>
  some (q6.1, q6.2)
theorem ok_ju_judgeFound (a1 : Int32) (a2 : Int32) (a3 : Int32) (a4 : Int32) (a5 : Int32) (a6 : Int32) (M : dM) {o : (Int32 × dM)} (hf : f_ju_judgeFound a1 a2 a3 a4 a5 a6 M = some o) : mO mX2_judgeFound 4 [.ref 39, .int a1, .int a2, .int a3, .int a4, .int a5, .int a6] M (some (.int o.1)) o.2 := by
  refine y_ok (by decide +kernel) (by decide) (L0 := [some (.ref 39), some (.int a1), some (.int a2), some (.int a3), some (.int a4), some (.int a5), some (.int a6), none]) rfl ?_
  have hk := mR_mQ (some (.int o.1)) o.2
  generalize mQ _ _ = Q at hk ⊢
  unfold f_ju_judgeFound at hf
  refine y_aload_n (i := 0) (n := 1) ⟨dX2_judgeFound_0, rfl⟩ rfl ?_
  refine y_getR (n := 4) ⟨dX2_judgeFound_1, rfl⟩ kfX2_36 l_39 rfl r_39_1 ?_
  refine y_getR (n := 7) ⟨dX2_judgeFound_4, rfl⟩ kfX2_135 l_6 rfl r_6_1 ?_
  refine y_iload_n (i := 1) (n := 8) ⟨dX2_judgeFound_7, rfl⟩ rfl ?_
  obtain ⟨hg1, hf⟩ := g_s hf
  refine y_iaload (n := 9) ⟨dX2_judgeFound_8, rfl⟩ l_8 hg1 ?_
  refine y_istore (i := 7) (n := 11) (L2 := [some (.ref 39), some (.int a1), some (.int a2), some (.int a3), some (.int a4), some (.int a5), some (.int a6), some (.int (gI M 8 a1.toNatClampNeg))]) ⟨dX2_judgeFound_9, rfl⟩ (by decide) rfl rfl ?_
  refine y_aload_n (i := 0) (n := 12) ⟨dX2_judgeFound_11, rfl⟩ rfl ?_
  refine y_sipush (n := 15) (v := 680) ⟨dX2_judgeFound_12, rfl⟩ ks_680 ?_
  refine y_iload (i := 7) (n := 17) ⟨dX2_judgeFound_15, rfl⟩ rfl ?_
  refine y_aload_n (i := 0) (n := 18) ⟨dX2_judgeFound_17, rfl⟩ rfl ?_
  refine y_getR (n := 21) ⟨dX2_judgeFound_18, rfl⟩ kfX2_36 l_39 rfl r_39_1 ?_
  refine y_getR (n := 24) ⟨dX2_judgeFound_21, rfl⟩ kfX2_136 l_6 rfl r_6_2 ?_
  refine y_iload_n (i := 1) (n := 25) ⟨dX2_judgeFound_24, rfl⟩ rfl ?_
  refine y_iaload (n := 26) ⟨dX2_judgeFound_25, rfl⟩ l_9 hg1 ?_
  refine y_iload_n (i := 2) (n := 27) ⟨dX2_judgeFound_26, rfl⟩ rfl ?_
  refine y_aload_n (i := 0) (n := 28) ⟨dX2_judgeFound_27, rfl⟩ rfl ?_
  refine y_getR (n := 31) ⟨dX2_judgeFound_28, rfl⟩ kfX2_36 l_39 rfl r_39_1 ?_
  refine y_getR (n := 34) ⟨dX2_judgeFound_31, rfl⟩ kfX2_137 l_6 rfl r_6_0 ?_
  refine y_iload_n (i := 1) (n := 35) ⟨dX2_judgeFound_34, rfl⟩ rfl ?_
  refine y_iaload (n := 36) ⟨dX2_judgeFound_35, rfl⟩ l_7 hg1 ?_
  obtain ⟨q2, hv3, hf⟩ := b_s hf
  refine c_ju_placeFacts 680 (gI M 8 a1.toNatClampNeg) (gI M 9 a1.toNatClampNeg) a2 (gI M 7 a1.toNatClampNeg) M (n := 39) ⟨dX2_judgeFound_36, rfl⟩ klX2_68 hv3 (by decide) (Nat.le_of_ble_eq_true rfl) rfl rfl ?_
  refine y_aload_n (i := 0) (n := 40) ⟨dX2_judgeFound_39, rfl⟩ rfl ?_
  refine y_sipush (n := 43) (v := 680) ⟨dX2_judgeFound_40, rfl⟩ ks_680 ?_
  refine y_iload (i := 7) (n := 45) ⟨dX2_judgeFound_43, rfl⟩ rfl ?_
  refine y_iload_n (i := 3) (n := 46) ⟨dX2_judgeFound_45, rfl⟩ rfl ?_
  refine y_iload (i := 4) (n := 48) ⟨dX2_judgeFound_46, rfl⟩ rfl ?_
  refine y_iload (i := 6) (n := 50) ⟨dX2_judgeFound_48, rfl⟩ rfl ?_
  obtain ⟨q4, hv5, hf⟩ := b_s hf
  refine c_ju_thingFacts 680 (gI M 8 a1.toNatClampNeg) a3 a4 a6 q2 (n := 53) ⟨dX2_judgeFound_50, rfl⟩ klX2_78 hv5 (by decide) (Nat.le_of_ble_eq_true rfl) rfl rfl ?_
  refine y_pop_i (n := 54) ⟨dX2_judgeFound_53, rfl⟩ ?_
  refine y_aload_n (i := 0) (n := 55) ⟨dX2_judgeFound_54, rfl⟩ rfl ?_
  refine y_getR (n := 58) ⟨dX2_judgeFound_55, rfl⟩ kfX2_9 l_39 rfl r_39_4 ?_
  refine y_sipush (n := 61) (v := 691) ⟨dX2_judgeFound_58, rfl⟩ ks_691 ?_
  refine y_iload (i := 5) (n := 63) ⟨dX2_judgeFound_61, rfl⟩ rfl ?_
  refine y_iastore (n := 64) ⟨dX2_judgeFound_63, rfl⟩ l_40 (by unfold vp_in; decide) ?_
  refine y_aload_n (i := 0) (n := 65) ⟨dX2_judgeFound_64, rfl⟩ rfl ?_
  refine y_getR (n := 68) ⟨dX2_judgeFound_65, rfl⟩ kfX2_9 l_39 rfl r_39_4 ?_
  refine y_sipush (n := 71) (v := 696) ⟨dX2_judgeFound_68, rfl⟩ ks_696 ?_
  refine y_iconst (n := 72) (v := 0) ⟨dX2_judgeFound_71, rfl⟩ ki_0 ?_
  refine y_iastore (n := 73) ⟨dX2_judgeFound_72, rfl⟩ l_40 (by unfold vp_in; decide) ?_
  refine y_aload_n (i := 0) (n := 74) ⟨dX2_judgeFound_73, rfl⟩ rfl ?_
  refine y_getR (n := 77) ⟨dX2_judgeFound_74, rfl⟩ kfX2_44 l_39 rfl r_39_3 ?_
  refine y_aload_n (i := 0) (n := 78) ⟨dX2_judgeFound_77, rfl⟩ rfl ?_
  refine y_getR (n := 81) ⟨dX2_judgeFound_78, rfl⟩ kfX2_9 l_39 rfl r_39_4 ?_
  refine y_sipush (n := 84) (v := 680) ⟨dX2_judgeFound_81, rfl⟩ ks_680 ?_
  obtain ⟨q6, hv7, hf⟩ := b_s hf
  refine c_la_judgeBy 680 (sI (sI q4.2 40 691 a5) 40 696 0) (n := 87) ⟨dX2_judgeFound_84, rfl⟩ klX2_91 hv7 (by decide) (Nat.le_of_ble_eq_true rfl) rfl rfl ?_
  cases hf
  exact y_ireturn (n := 88) ⟨dX2_judgeFound_87, rfl⟩ rfl rfl hk
theorem c_ju_judgeFound (a1 : Int32) (a2 : Int32) (a3 : Int32) (a4 : Int32) (a5 : Int32) (a6 : Int32) (M : dM) {o : (Int32 × dM)} {y : mz_M} {d : Nat} {Q : mz_P} {pc n i : Nat} {L : List (Option Value)} {st : List Value} (h : mz_d y.2.1 pc n 3 (.invokevirtual i)) (hl : mz_ml y.1.cls i yX2_judgeFound) (hf : f_ju_judgeFound a1 a2 a3 a4 a5 a6 M = some o) (hd : 4 + 1 ≤ d) (hsm : (st.map (fun v => v.category)).sum ≤ 8) (hLr : mz_rL 133 L = true) (hSr : mz_rS 133 st = true) (kk : mW y d Q n L (.int o.1 :: st) o.2) : mW y d Q pc L (.int a6 :: .int a5 :: .int a4 :: .int a3 :: .int a2 :: .int a1 :: .ref 39 :: st) M :=
  y_callV kmX2_judgeFound kvX2_judgeFound l_39 (by decide +kernel) (by decide +kernel) h hl (ok_ju_judgeFound a1 a2 a3 a4 a5 a6 M hf) (vs := [.int a1, .int a2, .int a3, .int a4, .int a5, .int a6]) rfl rfl hd hsm hLr hSr kk
def K_wo_addToTally_69 (Q : mz_P) (x1 : Int32) (x3 : Int32) (M : dM) : ((Int32 × dM) ⊕ dM) → Prop
  | .inl s => mW mX10_addToTally 1 Q 69 [some (.ref 56), some (.int x1), none, some (.int x3), none, some (.int s.1), none] [] s.2
  | .inr r => mR Q none r
noncomputable def b_wo_addToTally_69_107 (x1 : Int32) (x3 : Int32) (x5 : Int32) (y1 : Int32) (y2 : Int32) (y3 : Int32) (M : dM) : Option ((Int32 × dM) ⊕ dM) :=
  gd (vp_in y1 14) <|
  some (.inl ((x5 + 1), (sI M 63 y1.toNatClampNeg (y2 + y3))))
noncomputable def b_wo_addToTally_69_69 (x1 : Int32) (x3 : Int32) (x5 : Int32) (M : dM) : Option ((Int32 × dM) ⊕ dM) :=
  if 8 ≤ x5 then
    some (.inr M)
  else
    gd (vp_in (6 + x5) 14) <|
    if x3 = 0 then
      b_wo_addToTally_69_107 x1 x3 x5 (6 + x5) (gI M 63 (6 + x5).toNatClampNeg) (-((x1 >>> (x5 &&& 31)) &&& 1)) M
    else
      b_wo_addToTally_69_107 x1 x3 x5 (6 + x5) (gI M 63 (6 + x5).toNatClampNeg) ((x1 >>> (x5 &&& 31)) &&& 1) M
noncomputable def l_wo_addToTally_69 (x1 : Int32) (x3 : Int32) (x5 : Int32) (M : dM) : Option dM := lpc (fun s => b_wo_addToTally_69_69 x1 x3 s.1 s.2) (x5, M)
noncomputable def t_wo_addToTally_64 (x1 : Int32) (x3 : Int32) (y1 : Int32) (y2 : Int32) (y3 : Int32) (M : dM) : Option dM :=
  gd (vp_in y1 14) <|
  (l_wo_addToTally_69 x1 x3 0 (sI M 63 y1.toNatClampNeg (y2 + y3))).bind fun r10 => some r10
noncomputable def t_wo_addToTally_42 (x1 : Int32) (x2 : Int32) (x3 : Int32) (x4 : Int32) (y1 : Int32) (y2 : Int32) (y3 : Int32) (M : dM) : Option dM :=
  gd (vp_in y1 14) <|
  gd (vp_in (x4 + 2) 14) <|
  if x2 = 1 then
    t_wo_addToTally_64 x1 x3 (x4 + 2) (gI (sI M 63 y1.toNatClampNeg (y2 + y3)) 63 (x4 + 2).toNatClampNeg) 1 (sI M 63 y1.toNatClampNeg (y2 + y3))
  else
    t_wo_addToTally_64 x1 x3 (x4 + 2) (gI (sI M 63 y1.toNatClampNeg (y2 + y3)) 63 (x4 + 2).toNatClampNeg) 0 (sI M 63 y1.toNatClampNeg (y2 + y3))
noncomputable def t_wo_addToTally_9 (x1 : Int32) (x2 : Int32) (x3 : Int32) (y0 : Int32) (M : dM) : Option dM :=
  gd (vp_in y0 14) <|
  gd (vp_in (y0 + 1) 14) <|
  if x2 = 2 then
    t_wo_addToTally_42 x1 x2 x3 y0 (y0 + 1) (gI (sI M 63 y0.toNatClampNeg ((gI M 63 y0.toNatClampNeg) + 1)) 63 (y0 + 1).toNatClampNeg) 1 (sI M 63 y0.toNatClampNeg ((gI M 63 y0.toNatClampNeg) + 1))
  else
    t_wo_addToTally_42 x1 x2 x3 y0 (y0 + 1) (gI (sI M 63 y0.toNatClampNeg ((gI M 63 y0.toNatClampNeg) + 1)) 63 (y0 + 1).toNatClampNeg) 0 (sI M 63 y0.toNatClampNeg ((gI M 63 y0.toNatClampNeg) + 1))
noncomputable def f_wo_addToTally (a1 : Int32) (a2 : Int32) (a3 : Int32) (M : dM) : Option dM :=
  if a3 = 0 then
    t_wo_addToTally_9 a1 a2 a3 0 M
  else
    t_wo_addToTally_9 a1 a2 a3 3 M
theorem w_b_wo_addToTally_69_107 (x1 : Int32) (x3 : Int32) (x5 : Int32) (y1 : Int32) (y2 : Int32) (y3 : Int32) (M : dM) {Q : mz_P} {o : ((Int32 × dM) ⊕ dM)} (hf : b_wo_addToTally_69_107 x1 x3 x5 y1 y2 y3 M = some o) (hk : K_wo_addToTally_69 Q x1 x3 M o) : mW mX10_addToTally 1 Q 107 [some (.ref 56), some (.int x1), none, some (.int x3), none, some (.int x5), none] [.ref 63, .int y1, .int y2, .int y3] M := by
  unfold b_wo_addToTally_69_107 at hf
  refine y_iadd (n := 108) ⟨dX10_addToTally_107, rfl⟩ ?_
  obtain ⟨hg7, hf⟩ := g_s hf
  refine y_iastore (n := 109) ⟨dX10_addToTally_108, rfl⟩ l_63 hg7 ?_
  refine y_iinc (i := 5) (n := 112) (b := (x5 + 1)) (L2 := [some (.ref 56), some (.int x1), none, some (.int x3), none, some (.int (x5 + 1)), none]) ⟨dX10_addToTally_109, rfl⟩ rfl (by rw [ki_1]) (by decide) rfl rfl ?_
  refine y_goto (t := 69) ⟨dX10_addToTally_112, rfl, rfl⟩ ?_
  cases hf
  exact y_wk ⟨Or.inr rfl, Or.inr rfl, Or.inr rfl, Or.inr rfl, Or.inr rfl, Or.inr rfl, Or.inr rfl, trivial⟩ hk
theorem w_b_wo_addToTally_69_69 (x1 : Int32) (x3 : Int32) (x5 : Int32) (M : dM) {Q : mz_P} {o : ((Int32 × dM) ⊕ dM)} (hf : b_wo_addToTally_69_69 x1 x3 x5 M = some o) (hk : K_wo_addToTally_69 Q x1 x3 M o) : mW mX10_addToTally 1 Q 69 [some (.ref 56), some (.int x1), none, some (.int x3), none, some (.int x5), none] [] M := by
  unfold b_wo_addToTally_69_69 at hf
  refine y_iload (i := 5) (n := 71) ⟨dX10_addToTally_69, rfl⟩ rfl ?_
  refine y_bipush (n := 73) (v := 8) ⟨dX10_addToTally_71, rfl⟩ kb_8 ?_
  refine y_icmp_ge (t := 115) (n := 76) ⟨dX10_addToTally_73, rfl, rfl⟩ (fun (hc : 8 ≤ x5) => ?_) (fun (hc : ¬ (8 ≤ x5)) => ?_)
  · replace hf := i_t hc hf
    cases hf
    exact y_return (n := 116) ⟨dX10_addToTally_115, rfl⟩ rfl hk
  · replace hf := i_f hc hf
    refine y_iload_n (i := 1) (n := 77) ⟨dX10_addToTally_76, rfl⟩ rfl ?_
    refine y_iload (i := 5) (n := 79) ⟨dX10_addToTally_77, rfl⟩ rfl ?_
    refine y_ishr (n := 80) ⟨dX10_addToTally_79, rfl⟩ ?_
    refine y_iconst (n := 81) (v := 1) ⟨dX10_addToTally_80, rfl⟩ ki_1 ?_
    refine y_iand (n := 82) ⟨dX10_addToTally_81, rfl⟩ ?_
    refine y_istore (i := 6) (n := 84) (L2 := [some (.ref 56), some (.int x1), none, some (.int x3), none, some (.int x5), some (.int ((x1 >>> (x5 &&& 31)) &&& 1))]) ⟨dX10_addToTally_82, rfl⟩ (by decide) rfl rfl ?_
    refine y_aload_n (i := 0) (n := 85) ⟨dX10_addToTally_84, rfl⟩ rfl ?_
    refine y_getR (n := 88) ⟨dX10_addToTally_85, rfl⟩ kfX10_30 l_56 rfl r_56_11 ?_
    refine y_bipush (n := 90) (v := 6) ⟨dX10_addToTally_88, rfl⟩ kb_6 ?_
    refine y_iload (i := 5) (n := 92) ⟨dX10_addToTally_90, rfl⟩ rfl ?_
    refine y_iadd (n := 93) ⟨dX10_addToTally_92, rfl⟩ ?_
    refine y_dup2 (n := 94) ⟨dX10_addToTally_93, rfl⟩ ?_
    obtain ⟨hg6, hf⟩ := g_s hf
    refine y_iaload (n := 95) ⟨dX10_addToTally_94, rfl⟩ l_63 hg6 ?_
    refine y_iload_n (i := 3) (n := 96) ⟨dX10_addToTally_95, rfl⟩ rfl ?_
    refine y_if_eq (t := 104) (n := 99) ⟨dX10_addToTally_96, rfl, rfl⟩ (fun (hc : x3 = 0) => ?_) (fun (hc : ¬ (x3 = 0)) => ?_)
    · replace hf := i_t hc hf
      refine y_iload (i := 6) (n := 106) ⟨dX10_addToTally_104, rfl⟩ rfl ?_
      refine y_ineg (n := 107) ⟨dX10_addToTally_106, rfl⟩ ?_
      exact y_wk ⟨Or.inr rfl, Or.inr rfl, Or.inr rfl, Or.inr rfl, Or.inr rfl, Or.inr rfl, Or.inl rfl, trivial⟩ (w_b_wo_addToTally_69_107 x1 x3 x5 (6 + x5) (gI M 63 (6 + x5).toNatClampNeg) (-((x1 >>> (x5 &&& 31)) &&& 1)) M hf hk)
    · replace hf := i_f hc hf
      refine y_iload (i := 6) (n := 101) ⟨dX10_addToTally_99, rfl⟩ rfl ?_
      refine y_goto (t := 107) ⟨dX10_addToTally_101, rfl, rfl⟩ ?_
      exact y_wk ⟨Or.inr rfl, Or.inr rfl, Or.inr rfl, Or.inr rfl, Or.inr rfl, Or.inr rfl, Or.inl rfl, trivial⟩ (w_b_wo_addToTally_69_107 x1 x3 x5 (6 + x5) (gI M 63 (6 + x5).toNatClampNeg) ((x1 >>> (x5 &&& 31)) &&& 1) M hf hk)
theorem wl_wo_addToTally_69 (x1 : Int32) (x3 : Int32) (x5 : Int32) (M : dM) {Q : mz_P} {x : dM} (hf : l_wo_addToTally_69 x1 x3 x5 M = some x) (hk : K_wo_addToTally_69 Q x1 x3 M (.inr x)) : mW mX10_addToTally 1 Q 69 [some (.ref 56), some (.int x1), none, some (.int x3), none, some (.int x5), none] [] M :=
  lpc_wp (Wh := fun s => mW mX10_addToTally 1 Q 69 [some (.ref 56), some (.int x1), none, some (.int x3), none, some (.int s.1), none] [] s.2) (K := K_wo_addToTally_69 Q x1 x3 M) (fun _ h => h) (fun s o hb hk => w_b_wo_addToTally_69_69 x1 x3 s.1 s.2 hb hk) hf hk
theorem w_t_wo_addToTally_64 (x1 : Int32) (x3 : Int32) (y1 : Int32) (y2 : Int32) (y3 : Int32) (M : dM) {Q : mz_P} {o : dM} (hf : t_wo_addToTally_64 x1 x3 y1 y2 y3 M = some o) (hk : mR Q none o) : mW mX10_addToTally 1 Q 64 [some (.ref 56), some (.int x1), none, some (.int x3), none, none, none] [.ref 63, .int y1, .int y2, .int y3] M := by
  unfold t_wo_addToTally_64 at hf
  refine y_iadd (n := 65) ⟨dX10_addToTally_64, rfl⟩ ?_
  obtain ⟨hg5, hf⟩ := g_s hf
  refine y_iastore (n := 66) ⟨dX10_addToTally_65, rfl⟩ l_63 hg5 ?_
  refine y_iconst (n := 67) (v := 0) ⟨dX10_addToTally_66, rfl⟩ ki_0 ?_
  refine y_istore (i := 5) (n := 69) (L2 := [some (.ref 56), some (.int x1), none, some (.int x3), none, some (.int 0), none]) ⟨dX10_addToTally_67, rfl⟩ (by decide) rfl rfl ?_
  obtain ⟨r10, hl9, hf⟩ := b_s hf
  cases hf
  exact y_wk ⟨Or.inr rfl, Or.inr rfl, Or.inr rfl, Or.inr rfl, Or.inr rfl, Or.inr rfl, Or.inr rfl, trivial⟩ (wl_wo_addToTally_69 x1 x3 0 (sI M 63 y1.toNatClampNeg (y2 + y3)) hl9 hk)
theorem w_t_wo_addToTally_42 (x1 : Int32) (x2 : Int32) (x3 : Int32) (x4 : Int32) (y1 : Int32) (y2 : Int32) (y3 : Int32) (M : dM) {Q : mz_P} {o : dM} (hf : t_wo_addToTally_42 x1 x2 x3 x4 y1 y2 y3 M = some o) (hk : mR Q none o) : mW mX10_addToTally 1 Q 42 [some (.ref 56), some (.int x1), some (.int x2), some (.int x3), some (.int x4), none, none] [.ref 63, .int y1, .int y2, .int y3] M := by
  unfold t_wo_addToTally_42 at hf
  refine y_iadd (n := 43) ⟨dX10_addToTally_42, rfl⟩ ?_
  obtain ⟨hg3, hf⟩ := g_s hf
  refine y_iastore (n := 44) ⟨dX10_addToTally_43, rfl⟩ l_63 hg3 ?_
  refine y_aload_n (i := 0) (n := 45) ⟨dX10_addToTally_44, rfl⟩ rfl ?_
  refine y_getR (n := 48) ⟨dX10_addToTally_45, rfl⟩ kfX10_30 l_56 rfl r_56_11 ?_
  refine y_iload (i := 4) (n := 50) ⟨dX10_addToTally_48, rfl⟩ rfl ?_
  refine y_iconst (n := 51) (v := 2) ⟨dX10_addToTally_50, rfl⟩ ki_2 ?_
  refine y_iadd (n := 52) ⟨dX10_addToTally_51, rfl⟩ ?_
  refine y_dup2 (n := 53) ⟨dX10_addToTally_52, rfl⟩ ?_
  obtain ⟨hg4, hf⟩ := g_s hf
  refine y_iaload (n := 54) ⟨dX10_addToTally_53, rfl⟩ l_63 hg4 ?_
  refine y_iload_n (i := 2) (n := 55) ⟨dX10_addToTally_54, rfl⟩ rfl ?_
  refine y_iconst (n := 56) (v := 1) ⟨dX10_addToTally_55, rfl⟩ ki_1 ?_
  refine y_icmp_ne (t := 63) (n := 59) ⟨dX10_addToTally_56, rfl, rfl⟩ (fun (hc : ¬ (x2 = 1)) => ?_) (fun (hc : x2 = 1) => ?_)
  · replace hf := i_f hc hf
    refine y_iconst (n := 64) (v := 0) ⟨dX10_addToTally_63, rfl⟩ ki_0 ?_
    exact y_wk ⟨Or.inr rfl, Or.inr rfl, Or.inl rfl, Or.inr rfl, Or.inl rfl, Or.inr rfl, Or.inr rfl, trivial⟩ (w_t_wo_addToTally_64 x1 x3 (x4 + 2) (gI (sI M 63 y1.toNatClampNeg (y2 + y3)) 63 (x4 + 2).toNatClampNeg) 0 (sI M 63 y1.toNatClampNeg (y2 + y3)) hf hk)
  · replace hf := i_t hc hf
    refine y_iconst (n := 60) (v := 1) ⟨dX10_addToTally_59, rfl⟩ ki_1 ?_
    refine y_goto (t := 64) ⟨dX10_addToTally_60, rfl, rfl⟩ ?_
    exact y_wk ⟨Or.inr rfl, Or.inr rfl, Or.inl rfl, Or.inr rfl, Or.inl rfl, Or.inr rfl, Or.inr rfl, trivial⟩ (w_t_wo_addToTally_64 x1 x3 (x4 + 2) (gI (sI M 63 y1.toNatClampNeg (y2 + y3)) 63 (x4 + 2).toNatClampNeg) 1 (sI M 63 y1.toNatClampNeg (y2 + y3)) hf hk)
theorem w_t_wo_addToTally_9 (x1 : Int32) (x2 : Int32) (x3 : Int32) (y0 : Int32) (M : dM) {Q : mz_P} {o : dM} (hf : t_wo_addToTally_9 x1 x2 x3 y0 M = some o) (hk : mR Q none o) : mW mX10_addToTally 1 Q 9 [some (.ref 56), some (.int x1), some (.int x2), some (.int x3), none, none, none] [.int y0] M := by
  unfold t_wo_addToTally_9 at hf
  refine y_istore (i := 4) (n := 11) (L2 := [some (.ref 56), some (.int x1), some (.int x2), some (.int x3), some (.int y0), none, none]) ⟨dX10_addToTally_9, rfl⟩ (by decide) rfl rfl ?_
  refine y_aload_n (i := 0) (n := 12) ⟨dX10_addToTally_11, rfl⟩ rfl ?_
  refine y_getR (n := 15) ⟨dX10_addToTally_12, rfl⟩ kfX10_30 l_56 rfl r_56_11 ?_
  refine y_iload (i := 4) (n := 17) ⟨dX10_addToTally_15, rfl⟩ rfl ?_
  refine y_dup2 (n := 18) ⟨dX10_addToTally_17, rfl⟩ ?_
  obtain ⟨hg1, hf⟩ := g_s hf
  refine y_iaload (n := 19) ⟨dX10_addToTally_18, rfl⟩ l_63 hg1 ?_
  refine y_iconst (n := 20) (v := 1) ⟨dX10_addToTally_19, rfl⟩ ki_1 ?_
  refine y_iadd (n := 21) ⟨dX10_addToTally_20, rfl⟩ ?_
  refine y_iastore (n := 22) ⟨dX10_addToTally_21, rfl⟩ l_63 hg1 ?_
  refine y_aload_n (i := 0) (n := 23) ⟨dX10_addToTally_22, rfl⟩ rfl ?_
  refine y_getR (n := 26) ⟨dX10_addToTally_23, rfl⟩ kfX10_30 l_56 rfl r_56_11 ?_
  refine y_iload (i := 4) (n := 28) ⟨dX10_addToTally_26, rfl⟩ rfl ?_
  refine y_iconst (n := 29) (v := 1) ⟨dX10_addToTally_28, rfl⟩ ki_1 ?_
  refine y_iadd (n := 30) ⟨dX10_addToTally_29, rfl⟩ ?_
  refine y_dup2 (n := 31) ⟨dX10_addToTally_30, rfl⟩ ?_
  obtain ⟨hg2, hf⟩ := g_s hf
  refine y_iaload (n := 32) ⟨dX10_addToTally_31, rfl⟩ l_63 hg2 ?_
  refine y_iload_n (i := 2) (n := 33) ⟨dX10_addToTally_32, rfl⟩ rfl ?_
  refine y_iconst (n := 34) (v := 2) ⟨dX10_addToTally_33, rfl⟩ ki_2 ?_
  refine y_icmp_ne (t := 41) (n := 37) ⟨dX10_addToTally_34, rfl, rfl⟩ (fun (hc : ¬ (x2 = 2)) => ?_) (fun (hc : x2 = 2) => ?_)
  · replace hf := i_f hc hf
    refine y_iconst (n := 42) (v := 0) ⟨dX10_addToTally_41, rfl⟩ ki_0 ?_
    exact y_wk ⟨Or.inr rfl, Or.inr rfl, Or.inr rfl, Or.inr rfl, Or.inr rfl, Or.inr rfl, Or.inr rfl, trivial⟩ (w_t_wo_addToTally_42 x1 x2 x3 y0 (y0 + 1) (gI (sI M 63 y0.toNatClampNeg ((gI M 63 y0.toNatClampNeg) + 1)) 63 (y0 + 1).toNatClampNeg) 0 (sI M 63 y0.toNatClampNeg ((gI M 63 y0.toNatClampNeg) + 1)) hf hk)
  · replace hf := i_t hc hf
    refine y_iconst (n := 38) (v := 1) ⟨dX10_addToTally_37, rfl⟩ ki_1 ?_
    refine y_goto (t := 42) ⟨dX10_addToTally_38, rfl, rfl⟩ ?_
    exact y_wk ⟨Or.inr rfl, Or.inr rfl, Or.inr rfl, Or.inr rfl, Or.inr rfl, Or.inr rfl, Or.inr rfl, trivial⟩ (w_t_wo_addToTally_42 x1 x2 x3 y0 (y0 + 1) (gI (sI M 63 y0.toNatClampNeg ((gI M 63 y0.toNatClampNeg) + 1)) 63 (y0 + 1).toNatClampNeg) 1 (sI M 63 y0.toNatClampNeg ((gI M 63 y0.toNatClampNeg) + 1)) hf hk)
theorem ok_wo_addToTally (a1 : Int32) (a2 : Int32) (a3 : Int32) (M : dM) {o : dM} (hf : f_wo_addToTally a1 a2 a3 M = some o) : mO mX10_addToTally 1 [.ref 56, .int a1, .int a2, .int a3] M none o := by
  refine y_ok (by decide +kernel) (by decide) (L0 := [some (.ref 56), some (.int a1), some (.int a2), some (.int a3), none, none, none]) rfl ?_
  have hk := mR_mQ none o
  generalize mQ _ _ = Q at hk ⊢
  unfold f_wo_addToTally at hf
  refine y_iload_n (i := 3) (n := 1) ⟨dX10_addToTally_0, rfl⟩ rfl ?_
  refine y_if_eq (t := 8) (n := 4) ⟨dX10_addToTally_1, rfl, rfl⟩ (fun (hc : a3 = 0) => ?_) (fun (hc : ¬ (a3 = 0)) => ?_)
  · replace hf := i_t hc hf
    refine y_iconst (n := 9) (v := 0) ⟨dX10_addToTally_8, rfl⟩ ki_0 ?_
    exact y_wk ⟨Or.inr rfl, Or.inr rfl, Or.inr rfl, Or.inr rfl, Or.inr rfl, Or.inr rfl, Or.inr rfl, trivial⟩ (w_t_wo_addToTally_9 a1 a2 a3 0 M hf hk)
  · replace hf := i_f hc hf
    refine y_iconst (n := 5) (v := 3) ⟨dX10_addToTally_4, rfl⟩ ki_3 ?_
    refine y_goto (t := 9) ⟨dX10_addToTally_5, rfl, rfl⟩ ?_
    exact y_wk ⟨Or.inr rfl, Or.inr rfl, Or.inr rfl, Or.inr rfl, Or.inr rfl, Or.inr rfl, Or.inr rfl, trivial⟩ (w_t_wo_addToTally_9 a1 a2 a3 3 M hf hk)
theorem c_wo_addToTally (a1 : Int32) (a2 : Int32) (a3 : Int32) (M : dM) {o : dM} {y : mz_M} {d : Nat} {Q : mz_P} {pc n i : Nat} {L : List (Option Value)} {st : List Value} (h : mz_d y.2.1 pc n 3 (.invokevirtual i)) (hl : mz_ml y.1.cls i yX10_addToTally) (hf : f_wo_addToTally a1 a2 a3 M = some o) (hd : 1 + 1 ≤ d) (hsm : (st.map (fun v => v.category)).sum ≤ 8) (hLr : mz_rL 133 L = true) (hSr : mz_rS 133 st = true) (kk : mW y d Q n L st o) : mW y d Q pc L (.int a3 :: .int a2 :: .int a1 :: .ref 56 :: st) M :=
  y_callV kmX10_addToTally kvX10_addToTally l_56 (by decide +kernel) (by decide +kernel) h hl (ok_wo_addToTally a1 a2 a3 M hf) (vs := [.int a1, .int a2, .int a3]) rfl rfl hd hsm hLr hSr kk
def K_wo_take_6 (Q : mz_P) (x1 : Int32) (x2 : Int32) (x3 : Int32) (x4 : Int32) (M : dM) : ((Int32 × Int32 × dM) ⊕ (Int32 × dM)) → Prop
  | .inl s => mW mX10_take 5 Q 6 [some (.ref 56), some (.int x1), some (.int x2), some (.int x3), some (.int x4), some (.int s.1), some (.int s.2.1), none, none, none] [] s.2.2
  | .inr t => mW mX10_take 5 Q 55 [some (.ref 56), some (.int x1), some (.int x2), some (.int x3), some (.int x4), some (.int t.1), none, none, none, none] [] t.2
noncomputable def b_wo_take_6_36 (x1 : Int32) (x2 : Int32) (x3 : Int32) (x4 : Int32) (x5 : Int32) (x6 : Int32) (y0 : Int32) (y2 : Int32) (M : dM) : Option ((Int32 × Int32 × dM) ⊕ (Int32 × dM)) :=
  gd (vp_in y2 16) <|
  if (gI M 59 y2.toNatClampNeg) ≤ y0 then
    some (.inl (x5, (x6 + 1), M))
  else
    some (.inl ((x5 ||| ((1 : Int32) <<< (x6 &&& 31))), (x6 + 1), M))
noncomputable def b_wo_take_6_6 (x1 : Int32) (x2 : Int32) (x3 : Int32) (x4 : Int32) (x5 : Int32) (x6 : Int32) (M : dM) : Option ((Int32 × Int32 × dM) ⊕ (Int32 × dM)) :=
  if 8 ≤ x6 then
    some (.inr (x5, M))
  else
    (f_wo_draw M).bind fun q1 =>
    if x4 = 0 then
      b_wo_take_6_36 x1 x2 x3 x4 x5 x6 q1.1 x6 q1.2
    else
      b_wo_take_6_36 x1 x2 x3 x4 x5 x6 q1.1 (8 + x6) q1.2
noncomputable def l_wo_take_6 (x1 : Int32) (x2 : Int32) (x3 : Int32) (x4 : Int32) (x5 : Int32) (x6 : Int32) (M : dM) : Option (Int32 × dM) := lpc (fun s => b_wo_take_6_6 x1 x2 x3 x4 s.1 s.2.1 s.2.2) (x5, x6, M)
noncomputable def t_wo_take_183 (x3 : Int32) (x5 : Int32) (x7 : Int32) (x8 : Int32) (x9 : Int32) (y1 : Int32) (y2 : Int32) (M : dM) : Option dM :=
  gd (vp_in y1 1920) <|
  some (sI (sI M 62 y1.toNatClampNeg (((((y2 ||| (x5 <<< ((1 : Int32) &&& 31))) ||| (x3 <<< ((9 : Int32) &&& 31))) ||| (x9 <<< ((13 : Int32) &&& 31))) ||| (x7 <<< ((17 : Int32) &&& 31))) ||| (x8 <<< ((24 : Int32) &&& 31)))) 56 10 ((gI (sI M 62 y1.toNatClampNeg (((((y2 ||| (x5 <<< ((1 : Int32) &&& 31))) ||| (x3 <<< ((9 : Int32) &&& 31))) ||| (x9 <<< ((13 : Int32) &&& 31))) ||| (x7 <<< ((17 : Int32) &&& 31))) ||| (x8 <<< ((24 : Int32) &&& 31)))) 56 10) + 1))
noncomputable def f_wo_take (a1 : Int32) (a2 : Int32) (a3 : Int32) (a4 : Int32) (M : dM) : Option dM :=
  (l_wo_take_6 a1 a2 a3 a4 0 0 M).bind fun t4 =>
    (f_wo_draw t4.2).bind fun q7 =>
    (f_wo_draw q7.2).bind fun q9 =>
    (f_ju_judgeFound a1 a2 a3 t4.1 ((q7.1 * 10) + q9.1) (gI q9.2 56 13) q9.2).bind fun q11 =>
    gd (vp_in a1 80) <|
    (f_si_ageOf (gI q11.2 8 a1.toNatClampNeg) a3 q11.2).bind fun v14 =>
    gd (vp_in (gI q11.2 7 a1.toNatClampNeg) 10) <|
    (f_wo_addToTally t4.1 q11.1 a4 (sI (sI q11.2 56 13 (f_jd_max (gI q11.2 56 13) v14)) 64 (gI q11.2 7 a1.toNatClampNeg).toNatClampNeg ((gI (sI q11.2 56 13 (f_jd_max (gI q11.2 56 13) v14)) 64 (gI q11.2 7 a1.toNatClampNeg).toNatClampNeg) + 1))).bind fun q17 =>
    if (1920 : Int32) ≤ (gI q17 56 10) then
      some q17
    else
      if a4 = 0 then
        t_wo_take_183 a3 t4.1 ((q7.1 * 10) + q9.1) q11.1 (gI q11.2 7 a1.toNatClampNeg) (gI q17 56 10) 0 q17
      else
        t_wo_take_183 a3 t4.1 ((q7.1 * 10) + q9.1) q11.1 (gI q11.2 7 a1.toNatClampNeg) (gI q17 56 10) 1 q17
theorem w_b_wo_take_6_36 (x1 : Int32) (x2 : Int32) (x3 : Int32) (x4 : Int32) (x5 : Int32) (x6 : Int32) (y0 : Int32) (y2 : Int32) (M : dM) {Q : mz_P} {o : ((Int32 × Int32 × dM) ⊕ (Int32 × dM))} (hf : b_wo_take_6_36 x1 x2 x3 x4 x5 x6 y0 y2 M = some o) (hk : K_wo_take_6 Q x1 x2 x3 x4 M o) : mW mX10_take 5 Q 36 [some (.ref 56), some (.int x1), some (.int x2), some (.int x3), some (.int x4), some (.int x5), some (.int x6), none, none, none] [.int y0, .ref 59, .int y2] M := by
  unfold b_wo_take_6_36 at hf
  obtain ⟨hg3, hf⟩ := g_s hf
  refine y_iaload (n := 37) ⟨dX10_take_36, rfl⟩ l_59 hg3 ?_
  refine y_icmp_ge (t := 49) (n := 40) ⟨dX10_take_37, rfl, rfl⟩ (fun (hc : (gI M 59 y2.toNatClampNeg) ≤ y0) => ?_) (fun (hc : ¬ ((gI M 59 y2.toNatClampNeg) ≤ y0)) => ?_)
  · replace hf := i_t hc hf
    refine y_iinc (i := 6) (n := 52) (b := (x6 + 1)) (L2 := [some (.ref 56), some (.int x1), some (.int x2), some (.int x3), some (.int x4), some (.int x5), some (.int (x6 + 1)), none, none, none]) ⟨dX10_take_49, rfl⟩ rfl (by rw [ki_1]) (by decide) rfl rfl ?_
    refine y_goto (t := 6) ⟨dX10_take_52, rfl, rfl⟩ ?_
    cases hf
    exact y_wk ⟨Or.inr rfl, Or.inr rfl, Or.inr rfl, Or.inr rfl, Or.inr rfl, Or.inr rfl, Or.inr rfl, Or.inr rfl, Or.inr rfl, Or.inr rfl, trivial⟩ hk
  · replace hf := i_f hc hf
    refine y_iload (i := 5) (n := 42) ⟨dX10_take_40, rfl⟩ rfl ?_
    refine y_iconst (n := 43) (v := 1) ⟨dX10_take_42, rfl⟩ ki_1 ?_
    refine y_iload (i := 6) (n := 45) ⟨dX10_take_43, rfl⟩ rfl ?_
    refine y_ishl (n := 46) ⟨dX10_take_45, rfl⟩ ?_
    refine y_ior (n := 47) ⟨dX10_take_46, rfl⟩ ?_
    refine y_istore (i := 5) (n := 49) (L2 := [some (.ref 56), some (.int x1), some (.int x2), some (.int x3), some (.int x4), some (.int (x5 ||| ((1 : Int32) <<< (x6 &&& 31)))), some (.int x6), none, none, none]) ⟨dX10_take_47, rfl⟩ (by decide) rfl rfl ?_
    refine y_iinc (i := 6) (n := 52) (b := (x6 + 1)) (L2 := [some (.ref 56), some (.int x1), some (.int x2), some (.int x3), some (.int x4), some (.int (x5 ||| ((1 : Int32) <<< (x6 &&& 31)))), some (.int (x6 + 1)), none, none, none]) ⟨dX10_take_49, rfl⟩ rfl (by rw [ki_1]) (by decide) rfl rfl ?_
    refine y_goto (t := 6) ⟨dX10_take_52, rfl, rfl⟩ ?_
    cases hf
    exact y_wk ⟨Or.inr rfl, Or.inr rfl, Or.inr rfl, Or.inr rfl, Or.inr rfl, Or.inr rfl, Or.inr rfl, Or.inr rfl, Or.inr rfl, Or.inr rfl, trivial⟩ hk
theorem w_b_wo_take_6_6 (x1 : Int32) (x2 : Int32) (x3 : Int32) (x4 : Int32) (x5 : Int32) (x6 : Int32) (M : dM) {Q : mz_P} {o : ((Int32 × Int32 × dM) ⊕ (Int32 × dM))} (hf : b_wo_take_6_6 x1 x2 x3 x4 x5 x6 M = some o) (hk : K_wo_take_6 Q x1 x2 x3 x4 M o) : mW mX10_take 5 Q 6 [some (.ref 56), some (.int x1), some (.int x2), some (.int x3), some (.int x4), some (.int x5), some (.int x6), none, none, none] [] M := by
  unfold b_wo_take_6_6 at hf
  refine y_iload (i := 6) (n := 8) ⟨dX10_take_6, rfl⟩ rfl ?_
  refine y_bipush (n := 10) (v := 8) ⟨dX10_take_8, rfl⟩ kb_8 ?_
  refine y_icmp_ge (t := 55) (n := 13) ⟨dX10_take_10, rfl, rfl⟩ (fun (hc : 8 ≤ x6) => ?_) (fun (hc : ¬ (8 ≤ x6)) => ?_)
  · replace hf := i_t hc hf
    cases hf
    exact y_wk ⟨Or.inr rfl, Or.inr rfl, Or.inr rfl, Or.inr rfl, Or.inr rfl, Or.inr rfl, Or.inl rfl, Or.inr rfl, Or.inr rfl, Or.inr rfl, trivial⟩ hk
  · replace hf := i_f hc hf
    refine y_aload_n (i := 0) (n := 14) ⟨dX10_take_13, rfl⟩ rfl ?_
    obtain ⟨q1, hv2, hf⟩ := b_s hf
    refine c_wo_draw M (n := 17) ⟨dX10_take_14, rfl⟩ klX10_130 hv2 (by decide) (Nat.le_of_ble_eq_true rfl) rfl rfl ?_
    refine y_aload_n (i := 0) (n := 18) ⟨dX10_take_17, rfl⟩ rfl ?_
    refine y_getR (n := 21) ⟨dX10_take_18, rfl⟩ kfX10_18 l_56 rfl r_56_5 ?_
    refine y_iload (i := 4) (n := 23) ⟨dX10_take_21, rfl⟩ rfl ?_
    refine y_if_eq (t := 34) (n := 26) ⟨dX10_take_23, rfl, rfl⟩ (fun (hc : x4 = 0) => ?_) (fun (hc : ¬ (x4 = 0)) => ?_)
    · replace hf := i_t hc hf
      refine y_iload (i := 6) (n := 36) ⟨dX10_take_34, rfl⟩ rfl ?_
      exact y_wk ⟨Or.inr rfl, Or.inr rfl, Or.inr rfl, Or.inr rfl, Or.inr rfl, Or.inr rfl, Or.inr rfl, Or.inr rfl, Or.inr rfl, Or.inr rfl, trivial⟩ (w_b_wo_take_6_36 x1 x2 x3 x4 x5 x6 q1.1 x6 q1.2 hf hk)
    · replace hf := i_f hc hf
      refine y_bipush (n := 28) (v := 8) ⟨dX10_take_26, rfl⟩ kb_8 ?_
      refine y_iload (i := 6) (n := 30) ⟨dX10_take_28, rfl⟩ rfl ?_
      refine y_iadd (n := 31) ⟨dX10_take_30, rfl⟩ ?_
      refine y_goto (t := 36) ⟨dX10_take_31, rfl, rfl⟩ ?_
      exact y_wk ⟨Or.inr rfl, Or.inr rfl, Or.inr rfl, Or.inr rfl, Or.inr rfl, Or.inr rfl, Or.inr rfl, Or.inr rfl, Or.inr rfl, Or.inr rfl, trivial⟩ (w_b_wo_take_6_36 x1 x2 x3 x4 x5 x6 q1.1 (8 + x6) q1.2 hf hk)
theorem wl_wo_take_6 (x1 : Int32) (x2 : Int32) (x3 : Int32) (x4 : Int32) (x5 : Int32) (x6 : Int32) (M : dM) {Q : mz_P} {x : (Int32 × dM)} (hf : l_wo_take_6 x1 x2 x3 x4 x5 x6 M = some x) (hk : K_wo_take_6 Q x1 x2 x3 x4 M (.inr x)) : mW mX10_take 5 Q 6 [some (.ref 56), some (.int x1), some (.int x2), some (.int x3), some (.int x4), some (.int x5), some (.int x6), none, none, none] [] M :=
  lpc_wp (Wh := fun s => mW mX10_take 5 Q 6 [some (.ref 56), some (.int x1), some (.int x2), some (.int x3), some (.int x4), some (.int s.1), some (.int s.2.1), none, none, none] [] s.2.2) (K := K_wo_take_6 Q x1 x2 x3 x4 M) (fun _ h => h) (fun s o hb hk => w_b_wo_take_6_6 x1 x2 x3 x4 s.1 s.2.1 s.2.2 hb hk) hf hk
theorem w_t_wo_take_183 (x3 : Int32) (x5 : Int32) (x7 : Int32) (x8 : Int32) (x9 : Int32) (y1 : Int32) (y2 : Int32) (M : dM) {Q : mz_P} {o : dM} (hf : t_wo_take_183 x3 x5 x7 x8 x9 y1 y2 M = some o) (hk : mR Q none o) : mW mX10_take 5 Q 183 [some (.ref 56), none, none, some (.int x3), none, some (.int x5), none, some (.int x7), some (.int x8), some (.int x9)] [.ref 62, .int y1, .int y2] M := by
  unfold t_wo_take_183 at hf
  refine y_iload (i := 5) (n := 185) ⟨dX10_take_183, rfl⟩ rfl ?_
  refine y_iconst (n := 186) (v := 1) ⟨dX10_take_185, rfl⟩ ki_1 ?_
  refine y_ishl (n := 187) ⟨dX10_take_186, rfl⟩ ?_
  refine y_ior (n := 188) ⟨dX10_take_187, rfl⟩ ?_
  refine y_iload_n (i := 3) (n := 189) ⟨dX10_take_188, rfl⟩ rfl ?_
  refine y_bipush (n := 191) (v := 9) ⟨dX10_take_189, rfl⟩ kb_9 ?_
  refine y_ishl (n := 192) ⟨dX10_take_191, rfl⟩ ?_
  refine y_ior (n := 193) ⟨dX10_take_192, rfl⟩ ?_
  refine y_iload (i := 9) (n := 195) ⟨dX10_take_193, rfl⟩ rfl ?_
  refine y_bipush (n := 197) (v := 13) ⟨dX10_take_195, rfl⟩ kb_13 ?_
  refine y_ishl (n := 198) ⟨dX10_take_197, rfl⟩ ?_
  refine y_ior (n := 199) ⟨dX10_take_198, rfl⟩ ?_
  refine y_iload (i := 7) (n := 201) ⟨dX10_take_199, rfl⟩ rfl ?_
  refine y_bipush (n := 203) (v := 17) ⟨dX10_take_201, rfl⟩ kb_17 ?_
  refine y_ishl (n := 204) ⟨dX10_take_203, rfl⟩ ?_
  refine y_ior (n := 205) ⟨dX10_take_204, rfl⟩ ?_
  refine y_iload (i := 8) (n := 207) ⟨dX10_take_205, rfl⟩ rfl ?_
  refine y_bipush (n := 209) (v := 24) ⟨dX10_take_207, rfl⟩ kb_24 ?_
  refine y_ishl (n := 210) ⟨dX10_take_209, rfl⟩ ?_
  refine y_ior (n := 211) ⟨dX10_take_210, rfl⟩ ?_
  obtain ⟨hg19, hf⟩ := g_s hf
  refine y_iastore (n := 212) ⟨dX10_take_211, rfl⟩ l_62 hg19 ?_
  refine y_aload_n (i := 0) (n := 213) ⟨dX10_take_212, rfl⟩ rfl ?_
  refine y_dup_r (n := 214) ⟨dX10_take_213, rfl⟩ ?_
  refine y_getI (n := 217) ⟨dX10_take_214, rfl⟩ kfX10_81 l_56 rfl ?_
  refine y_iconst (n := 218) (v := 1) ⟨dX10_take_217, rfl⟩ ki_1 ?_
  refine y_iadd (n := 219) ⟨dX10_take_218, rfl⟩ ?_
  refine y_putI (n := 222) ⟨dX10_take_219, rfl⟩ kfX10_81 l_56 (by decide +kernel) rfl ?_
  cases hf
  exact y_return (n := 223) ⟨dX10_take_222, rfl⟩ rfl hk
theorem ok_wo_take (a1 : Int32) (a2 : Int32) (a3 : Int32) (a4 : Int32) (M : dM) {o : dM} (hf : f_wo_take a1 a2 a3 a4 M = some o) : mO mX10_take 5 [.ref 56, .int a1, .int a2, .int a3, .int a4] M none o := by
  refine y_ok (by decide +kernel) (by decide) (L0 := [some (.ref 56), some (.int a1), some (.int a2), some (.int a3), some (.int a4), none, none, none, none, none]) rfl ?_
  have hk := mR_mQ none o
  generalize mQ _ _ = Q at hk ⊢
  unfold f_wo_take at hf
  refine y_iconst (n := 1) (v := 0) ⟨dX10_take_0, rfl⟩ ki_0 ?_
  refine y_istore (i := 5) (n := 3) (L2 := [some (.ref 56), some (.int a1), some (.int a2), some (.int a3), some (.int a4), some (.int 0), none, none, none, none]) ⟨dX10_take_1, rfl⟩ (by decide) rfl rfl ?_
  refine y_iconst (n := 4) (v := 0) ⟨dX10_take_3, rfl⟩ ki_0 ?_
  refine y_istore (i := 6) (n := 6) (L2 := [some (.ref 56), some (.int a1), some (.int a2), some (.int a3), some (.int a4), some (.int 0), some (.int 0), none, none, none]) ⟨dX10_take_4, rfl⟩ (by decide) rfl rfl ?_
  obtain ⟨t4, hl5, hf⟩ := b_s hf
  refine y_wk ⟨Or.inr rfl, Or.inr rfl, Or.inr rfl, Or.inr rfl, Or.inr rfl, Or.inr rfl, Or.inr rfl, Or.inr rfl, Or.inr rfl, Or.inr rfl, trivial⟩ (wl_wo_take_6 a1 a2 a3 a4 0 0 M hl5 ?_)
  show mW mX10_take 5 Q 55 [some (.ref 56), some (.int a1), some (.int a2), some (.int a3), some (.int a4), some (.int t4.1), none, none, none, none] [] t4.2
  refine y_aload_n (i := 0) (n := 56) ⟨dX10_take_55, rfl⟩ rfl ?_
  obtain ⟨q7, hv8, hf⟩ := b_s hf
  refine c_wo_draw t4.2 (n := 59) ⟨dX10_take_56, rfl⟩ klX10_130 hv8 (by decide) (Nat.le_of_ble_eq_true rfl) rfl rfl ?_
  refine y_istore (i := 6) (n := 61) (L2 := [some (.ref 56), some (.int a1), some (.int a2), some (.int a3), some (.int a4), some (.int t4.1), some (.int q7.1), none, none, none]) ⟨dX10_take_59, rfl⟩ (by decide) rfl rfl ?_
  refine y_iload (i := 6) (n := 63) ⟨dX10_take_61, rfl⟩ rfl ?_
  refine y_bipush (n := 65) (v := 10) ⟨dX10_take_63, rfl⟩ kb_10 ?_
  refine y_imul (n := 66) ⟨dX10_take_65, rfl⟩ ?_
  refine y_aload_n (i := 0) (n := 67) ⟨dX10_take_66, rfl⟩ rfl ?_
  obtain ⟨q9, hv10, hf⟩ := b_s hf
  refine c_wo_draw q7.2 (n := 70) ⟨dX10_take_67, rfl⟩ klX10_130 hv10 (by decide) (Nat.le_of_ble_eq_true rfl) rfl rfl ?_
  refine y_iadd (n := 71) ⟨dX10_take_70, rfl⟩ ?_
  refine y_istore (i := 7) (n := 73) (L2 := [some (.ref 56), some (.int a1), some (.int a2), some (.int a3), some (.int a4), some (.int t4.1), some (.int q7.1), some (.int ((q7.1 * 10) + q9.1)), none, none]) ⟨dX10_take_71, rfl⟩ (by decide) rfl rfl ?_
  refine y_aload_n (i := 0) (n := 74) ⟨dX10_take_73, rfl⟩ rfl ?_
  refine y_getR (n := 77) ⟨dX10_take_74, rfl⟩ kfX10_51 l_56 rfl r_56_2 ?_
  refine y_iload_n (i := 1) (n := 78) ⟨dX10_take_77, rfl⟩ rfl ?_
  refine y_iload_n (i := 2) (n := 79) ⟨dX10_take_78, rfl⟩ rfl ?_
  refine y_iload_n (i := 3) (n := 80) ⟨dX10_take_79, rfl⟩ rfl ?_
  refine y_iload (i := 5) (n := 82) ⟨dX10_take_80, rfl⟩ rfl ?_
  refine y_iload (i := 7) (n := 84) ⟨dX10_take_82, rfl⟩ rfl ?_
  refine y_aload_n (i := 0) (n := 85) ⟨dX10_take_84, rfl⟩ rfl ?_
  refine y_getI (n := 88) ⟨dX10_take_85, rfl⟩ kfX10_84 l_56 rfl ?_
  obtain ⟨q11, hv12, hf⟩ := b_s hf
  refine c_ju_judgeFound a1 a2 a3 t4.1 ((q7.1 * 10) + q9.1) (gI q9.2 56 13) q9.2 (n := 91) ⟨dX10_take_88, rfl⟩ klX10_153 hv12 (by decide) (Nat.le_of_ble_eq_true rfl) rfl rfl ?_
  refine y_istore (i := 8) (n := 93) (L2 := [some (.ref 56), some (.int a1), some (.int a2), some (.int a3), some (.int a4), some (.int t4.1), some (.int q7.1), some (.int ((q7.1 * 10) + q9.1)), some (.int q11.1), none]) ⟨dX10_take_91, rfl⟩ (by decide) rfl rfl ?_
  refine y_aload_n (i := 0) (n := 94) ⟨dX10_take_93, rfl⟩ rfl ?_
  refine y_getR (n := 97) ⟨dX10_take_94, rfl⟩ kfX10_47 l_56 rfl r_56_1 ?_
  refine y_getR (n := 100) ⟨dX10_take_97, rfl⟩ kfX10_141 l_6 rfl r_6_0 ?_
  refine y_iload_n (i := 1) (n := 101) ⟨dX10_take_100, rfl⟩ rfl ?_
  obtain ⟨hg13, hf⟩ := g_s hf
  refine y_iaload (n := 102) ⟨dX10_take_101, rfl⟩ l_7 hg13 ?_
  refine y_istore (i := 9) (n := 104) (L2 := [some (.ref 56), some (.int a1), some (.int a2), some (.int a3), some (.int a4), some (.int t4.1), some (.int q7.1), some (.int ((q7.1 * 10) + q9.1)), some (.int q11.1), some (.int (gI q11.2 7 a1.toNatClampNeg))]) ⟨dX10_take_102, rfl⟩ (by decide) rfl rfl ?_
  refine y_aload_n (i := 0) (n := 105) ⟨dX10_take_104, rfl⟩ rfl ?_
  refine y_aload_n (i := 0) (n := 106) ⟨dX10_take_105, rfl⟩ rfl ?_
  refine y_getI (n := 109) ⟨dX10_take_106, rfl⟩ kfX10_84 l_56 rfl ?_
  refine y_aload_n (i := 0) (n := 110) ⟨dX10_take_109, rfl⟩ rfl ?_
  refine y_getR (n := 113) ⟨dX10_take_110, rfl⟩ kfX10_43 l_56 rfl r_56_0 ?_
  refine y_aload_n (i := 0) (n := 114) ⟨dX10_take_113, rfl⟩ rfl ?_
  refine y_getR (n := 117) ⟨dX10_take_114, rfl⟩ kfX10_47 l_56 rfl r_56_1 ?_
  refine y_getR (n := 120) ⟨dX10_take_117, rfl⟩ kfX10_101 l_6 rfl r_6_1 ?_
  refine y_iload_n (i := 1) (n := 121) ⟨dX10_take_120, rfl⟩ rfl ?_
  refine y_iaload (n := 122) ⟨dX10_take_121, rfl⟩ l_8 hg13 ?_
  refine y_iload_n (i := 3) (n := 123) ⟨dX10_take_122, rfl⟩ rfl ?_
  obtain ⟨v14, hv15, hf⟩ := b_s hf
  refine c_si_ageOf (gI q11.2 8 a1.toNatClampNeg) a3 q11.2 (n := 126) ⟨dX10_take_123, rfl⟩ klX10_159 hv15 (by decide) (Nat.le_of_ble_eq_true rfl) rfl rfl ?_
  refine c_jd_max (gI q11.2 56 13) v14 q11.2 (n := 129) ⟨dX10_take_126, rfl⟩ klX10_162 rfl (by decide) (Nat.le_of_ble_eq_true rfl) rfl rfl ?_
  refine y_putI (n := 132) ⟨dX10_take_129, rfl⟩ kfX10_84 l_56 (by decide +kernel) rfl ?_
  refine y_aload_n (i := 0) (n := 133) ⟨dX10_take_132, rfl⟩ rfl ?_
  refine y_getR (n := 136) ⟨dX10_take_133, rfl⟩ kfX10_33 l_56 rfl r_56_12 ?_
  refine y_iload (i := 9) (n := 138) ⟨dX10_take_136, rfl⟩ rfl ?_
  refine y_dup2 (n := 139) ⟨dX10_take_138, rfl⟩ ?_
  obtain ⟨hg16, hf⟩ := g_s hf
  refine y_iaload (n := 140) ⟨dX10_take_139, rfl⟩ l_64 hg16 ?_
  refine y_iconst (n := 141) (v := 1) ⟨dX10_take_140, rfl⟩ ki_1 ?_
  refine y_iadd (n := 142) ⟨dX10_take_141, rfl⟩ ?_
  refine y_iastore (n := 143) ⟨dX10_take_142, rfl⟩ l_64 hg16 ?_
  refine y_aload_n (i := 0) (n := 144) ⟨dX10_take_143, rfl⟩ rfl ?_
  refine y_iload (i := 5) (n := 146) ⟨dX10_take_144, rfl⟩ rfl ?_
  refine y_iload (i := 8) (n := 148) ⟨dX10_take_146, rfl⟩ rfl ?_
  refine y_iload (i := 4) (n := 150) ⟨dX10_take_148, rfl⟩ rfl ?_
  obtain ⟨q17, hv18, hf⟩ := b_s hf
  refine c_wo_addToTally t4.1 q11.1 a4 (sI (sI q11.2 56 13 (f_jd_max (gI q11.2 56 13) v14)) 64 (gI q11.2 7 a1.toNatClampNeg).toNatClampNeg ((gI (sI q11.2 56 13 (f_jd_max (gI q11.2 56 13) v14)) 64 (gI q11.2 7 a1.toNatClampNeg).toNatClampNeg) + 1)) (n := 153) ⟨dX10_take_150, rfl⟩ klX10_167 hv18 (by decide) (Nat.le_of_ble_eq_true rfl) rfl rfl ?_
  refine y_aload_n (i := 0) (n := 154) ⟨dX10_take_153, rfl⟩ rfl ?_
  refine y_getI (n := 157) ⟨dX10_take_154, rfl⟩ kfX10_81 l_56 rfl ?_
  refine y_aload_n (i := 0) (n := 158) ⟨dX10_take_157, rfl⟩ rfl ?_
  refine y_getR (n := 161) ⟨dX10_take_158, rfl⟩ kfX10_27 l_56 rfl r_56_9 ?_
  refine y_alen (n := 162) (v := 1920) ⟨dX10_take_161, rfl⟩ l_62 (fun _ => rfl) (by decide) ?_
  refine y_icmp_ge (t := 222) (n := 165) ⟨dX10_take_162, rfl, rfl⟩ (fun (hc : (1920 : Int32) ≤ (gI q17 56 10)) => ?_) (fun (hc : ¬ ((1920 : Int32) ≤ (gI q17 56 10))) => ?_)
  · replace hf := i_t hc hf
    cases hf
    exact y_return (n := 223) ⟨dX10_take_222, rfl⟩ rfl hk
  · replace hf := i_f hc hf
    refine y_aload_n (i := 0) (n := 166) ⟨dX10_take_165, rfl⟩ rfl ?_
    refine y_getR (n := 169) ⟨dX10_take_166, rfl⟩ kfX10_27 l_56 rfl r_56_9 ?_
    refine y_aload_n (i := 0) (n := 170) ⟨dX10_take_169, rfl⟩ rfl ?_
    refine y_getI (n := 173) ⟨dX10_take_170, rfl⟩ kfX10_81 l_56 rfl ?_
    refine y_iload (i := 4) (n := 175) ⟨dX10_take_173, rfl⟩ rfl ?_
    refine y_if_eq (t := 182) (n := 178) ⟨dX10_take_175, rfl, rfl⟩ (fun (hc : a4 = 0) => ?_) (fun (hc : ¬ (a4 = 0)) => ?_)
    · replace hf := i_t hc hf
      refine y_iconst (n := 183) (v := 0) ⟨dX10_take_182, rfl⟩ ki_0 ?_
      exact y_wk ⟨Or.inr rfl, Or.inl rfl, Or.inl rfl, Or.inr rfl, Or.inl rfl, Or.inr rfl, Or.inl rfl, Or.inr rfl, Or.inr rfl, Or.inr rfl, trivial⟩ (w_t_wo_take_183 a3 t4.1 ((q7.1 * 10) + q9.1) q11.1 (gI q11.2 7 a1.toNatClampNeg) (gI q17 56 10) 0 q17 hf hk)
    · replace hf := i_f hc hf
      refine y_iconst (n := 179) (v := 1) ⟨dX10_take_178, rfl⟩ ki_1 ?_
      refine y_goto (t := 183) ⟨dX10_take_179, rfl, rfl⟩ ?_
      exact y_wk ⟨Or.inr rfl, Or.inl rfl, Or.inl rfl, Or.inr rfl, Or.inl rfl, Or.inr rfl, Or.inl rfl, Or.inr rfl, Or.inr rfl, Or.inr rfl, trivial⟩ (w_t_wo_take_183 a3 t4.1 ((q7.1 * 10) + q9.1) q11.1 (gI q11.2 7 a1.toNatClampNeg) (gI q17 56 10) 1 q17 hf hk)
theorem c_wo_take (a1 : Int32) (a2 : Int32) (a3 : Int32) (a4 : Int32) (M : dM) {o : dM} {y : mz_M} {d : Nat} {Q : mz_P} {pc n i : Nat} {L : List (Option Value)} {st : List Value} (h : mz_d y.2.1 pc n 3 (.invokevirtual i)) (hl : mz_ml y.1.cls i yX10_take) (hf : f_wo_take a1 a2 a3 a4 M = some o) (hd : 5 + 1 ≤ d) (hsm : (st.map (fun v => v.category)).sum ≤ 8) (hLr : mz_rL 133 L = true) (hSr : mz_rS 133 st = true) (kk : mW y d Q n L st o) : mW y d Q pc L (.int a4 :: .int a3 :: .int a2 :: .int a1 :: .ref 56 :: st) M :=
  y_callV kmX10_take kvX10_take l_56 (by decide +kernel) (by decide +kernel) h hl (ok_wo_take a1 a2 a3 a4 M hf) (vs := [.int a1, .int a2, .int a3, .int a4]) rfl rfl hd hsm hLr hSr kk
noncomputable def t_wo_seekLain_82 (x2 : Int32) (x3 : Int32) (y0 : Int32) (M : dM) : Option (Int32 × dM) :=
  if x3 = 0 then
    some ((-1), M)
  else
    if y0 = 0 then
      some ((-1), M)
    else
      some (x2, M)
noncomputable def t_wo_seekLain_55 (x1 : Int32) (x2 : Int32) (y0 : Int32) (M : dM) : Option (Int32 × dM) :=
  (f_wo_draw M).bind fun q7 =>
  gd (vp_in x1 80) <|
  gd (vp_in (gI q7.2 7 x1.toNatClampNeg) 10) <|
  if (gI q7.2 57 (gI q7.2 7 x1.toNatClampNeg).toNatClampNeg) ≤ q7.1 then
    t_wo_seekLain_82 x2 y0 0 q7.2
  else
    t_wo_seekLain_82 x2 y0 1 q7.2
noncomputable def f_wo_seekLain (a1 : Int32) (M : dM) : Option (Int32 × dM) :=
  gd (vp_in a1 80) <|
  (f_wo_drawLayer (gI M 8 a1.toNatClampNeg) M).bind fun q2 =>
  if q2.1 = (-1) then
    some ((-1), q2.2)
  else
    (f_wo_draw q2.2).bind fun q4 =>
    gd (vp_in (((gI q4.2 8 a1.toNatClampNeg) * 10) + q2.1) 80) <|
    if (gI q4.2 3 (((gI q4.2 8 a1.toNatClampNeg) * 10) + q2.1).toNatClampNeg) ≤ q4.1 then
      t_wo_seekLain_55 a1 q2.1 0 q4.2
    else
      t_wo_seekLain_55 a1 q2.1 1 q4.2
theorem w_t_wo_seekLain_82 (x2 : Int32) (x3 : Int32) (y0 : Int32) (M : dM) {Q : mz_P} {o : (Int32 × dM)} (hf : t_wo_seekLain_82 x2 x3 y0 M = some o) (hk : mR Q (some (.int o.1)) o.2) : mW mX10_seekLain 5 Q 82 [none, none, some (.int x2), some (.int x3), none] [.int y0] M := by
  unfold t_wo_seekLain_82 at hf
  refine y_istore (i := 4) (n := 84) (L2 := [none, none, some (.int x2), some (.int x3), some (.int y0)]) ⟨dX10_seekLain_82, rfl⟩ (by decide) rfl rfl ?_
  refine y_iload_n (i := 3) (n := 85) ⟨dX10_seekLain_84, rfl⟩ rfl ?_
  refine y_if_eq (t := 97) (n := 88) ⟨dX10_seekLain_85, rfl, rfl⟩ (fun (hc : x3 = 0) => ?_) (fun (hc : ¬ (x3 = 0)) => ?_)
  · replace hf := i_t hc hf
    refine y_iconst (n := 98) (v := (-1)) ⟨dX10_seekLain_97, rfl⟩ ki_m1 ?_
    cases hf
    exact y_ireturn (n := 99) ⟨dX10_seekLain_98, rfl⟩ rfl rfl hk
  · replace hf := i_f hc hf
    refine y_iload (i := 4) (n := 90) ⟨dX10_seekLain_88, rfl⟩ rfl ?_
    refine y_if_eq (t := 97) (n := 93) ⟨dX10_seekLain_90, rfl, rfl⟩ (fun (hc : y0 = 0) => ?_) (fun (hc : ¬ (y0 = 0)) => ?_)
    · replace hf := i_t hc hf
      refine y_iconst (n := 98) (v := (-1)) ⟨dX10_seekLain_97, rfl⟩ ki_m1 ?_
      cases hf
      exact y_ireturn (n := 99) ⟨dX10_seekLain_98, rfl⟩ rfl rfl hk
    · replace hf := i_f hc hf
      refine y_iload_n (i := 2) (n := 94) ⟨dX10_seekLain_93, rfl⟩ rfl ?_
      refine y_goto (t := 98) ⟨dX10_seekLain_94, rfl, rfl⟩ ?_
      cases hf
      exact y_ireturn (n := 99) ⟨dX10_seekLain_98, rfl⟩ rfl rfl hk
theorem w_t_wo_seekLain_55 (x1 : Int32) (x2 : Int32) (y0 : Int32) (M : dM) {Q : mz_P} {o : (Int32 × dM)} (hf : t_wo_seekLain_55 x1 x2 y0 M = some o) (hk : mR Q (some (.int o.1)) o.2) : mW mX10_seekLain 5 Q 55 [some (.ref 56), some (.int x1), some (.int x2), none, none] [.int y0] M := by
  unfold t_wo_seekLain_55 at hf
  refine y_istore_n (i := 3) (n := 56) (L2 := [some (.ref 56), some (.int x1), some (.int x2), some (.int y0), none]) ⟨dX10_seekLain_55, rfl⟩ (by decide) rfl rfl ?_
  refine y_aload_n (i := 0) (n := 57) ⟨dX10_seekLain_56, rfl⟩ rfl ?_
  obtain ⟨q7, hv8, hf⟩ := b_s hf
  refine c_wo_draw M (n := 60) ⟨dX10_seekLain_57, rfl⟩ klX10_130 hv8 (by decide) (Nat.le_of_ble_eq_true rfl) rfl rfl ?_
  refine y_aload_n (i := 0) (n := 61) ⟨dX10_seekLain_60, rfl⟩ rfl ?_
  refine y_getR (n := 64) ⟨dX10_seekLain_61, rfl⟩ kfX10_11 l_56 rfl r_56_3 ?_
  refine y_aload_n (i := 0) (n := 65) ⟨dX10_seekLain_64, rfl⟩ rfl ?_
  refine y_getR (n := 68) ⟨dX10_seekLain_65, rfl⟩ kfX10_47 l_56 rfl r_56_1 ?_
  refine y_getR (n := 71) ⟨dX10_seekLain_68, rfl⟩ kfX10_141 l_6 rfl r_6_0 ?_
  refine y_iload_n (i := 1) (n := 72) ⟨dX10_seekLain_71, rfl⟩ rfl ?_
  obtain ⟨hg9, hf⟩ := g_s hf
  refine y_iaload (n := 73) ⟨dX10_seekLain_72, rfl⟩ l_7 hg9 ?_
  obtain ⟨hg10, hf⟩ := g_s hf
  refine y_iaload (n := 74) ⟨dX10_seekLain_73, rfl⟩ l_57 hg10 ?_
  refine y_icmp_ge (t := 81) (n := 77) ⟨dX10_seekLain_74, rfl, rfl⟩ (fun (hc : (gI q7.2 57 (gI q7.2 7 x1.toNatClampNeg).toNatClampNeg) ≤ q7.1) => ?_) (fun (hc : ¬ ((gI q7.2 57 (gI q7.2 7 x1.toNatClampNeg).toNatClampNeg) ≤ q7.1)) => ?_)
  · replace hf := i_t hc hf
    refine y_iconst (n := 82) (v := 0) ⟨dX10_seekLain_81, rfl⟩ ki_0 ?_
    exact y_wk ⟨Or.inl rfl, Or.inl rfl, Or.inr rfl, Or.inr rfl, Or.inr rfl, trivial⟩ (w_t_wo_seekLain_82 x2 y0 0 q7.2 hf hk)
  · replace hf := i_f hc hf
    refine y_iconst (n := 78) (v := 1) ⟨dX10_seekLain_77, rfl⟩ ki_1 ?_
    refine y_goto (t := 82) ⟨dX10_seekLain_78, rfl, rfl⟩ ?_
    exact y_wk ⟨Or.inl rfl, Or.inl rfl, Or.inr rfl, Or.inr rfl, Or.inr rfl, trivial⟩ (w_t_wo_seekLain_82 x2 y0 1 q7.2 hf hk)
theorem ok_wo_seekLain (a1 : Int32) (M : dM) {o : (Int32 × dM)} (hf : f_wo_seekLain a1 M = some o) : mO mX10_seekLain 5 [.ref 56, .int a1] M (some (.int o.1)) o.2 := by
  refine y_ok (by decide +kernel) (by decide) (L0 := [some (.ref 56), some (.int a1), none, none, none]) rfl ?_
  have hk := mR_mQ (some (.int o.1)) o.2
  generalize mQ _ _ = Q at hk ⊢
  unfold f_wo_seekLain at hf
  refine y_aload_n (i := 0) (n := 1) ⟨dX10_seekLain_0, rfl⟩ rfl ?_
  refine y_aload_n (i := 0) (n := 2) ⟨dX10_seekLain_1, rfl⟩ rfl ?_
  refine y_getR (n := 5) ⟨dX10_seekLain_2, rfl⟩ kfX10_47 l_56 rfl r_56_1 ?_
  refine y_getR (n := 8) ⟨dX10_seekLain_5, rfl⟩ kfX10_101 l_6 rfl r_6_1 ?_
  refine y_iload_n (i := 1) (n := 9) ⟨dX10_seekLain_8, rfl⟩ rfl ?_
  obtain ⟨hg1, hf⟩ := g_s hf
  refine y_iaload (n := 10) ⟨dX10_seekLain_9, rfl⟩ l_8 hg1 ?_
  obtain ⟨q2, hv3, hf⟩ := b_s hf
  refine c_wo_drawLayer (gI M 8 a1.toNatClampNeg) M (n := 13) ⟨dX10_seekLain_10, rfl⟩ klX10_144 hv3 (by decide) (Nat.le_of_ble_eq_true rfl) rfl rfl ?_
  refine y_istore_n (i := 2) (n := 14) (L2 := [some (.ref 56), some (.int a1), some (.int q2.1), none, none]) ⟨dX10_seekLain_13, rfl⟩ (by decide) rfl rfl ?_
  refine y_iload_n (i := 2) (n := 15) ⟨dX10_seekLain_14, rfl⟩ rfl ?_
  refine y_iconst (n := 16) (v := (-1)) ⟨dX10_seekLain_15, rfl⟩ ki_m1 ?_
  refine y_icmp_ne (t := 21) (n := 19) ⟨dX10_seekLain_16, rfl, rfl⟩ (fun (hc : ¬ (q2.1 = (-1))) => ?_) (fun (hc : q2.1 = (-1)) => ?_)
  · replace hf := i_f hc hf
    refine y_aload_n (i := 0) (n := 22) ⟨dX10_seekLain_21, rfl⟩ rfl ?_
    obtain ⟨q4, hv5, hf⟩ := b_s hf
    refine c_wo_draw q2.2 (n := 25) ⟨dX10_seekLain_22, rfl⟩ klX10_130 hv5 (by decide) (Nat.le_of_ble_eq_true rfl) rfl rfl ?_
    refine y_aload_n (i := 0) (n := 26) ⟨dX10_seekLain_25, rfl⟩ rfl ?_
    refine y_getR (n := 29) ⟨dX10_seekLain_26, rfl⟩ kfX10_43 l_56 rfl r_56_0 ?_
    refine y_getR (n := 32) ⟨dX10_seekLain_29, rfl⟩ kfX10_150 l_1 rfl r_1_1 ?_
    refine y_aload_n (i := 0) (n := 33) ⟨dX10_seekLain_32, rfl⟩ rfl ?_
    refine y_getR (n := 36) ⟨dX10_seekLain_33, rfl⟩ kfX10_47 l_56 rfl r_56_1 ?_
    refine y_getR (n := 39) ⟨dX10_seekLain_36, rfl⟩ kfX10_101 l_6 rfl r_6_1 ?_
    refine y_iload_n (i := 1) (n := 40) ⟨dX10_seekLain_39, rfl⟩ rfl ?_
    refine y_iaload (n := 41) ⟨dX10_seekLain_40, rfl⟩ l_8 hg1 ?_
    refine y_bipush (n := 43) (v := 10) ⟨dX10_seekLain_41, rfl⟩ kb_10 ?_
    refine y_imul (n := 44) ⟨dX10_seekLain_43, rfl⟩ ?_
    refine y_iload_n (i := 2) (n := 45) ⟨dX10_seekLain_44, rfl⟩ rfl ?_
    refine y_iadd (n := 46) ⟨dX10_seekLain_45, rfl⟩ ?_
    obtain ⟨hg6, hf⟩ := g_s hf
    refine y_iaload (n := 47) ⟨dX10_seekLain_46, rfl⟩ l_3 hg6 ?_
    refine y_icmp_ge (t := 54) (n := 50) ⟨dX10_seekLain_47, rfl, rfl⟩ (fun (hc : (gI q4.2 3 (((gI q4.2 8 a1.toNatClampNeg) * 10) + q2.1).toNatClampNeg) ≤ q4.1) => ?_) (fun (hc : ¬ ((gI q4.2 3 (((gI q4.2 8 a1.toNatClampNeg) * 10) + q2.1).toNatClampNeg) ≤ q4.1)) => ?_)
    · replace hf := i_t hc hf
      refine y_iconst (n := 55) (v := 0) ⟨dX10_seekLain_54, rfl⟩ ki_0 ?_
      exact y_wk ⟨Or.inr rfl, Or.inr rfl, Or.inr rfl, Or.inr rfl, Or.inr rfl, trivial⟩ (w_t_wo_seekLain_55 a1 q2.1 0 q4.2 hf hk)
    · replace hf := i_f hc hf
      refine y_iconst (n := 51) (v := 1) ⟨dX10_seekLain_50, rfl⟩ ki_1 ?_
      refine y_goto (t := 55) ⟨dX10_seekLain_51, rfl, rfl⟩ ?_
      exact y_wk ⟨Or.inr rfl, Or.inr rfl, Or.inr rfl, Or.inr rfl, Or.inr rfl, trivial⟩ (w_t_wo_seekLain_55 a1 q2.1 1 q4.2 hf hk)
  · replace hf := i_t hc hf
    refine y_iconst (n := 20) (v := (-1)) ⟨dX10_seekLain_19, rfl⟩ ki_m1 ?_
    cases hf
    exact y_ireturn (n := 21) ⟨dX10_seekLain_20, rfl⟩ rfl rfl hk
theorem c_wo_seekLain (a1 : Int32) (M : dM) {o : (Int32 × dM)} {y : mz_M} {d : Nat} {Q : mz_P} {pc n i : Nat} {L : List (Option Value)} {st : List Value} (h : mz_d y.2.1 pc n 3 (.invokevirtual i)) (hl : mz_ml y.1.cls i yX10_seekLain) (hf : f_wo_seekLain a1 M = some o) (hd : 5 + 1 ≤ d) (hsm : (st.map (fun v => v.category)).sum ≤ 8) (hLr : mz_rL 133 L = true) (hSr : mz_rS 133 st = true) (kk : mW y d Q n L (.int o.1 :: st) o.2) : mW y d Q pc L (.int a1 :: .ref 56 :: st) M :=
  y_callV kmX10_seekLain kvX10_seekLain l_56 (by decide +kernel) (by decide +kernel) h hl (ok_wo_seekLain a1 M hf) (vs := [.int a1]) rfl rfl hd hsm hLr hSr kk
def K_wo_live_58 (Q : mz_P) (x1 : Int32) (M : dM) : ((Int32 × dM) ⊕ dM) → Prop
  | .inl s => mW mX10_live 6 Q 58 [some (.ref 56), some (.int x1), some (.int s.1), none, none, none] [] s.2
  | .inr r => mR Q none r
def K_wo_live_71 (Q : mz_P) (x1 : Int32) (x2 : Int32) (M : dM) : ((Int32 × dM) ⊕ dM) → Prop
  | .inl s => mW mX10_live 6 Q 71 [some (.ref 56), some (.int x1), some (.int x2), some (.int s.1), none, none] [] s.2
  | .inr t => mW mX10_live 6 Q 166 [some (.ref 56), some (.int x1), some (.int x2), none, none, none] [] t
noncomputable def b_wo_live_71_142 (x1 : Int32) (x2 : Int32) (x3 : Int32) (x4 : Int32) (y0 : Int32) (M : dM) : Option ((Int32 × dM) ⊕ dM) :=
  if y0 = (-1) then
    some (.inl ((x3 + 1), M))
  else
    (f_wo_take x2 x3 y0 x4 M).bind fun q15 =>
    some (.inl ((x3 + 1), q15))
noncomputable def b_wo_live_71_122 (x1 : Int32) (x2 : Int32) (x3 : Int32) (y0 : Int32) (M : dM) : Option ((Int32 × dM) ⊕ dM) :=
  if y0 = 0 then
    (f_wo_seekLain x2 M).bind fun q13 =>
    b_wo_live_71_142 x1 x2 x3 y0 q13.1 q13.2
  else
    (f_wo_seekPut x2 M).bind fun q17 =>
    b_wo_live_71_142 x1 x2 x3 y0 q17.1 q17.2
noncomputable def b_wo_live_71_71 (x1 : Int32) (x2 : Int32) (x3 : Int32) (M : dM) : Option ((Int32 × dM) ⊕ dM) :=
  if 24 ≤ x3 then
    some (.inr M)
  else
    gd (vp_in x2 80) <|
    if (f_ax_hasBit ((gI M 10 x2.toNatClampNeg).toInt64) x3) = true then
      (f_wo_putOne x2 x3 M).bind fun q10 =>
      gd (vp_in (gI q10 8 x2.toNatClampNeg) 8) <|
      if (gI q10 61 (gI q10 8 x2.toNatClampNeg).toNatClampNeg) ≤ 0 then
        b_wo_live_71_122 x1 x2 x3 0 q10
      else
        b_wo_live_71_122 x1 x2 x3 1 q10
    else
      some (.inl ((x3 + 1), M))
noncomputable def l_wo_live_71 (x1 : Int32) (x2 : Int32) (x3 : Int32) (M : dM) : Option dM := lpc (fun s => b_wo_live_71_71 x1 x2 s.1 s.2) (x3, M)
noncomputable def b_wo_live_58_58 (x1 : Int32) (x2 : Int32) (M : dM) : Option ((Int32 × dM) ⊕ dM) :=
  if (gI M 6 5) ≤ x2 then
    some (.inr (sI M 56 14 x1))
  else
    (l_wo_live_71 x1 x2 0 M).bind fun t19 =>
      some (.inl ((x2 + 1), t19))
noncomputable def l_wo_live_58 (x1 : Int32) (x2 : Int32) (M : dM) : Option dM := lpc (fun s => b_wo_live_58_58 x1 s.1 s.2) (x2, M)
noncomputable def f_wo_live (a1 : Int32) (M : dM) : Option dM :=
  if (gI M 56 14) = a1 then
    some M
  else
    (f_li_weigh M).bind fun q1 =>
    (f_jd_fill_61 0 (sI (sI (sJ q1 56 8 a1.toInt64) 56 10 0) 56 13 (-1))).bind fun q3 =>
    (f_jd_fill_63 0 q3).bind fun q5 =>
    (f_jd_fill_64 0 q5).bind fun q7 =>
    (l_wo_live_58 a1 0 q7).bind fun r24 => some r24
theorem w_b_wo_live_71_142 (x1 : Int32) (x2 : Int32) (x3 : Int32) (x4 : Int32) (y0 : Int32) (M : dM) {Q : mz_P} {o : ((Int32 × dM) ⊕ dM)} (hf : b_wo_live_71_142 x1 x2 x3 x4 y0 M = some o) (hk : K_wo_live_71 Q x1 x2 M o) : mW mX10_live 6 Q 142 [some (.ref 56), some (.int x1), some (.int x2), some (.int x3), some (.int x4), none] [.int y0] M := by
  unfold b_wo_live_71_142 at hf
  refine y_istore (i := 5) (n := 144) (L2 := [some (.ref 56), some (.int x1), some (.int x2), some (.int x3), some (.int x4), some (.int y0)]) ⟨dX10_live_142, rfl⟩ (by decide) rfl rfl ?_
  refine y_iload (i := 5) (n := 146) ⟨dX10_live_144, rfl⟩ rfl ?_
  refine y_iconst (n := 147) (v := (-1)) ⟨dX10_live_146, rfl⟩ ki_m1 ?_
  refine y_icmp_eq (t := 160) (n := 150) ⟨dX10_live_147, rfl, rfl⟩ (fun (hc : y0 = (-1)) => ?_) (fun (hc : ¬ (y0 = (-1))) => ?_)
  · replace hf := i_t hc hf
    refine y_iinc (i := 3) (n := 163) (b := (x3 + 1)) (L2 := [some (.ref 56), some (.int x1), some (.int x2), some (.int (x3 + 1)), some (.int x4), some (.int y0)]) ⟨dX10_live_160, rfl⟩ rfl (by rw [ki_1]) (by decide) rfl rfl ?_
    refine y_goto (t := 71) ⟨dX10_live_163, rfl, rfl⟩ ?_
    cases hf
    exact y_wk ⟨Or.inr rfl, Or.inr rfl, Or.inr rfl, Or.inr rfl, Or.inl rfl, Or.inl rfl, trivial⟩ hk
  · replace hf := i_f hc hf
    refine y_aload_n (i := 0) (n := 151) ⟨dX10_live_150, rfl⟩ rfl ?_
    refine y_iload_n (i := 2) (n := 152) ⟨dX10_live_151, rfl⟩ rfl ?_
    refine y_iload_n (i := 3) (n := 153) ⟨dX10_live_152, rfl⟩ rfl ?_
    refine y_iload (i := 5) (n := 155) ⟨dX10_live_153, rfl⟩ rfl ?_
    refine y_iload (i := 4) (n := 157) ⟨dX10_live_155, rfl⟩ rfl ?_
    obtain ⟨q15, hv16, hf⟩ := b_s hf
    refine c_wo_take x2 x3 y0 x4 M (n := 160) ⟨dX10_live_157, rfl⟩ klX10_111 hv16 (by decide) (Nat.le_of_ble_eq_true rfl) rfl rfl ?_
    refine y_iinc (i := 3) (n := 163) (b := (x3 + 1)) (L2 := [some (.ref 56), some (.int x1), some (.int x2), some (.int (x3 + 1)), some (.int x4), some (.int y0)]) ⟨dX10_live_160, rfl⟩ rfl (by rw [ki_1]) (by decide) rfl rfl ?_
    refine y_goto (t := 71) ⟨dX10_live_163, rfl, rfl⟩ ?_
    cases hf
    exact y_wk ⟨Or.inr rfl, Or.inr rfl, Or.inr rfl, Or.inr rfl, Or.inl rfl, Or.inl rfl, trivial⟩ hk
theorem w_b_wo_live_71_122 (x1 : Int32) (x2 : Int32) (x3 : Int32) (y0 : Int32) (M : dM) {Q : mz_P} {o : ((Int32 × dM) ⊕ dM)} (hf : b_wo_live_71_122 x1 x2 x3 y0 M = some o) (hk : K_wo_live_71 Q x1 x2 M o) : mW mX10_live 6 Q 122 [some (.ref 56), some (.int x1), some (.int x2), some (.int x3), none, none] [.int y0] M := by
  unfold b_wo_live_71_122 at hf
  refine y_istore (i := 4) (n := 124) (L2 := [some (.ref 56), some (.int x1), some (.int x2), some (.int x3), some (.int y0), none]) ⟨dX10_live_122, rfl⟩ (by decide) rfl rfl ?_
  refine y_iload (i := 4) (n := 126) ⟨dX10_live_124, rfl⟩ rfl ?_
  refine y_if_eq (t := 137) (n := 129) ⟨dX10_live_126, rfl, rfl⟩ (fun (hc : y0 = 0) => ?_) (fun (hc : ¬ (y0 = 0)) => ?_)
  · replace hf := i_t hc hf
    refine y_aload_n (i := 0) (n := 138) ⟨dX10_live_137, rfl⟩ rfl ?_
    refine y_iload_n (i := 2) (n := 139) ⟨dX10_live_138, rfl⟩ rfl ?_
    obtain ⟨q13, hv14, hf⟩ := b_s hf
    refine c_wo_seekLain x2 M (n := 142) ⟨dX10_live_139, rfl⟩ klX10_108 hv14 (by decide) (Nat.le_of_ble_eq_true rfl) rfl rfl ?_
    exact y_wk ⟨Or.inr rfl, Or.inr rfl, Or.inr rfl, Or.inr rfl, Or.inr rfl, Or.inr rfl, trivial⟩ (w_b_wo_live_71_142 x1 x2 x3 y0 q13.1 q13.2 hf hk)
  · replace hf := i_f hc hf
    refine y_aload_n (i := 0) (n := 130) ⟨dX10_live_129, rfl⟩ rfl ?_
    refine y_iload_n (i := 2) (n := 131) ⟨dX10_live_130, rfl⟩ rfl ?_
    obtain ⟨q17, hv18, hf⟩ := b_s hf
    refine c_wo_seekPut x2 M (n := 134) ⟨dX10_live_131, rfl⟩ klX10_104 hv18 (by decide) (Nat.le_of_ble_eq_true rfl) rfl rfl ?_
    refine y_goto (t := 142) ⟨dX10_live_134, rfl, rfl⟩ ?_
    exact y_wk ⟨Or.inr rfl, Or.inr rfl, Or.inr rfl, Or.inr rfl, Or.inr rfl, Or.inr rfl, trivial⟩ (w_b_wo_live_71_142 x1 x2 x3 y0 q17.1 q17.2 hf hk)
theorem w_b_wo_live_71_71 (x1 : Int32) (x2 : Int32) (x3 : Int32) (M : dM) {Q : mz_P} {o : ((Int32 × dM) ⊕ dM)} (hf : b_wo_live_71_71 x1 x2 x3 M = some o) (hk : K_wo_live_71 Q x1 x2 M o) : mW mX10_live 6 Q 71 [some (.ref 56), some (.int x1), some (.int x2), some (.int x3), none, none] [] M := by
  unfold b_wo_live_71_71 at hf
  refine y_iload_n (i := 3) (n := 72) ⟨dX10_live_71, rfl⟩ rfl ?_
  refine y_bipush (n := 74) (v := 24) ⟨dX10_live_72, rfl⟩ kb_24 ?_
  refine y_icmp_ge (t := 166) (n := 77) ⟨dX10_live_74, rfl, rfl⟩ (fun (hc : 24 ≤ x3) => ?_) (fun (hc : ¬ (24 ≤ x3)) => ?_)
  · replace hf := i_t hc hf
    cases hf
    exact y_wk ⟨Or.inr rfl, Or.inr rfl, Or.inr rfl, Or.inl rfl, Or.inr rfl, Or.inr rfl, trivial⟩ hk
  · replace hf := i_f hc hf
    refine y_aload_n (i := 0) (n := 78) ⟨dX10_live_77, rfl⟩ rfl ?_
    refine y_getR (n := 81) ⟨dX10_live_78, rfl⟩ kfX10_47 l_56 rfl r_56_1 ?_
    refine y_getR (n := 84) ⟨dX10_live_81, rfl⟩ kfX10_94 l_6 rfl r_6_3 ?_
    refine y_iload_n (i := 2) (n := 85) ⟨dX10_live_84, rfl⟩ rfl ?_
    obtain ⟨hg9, hf⟩ := g_s hf
    refine y_iaload (n := 86) ⟨dX10_live_85, rfl⟩ l_10 hg9 ?_
    refine y_i2l (n := 87) ⟨dX10_live_86, rfl⟩ ?_
    refine y_iload_n (i := 3) (n := 88) ⟨dX10_live_87, rfl⟩ rfl ?_
    refine c_ax_hasBit ((gI M 10 x2.toNatClampNeg).toInt64) x3 M (n := 91) ⟨dX10_live_88, rfl⟩ klX10_58 rfl (by decide) (Nat.le_of_ble_eq_true rfl) rfl rfl ?_
    refine y_if_eq (t := 160) (n := 94) ⟨dX10_live_91, rfl, rfl⟩ (fun h0 => ?_) (fun h0 => ?_)
    · have hc := bI_0 h0
      replace hf := i_f hc hf
      refine y_iinc (i := 3) (n := 163) (b := (x3 + 1)) (L2 := [some (.ref 56), some (.int x1), some (.int x2), some (.int (x3 + 1)), none, none]) ⟨dX10_live_160, rfl⟩ rfl (by rw [ki_1]) (by decide) rfl rfl ?_
      refine y_goto (t := 71) ⟨dX10_live_163, rfl, rfl⟩ ?_
      cases hf
      exact y_wk ⟨Or.inr rfl, Or.inr rfl, Or.inr rfl, Or.inr rfl, Or.inr rfl, Or.inr rfl, trivial⟩ hk
    · have hc := bI_1 h0
      replace hf := i_t hc hf
      refine y_aload_n (i := 0) (n := 95) ⟨dX10_live_94, rfl⟩ rfl ?_
      refine y_iload_n (i := 2) (n := 96) ⟨dX10_live_95, rfl⟩ rfl ?_
      refine y_iload_n (i := 3) (n := 97) ⟨dX10_live_96, rfl⟩ rfl ?_
      obtain ⟨q10, hv11, hf⟩ := b_s hf
      refine c_wo_putOne x2 x3 M (n := 100) ⟨dX10_live_97, rfl⟩ klX10_97 hv11 (by decide) (Nat.le_of_ble_eq_true rfl) rfl rfl ?_
      refine y_aload_n (i := 0) (n := 101) ⟨dX10_live_100, rfl⟩ rfl ?_
      refine y_getR (n := 104) ⟨dX10_live_101, rfl⟩ kfX10_24 l_56 rfl r_56_7 ?_
      refine y_aload_n (i := 0) (n := 105) ⟨dX10_live_104, rfl⟩ rfl ?_
      refine y_getR (n := 108) ⟨dX10_live_105, rfl⟩ kfX10_47 l_56 rfl r_56_1 ?_
      refine y_getR (n := 111) ⟨dX10_live_108, rfl⟩ kfX10_101 l_6 rfl r_6_1 ?_
      refine y_iload_n (i := 2) (n := 112) ⟨dX10_live_111, rfl⟩ rfl ?_
      refine y_iaload (n := 113) ⟨dX10_live_112, rfl⟩ l_8 hg9 ?_
      obtain ⟨hg12, hf⟩ := g_s hf
      refine y_iaload (n := 114) ⟨dX10_live_113, rfl⟩ l_61 hg12 ?_
      refine y_if_le (t := 121) (n := 117) ⟨dX10_live_114, rfl, rfl⟩ (fun (hc : (gI q10 61 (gI q10 8 x2.toNatClampNeg).toNatClampNeg) ≤ 0) => ?_) (fun (hc : ¬ ((gI q10 61 (gI q10 8 x2.toNatClampNeg).toNatClampNeg) ≤ 0)) => ?_)
      · replace hf := i_t hc hf
        refine y_iconst (n := 122) (v := 0) ⟨dX10_live_121, rfl⟩ ki_0 ?_
        exact y_wk ⟨Or.inr rfl, Or.inr rfl, Or.inr rfl, Or.inr rfl, Or.inr rfl, Or.inr rfl, trivial⟩ (w_b_wo_live_71_122 x1 x2 x3 0 q10 hf hk)
      · replace hf := i_f hc hf
        refine y_iconst (n := 118) (v := 1) ⟨dX10_live_117, rfl⟩ ki_1 ?_
        refine y_goto (t := 122) ⟨dX10_live_118, rfl, rfl⟩ ?_
        exact y_wk ⟨Or.inr rfl, Or.inr rfl, Or.inr rfl, Or.inr rfl, Or.inr rfl, Or.inr rfl, trivial⟩ (w_b_wo_live_71_122 x1 x2 x3 1 q10 hf hk)
theorem wl_wo_live_71 (x1 : Int32) (x2 : Int32) (x3 : Int32) (M : dM) {Q : mz_P} {x : dM} (hf : l_wo_live_71 x1 x2 x3 M = some x) (hk : K_wo_live_71 Q x1 x2 M (.inr x)) : mW mX10_live 6 Q 71 [some (.ref 56), some (.int x1), some (.int x2), some (.int x3), none, none] [] M :=
  lpc_wp (Wh := fun s => mW mX10_live 6 Q 71 [some (.ref 56), some (.int x1), some (.int x2), some (.int s.1), none, none] [] s.2) (K := K_wo_live_71 Q x1 x2 M) (fun _ h => h) (fun s o hb hk => w_b_wo_live_71_71 x1 x2 s.1 s.2 hb hk) hf hk
theorem w_b_wo_live_58_58 (x1 : Int32) (x2 : Int32) (M : dM) {Q : mz_P} {o : ((Int32 × dM) ⊕ dM)} (hf : b_wo_live_58_58 x1 x2 M = some o) (hk : K_wo_live_58 Q x1 M o) : mW mX10_live 6 Q 58 [some (.ref 56), some (.int x1), some (.int x2), none, none, none] [] M := by
  unfold b_wo_live_58_58 at hf
  refine y_iload_n (i := 2) (n := 59) ⟨dX10_live_58, rfl⟩ rfl ?_
  refine y_aload_n (i := 0) (n := 60) ⟨dX10_live_59, rfl⟩ rfl ?_
  refine y_getR (n := 63) ⟨dX10_live_60, rfl⟩ kfX10_47 l_56 rfl r_56_1 ?_
  refine y_getI (n := 66) ⟨dX10_live_63, rfl⟩ kfX10_93 l_6 rfl ?_
  refine y_icmp_ge (t := 172) (n := 69) ⟨dX10_live_66, rfl, rfl⟩ (fun (hc : (gI M 6 5) ≤ x2) => ?_) (fun (hc : ¬ ((gI M 6 5) ≤ x2)) => ?_)
  · replace hf := i_t hc hf
    refine y_aload_n (i := 0) (n := 173) ⟨dX10_live_172, rfl⟩ rfl ?_
    refine y_iload_n (i := 1) (n := 174) ⟨dX10_live_173, rfl⟩ rfl ?_
    refine y_putI (n := 177) ⟨dX10_live_174, rfl⟩ kfX10_36 l_56 (by decide +kernel) rfl ?_
    cases hf
    exact y_return (n := 178) ⟨dX10_live_177, rfl⟩ rfl hk
  · replace hf := i_f hc hf
    refine y_iconst (n := 70) (v := 0) ⟨dX10_live_69, rfl⟩ ki_0 ?_
    refine y_istore_n (i := 3) (n := 71) (L2 := [some (.ref 56), some (.int x1), some (.int x2), some (.int 0), none, none]) ⟨dX10_live_70, rfl⟩ (by decide) rfl rfl ?_
    obtain ⟨t19, hl20, hf⟩ := b_s hf
    refine y_wk ⟨Or.inr rfl, Or.inr rfl, Or.inr rfl, Or.inr rfl, Or.inr rfl, Or.inr rfl, trivial⟩ (wl_wo_live_71 x1 x2 0 M hl20 ?_)
    show mW mX10_live 6 Q 166 [some (.ref 56), some (.int x1), some (.int x2), none, none, none] [] t19
    refine y_iinc (i := 2) (n := 169) (b := (x2 + 1)) (L2 := [some (.ref 56), some (.int x1), some (.int (x2 + 1)), none, none, none]) ⟨dX10_live_166, rfl⟩ rfl (by rw [ki_1]) (by decide) rfl rfl ?_
    refine y_goto (t := 58) ⟨dX10_live_169, rfl, rfl⟩ ?_
    cases hf
    exact y_wk ⟨Or.inr rfl, Or.inr rfl, Or.inr rfl, Or.inr rfl, Or.inr rfl, Or.inr rfl, trivial⟩ hk
theorem wl_wo_live_58 (x1 : Int32) (x2 : Int32) (M : dM) {Q : mz_P} {x : dM} (hf : l_wo_live_58 x1 x2 M = some x) (hk : K_wo_live_58 Q x1 M (.inr x)) : mW mX10_live 6 Q 58 [some (.ref 56), some (.int x1), some (.int x2), none, none, none] [] M :=
  lpc_wp (Wh := fun s => mW mX10_live 6 Q 58 [some (.ref 56), some (.int x1), some (.int s.1), none, none, none] [] s.2) (K := K_wo_live_58 Q x1 M) (fun _ h => h) (fun s o hb hk => w_b_wo_live_58_58 x1 s.1 s.2 hb hk) hf hk
theorem ok_wo_live (a1 : Int32) (M : dM) {o : dM} (hf : f_wo_live a1 M = some o) : mO mX10_live 6 [.ref 56, .int a1] M none o := by
  refine y_ok (by decide +kernel) (by decide) (L0 := [some (.ref 56), some (.int a1), none, none, none, none]) rfl ?_
  have hk := mR_mQ none o
  generalize mQ _ _ = Q at hk ⊢
  unfold f_wo_live at hf
  refine y_aload_n (i := 0) (n := 1) ⟨dX10_live_0, rfl⟩ rfl ?_
  refine y_getI (n := 4) ⟨dX10_live_1, rfl⟩ kfX10_36 l_56 rfl ?_
  refine y_iload_n (i := 1) (n := 5) ⟨dX10_live_4, rfl⟩ rfl ?_
  refine y_icmp_ne (t := 9) (n := 8) ⟨dX10_live_5, rfl, rfl⟩ (fun (hc : ¬ ((gI M 56 14) = a1)) => ?_) (fun (hc : (gI M 56 14) = a1) => ?_)
  · replace hf := i_f hc hf
    refine y_aload_n (i := 0) (n := 10) ⟨dX10_live_9, rfl⟩ rfl ?_
    refine y_getR (n := 13) ⟨dX10_live_10, rfl⟩ kfX10_47 l_56 rfl r_56_1 ?_
    obtain ⟨q1, hv2, hf⟩ := b_s hf
    refine c_li_weigh M (n := 16) ⟨dX10_live_13, rfl⟩ klX10_72 hv2 (by decide) (Nat.le_of_ble_eq_true rfl) rfl rfl ?_
    refine y_aload_n (i := 0) (n := 17) ⟨dX10_live_16, rfl⟩ rfl ?_
    refine y_iload_n (i := 1) (n := 18) ⟨dX10_live_17, rfl⟩ rfl ?_
    refine y_i2l (n := 19) ⟨dX10_live_18, rfl⟩ ?_
    refine y_putJ (n := 22) ⟨dX10_live_19, rfl⟩ kfX10_77 l_56 (by decide +kernel) rfl ?_
    refine y_aload_n (i := 0) (n := 23) ⟨dX10_live_22, rfl⟩ rfl ?_
    refine y_iconst (n := 24) (v := 0) ⟨dX10_live_23, rfl⟩ ki_0 ?_
    refine y_putI (n := 27) ⟨dX10_live_24, rfl⟩ kfX10_81 l_56 (by decide +kernel) rfl ?_
    refine y_aload_n (i := 0) (n := 28) ⟨dX10_live_27, rfl⟩ rfl ?_
    refine y_iconst (n := 29) (v := (-1)) ⟨dX10_live_28, rfl⟩ ki_m1 ?_
    refine y_putI (n := 32) ⟨dX10_live_29, rfl⟩ kfX10_84 l_56 (by decide +kernel) rfl ?_
    refine y_aload_n (i := 0) (n := 33) ⟨dX10_live_32, rfl⟩ rfl ?_
    refine y_getR (n := 36) ⟨dX10_live_33, rfl⟩ kfX10_24 l_56 rfl r_56_7 ?_
    refine y_iconst (n := 37) (v := 0) ⟨dX10_live_36, rfl⟩ ki_0 ?_
    obtain ⟨q3, hv4, hf⟩ := b_s hf
    refine c_jd_fill_61 0 (sI (sI (sJ q1 56 8 a1.toInt64) 56 10 0) 56 13 (-1)) (n := 40) ⟨dX10_live_37, rfl⟩ klX10_87 hv4 (by decide) (Nat.le_of_ble_eq_true rfl) rfl rfl ?_
    refine y_aload_n (i := 0) (n := 41) ⟨dX10_live_40, rfl⟩ rfl ?_
    refine y_getR (n := 44) ⟨dX10_live_41, rfl⟩ kfX10_30 l_56 rfl r_56_11 ?_
    refine y_iconst (n := 45) (v := 0) ⟨dX10_live_44, rfl⟩ ki_0 ?_
    obtain ⟨q5, hv6, hf⟩ := b_s hf
    refine c_jd_fill_63 0 q3 (n := 48) ⟨dX10_live_45, rfl⟩ klX10_87 hv6 (by decide) (Nat.le_of_ble_eq_true rfl) rfl rfl ?_
    refine y_aload_n (i := 0) (n := 49) ⟨dX10_live_48, rfl⟩ rfl ?_
    refine y_getR (n := 52) ⟨dX10_live_49, rfl⟩ kfX10_33 l_56 rfl r_56_12 ?_
    refine y_iconst (n := 53) (v := 0) ⟨dX10_live_52, rfl⟩ ki_0 ?_
    obtain ⟨q7, hv8, hf⟩ := b_s hf
    refine c_jd_fill_64 0 q5 (n := 56) ⟨dX10_live_53, rfl⟩ klX10_87 hv8 (by decide) (Nat.le_of_ble_eq_true rfl) rfl rfl ?_
    refine y_iconst (n := 57) (v := 0) ⟨dX10_live_56, rfl⟩ ki_0 ?_
    refine y_istore_n (i := 2) (n := 58) (L2 := [some (.ref 56), some (.int a1), some (.int 0), none, none, none]) ⟨dX10_live_57, rfl⟩ (by decide) rfl rfl ?_
    obtain ⟨r24, hl23, hf⟩ := b_s hf
    cases hf
    exact y_wk ⟨Or.inr rfl, Or.inr rfl, Or.inr rfl, Or.inr rfl, Or.inr rfl, Or.inr rfl, trivial⟩ (wl_wo_live_58 a1 0 q7 hl23 hk)
  · replace hf := i_t hc hf
    cases hf
    exact y_return (n := 9) ⟨dX10_live_8, rfl⟩ rfl hk
theorem c_wo_live (a1 : Int32) (M : dM) {o : dM} {y : mz_M} {d : Nat} {Q : mz_P} {pc n i : Nat} {L : List (Option Value)} {st : List Value} (h : mz_d y.2.1 pc n 3 (.invokevirtual i)) (hl : mz_ml y.1.cls i yX10_live) (hf : f_wo_live a1 M = some o) (hd : 6 + 1 ≤ d) (hsm : (st.map (fun v => v.category)).sum ≤ 8) (hLr : mz_rL 133 L = true) (hSr : mz_rS 133 st = true) (kk : mW y d Q n L st o) : mW y d Q pc L (.int a1 :: .ref 56 :: st) M :=
  y_callV kmX10_live kvX10_live l_56 (by decide +kernel) (by decide +kernel) h hl (ok_wo_live a1 M hf) (vs := [.int a1]) rfl rfl hd hsm hLr hSr kk
def K_wo_luckiest_6 (Q : mz_P)  (M : dM) : ((Int32 × Int32 × Int32) ⊕ Int32) → Prop
  | .inl s => mW mX10_luckiest 1 Q 6 [some (.ref 56), some (.int s.1), some (.int s.2.1), some (.int s.2.2)] [] M
  | .inr r => mR Q (some (.int r)) M
noncomputable def b_wo_luckiest_6_6 (x1 : Int32) (x2 : Int32) (x3 : Int32) (M : dM) : Option ((Int32 × Int32 × Int32) ⊕ Int32) :=
  if 10 ≤ x3 then
    some (.inr x1)
  else
    gd (vp_in x3 10) <|
    if (gI M 64 x3.toNatClampNeg) ≤ x2 then
      some (.inl (x1, x2, (x3 + 1)))
    else
      some (.inl (x3, (gI M 64 x3.toNatClampNeg), (x3 + 1)))
noncomputable def l_wo_luckiest_6 (x1 : Int32) (x2 : Int32) (x3 : Int32) (M : dM) : Option Int32 := lpc (fun s => b_wo_luckiest_6_6 s.1 s.2.1 s.2.2 M) (x1, x2, x3)
noncomputable def f_wo_luckiest (M : dM) : Option Int32 :=
  (l_wo_luckiest_6 (-1) 0 0 M).bind fun r4 => some r4
theorem w_b_wo_luckiest_6_6 (x1 : Int32) (x2 : Int32) (x3 : Int32) (M : dM) {Q : mz_P} {o : ((Int32 × Int32 × Int32) ⊕ Int32)} (hf : b_wo_luckiest_6_6 x1 x2 x3 M = some o) (hk : K_wo_luckiest_6 Q  M o) : mW mX10_luckiest 1 Q 6 [some (.ref 56), some (.int x1), some (.int x2), some (.int x3)] [] M := by
  unfold b_wo_luckiest_6_6 at hf
  refine y_iload_n (i := 3) (n := 7) ⟨dX10_luckiest_6, rfl⟩ rfl ?_
  refine y_bipush (n := 9) (v := 10) ⟨dX10_luckiest_7, rfl⟩ kb_10 ?_
  refine y_icmp_ge (t := 37) (n := 12) ⟨dX10_luckiest_9, rfl, rfl⟩ (fun (hc : 10 ≤ x3) => ?_) (fun (hc : ¬ (10 ≤ x3)) => ?_)
  · replace hf := i_t hc hf
    refine y_iload_n (i := 1) (n := 38) ⟨dX10_luckiest_37, rfl⟩ rfl ?_
    cases hf
    exact y_ireturn (n := 39) ⟨dX10_luckiest_38, rfl⟩ rfl rfl hk
  · replace hf := i_f hc hf
    refine y_aload_n (i := 0) (n := 13) ⟨dX10_luckiest_12, rfl⟩ rfl ?_
    refine y_getR (n := 16) ⟨dX10_luckiest_13, rfl⟩ kfX10_33 l_56 rfl r_56_12 ?_
    refine y_iload_n (i := 3) (n := 17) ⟨dX10_luckiest_16, rfl⟩ rfl ?_
    obtain ⟨hg1, hf⟩ := g_s hf
    refine y_iaload (n := 18) ⟨dX10_luckiest_17, rfl⟩ l_64 hg1 ?_
    refine y_iload_n (i := 2) (n := 19) ⟨dX10_luckiest_18, rfl⟩ rfl ?_
    refine y_icmp_le (t := 31) (n := 22) ⟨dX10_luckiest_19, rfl, rfl⟩ (fun (hc : (gI M 64 x3.toNatClampNeg) ≤ x2) => ?_) (fun (hc : ¬ ((gI M 64 x3.toNatClampNeg) ≤ x2)) => ?_)
    · replace hf := i_t hc hf
      refine y_iinc (i := 3) (n := 34) (b := (x3 + 1)) (L2 := [some (.ref 56), some (.int x1), some (.int x2), some (.int (x3 + 1))]) ⟨dX10_luckiest_31, rfl⟩ rfl (by rw [ki_1]) (by decide) rfl rfl ?_
      refine y_goto (t := 6) ⟨dX10_luckiest_34, rfl, rfl⟩ ?_
      cases hf
      exact y_wk ⟨Or.inr rfl, Or.inr rfl, Or.inr rfl, Or.inr rfl, trivial⟩ hk
    · replace hf := i_f hc hf
      refine y_aload_n (i := 0) (n := 23) ⟨dX10_luckiest_22, rfl⟩ rfl ?_
      refine y_getR (n := 26) ⟨dX10_luckiest_23, rfl⟩ kfX10_33 l_56 rfl r_56_12 ?_
      refine y_iload_n (i := 3) (n := 27) ⟨dX10_luckiest_26, rfl⟩ rfl ?_
      refine y_iaload (n := 28) ⟨dX10_luckiest_27, rfl⟩ l_64 hg1 ?_
      refine y_istore_n (i := 2) (n := 29) (L2 := [some (.ref 56), some (.int x1), some (.int (gI M 64 x3.toNatClampNeg)), some (.int x3)]) ⟨dX10_luckiest_28, rfl⟩ (by decide) rfl rfl ?_
      refine y_iload_n (i := 3) (n := 30) ⟨dX10_luckiest_29, rfl⟩ rfl ?_
      refine y_istore_n (i := 1) (n := 31) (L2 := [some (.ref 56), some (.int x3), some (.int (gI M 64 x3.toNatClampNeg)), some (.int x3)]) ⟨dX10_luckiest_30, rfl⟩ (by decide) rfl rfl ?_
      refine y_iinc (i := 3) (n := 34) (b := (x3 + 1)) (L2 := [some (.ref 56), some (.int x3), some (.int (gI M 64 x3.toNatClampNeg)), some (.int (x3 + 1))]) ⟨dX10_luckiest_31, rfl⟩ rfl (by rw [ki_1]) (by decide) rfl rfl ?_
      refine y_goto (t := 6) ⟨dX10_luckiest_34, rfl, rfl⟩ ?_
      cases hf
      exact y_wk ⟨Or.inr rfl, Or.inr rfl, Or.inr rfl, Or.inr rfl, trivial⟩ hk
theorem wl_wo_luckiest_6 (x1 : Int32) (x2 : Int32) (x3 : Int32) (M : dM) {Q : mz_P} {x : Int32} (hf : l_wo_luckiest_6 x1 x2 x3 M = some x) (hk : K_wo_luckiest_6 Q  M (.inr x)) : mW mX10_luckiest 1 Q 6 [some (.ref 56), some (.int x1), some (.int x2), some (.int x3)] [] M :=
  lpc_wp (Wh := fun s => mW mX10_luckiest 1 Q 6 [some (.ref 56), some (.int s.1), some (.int s.2.1), some (.int s.2.2)] [] M) (K := K_wo_luckiest_6 Q  M) (fun _ h => h) (fun s o hb hk => w_b_wo_luckiest_6_6 s.1 s.2.1 s.2.2 M hb hk) hf hk
theorem ok_wo_luckiest  (M : dM) {o : Int32} (hf : f_wo_luckiest M = some o) : mO mX10_luckiest 1 [.ref 56] M (some (.int o)) M := by
  refine y_ok (by decide +kernel) (by decide) (L0 := [some (.ref 56), none, none, none]) rfl ?_
  have hk := mR_mQ (some (.int o)) M
  generalize mQ _ _ = Q at hk ⊢
  unfold f_wo_luckiest at hf
  refine y_iconst (n := 1) (v := (-1)) ⟨dX10_luckiest_0, rfl⟩ ki_m1 ?_
  refine y_istore_n (i := 1) (n := 2) (L2 := [some (.ref 56), some (.int (-1)), none, none]) ⟨dX10_luckiest_1, rfl⟩ (by decide) rfl rfl ?_
  refine y_iconst (n := 3) (v := 0) ⟨dX10_luckiest_2, rfl⟩ ki_0 ?_
  refine y_istore_n (i := 2) (n := 4) (L2 := [some (.ref 56), some (.int (-1)), some (.int 0), none]) ⟨dX10_luckiest_3, rfl⟩ (by decide) rfl rfl ?_
  refine y_iconst (n := 5) (v := 0) ⟨dX10_luckiest_4, rfl⟩ ki_0 ?_
  refine y_istore_n (i := 3) (n := 6) (L2 := [some (.ref 56), some (.int (-1)), some (.int 0), some (.int 0)]) ⟨dX10_luckiest_5, rfl⟩ (by decide) rfl rfl ?_
  obtain ⟨r4, hl3, hf⟩ := b_s hf
  cases hf
  exact y_wk ⟨Or.inr rfl, Or.inr rfl, Or.inr rfl, Or.inr rfl, trivial⟩ (wl_wo_luckiest_6 (-1) 0 0 M hl3 hk)
theorem c_wo_luckiest  (M : dM) {o : Int32} {y : mz_M} {d : Nat} {Q : mz_P} {pc n i : Nat} {L : List (Option Value)} {st : List Value} (h : mz_d y.2.1 pc n 3 (.invokevirtual i)) (hl : mz_ml y.1.cls i yX10_luckiest) (hf : f_wo_luckiest M = some o) (hd : 1 + 1 ≤ d) (hsm : (st.map (fun v => v.category)).sum ≤ 8) (hLr : mz_rL 133 L = true) (hSr : mz_rS 133 st = true) (kk : mW y d Q n L (.int o :: st) M) : mW y d Q pc L (.ref 56 :: st) M :=
  y_callV kmX10_luckiest kvX10_luckiest l_56 (by decide +kernel) (by decide +kernel) h hl (ok_wo_luckiest  M hf) (vs := []) rfl rfl hd hsm hLr hSr kk
def K_wo_leftOver_4 (Q : mz_P)  (M : dM) : ((Int32 × Int32) ⊕ Int32) → Prop
  | .inl s => mW mX10_leftOver 1 Q 4 [some (.ref 56), some (.int s.1), some (.int s.2)] [] M
  | .inr r => mR Q (some (.int r)) M
noncomputable def b_wo_leftOver_4_4 (x1 : Int32) (x2 : Int32) (M : dM) : Option ((Int32 × Int32) ⊕ Int32) :=
  if 8 ≤ x2 then
    some (.inr x1)
  else
    gd (vp_in x2 8) <|
    some (.inl ((x1 + (gI M 61 x2.toNatClampNeg)), (x2 + 1)))
noncomputable def l_wo_leftOver_4 (x1 : Int32) (x2 : Int32) (M : dM) : Option Int32 := lpc (fun s => b_wo_leftOver_4_4 s.1 s.2 M) (x1, x2)
noncomputable def f_wo_leftOver (M : dM) : Option Int32 :=
  (l_wo_leftOver_4 0 0 M).bind fun r4 => some r4
theorem w_b_wo_leftOver_4_4 (x1 : Int32) (x2 : Int32) (M : dM) {Q : mz_P} {o : ((Int32 × Int32) ⊕ Int32)} (hf : b_wo_leftOver_4_4 x1 x2 M = some o) (hk : K_wo_leftOver_4 Q  M o) : mW mX10_leftOver 1 Q 4 [some (.ref 56), some (.int x1), some (.int x2)] [] M := by
  unfold b_wo_leftOver_4_4 at hf
  refine y_iload_n (i := 2) (n := 5) ⟨dX10_leftOver_4, rfl⟩ rfl ?_
  refine y_bipush (n := 7) (v := 8) ⟨dX10_leftOver_5, rfl⟩ kb_8 ?_
  refine y_icmp_ge (t := 25) (n := 10) ⟨dX10_leftOver_7, rfl, rfl⟩ (fun (hc : 8 ≤ x2) => ?_) (fun (hc : ¬ (8 ≤ x2)) => ?_)
  · replace hf := i_t hc hf
    refine y_iload_n (i := 1) (n := 26) ⟨dX10_leftOver_25, rfl⟩ rfl ?_
    cases hf
    exact y_ireturn (n := 27) ⟨dX10_leftOver_26, rfl⟩ rfl rfl hk
  · replace hf := i_f hc hf
    refine y_iload_n (i := 1) (n := 11) ⟨dX10_leftOver_10, rfl⟩ rfl ?_
    refine y_aload_n (i := 0) (n := 12) ⟨dX10_leftOver_11, rfl⟩ rfl ?_
    refine y_getR (n := 15) ⟨dX10_leftOver_12, rfl⟩ kfX10_24 l_56 rfl r_56_7 ?_
    refine y_iload_n (i := 2) (n := 16) ⟨dX10_leftOver_15, rfl⟩ rfl ?_
    obtain ⟨hg1, hf⟩ := g_s hf
    refine y_iaload (n := 17) ⟨dX10_leftOver_16, rfl⟩ l_61 hg1 ?_
    refine y_iadd (n := 18) ⟨dX10_leftOver_17, rfl⟩ ?_
    refine y_istore_n (i := 1) (n := 19) (L2 := [some (.ref 56), some (.int (x1 + (gI M 61 x2.toNatClampNeg))), some (.int x2)]) ⟨dX10_leftOver_18, rfl⟩ (by decide) rfl rfl ?_
    refine y_iinc (i := 2) (n := 22) (b := (x2 + 1)) (L2 := [some (.ref 56), some (.int (x1 + (gI M 61 x2.toNatClampNeg))), some (.int (x2 + 1))]) ⟨dX10_leftOver_19, rfl⟩ rfl (by rw [ki_1]) (by decide) rfl rfl ?_
    refine y_goto (t := 4) ⟨dX10_leftOver_22, rfl, rfl⟩ ?_
    cases hf
    exact y_wk ⟨Or.inr rfl, Or.inr rfl, Or.inr rfl, trivial⟩ hk
theorem wl_wo_leftOver_4 (x1 : Int32) (x2 : Int32) (M : dM) {Q : mz_P} {x : Int32} (hf : l_wo_leftOver_4 x1 x2 M = some x) (hk : K_wo_leftOver_4 Q  M (.inr x)) : mW mX10_leftOver 1 Q 4 [some (.ref 56), some (.int x1), some (.int x2)] [] M :=
  lpc_wp (Wh := fun s => mW mX10_leftOver 1 Q 4 [some (.ref 56), some (.int s.1), some (.int s.2)] [] M) (K := K_wo_leftOver_4 Q  M) (fun _ h => h) (fun s o hb hk => w_b_wo_leftOver_4_4 s.1 s.2 M hb hk) hf hk
theorem ok_wo_leftOver  (M : dM) {o : Int32} (hf : f_wo_leftOver M = some o) : mO mX10_leftOver 1 [.ref 56] M (some (.int o)) M := by
  refine y_ok (by decide +kernel) (by decide) (L0 := [some (.ref 56), none, none]) rfl ?_
  have hk := mR_mQ (some (.int o)) M
  generalize mQ _ _ = Q at hk ⊢
  unfold f_wo_leftOver at hf
  refine y_iconst (n := 1) (v := 0) ⟨dX10_leftOver_0, rfl⟩ ki_0 ?_
  refine y_istore_n (i := 1) (n := 2) (L2 := [some (.ref 56), some (.int 0), none]) ⟨dX10_leftOver_1, rfl⟩ (by decide) rfl rfl ?_
  refine y_iconst (n := 3) (v := 0) ⟨dX10_leftOver_2, rfl⟩ ki_0 ?_
  refine y_istore_n (i := 2) (n := 4) (L2 := [some (.ref 56), some (.int 0), some (.int 0)]) ⟨dX10_leftOver_3, rfl⟩ (by decide) rfl rfl ?_
  obtain ⟨r4, hl3, hf⟩ := b_s hf
  cases hf
  exact y_wk ⟨Or.inr rfl, Or.inr rfl, Or.inr rfl, trivial⟩ (wl_wo_leftOver_4 0 0 M hl3 hk)
theorem c_wo_leftOver  (M : dM) {o : Int32} {y : mz_M} {d : Nat} {Q : mz_P} {pc n i : Nat} {L : List (Option Value)} {st : List Value} (h : mz_d y.2.1 pc n 3 (.invokevirtual i)) (hl : mz_ml y.1.cls i yX10_leftOver) (hf : f_wo_leftOver M = some o) (hd : 1 + 1 ≤ d) (hsm : (st.map (fun v => v.category)).sum ≤ 8) (hLr : mz_rL 133 L = true) (hSr : mz_rS 133 st = true) (kk : mW y d Q n L (.int o :: st) M) : mW y d Q pc L (.ref 56 :: st) M :=
  y_callV kmX10_leftOver kvX10_leftOver l_56 (by decide +kernel) (by decide +kernel) h hl (ok_wo_leftOver  M hf) (vs := []) rfl rfl hd hsm hLr hSr kk
noncomputable def f_ax_world (a1 : Int32) (a2 : Int32) (M : dM) : Option (Int32 × dM) :=
  if (f_ax_within a1 10000) = true then
    if (f_ax_within a2 5) = true then
      (f_wo_live a1 M).bind fun q1 =>
      if a2 = 0 then
        some ((gI q1 63 0), q1)
      else
      if a2 = 1 then
        some ((gI q1 63 3), q1)
      else
      if a2 = 2 then
        (f_wo_leftOver q1).bind fun v3 =>
        some (v3, q1)
      else
      if a2 = 3 then
        (f_wo_luckiest q1).bind fun v5 =>
        some (v5, q1)
      else
      some ((gI q1 56 13), q1)
    else
      some ((-1), M)
  else
    some ((-1), M)
theorem ok_ax_world (a1 : Int32) (a2 : Int32) (M : dM) {o : (Int32 × dM)} (hf : f_ax_world a1 a2 M = some o) : mO mX11_world 7 [.ref 0, .int a1, .int a2] M (some (.int o.1)) o.2 := by
  refine y_ok (by decide +kernel) (by decide) (L0 := [some (.ref 0), some (.int a1), some (.int a2)]) rfl ?_
  have hk := mR_mQ (some (.int o.1)) o.2
  generalize mQ _ _ = Q at hk ⊢
  unfold f_ax_world at hf
  refine y_iload_n (i := 1) (n := 1) ⟨dX11_world_0, rfl⟩ rfl ?_
  refine y_sipush (n := 4) (v := 10000) ⟨dX11_world_1, rfl⟩ ks_10000 ?_
  refine c_ax_within a1 10000 M (n := 7) ⟨dX11_world_4, rfl⟩ klX11_91 rfl (by decide) (Nat.le_of_ble_eq_true rfl) rfl rfl ?_
  refine y_if_eq (t := 18) (n := 10) ⟨dX11_world_7, rfl, rfl⟩ (fun h0 => ?_) (fun h0 => ?_)
  · have hc := bI_0 h0
    replace hf := i_f hc hf
    refine y_iconst (n := 19) (v := (-1)) ⟨dX11_world_18, rfl⟩ ki_m1 ?_
    cases hf
    exact y_ireturn (n := 20) ⟨dX11_world_19, rfl⟩ rfl rfl hk
  · have hc := bI_1 h0
    replace hf := i_t hc hf
    refine y_iload_n (i := 2) (n := 11) ⟨dX11_world_10, rfl⟩ rfl ?_
    refine y_iconst (n := 12) (v := 5) ⟨dX11_world_11, rfl⟩ ki_5 ?_
    refine c_ax_within a2 5 M (n := 15) ⟨dX11_world_12, rfl⟩ klX11_91 rfl (by decide) (Nat.le_of_ble_eq_true rfl) rfl rfl ?_
    refine y_if_ne (t := 20) (n := 18) ⟨dX11_world_15, rfl, rfl⟩ (fun h0 => ?_) (fun h0 => ?_)
    · have hc := bI_1 h0
      replace hf := i_t hc hf
      refine y_aload_n (i := 0) (n := 21) ⟨dX11_world_20, rfl⟩ rfl ?_
      refine y_getR (n := 24) ⟨dX11_world_21, rfl⟩ kfX11_83 l_0 rfl r_0_9 ?_
      refine y_iload_n (i := 1) (n := 25) ⟨dX11_world_24, rfl⟩ rfl ?_
      obtain ⟨q1, hv2, hf⟩ := b_s hf
      refine c_wo_live a1 M (n := 28) ⟨dX11_world_25, rfl⟩ klX11_327 hv2 (by decide) (Nat.le_of_ble_eq_true rfl) rfl rfl ?_
      refine y_iload_n (i := 2) (n := 29) ⟨dX11_world_28, rfl⟩ rfl ?_
      by_cases hc0 : a2 = 0
      · replace hf := i_t hc0 hf
        refine y_tabIn (t := 60) (off := 31) dX11_world_29 (sw_lo hc0 (by decide)) (sw_hi hc0 (by decide)) (sw_at hc0 (by decide)) rfl ?_
        refine y_aload_n (i := 0) (n := 61) ⟨dX11_world_60, rfl⟩ rfl ?_
        refine y_getR (n := 64) ⟨dX11_world_61, rfl⟩ kfX11_83 l_0 rfl r_0_9 ?_
        refine y_getR (n := 67) ⟨dX11_world_64, rfl⟩ kfX11_330 l_56 rfl r_56_11 ?_
        refine y_iconst (n := 68) (v := 0) ⟨dX11_world_67, rfl⟩ ki_0 ?_
        refine y_iaload (n := 69) ⟨dX11_world_68, rfl⟩ l_63 (by unfold vp_in; decide) ?_
        cases hf
        exact y_ireturn (n := 70) ⟨dX11_world_69, rfl⟩ rfl rfl hk
      replace hf := i_f hc0 hf
      by_cases hc1 : a2 = 1
      · replace hf := i_t hc1 hf
        refine y_tabIn (t := 70) (off := 41) dX11_world_29 (sw_lo hc1 (by decide)) (sw_hi hc1 (by decide)) (sw_at hc1 (by decide)) rfl ?_
        refine y_aload_n (i := 0) (n := 71) ⟨dX11_world_70, rfl⟩ rfl ?_
        refine y_getR (n := 74) ⟨dX11_world_71, rfl⟩ kfX11_83 l_0 rfl r_0_9 ?_
        refine y_getR (n := 77) ⟨dX11_world_74, rfl⟩ kfX11_330 l_56 rfl r_56_11 ?_
        refine y_iconst (n := 78) (v := 3) ⟨dX11_world_77, rfl⟩ ki_3 ?_
        refine y_iaload (n := 79) ⟨dX11_world_78, rfl⟩ l_63 (by unfold vp_in; decide) ?_
        cases hf
        exact y_ireturn (n := 80) ⟨dX11_world_79, rfl⟩ rfl rfl hk
      replace hf := i_f hc1 hf
      by_cases hc2 : a2 = 2
      · replace hf := i_t hc2 hf
        refine y_tabIn (t := 80) (off := 51) dX11_world_29 (sw_lo hc2 (by decide)) (sw_hi hc2 (by decide)) (sw_at hc2 (by decide)) rfl ?_
        refine y_aload_n (i := 0) (n := 81) ⟨dX11_world_80, rfl⟩ rfl ?_
        refine y_getR (n := 84) ⟨dX11_world_81, rfl⟩ kfX11_83 l_0 rfl r_0_9 ?_
        obtain ⟨v3, hv4, hf⟩ := b_s hf
        refine c_wo_leftOver q1 (n := 87) ⟨dX11_world_84, rfl⟩ klX11_333 hv4 (by decide) (Nat.le_of_ble_eq_true rfl) rfl rfl ?_
        cases hf
        exact y_ireturn (n := 88) ⟨dX11_world_87, rfl⟩ rfl rfl hk
      replace hf := i_f hc2 hf
      by_cases hc3 : a2 = 3
      · replace hf := i_t hc3 hf
        refine y_tabIn (t := 88) (off := 59) dX11_world_29 (sw_lo hc3 (by decide)) (sw_hi hc3 (by decide)) (sw_at hc3 (by decide)) rfl ?_
        refine y_aload_n (i := 0) (n := 89) ⟨dX11_world_88, rfl⟩ rfl ?_
        refine y_getR (n := 92) ⟨dX11_world_89, rfl⟩ kfX11_83 l_0 rfl r_0_9 ?_
        obtain ⟨v5, hv6, hf⟩ := b_s hf
        refine c_wo_luckiest q1 (n := 95) ⟨dX11_world_92, rfl⟩ klX11_336 hv6 (by decide) (Nat.le_of_ble_eq_true rfl) rfl rfl ?_
        cases hf
        exact y_ireturn (n := 96) ⟨dX11_world_95, rfl⟩ rfl rfl hk
      replace hf := i_f hc3 hf
      refine y_tabOut (t := 96) dX11_world_29 (sw_out (lo := 0) (cs := [0, 1, 2, 3]) (by decide) (by decide) ⟨hc0, hc1, hc2, hc3, trivial⟩) rfl ?_
      refine y_aload_n (i := 0) (n := 97) ⟨dX11_world_96, rfl⟩ rfl ?_
      refine y_getR (n := 100) ⟨dX11_world_97, rfl⟩ kfX11_83 l_0 rfl r_0_9 ?_
      refine y_getI (n := 103) ⟨dX11_world_100, rfl⟩ kfX11_339 l_56 rfl ?_
      cases hf
      exact y_ireturn (n := 104) ⟨dX11_world_103, rfl⟩ rfl rfl hk
    · have hc := bI_0 h0
      replace hf := i_f hc hf
      refine y_iconst (n := 19) (v := (-1)) ⟨dX11_world_18, rfl⟩ ki_m1 ?_
      cases hf
      exact y_ireturn (n := 20) ⟨dX11_world_19, rfl⟩ rfl rfl hk
theorem c_ax_world (a1 : Int32) (a2 : Int32) (M : dM) {o : (Int32 × dM)} {y : mz_M} {d : Nat} {Q : mz_P} {pc n i : Nat} {L : List (Option Value)} {st : List Value} (h : mz_d y.2.1 pc n 3 (.invokevirtual i)) (hl : mz_ml y.1.cls i yX11_world) (hf : f_ax_world a1 a2 M = some o) (hd : 7 + 1 ≤ d) (hsm : (st.map (fun v => v.category)).sum ≤ 8) (hLr : mz_rL 133 L = true) (hSr : mz_rS 133 st = true) (kk : mW y d Q n L (.int o.1 :: st) o.2) : mW y d Q pc L (.int a2 :: .int a1 :: .ref 0 :: st) M :=
  y_callV kmX11_world kvX11_world l_0 (by decide +kernel) (by decide +kernel) h hl (ok_ax_world a1 a2 M hf) (vs := [.int a1, .int a2]) rfl rfl hd hsm hLr hSr kk
noncomputable def f_wo_partOf (a1 : Int32) (a2 : Int32) (M : dM) : Option Int32 :=
  gd (vp_in a1 1920) <|
  if a2 = 0 then
    some ((gI M 62 a1.toNatClampNeg) &&& 1)
  else
  if a2 = 1 then
    some (((gI M 62 a1.toNatClampNeg) >>> ((1 : Int32) &&& 31)) &&& 255)
  else
  if a2 = 2 then
    some (((gI M 62 a1.toNatClampNeg) >>> ((9 : Int32) &&& 31)) &&& 15)
  else
  if a2 = 3 then
    some (((gI M 62 a1.toNatClampNeg) >>> ((13 : Int32) &&& 31)) &&& 15)
  else
  if a2 = 4 then
    some (((gI M 62 a1.toNatClampNeg) >>> ((17 : Int32) &&& 31)) &&& 127)
  else
  some (((gI M 62 a1.toNatClampNeg) >>> ((24 : Int32) &&& 31)) &&& 3)
theorem ok_wo_partOf (a1 : Int32) (a2 : Int32) (M : dM) {o : Int32} (hf : f_wo_partOf a1 a2 M = some o) : mO mX10_partOf 1 [.ref 56, .int a1, .int a2] M (some (.int o)) M := by
  refine y_ok (by decide +kernel) (by decide) (L0 := [some (.ref 56), some (.int a1), some (.int a2), none]) rfl ?_
  have hk := mR_mQ (some (.int o)) M
  generalize mQ _ _ = Q at hk ⊢
  unfold f_wo_partOf at hf
  refine y_aload_n (i := 0) (n := 1) ⟨dX10_partOf_0, rfl⟩ rfl ?_
  refine y_getR (n := 4) ⟨dX10_partOf_1, rfl⟩ kfX10_27 l_56 rfl r_56_9 ?_
  refine y_iload_n (i := 1) (n := 5) ⟨dX10_partOf_4, rfl⟩ rfl ?_
  obtain ⟨hg1, hf⟩ := g_s hf
  refine y_iaload (n := 6) ⟨dX10_partOf_5, rfl⟩ l_62 hg1 ?_
  refine y_istore_n (i := 3) (n := 7) (L2 := [some (.ref 56), some (.int a1), some (.int a2), some (.int (gI M 62 a1.toNatClampNeg))]) ⟨dX10_partOf_6, rfl⟩ (by decide) rfl rfl ?_
  refine y_iload_n (i := 2) (n := 8) ⟨dX10_partOf_7, rfl⟩ rfl ?_
  by_cases hc0 : a2 = 0
  · replace hf := i_t hc0 hf
    refine y_tabIn (t := 44) (off := 36) dX10_partOf_8 (sw_lo hc0 (by decide)) (sw_hi hc0 (by decide)) (sw_at hc0 (by decide)) rfl ?_
    refine y_iload_n (i := 3) (n := 45) ⟨dX10_partOf_44, rfl⟩ rfl ?_
    refine y_iconst (n := 46) (v := 1) ⟨dX10_partOf_45, rfl⟩ ki_1 ?_
    refine y_iand (n := 47) ⟨dX10_partOf_46, rfl⟩ ?_
    cases hf
    exact y_ireturn (n := 48) ⟨dX10_partOf_47, rfl⟩ rfl rfl hk
  replace hf := i_f hc0 hf
  by_cases hc1 : a2 = 1
  · replace hf := i_t hc1 hf
    refine y_tabIn (t := 48) (off := 40) dX10_partOf_8 (sw_lo hc1 (by decide)) (sw_hi hc1 (by decide)) (sw_at hc1 (by decide)) rfl ?_
    refine y_iload_n (i := 3) (n := 49) ⟨dX10_partOf_48, rfl⟩ rfl ?_
    refine y_iconst (n := 50) (v := 1) ⟨dX10_partOf_49, rfl⟩ ki_1 ?_
    refine y_ishr (n := 51) ⟨dX10_partOf_50, rfl⟩ ?_
    refine y_sipush (n := 54) (v := 255) ⟨dX10_partOf_51, rfl⟩ ks_255 ?_
    refine y_iand (n := 55) ⟨dX10_partOf_54, rfl⟩ ?_
    cases hf
    exact y_ireturn (n := 56) ⟨dX10_partOf_55, rfl⟩ rfl rfl hk
  replace hf := i_f hc1 hf
  by_cases hc2 : a2 = 2
  · replace hf := i_t hc2 hf
    refine y_tabIn (t := 56) (off := 48) dX10_partOf_8 (sw_lo hc2 (by decide)) (sw_hi hc2 (by decide)) (sw_at hc2 (by decide)) rfl ?_
    refine y_iload_n (i := 3) (n := 57) ⟨dX10_partOf_56, rfl⟩ rfl ?_
    refine y_bipush (n := 59) (v := 9) ⟨dX10_partOf_57, rfl⟩ kb_9 ?_
    refine y_ishr (n := 60) ⟨dX10_partOf_59, rfl⟩ ?_
    refine y_bipush (n := 62) (v := 15) ⟨dX10_partOf_60, rfl⟩ kb_15 ?_
    refine y_iand (n := 63) ⟨dX10_partOf_62, rfl⟩ ?_
    cases hf
    exact y_ireturn (n := 64) ⟨dX10_partOf_63, rfl⟩ rfl rfl hk
  replace hf := i_f hc2 hf
  by_cases hc3 : a2 = 3
  · replace hf := i_t hc3 hf
    refine y_tabIn (t := 64) (off := 56) dX10_partOf_8 (sw_lo hc3 (by decide)) (sw_hi hc3 (by decide)) (sw_at hc3 (by decide)) rfl ?_
    refine y_iload_n (i := 3) (n := 65) ⟨dX10_partOf_64, rfl⟩ rfl ?_
    refine y_bipush (n := 67) (v := 13) ⟨dX10_partOf_65, rfl⟩ kb_13 ?_
    refine y_ishr (n := 68) ⟨dX10_partOf_67, rfl⟩ ?_
    refine y_bipush (n := 70) (v := 15) ⟨dX10_partOf_68, rfl⟩ kb_15 ?_
    refine y_iand (n := 71) ⟨dX10_partOf_70, rfl⟩ ?_
    cases hf
    exact y_ireturn (n := 72) ⟨dX10_partOf_71, rfl⟩ rfl rfl hk
  replace hf := i_f hc3 hf
  by_cases hc4 : a2 = 4
  · replace hf := i_t hc4 hf
    refine y_tabIn (t := 72) (off := 64) dX10_partOf_8 (sw_lo hc4 (by decide)) (sw_hi hc4 (by decide)) (sw_at hc4 (by decide)) rfl ?_
    refine y_iload_n (i := 3) (n := 73) ⟨dX10_partOf_72, rfl⟩ rfl ?_
    refine y_bipush (n := 75) (v := 17) ⟨dX10_partOf_73, rfl⟩ kb_17 ?_
    refine y_ishr (n := 76) ⟨dX10_partOf_75, rfl⟩ ?_
    refine y_bipush (n := 78) (v := 127) ⟨dX10_partOf_76, rfl⟩ kb_127 ?_
    refine y_iand (n := 79) ⟨dX10_partOf_78, rfl⟩ ?_
    cases hf
    exact y_ireturn (n := 80) ⟨dX10_partOf_79, rfl⟩ rfl rfl hk
  replace hf := i_f hc4 hf
  refine y_tabOut (t := 80) dX10_partOf_8 (sw_out (lo := 0) (cs := [0, 1, 2, 3, 4]) (by decide) (by decide) ⟨hc0, hc1, hc2, hc3, hc4, trivial⟩) rfl ?_
  refine y_iload_n (i := 3) (n := 81) ⟨dX10_partOf_80, rfl⟩ rfl ?_
  refine y_bipush (n := 83) (v := 24) ⟨dX10_partOf_81, rfl⟩ kb_24 ?_
  refine y_ishr (n := 84) ⟨dX10_partOf_83, rfl⟩ ?_
  refine y_iconst (n := 85) (v := 3) ⟨dX10_partOf_84, rfl⟩ ki_3 ?_
  refine y_iand (n := 86) ⟨dX10_partOf_85, rfl⟩ ?_
  cases hf
  exact y_ireturn (n := 87) ⟨dX10_partOf_86, rfl⟩ rfl rfl hk
theorem c_wo_partOf (a1 : Int32) (a2 : Int32) (M : dM) {o : Int32} {y : mz_M} {d : Nat} {Q : mz_P} {pc n i : Nat} {L : List (Option Value)} {st : List Value} (h : mz_d y.2.1 pc n 3 (.invokevirtual i)) (hl : mz_ml y.1.cls i yX10_partOf) (hf : f_wo_partOf a1 a2 M = some o) (hd : 1 + 1 ≤ d) (hsm : (st.map (fun v => v.category)).sum ≤ 8) (hLr : mz_rL 133 L = true) (hSr : mz_rS 133 st = true) (kk : mW y d Q n L (.int o :: st) M) : mW y d Q pc L (.int a2 :: .int a1 :: .ref 56 :: st) M :=
  y_callV kmX10_partOf kvX10_partOf l_56 (by decide +kernel) (by decide +kernel) h hl (ok_wo_partOf a1 a2 M hf) (vs := [.int a1, .int a2]) rfl rfl hd hsm hLr hSr kk
noncomputable def f_ax_found (a1 : Int32) (a2 : Int32) (a3 : Int32) (M : dM) : Option (Int32 × dM) :=
  if (f_ax_within a1 10000) = true then
    if (f_ax_within a3 6) = true then
      (f_wo_live a1 M).bind fun q1 =>
      if (f_ax_within a2 (gI q1 56 10)) = true then
        (f_wo_partOf a2 a3 q1).bind fun v3 =>
        some (v3, q1)
      else
        some ((-1), q1)
    else
      some ((-1), M)
  else
    some ((-1), M)
theorem ok_ax_found (a1 : Int32) (a2 : Int32) (a3 : Int32) (M : dM) {o : (Int32 × dM)} (hf : f_ax_found a1 a2 a3 M = some o) : mO mX11_found 7 [.ref 0, .int a1, .int a2, .int a3] M (some (.int o.1)) o.2 := by
  refine y_ok (by decide +kernel) (by decide) (L0 := [some (.ref 0), some (.int a1), some (.int a2), some (.int a3)]) rfl ?_
  have hk := mR_mQ (some (.int o.1)) o.2
  generalize mQ _ _ = Q at hk ⊢
  unfold f_ax_found at hf
  refine y_iload_n (i := 1) (n := 1) ⟨dX11_found_0, rfl⟩ rfl ?_
  refine y_sipush (n := 4) (v := 10000) ⟨dX11_found_1, rfl⟩ ks_10000 ?_
  refine c_ax_within a1 10000 M (n := 7) ⟨dX11_found_4, rfl⟩ klX11_91 rfl (by decide) (Nat.le_of_ble_eq_true rfl) rfl rfl ?_
  refine y_if_eq (t := 19) (n := 10) ⟨dX11_found_7, rfl, rfl⟩ (fun h0 => ?_) (fun h0 => ?_)
  · have hc := bI_0 h0
    replace hf := i_f hc hf
    refine y_iconst (n := 20) (v := (-1)) ⟨dX11_found_19, rfl⟩ ki_m1 ?_
    cases hf
    exact y_ireturn (n := 21) ⟨dX11_found_20, rfl⟩ rfl rfl hk
  · have hc := bI_1 h0
    replace hf := i_t hc hf
    refine y_iload_n (i := 3) (n := 11) ⟨dX11_found_10, rfl⟩ rfl ?_
    refine y_bipush (n := 13) (v := 6) ⟨dX11_found_11, rfl⟩ kb_6 ?_
    refine c_ax_within a3 6 M (n := 16) ⟨dX11_found_13, rfl⟩ klX11_91 rfl (by decide) (Nat.le_of_ble_eq_true rfl) rfl rfl ?_
    refine y_if_ne (t := 21) (n := 19) ⟨dX11_found_16, rfl, rfl⟩ (fun h0 => ?_) (fun h0 => ?_)
    · have hc := bI_1 h0
      replace hf := i_t hc hf
      refine y_aload_n (i := 0) (n := 22) ⟨dX11_found_21, rfl⟩ rfl ?_
      refine y_getR (n := 25) ⟨dX11_found_22, rfl⟩ kfX11_83 l_0 rfl r_0_9 ?_
      refine y_iload_n (i := 1) (n := 26) ⟨dX11_found_25, rfl⟩ rfl ?_
      obtain ⟨q1, hv2, hf⟩ := b_s hf
      refine c_wo_live a1 M (n := 29) ⟨dX11_found_26, rfl⟩ klX11_327 hv2 (by decide) (Nat.le_of_ble_eq_true rfl) rfl rfl ?_
      refine y_iload_n (i := 2) (n := 30) ⟨dX11_found_29, rfl⟩ rfl ?_
      refine y_aload_n (i := 0) (n := 31) ⟨dX11_found_30, rfl⟩ rfl ?_
      refine y_getR (n := 34) ⟨dX11_found_31, rfl⟩ kfX11_83 l_0 rfl r_0_9 ?_
      refine y_getI (n := 37) ⟨dX11_found_34, rfl⟩ kfX11_342 l_56 rfl ?_
      refine c_ax_within a2 (gI q1 56 10) q1 (n := 40) ⟨dX11_found_37, rfl⟩ klX11_91 rfl (by decide) (Nat.le_of_ble_eq_true rfl) rfl rfl ?_
      refine y_if_eq (t := 55) (n := 43) ⟨dX11_found_40, rfl, rfl⟩ (fun h0 => ?_) (fun h0 => ?_)
      · have hc := bI_0 h0
        replace hf := i_f hc hf
        refine y_iconst (n := 56) (v := (-1)) ⟨dX11_found_55, rfl⟩ ki_m1 ?_
        cases hf
        exact y_ireturn (n := 57) ⟨dX11_found_56, rfl⟩ rfl rfl hk
      · have hc := bI_1 h0
        replace hf := i_t hc hf
        refine y_aload_n (i := 0) (n := 44) ⟨dX11_found_43, rfl⟩ rfl ?_
        refine y_getR (n := 47) ⟨dX11_found_44, rfl⟩ kfX11_83 l_0 rfl r_0_9 ?_
        refine y_iload_n (i := 2) (n := 48) ⟨dX11_found_47, rfl⟩ rfl ?_
        refine y_iload_n (i := 3) (n := 49) ⟨dX11_found_48, rfl⟩ rfl ?_
        obtain ⟨v3, hv4, hf⟩ := b_s hf
        refine c_wo_partOf a2 a3 q1 (n := 52) ⟨dX11_found_49, rfl⟩ klX11_343 hv4 (by decide) (Nat.le_of_ble_eq_true rfl) rfl rfl ?_
        refine y_goto (t := 56) ⟨dX11_found_52, rfl, rfl⟩ ?_
        cases hf
        exact y_ireturn (n := 57) ⟨dX11_found_56, rfl⟩ rfl rfl hk
    · have hc := bI_0 h0
      replace hf := i_f hc hf
      refine y_iconst (n := 20) (v := (-1)) ⟨dX11_found_19, rfl⟩ ki_m1 ?_
      cases hf
      exact y_ireturn (n := 21) ⟨dX11_found_20, rfl⟩ rfl rfl hk
theorem c_ax_found (a1 : Int32) (a2 : Int32) (a3 : Int32) (M : dM) {o : (Int32 × dM)} {y : mz_M} {d : Nat} {Q : mz_P} {pc n i : Nat} {L : List (Option Value)} {st : List Value} (h : mz_d y.2.1 pc n 3 (.invokevirtual i)) (hl : mz_ml y.1.cls i yX11_found) (hf : f_ax_found a1 a2 a3 M = some o) (hd : 7 + 1 ≤ d) (hsm : (st.map (fun v => v.category)).sum ≤ 8) (hLr : mz_rL 133 L = true) (hSr : mz_rS 133 st = true) (kk : mW y d Q n L (.int o.1 :: st) o.2) : mW y d Q pc L (.int a3 :: .int a2 :: .int a1 :: .ref 0 :: st) M :=
  y_callV kmX11_found kvX11_found l_0 (by decide +kernel) (by decide +kernel) h hl (ok_ax_found a1 a2 a3 M hf) (vs := [.int a1, .int a2, .int a3]) rfl rfl hd hsm hLr hSr kk
def K_wo_tallyOfFirst_5 (Q : mz_P) (x1 : Int32) (x2 : Int32) (M : dM) : ((Int32 × Int32 × dM) ⊕ (Int32 × dM)) → Prop
  | .inl s => mW mX10_tallyOfFirst 7 Q 5 [some (.ref 56), some (.int x1), some (.int x2), some (.int s.1), some (.int s.2.1)] [] s.2.2
  | .inr r => mR Q (some (.int r.1)) r.2
noncomputable def b_wo_tallyOfFirst_5_62 (x1 : Int32) (x2 : Int32) (x3 : Int32) (x4 : Int32) (M : dM) : Option ((Int32 × Int32 × dM) ⊕ (Int32 × dM)) :=
  gd (vp_in ((x4 * 14) + x2) 280) <|
  some (.inl ((x3 + (gI M 65 ((x4 * 14) + x2).toNatClampNeg)), (x4 + 1), M))
noncomputable def b_wo_tallyOfFirst_5_5 (x1 : Int32) (x2 : Int32) (x3 : Int32) (x4 : Int32) (M : dM) : Option ((Int32 × Int32 × dM) ⊕ (Int32 × dM)) :=
  if x1 ≤ x4 then
    some (.inr (x3, M))
  else
    if (f_ax_hasBit ((gI M 56 16).toInt64) x4) = true then
      b_wo_tallyOfFirst_5_62 x1 x2 x3 x4 M
    else
      (f_wo_live x4 M).bind fun q2 =>
      gd ((¬ (0 : Int32) < 0 ∧ ¬ (x4 * 14) < 0 ∧ ¬ (14 : Int32) < 0) ∧ (0 : Int32).toNatClampNeg + (14 : Int32).toNatClampNeg ≤ 14 ∧ (x4 * 14).toNatClampNeg + (14 : Int32).toNatClampNeg ≤ 280) <|
      b_wo_tallyOfFirst_5_62 x1 x2 x3 x4 (sI (cI q2 63 65 (0 : Int32).toNatClampNeg (x4 * 14).toNatClampNeg (14 : Int32).toNatClampNeg) 56 16 ((gI (cI q2 63 65 (0 : Int32).toNatClampNeg (x4 * 14).toNatClampNeg (14 : Int32).toNatClampNeg) 56 16) ||| ((1 : Int32) <<< (x4 &&& 31))))
noncomputable def l_wo_tallyOfFirst_5 (x1 : Int32) (x2 : Int32) (x3 : Int32) (x4 : Int32) (M : dM) : Option (Int32 × dM) := lpc (fun s => b_wo_tallyOfFirst_5_5 x1 x2 s.1 s.2.1 s.2.2) (x3, x4, M)
noncomputable def f_wo_tallyOfFirst (a1 : Int32) (a2 : Int32) (M : dM) : Option (Int32 × dM) :=
  (l_wo_tallyOfFirst_5 a1 a2 0 0 M).bind fun r7 => some r7
theorem w_b_wo_tallyOfFirst_5_62 (x1 : Int32) (x2 : Int32) (x3 : Int32) (x4 : Int32) (M : dM) {Q : mz_P} {o : ((Int32 × Int32 × dM) ⊕ (Int32 × dM))} (hf : b_wo_tallyOfFirst_5_62 x1 x2 x3 x4 M = some o) (hk : K_wo_tallyOfFirst_5 Q x1 x2 M o) : mW mX10_tallyOfFirst 7 Q 62 [some (.ref 56), some (.int x1), some (.int x2), some (.int x3), some (.int x4)] [] M := by
  unfold b_wo_tallyOfFirst_5_62 at hf
  refine y_iload_n (i := 3) (n := 63) ⟨dX10_tallyOfFirst_62, rfl⟩ rfl ?_
  refine y_aload_n (i := 0) (n := 64) ⟨dX10_tallyOfFirst_63, rfl⟩ rfl ?_
  refine y_getR (n := 67) ⟨dX10_tallyOfFirst_64, rfl⟩ kfX10_40 l_56 rfl r_56_15 ?_
  refine y_iload (i := 4) (n := 69) ⟨dX10_tallyOfFirst_67, rfl⟩ rfl ?_
  refine y_bipush (n := 71) (v := 14) ⟨dX10_tallyOfFirst_69, rfl⟩ kb_14 ?_
  refine y_imul (n := 72) ⟨dX10_tallyOfFirst_71, rfl⟩ ?_
  refine y_iload_n (i := 2) (n := 73) ⟨dX10_tallyOfFirst_72, rfl⟩ rfl ?_
  refine y_iadd (n := 74) ⟨dX10_tallyOfFirst_73, rfl⟩ ?_
  obtain ⟨hg1, hf⟩ := g_s hf
  refine y_iaload (n := 75) ⟨dX10_tallyOfFirst_74, rfl⟩ l_65 hg1 ?_
  refine y_iadd (n := 76) ⟨dX10_tallyOfFirst_75, rfl⟩ ?_
  refine y_istore_n (i := 3) (n := 77) (L2 := [some (.ref 56), some (.int x1), some (.int x2), some (.int (x3 + (gI M 65 ((x4 * 14) + x2).toNatClampNeg))), some (.int x4)]) ⟨dX10_tallyOfFirst_76, rfl⟩ (by decide) rfl rfl ?_
  refine y_iinc (i := 4) (n := 80) (b := (x4 + 1)) (L2 := [some (.ref 56), some (.int x1), some (.int x2), some (.int (x3 + (gI M 65 ((x4 * 14) + x2).toNatClampNeg))), some (.int (x4 + 1))]) ⟨dX10_tallyOfFirst_77, rfl⟩ rfl (by rw [ki_1]) (by decide) rfl rfl ?_
  refine y_goto (t := 5) ⟨dX10_tallyOfFirst_80, rfl, rfl⟩ ?_
  cases hf
  exact y_wk ⟨Or.inr rfl, Or.inr rfl, Or.inr rfl, Or.inr rfl, Or.inr rfl, trivial⟩ hk
theorem w_b_wo_tallyOfFirst_5_5 (x1 : Int32) (x2 : Int32) (x3 : Int32) (x4 : Int32) (M : dM) {Q : mz_P} {o : ((Int32 × Int32 × dM) ⊕ (Int32 × dM))} (hf : b_wo_tallyOfFirst_5_5 x1 x2 x3 x4 M = some o) (hk : K_wo_tallyOfFirst_5 Q x1 x2 M o) : mW mX10_tallyOfFirst 7 Q 5 [some (.ref 56), some (.int x1), some (.int x2), some (.int x3), some (.int x4)] [] M := by
  unfold b_wo_tallyOfFirst_5_5 at hf
  refine y_iload (i := 4) (n := 7) ⟨dX10_tallyOfFirst_5, rfl⟩ rfl ?_
  refine y_iload_n (i := 1) (n := 8) ⟨dX10_tallyOfFirst_7, rfl⟩ rfl ?_
  refine y_icmp_ge (t := 83) (n := 11) ⟨dX10_tallyOfFirst_8, rfl, rfl⟩ (fun (hc : x1 ≤ x4) => ?_) (fun (hc : ¬ (x1 ≤ x4)) => ?_)
  · replace hf := i_t hc hf
    refine y_iload_n (i := 3) (n := 84) ⟨dX10_tallyOfFirst_83, rfl⟩ rfl ?_
    cases hf
    exact y_ireturn (n := 85) ⟨dX10_tallyOfFirst_84, rfl⟩ rfl rfl hk
  · replace hf := i_f hc hf
    refine y_aload_n (i := 0) (n := 12) ⟨dX10_tallyOfFirst_11, rfl⟩ rfl ?_
    refine y_getI (n := 15) ⟨dX10_tallyOfFirst_12, rfl⟩ kfX10_55 l_56 rfl ?_
    refine y_i2l (n := 16) ⟨dX10_tallyOfFirst_15, rfl⟩ ?_
    refine y_iload (i := 4) (n := 18) ⟨dX10_tallyOfFirst_16, rfl⟩ rfl ?_
    refine c_ax_hasBit ((gI M 56 16).toInt64) x4 M (n := 21) ⟨dX10_tallyOfFirst_18, rfl⟩ klX10_58 rfl (by decide) (Nat.le_of_ble_eq_true rfl) rfl rfl ?_
    refine y_if_ne (t := 62) (n := 24) ⟨dX10_tallyOfFirst_21, rfl, rfl⟩ (fun h0 => ?_) (fun h0 => ?_)
    · have hc := bI_1 h0
      replace hf := i_t hc hf
      exact y_wk ⟨Or.inr rfl, Or.inr rfl, Or.inr rfl, Or.inr rfl, Or.inr rfl, trivial⟩ (w_b_wo_tallyOfFirst_5_62 x1 x2 x3 x4 M hf hk)
    · have hc := bI_0 h0
      replace hf := i_f hc hf
      refine y_aload_n (i := 0) (n := 25) ⟨dX10_tallyOfFirst_24, rfl⟩ rfl ?_
      refine y_iload (i := 4) (n := 27) ⟨dX10_tallyOfFirst_25, rfl⟩ rfl ?_
      obtain ⟨q2, hv3, hf⟩ := b_s hf
      refine c_wo_live x4 M (n := 30) ⟨dX10_tallyOfFirst_27, rfl⟩ klX10_62 hv3 (by decide) (Nat.le_of_ble_eq_true rfl) rfl rfl ?_
      refine y_aload_n (i := 0) (n := 31) ⟨dX10_tallyOfFirst_30, rfl⟩ rfl ?_
      refine y_getR (n := 34) ⟨dX10_tallyOfFirst_31, rfl⟩ kfX10_30 l_56 rfl r_56_11 ?_
      refine y_iconst (n := 35) (v := 0) ⟨dX10_tallyOfFirst_34, rfl⟩ ki_0 ?_
      refine y_aload_n (i := 0) (n := 36) ⟨dX10_tallyOfFirst_35, rfl⟩ rfl ?_
      refine y_getR (n := 39) ⟨dX10_tallyOfFirst_36, rfl⟩ kfX10_40 l_56 rfl r_56_15 ?_
      refine y_iload (i := 4) (n := 41) ⟨dX10_tallyOfFirst_39, rfl⟩ rfl ?_
      refine y_bipush (n := 43) (v := 14) ⟨dX10_tallyOfFirst_41, rfl⟩ kb_14 ?_
      refine y_imul (n := 44) ⟨dX10_tallyOfFirst_43, rfl⟩ ?_
      refine y_bipush (n := 46) (v := 14) ⟨dX10_tallyOfFirst_44, rfl⟩ kb_14 ?_
      obtain ⟨hg4, hf⟩ := g_s hf
      refine y_copy (n := 49) ⟨dX10_tallyOfFirst_46, rfl⟩ (mz_in 1353 (by decide +kernel) (by decide +kernel)) kcopyN kcopyS kcopyI l_63 l_65 hg4.1.1 hg4.1.2.1 hg4.1.2.2 hg4.2.1 hg4.2.2 (by decide) (Nat.le_of_ble_eq_true rfl) ?_
      refine y_aload_n (i := 0) (n := 50) ⟨dX10_tallyOfFirst_49, rfl⟩ rfl ?_
      refine y_dup_r (n := 51) ⟨dX10_tallyOfFirst_50, rfl⟩ ?_
      refine y_getI (n := 54) ⟨dX10_tallyOfFirst_51, rfl⟩ kfX10_55 l_56 rfl ?_
      refine y_iconst (n := 55) (v := 1) ⟨dX10_tallyOfFirst_54, rfl⟩ ki_1 ?_
      refine y_iload (i := 4) (n := 57) ⟨dX10_tallyOfFirst_55, rfl⟩ rfl ?_
      refine y_ishl (n := 58) ⟨dX10_tallyOfFirst_57, rfl⟩ ?_
      refine y_ior (n := 59) ⟨dX10_tallyOfFirst_58, rfl⟩ ?_
      refine y_putI (n := 62) ⟨dX10_tallyOfFirst_59, rfl⟩ kfX10_55 l_56 (by decide +kernel) rfl ?_
      exact y_wk ⟨Or.inr rfl, Or.inr rfl, Or.inr rfl, Or.inr rfl, Or.inr rfl, trivial⟩ (w_b_wo_tallyOfFirst_5_62 x1 x2 x3 x4 (sI (cI q2 63 65 (0 : Int32).toNatClampNeg (x4 * 14).toNatClampNeg (14 : Int32).toNatClampNeg) 56 16 ((gI (cI q2 63 65 (0 : Int32).toNatClampNeg (x4 * 14).toNatClampNeg (14 : Int32).toNatClampNeg) 56 16) ||| ((1 : Int32) <<< (x4 &&& 31)))) hf hk)
theorem wl_wo_tallyOfFirst_5 (x1 : Int32) (x2 : Int32) (x3 : Int32) (x4 : Int32) (M : dM) {Q : mz_P} {x : (Int32 × dM)} (hf : l_wo_tallyOfFirst_5 x1 x2 x3 x4 M = some x) (hk : K_wo_tallyOfFirst_5 Q x1 x2 M (.inr x)) : mW mX10_tallyOfFirst 7 Q 5 [some (.ref 56), some (.int x1), some (.int x2), some (.int x3), some (.int x4)] [] M :=
  lpc_wp (Wh := fun s => mW mX10_tallyOfFirst 7 Q 5 [some (.ref 56), some (.int x1), some (.int x2), some (.int s.1), some (.int s.2.1)] [] s.2.2) (K := K_wo_tallyOfFirst_5 Q x1 x2 M) (fun _ h => h) (fun s o hb hk => w_b_wo_tallyOfFirst_5_5 x1 x2 s.1 s.2.1 s.2.2 hb hk) hf hk
theorem ok_wo_tallyOfFirst (a1 : Int32) (a2 : Int32) (M : dM) {o : (Int32 × dM)} (hf : f_wo_tallyOfFirst a1 a2 M = some o) : mO mX10_tallyOfFirst 7 [.ref 56, .int a1, .int a2] M (some (.int o.1)) o.2 := by
  refine y_ok (by decide +kernel) (by decide) (L0 := [some (.ref 56), some (.int a1), some (.int a2), none, none]) rfl ?_
  have hk := mR_mQ (some (.int o.1)) o.2
  generalize mQ _ _ = Q at hk ⊢
  unfold f_wo_tallyOfFirst at hf
  refine y_iconst (n := 1) (v := 0) ⟨dX10_tallyOfFirst_0, rfl⟩ ki_0 ?_
  refine y_istore_n (i := 3) (n := 2) (L2 := [some (.ref 56), some (.int a1), some (.int a2), some (.int 0), none]) ⟨dX10_tallyOfFirst_1, rfl⟩ (by decide) rfl rfl ?_
  refine y_iconst (n := 3) (v := 0) ⟨dX10_tallyOfFirst_2, rfl⟩ ki_0 ?_
  refine y_istore (i := 4) (n := 5) (L2 := [some (.ref 56), some (.int a1), some (.int a2), some (.int 0), some (.int 0)]) ⟨dX10_tallyOfFirst_3, rfl⟩ (by decide) rfl rfl ?_
  obtain ⟨r7, hl6, hf⟩ := b_s hf
  cases hf
  exact y_wk ⟨Or.inr rfl, Or.inr rfl, Or.inr rfl, Or.inr rfl, Or.inr rfl, trivial⟩ (wl_wo_tallyOfFirst_5 a1 a2 0 0 M hl6 hk)
theorem c_wo_tallyOfFirst (a1 : Int32) (a2 : Int32) (M : dM) {o : (Int32 × dM)} {y : mz_M} {d : Nat} {Q : mz_P} {pc n i : Nat} {L : List (Option Value)} {st : List Value} (h : mz_d y.2.1 pc n 3 (.invokevirtual i)) (hl : mz_ml y.1.cls i yX10_tallyOfFirst) (hf : f_wo_tallyOfFirst a1 a2 M = some o) (hd : 7 + 1 ≤ d) (hsm : (st.map (fun v => v.category)).sum ≤ 8) (hLr : mz_rL 133 L = true) (hSr : mz_rS 133 st = true) (kk : mW y d Q n L (.int o.1 :: st) o.2) : mW y d Q pc L (.int a2 :: .int a1 :: .ref 56 :: st) M :=
  y_callV kmX10_tallyOfFirst kvX10_tallyOfFirst l_56 (by decide +kernel) (by decide +kernel) h hl (ok_wo_tallyOfFirst a1 a2 M hf) (vs := [.int a1, .int a2]) rfl rfl hd hsm hLr hSr kk
noncomputable def f_ax_rates (a1 : Int32) (a2 : Int32) (M : dM) : Option (Int32 × dM) :=
  if a1 < 1 then
    some ((-1), M)
  else
    if 20 < a1 then
      some ((-1), M)
    else
      if (f_ax_within a2 6) = true then
        (f_wo_tallyOfFirst a1 a2 M).bind fun q1 =>
        some (q1.1, q1.2)
      else
        some ((-1), M)
theorem ok_ax_rates (a1 : Int32) (a2 : Int32) (M : dM) {o : (Int32 × dM)} (hf : f_ax_rates a1 a2 M = some o) : mO mX11_rates 8 [.ref 0, .int a1, .int a2] M (some (.int o.1)) o.2 := by
  refine y_ok (by decide +kernel) (by decide) (L0 := [some (.ref 0), some (.int a1), some (.int a2)]) rfl ?_
  have hk := mR_mQ (some (.int o.1)) o.2
  generalize mQ _ _ = Q at hk ⊢
  unfold f_ax_rates at hf
  refine y_iload_n (i := 1) (n := 1) ⟨dX11_rates_0, rfl⟩ rfl ?_
  refine y_iconst (n := 2) (v := 1) ⟨dX11_rates_1, rfl⟩ ki_1 ?_
  refine y_icmp_lt (t := 20) (n := 5) ⟨dX11_rates_2, rfl, rfl⟩ (fun (hc : a1 < 1) => ?_) (fun (hc : ¬ (a1 < 1)) => ?_)
  · replace hf := i_t hc hf
    refine y_iconst (n := 21) (v := (-1)) ⟨dX11_rates_20, rfl⟩ ki_m1 ?_
    cases hf
    exact y_ireturn (n := 22) ⟨dX11_rates_21, rfl⟩ rfl rfl hk
  · replace hf := i_f hc hf
    refine y_iload_n (i := 1) (n := 6) ⟨dX11_rates_5, rfl⟩ rfl ?_
    refine y_bipush (n := 8) (v := 20) ⟨dX11_rates_6, rfl⟩ kb_20 ?_
    refine y_icmp_gt (t := 20) (n := 11) ⟨dX11_rates_8, rfl, rfl⟩ (fun (hc : 20 < a1) => ?_) (fun (hc : ¬ (20 < a1)) => ?_)
    · replace hf := i_t hc hf
      refine y_iconst (n := 21) (v := (-1)) ⟨dX11_rates_20, rfl⟩ ki_m1 ?_
      cases hf
      exact y_ireturn (n := 22) ⟨dX11_rates_21, rfl⟩ rfl rfl hk
    · replace hf := i_f hc hf
      refine y_iload_n (i := 2) (n := 12) ⟨dX11_rates_11, rfl⟩ rfl ?_
      refine y_bipush (n := 14) (v := 6) ⟨dX11_rates_12, rfl⟩ kb_6 ?_
      refine c_ax_within a2 6 M (n := 17) ⟨dX11_rates_14, rfl⟩ klX11_91 rfl (by decide) (Nat.le_of_ble_eq_true rfl) rfl rfl ?_
      refine y_if_ne (t := 22) (n := 20) ⟨dX11_rates_17, rfl, rfl⟩ (fun h0 => ?_) (fun h0 => ?_)
      · have hc := bI_1 h0
        replace hf := i_t hc hf
        refine y_aload_n (i := 0) (n := 23) ⟨dX11_rates_22, rfl⟩ rfl ?_
        refine y_getR (n := 26) ⟨dX11_rates_23, rfl⟩ kfX11_83 l_0 rfl r_0_9 ?_
        refine y_iload_n (i := 1) (n := 27) ⟨dX11_rates_26, rfl⟩ rfl ?_
        refine y_iload_n (i := 2) (n := 28) ⟨dX11_rates_27, rfl⟩ rfl ?_
        obtain ⟨q1, hv2, hf⟩ := b_s hf
        refine c_wo_tallyOfFirst a1 a2 M (n := 31) ⟨dX11_rates_28, rfl⟩ klX11_346 hv2 (by decide) (Nat.le_of_ble_eq_true rfl) rfl rfl ?_
        cases hf
        exact y_ireturn (n := 32) ⟨dX11_rates_31, rfl⟩ rfl rfl hk
      · have hc := bI_0 h0
        replace hf := i_f hc hf
        refine y_iconst (n := 21) (v := (-1)) ⟨dX11_rates_20, rfl⟩ ki_m1 ?_
        cases hf
        exact y_ireturn (n := 22) ⟨dX11_rates_21, rfl⟩ rfl rfl hk
theorem c_ax_rates (a1 : Int32) (a2 : Int32) (M : dM) {o : (Int32 × dM)} {y : mz_M} {d : Nat} {Q : mz_P} {pc n i : Nat} {L : List (Option Value)} {st : List Value} (h : mz_d y.2.1 pc n 3 (.invokevirtual i)) (hl : mz_ml y.1.cls i yX11_rates) (hf : f_ax_rates a1 a2 M = some o) (hd : 8 + 1 ≤ d) (hsm : (st.map (fun v => v.category)).sum ≤ 8) (hLr : mz_rL 133 L = true) (hSr : mz_rS 133 st = true) (kk : mW y d Q n L (.int o.1 :: st) o.2) : mW y d Q pc L (.int a2 :: .int a1 :: .ref 0 :: st) M :=
  y_callV kmX11_rates kvX11_rates l_0 (by decide +kernel) (by decide +kernel) h hl (ok_ax_rates a1 a2 M hf) (vs := [.int a1, .int a2]) rfl rfl hd hsm hLr hSr kk
def K_ax_parted_47 (Q : mz_P) (x1 : Int32) (x2 : Int32) (M : dM) : ((Int32 × Int32 × Int32 × dM) ⊕ (Int32 × Int32 × dM)) → Prop
  | .inl s => mW mX11_parted 8 Q 47 [some (.ref 0), some (.int x1), some (.int x2), some (.int s.1), some (.int s.2.1), some (.int s.2.2.1), none] [] s.2.2.2
  | .inr t => mW mX11_parted 8 Q 89 [none, none, some (.int x2), some (.int t.1), some (.int t.2.1), none, none] [] t.2.2
noncomputable def b_ax_parted_47_47 (x1 : Int32) (x2 : Int32) (x3 : Int32) (x4 : Int32) (x5 : Int32) (M : dM) : Option ((Int32 × Int32 × Int32 × dM) ⊕ (Int32 × Int32 × dM)) :=
  if 8 ≤ x5 then
    some (.inr (x3, x4, M))
  else
    (f_wo_tallyOfFirst x1 (6 + x5) M).bind fun q3 =>
    if q3.1 ≤ x4 then
      some (.inl (x3, x4, (x5 + 1), q3.2))
    else
      some (.inl (x5, q3.1, (x5 + 1), q3.2))
noncomputable def l_ax_parted_47 (x1 : Int32) (x2 : Int32) (x3 : Int32) (x4 : Int32) (x5 : Int32) (M : dM) : Option (Int32 × Int32 × dM) := lpc (fun s => b_ax_parted_47_47 x1 x2 s.1 s.2.1 s.2.2.1 s.2.2.2) (x3, x4, x5, M)
noncomputable def f_ax_parted (a1 : Int32) (a2 : Int32) (M : dM) : Option (Int32 × dM) :=
  if a1 < 1 then
    none
  else
    if 20 < a1 then
      none
    else
      if (f_ax_within a2 2) = true then
        (f_wo_tallyOfFirst a1 6 M).bind fun q1 =>
        (l_ax_parted_47 a1 a2 0 q1.1 1 q1.2).bind fun t5 =>
          if a2 = 0 then
            some (t5.1, t5.2.2)
          else
            some (t5.2.1, t5.2.2)
      else
        none
theorem w_b_ax_parted_47_47 (x1 : Int32) (x2 : Int32) (x3 : Int32) (x4 : Int32) (x5 : Int32) (M : dM) {Q : mz_P} {o : ((Int32 × Int32 × Int32 × dM) ⊕ (Int32 × Int32 × dM))} (hf : b_ax_parted_47_47 x1 x2 x3 x4 x5 M = some o) (hk : K_ax_parted_47 Q x1 x2 M o) : mW mX11_parted 8 Q 47 [some (.ref 0), some (.int x1), some (.int x2), some (.int x3), some (.int x4), some (.int x5), none] [] M := by
  unfold b_ax_parted_47_47 at hf
  refine y_iload (i := 5) (n := 49) ⟨dX11_parted_47, rfl⟩ rfl ?_
  refine y_bipush (n := 51) (v := 8) ⟨dX11_parted_49, rfl⟩ kb_8 ?_
  refine y_icmp_ge (t := 89) (n := 54) ⟨dX11_parted_51, rfl, rfl⟩ (fun (hc : 8 ≤ x5) => ?_) (fun (hc : ¬ (8 ≤ x5)) => ?_)
  · replace hf := i_t hc hf
    cases hf
    exact y_wk ⟨Or.inl rfl, Or.inl rfl, Or.inr rfl, Or.inr rfl, Or.inr rfl, Or.inl rfl, Or.inr rfl, trivial⟩ hk
  · replace hf := i_f hc hf
    refine y_aload_n (i := 0) (n := 55) ⟨dX11_parted_54, rfl⟩ rfl ?_
    refine y_getR (n := 58) ⟨dX11_parted_55, rfl⟩ kfX11_83 l_0 rfl r_0_9 ?_
    refine y_iload_n (i := 1) (n := 59) ⟨dX11_parted_58, rfl⟩ rfl ?_
    refine y_bipush (n := 61) (v := 6) ⟨dX11_parted_59, rfl⟩ kb_6 ?_
    refine y_iload (i := 5) (n := 63) ⟨dX11_parted_61, rfl⟩ rfl ?_
    refine y_iadd (n := 64) ⟨dX11_parted_63, rfl⟩ ?_
    obtain ⟨q3, hv4, hf⟩ := b_s hf
    refine c_wo_tallyOfFirst x1 (6 + x5) M (n := 67) ⟨dX11_parted_64, rfl⟩ klX11_346 hv4 (by decide) (Nat.le_of_ble_eq_true rfl) rfl rfl ?_
    refine y_istore (i := 6) (n := 69) (L2 := [some (.ref 0), some (.int x1), some (.int x2), some (.int x3), some (.int x4), some (.int x5), some (.int q3.1)]) ⟨dX11_parted_67, rfl⟩ (by decide) rfl rfl ?_
    refine y_iload (i := 6) (n := 71) ⟨dX11_parted_69, rfl⟩ rfl ?_
    refine y_iload (i := 4) (n := 73) ⟨dX11_parted_71, rfl⟩ rfl ?_
    refine y_icmp_le (t := 83) (n := 76) ⟨dX11_parted_73, rfl, rfl⟩ (fun (hc : q3.1 ≤ x4) => ?_) (fun (hc : ¬ (q3.1 ≤ x4)) => ?_)
    · replace hf := i_t hc hf
      refine y_iinc (i := 5) (n := 86) (b := (x5 + 1)) (L2 := [some (.ref 0), some (.int x1), some (.int x2), some (.int x3), some (.int x4), some (.int (x5 + 1)), some (.int q3.1)]) ⟨dX11_parted_83, rfl⟩ rfl (by rw [ki_1]) (by decide) rfl rfl ?_
      refine y_goto (t := 47) ⟨dX11_parted_86, rfl, rfl⟩ ?_
      cases hf
      exact y_wk ⟨Or.inr rfl, Or.inr rfl, Or.inr rfl, Or.inr rfl, Or.inr rfl, Or.inr rfl, Or.inl rfl, trivial⟩ hk
    · replace hf := i_f hc hf
      refine y_iload (i := 6) (n := 78) ⟨dX11_parted_76, rfl⟩ rfl ?_
      refine y_istore (i := 4) (n := 80) (L2 := [some (.ref 0), some (.int x1), some (.int x2), some (.int x3), some (.int q3.1), some (.int x5), some (.int q3.1)]) ⟨dX11_parted_78, rfl⟩ (by decide) rfl rfl ?_
      refine y_iload (i := 5) (n := 82) ⟨dX11_parted_80, rfl⟩ rfl ?_
      refine y_istore_n (i := 3) (n := 83) (L2 := [some (.ref 0), some (.int x1), some (.int x2), some (.int x5), some (.int q3.1), some (.int x5), some (.int q3.1)]) ⟨dX11_parted_82, rfl⟩ (by decide) rfl rfl ?_
      refine y_iinc (i := 5) (n := 86) (b := (x5 + 1)) (L2 := [some (.ref 0), some (.int x1), some (.int x2), some (.int x5), some (.int q3.1), some (.int (x5 + 1)), some (.int q3.1)]) ⟨dX11_parted_83, rfl⟩ rfl (by rw [ki_1]) (by decide) rfl rfl ?_
      refine y_goto (t := 47) ⟨dX11_parted_86, rfl, rfl⟩ ?_
      cases hf
      exact y_wk ⟨Or.inr rfl, Or.inr rfl, Or.inr rfl, Or.inr rfl, Or.inr rfl, Or.inr rfl, Or.inl rfl, trivial⟩ hk
theorem wl_ax_parted_47 (x1 : Int32) (x2 : Int32) (x3 : Int32) (x4 : Int32) (x5 : Int32) (M : dM) {Q : mz_P} {x : (Int32 × Int32 × dM)} (hf : l_ax_parted_47 x1 x2 x3 x4 x5 M = some x) (hk : K_ax_parted_47 Q x1 x2 M (.inr x)) : mW mX11_parted 8 Q 47 [some (.ref 0), some (.int x1), some (.int x2), some (.int x3), some (.int x4), some (.int x5), none] [] M :=
  lpc_wp (Wh := fun s => mW mX11_parted 8 Q 47 [some (.ref 0), some (.int x1), some (.int x2), some (.int s.1), some (.int s.2.1), some (.int s.2.2.1), none] [] s.2.2.2) (K := K_ax_parted_47 Q x1 x2 M) (fun _ h => h) (fun s o hb hk => w_b_ax_parted_47_47 x1 x2 s.1 s.2.1 s.2.2.1 s.2.2.2 hb hk) hf hk
theorem ok_ax_parted (a1 : Int32) (a2 : Int32) (M : dM) {o : (Int32 × dM)} (hf : f_ax_parted a1 a2 M = some o) : mO mX11_parted 8 [.ref 0, .int a1, .int a2] M (some (.int o.1)) o.2 := by
  refine y_ok (by decide +kernel) (by decide) (L0 := [some (.ref 0), some (.int a1), some (.int a2), none, none, none, none]) rfl ?_
  have hk := mR_mQ (some (.int o.1)) o.2
  generalize mQ _ _ = Q at hk ⊢
  unfold f_ax_parted at hf
  refine y_iload_n (i := 1) (n := 1) ⟨dX11_parted_0, rfl⟩ rfl ?_
  refine y_iconst (n := 2) (v := 1) ⟨dX11_parted_1, rfl⟩ ki_1 ?_
  refine y_icmp_lt (t := 19) (n := 5) ⟨dX11_parted_2, rfl, rfl⟩ (fun (hc : a1 < 1) => ?_) (fun (hc : ¬ (a1 < 1)) => ?_)
  · replace hf := i_t hc hf
    cases hf
  · replace hf := i_f hc hf
    refine y_iload_n (i := 1) (n := 6) ⟨dX11_parted_5, rfl⟩ rfl ?_
    refine y_bipush (n := 8) (v := 20) ⟨dX11_parted_6, rfl⟩ kb_20 ?_
    refine y_icmp_gt (t := 19) (n := 11) ⟨dX11_parted_8, rfl, rfl⟩ (fun (hc : 20 < a1) => ?_) (fun (hc : ¬ (20 < a1)) => ?_)
    · replace hf := i_t hc hf
      cases hf
    · replace hf := i_f hc hf
      refine y_iload_n (i := 2) (n := 12) ⟨dX11_parted_11, rfl⟩ rfl ?_
      refine y_iconst (n := 13) (v := 2) ⟨dX11_parted_12, rfl⟩ ki_2 ?_
      refine c_ax_within a2 2 M (n := 16) ⟨dX11_parted_13, rfl⟩ klX11_91 rfl (by decide) (Nat.le_of_ble_eq_true rfl) rfl rfl ?_
      refine y_if_ne (t := 30) (n := 19) ⟨dX11_parted_16, rfl, rfl⟩ (fun h0 => ?_) (fun h0 => ?_)
      · have hc := bI_1 h0
        replace hf := i_t hc hf
        refine y_iconst (n := 31) (v := 0) ⟨dX11_parted_30, rfl⟩ ki_0 ?_
        refine y_istore_n (i := 3) (n := 32) (L2 := [some (.ref 0), some (.int a1), some (.int a2), some (.int 0), none, none, none]) ⟨dX11_parted_31, rfl⟩ (by decide) rfl rfl ?_
        refine y_aload_n (i := 0) (n := 33) ⟨dX11_parted_32, rfl⟩ rfl ?_
        refine y_getR (n := 36) ⟨dX11_parted_33, rfl⟩ kfX11_83 l_0 rfl r_0_9 ?_
        refine y_iload_n (i := 1) (n := 37) ⟨dX11_parted_36, rfl⟩ rfl ?_
        refine y_bipush (n := 39) (v := 6) ⟨dX11_parted_37, rfl⟩ kb_6 ?_
        obtain ⟨q1, hv2, hf⟩ := b_s hf
        refine c_wo_tallyOfFirst a1 6 M (n := 42) ⟨dX11_parted_39, rfl⟩ klX11_346 hv2 (by decide) (Nat.le_of_ble_eq_true rfl) rfl rfl ?_
        refine y_istore (i := 4) (n := 44) (L2 := [some (.ref 0), some (.int a1), some (.int a2), some (.int 0), some (.int q1.1), none, none]) ⟨dX11_parted_42, rfl⟩ (by decide) rfl rfl ?_
        refine y_iconst (n := 45) (v := 1) ⟨dX11_parted_44, rfl⟩ ki_1 ?_
        refine y_istore (i := 5) (n := 47) (L2 := [some (.ref 0), some (.int a1), some (.int a2), some (.int 0), some (.int q1.1), some (.int 1), none]) ⟨dX11_parted_45, rfl⟩ (by decide) rfl rfl ?_
        obtain ⟨t5, hl6, hf⟩ := b_s hf
        refine y_wk ⟨Or.inr rfl, Or.inr rfl, Or.inr rfl, Or.inr rfl, Or.inr rfl, Or.inr rfl, Or.inr rfl, trivial⟩ (wl_ax_parted_47 a1 a2 0 q1.1 1 q1.2 hl6 ?_)
        show mW mX11_parted 8 Q 89 [none, none, some (.int a2), some (.int t5.1), some (.int t5.2.1), none, none] [] t5.2.2
        refine y_iload_n (i := 2) (n := 90) ⟨dX11_parted_89, rfl⟩ rfl ?_
        refine y_if_ne (t := 97) (n := 93) ⟨dX11_parted_90, rfl, rfl⟩ (fun (hc : ¬ (a2 = 0)) => ?_) (fun (hc : a2 = 0) => ?_)
        · replace hf := i_f hc hf
          refine y_iload (i := 4) (n := 99) ⟨dX11_parted_97, rfl⟩ rfl ?_
          cases hf
          exact y_ireturn (n := 100) ⟨dX11_parted_99, rfl⟩ rfl rfl hk
        · replace hf := i_t hc hf
          refine y_iload_n (i := 3) (n := 94) ⟨dX11_parted_93, rfl⟩ rfl ?_
          refine y_goto (t := 99) ⟨dX11_parted_94, rfl, rfl⟩ ?_
          cases hf
          exact y_ireturn (n := 100) ⟨dX11_parted_99, rfl⟩ rfl rfl hk
      · have hc := bI_0 h0
        replace hf := i_f hc hf
        cases hf
theorem c_ax_parted (a1 : Int32) (a2 : Int32) (M : dM) {o : (Int32 × dM)} {y : mz_M} {d : Nat} {Q : mz_P} {pc n i : Nat} {L : List (Option Value)} {st : List Value} (h : mz_d y.2.1 pc n 3 (.invokevirtual i)) (hl : mz_ml y.1.cls i yX11_parted) (hf : f_ax_parted a1 a2 M = some o) (hd : 8 + 1 ≤ d) (hsm : (st.map (fun v => v.category)).sum ≤ 8) (hLr : mz_rL 133 L = true) (hSr : mz_rS 133 st = true) (kk : mW y d Q n L (.int o.1 :: st) o.2) : mW y d Q pc L (.int a2 :: .int a1 :: .ref 0 :: st) M :=
  y_callV kmX11_parted kvX11_parted l_0 (by decide +kernel) (by decide +kernel) h hl (ok_ax_parted a1 a2 M hf) (vs := [.int a1, .int a2]) rfl rfl hd hsm hLr hSr kk
def K_si_layersTold_4 (Q : mz_P)  (M : dM) : ((Int32 × Int32) ⊕ Int32) → Prop
  | .inl s => mW mX7_layersTold 3 Q 4 [some (.ref 1), some (.int s.1), some (.int s.2)] [] M
  | .inr r => mR Q (some (.int r)) M
noncomputable def b_si_layersTold_4_4 (x1 : Int32) (x2 : Int32) (M : dM) : Option ((Int32 × Int32) ⊕ Int32) :=
  if 8 ≤ x2 then
    some (.inr x1)
  else
    (f_si_layersAt x2 M).bind fun v1 =>
    some (.inl ((x1 + v1), (x2 + 1)))
noncomputable def l_si_layersTold_4 (x1 : Int32) (x2 : Int32) (M : dM) : Option Int32 := lpc (fun s => b_si_layersTold_4_4 s.1 s.2 M) (x1, x2)
noncomputable def f_si_layersTold (M : dM) : Option Int32 :=
  (l_si_layersTold_4 0 0 M).bind fun r5 => some r5
theorem w_b_si_layersTold_4_4 (x1 : Int32) (x2 : Int32) (M : dM) {Q : mz_P} {o : ((Int32 × Int32) ⊕ Int32)} (hf : b_si_layersTold_4_4 x1 x2 M = some o) (hk : K_si_layersTold_4 Q  M o) : mW mX7_layersTold 3 Q 4 [some (.ref 1), some (.int x1), some (.int x2)] [] M := by
  unfold b_si_layersTold_4_4 at hf
  refine y_iload_n (i := 2) (n := 5) ⟨dX7_layersTold_4, rfl⟩ rfl ?_
  refine y_bipush (n := 7) (v := 8) ⟨dX7_layersTold_5, rfl⟩ kb_8 ?_
  refine y_icmp_ge (t := 24) (n := 10) ⟨dX7_layersTold_7, rfl, rfl⟩ (fun (hc : 8 ≤ x2) => ?_) (fun (hc : ¬ (8 ≤ x2)) => ?_)
  · replace hf := i_t hc hf
    refine y_iload_n (i := 1) (n := 25) ⟨dX7_layersTold_24, rfl⟩ rfl ?_
    cases hf
    exact y_ireturn (n := 26) ⟨dX7_layersTold_25, rfl⟩ rfl rfl hk
  · replace hf := i_f hc hf
    refine y_iload_n (i := 1) (n := 11) ⟨dX7_layersTold_10, rfl⟩ rfl ?_
    refine y_aload_n (i := 0) (n := 12) ⟨dX7_layersTold_11, rfl⟩ rfl ?_
    refine y_iload_n (i := 2) (n := 13) ⟨dX7_layersTold_12, rfl⟩ rfl ?_
    obtain ⟨v1, hv2, hf⟩ := b_s hf
    refine c_si_layersAt x2 M (n := 16) ⟨dX7_layersTold_13, rfl⟩ klX7_34 hv2 (by decide) (Nat.le_of_ble_eq_true rfl) rfl rfl ?_
    refine y_iadd (n := 17) ⟨dX7_layersTold_16, rfl⟩ ?_
    refine y_istore_n (i := 1) (n := 18) (L2 := [some (.ref 1), some (.int (x1 + v1)), some (.int x2)]) ⟨dX7_layersTold_17, rfl⟩ (by decide) rfl rfl ?_
    refine y_iinc (i := 2) (n := 21) (b := (x2 + 1)) (L2 := [some (.ref 1), some (.int (x1 + v1)), some (.int (x2 + 1))]) ⟨dX7_layersTold_18, rfl⟩ rfl (by rw [ki_1]) (by decide) rfl rfl ?_
    refine y_goto (t := 4) ⟨dX7_layersTold_21, rfl, rfl⟩ ?_
    cases hf
    exact y_wk ⟨Or.inr rfl, Or.inr rfl, Or.inr rfl, trivial⟩ hk
theorem wl_si_layersTold_4 (x1 : Int32) (x2 : Int32) (M : dM) {Q : mz_P} {x : Int32} (hf : l_si_layersTold_4 x1 x2 M = some x) (hk : K_si_layersTold_4 Q  M (.inr x)) : mW mX7_layersTold 3 Q 4 [some (.ref 1), some (.int x1), some (.int x2)] [] M :=
  lpc_wp (Wh := fun s => mW mX7_layersTold 3 Q 4 [some (.ref 1), some (.int s.1), some (.int s.2)] [] M) (K := K_si_layersTold_4 Q  M) (fun _ h => h) (fun s o hb hk => w_b_si_layersTold_4_4 s.1 s.2 M hb hk) hf hk
theorem ok_si_layersTold  (M : dM) {o : Int32} (hf : f_si_layersTold M = some o) : mO mX7_layersTold 3 [.ref 1] M (some (.int o)) M := by
  refine y_ok (by decide +kernel) (by decide) (L0 := [some (.ref 1), none, none]) rfl ?_
  have hk := mR_mQ (some (.int o)) M
  generalize mQ _ _ = Q at hk ⊢
  unfold f_si_layersTold at hf
  refine y_iconst (n := 1) (v := 0) ⟨dX7_layersTold_0, rfl⟩ ki_0 ?_
  refine y_istore_n (i := 1) (n := 2) (L2 := [some (.ref 1), some (.int 0), none]) ⟨dX7_layersTold_1, rfl⟩ (by decide) rfl rfl ?_
  refine y_iconst (n := 3) (v := 0) ⟨dX7_layersTold_2, rfl⟩ ki_0 ?_
  refine y_istore_n (i := 2) (n := 4) (L2 := [some (.ref 1), some (.int 0), some (.int 0)]) ⟨dX7_layersTold_3, rfl⟩ (by decide) rfl rfl ?_
  obtain ⟨r5, hl4, hf⟩ := b_s hf
  cases hf
  exact y_wk ⟨Or.inr rfl, Or.inr rfl, Or.inr rfl, trivial⟩ (wl_si_layersTold_4 0 0 M hl4 hk)
theorem c_si_layersTold  (M : dM) {o : Int32} {y : mz_M} {d : Nat} {Q : mz_P} {pc n i : Nat} {L : List (Option Value)} {st : List Value} (h : mz_d y.2.1 pc n 3 (.invokevirtual i)) (hl : mz_ml y.1.cls i yX7_layersTold) (hf : f_si_layersTold M = some o) (hd : 3 + 1 ≤ d) (hsm : (st.map (fun v => v.category)).sum ≤ 8) (hLr : mz_rL 133 L = true) (hSr : mz_rS 133 st = true) (kk : mW y d Q n L (.int o :: st) M) : mW y d Q pc L (.ref 1 :: st) M :=
  y_callV kmX7_layersTold kvX7_layersTold l_1 (by decide +kernel) (by decide +kernel) h hl (ok_si_layersTold  M hf) (vs := []) rfl rfl hd hsm hLr hSr kk
def K_la_rulesTold_4 (Q : mz_P)  (M : dM) : ((Int32 × Int32) ⊕ Int32) → Prop
  | .inl s => mW mX3_rulesTold 2 Q 4 [some (.ref 27), some (.int s.1), some (.int s.2)] [] M
  | .inr r => mR Q (some (.int r)) M
noncomputable def b_la_rulesTold_4_4 (x1 : Int32) (x2 : Int32) (M : dM) : Option ((Int32 × Int32) ⊕ Int32) :=
  if 8 ≤ x2 then
    some (.inr x1)
  else
    (f_la_isTold_27 (12 + x2) M).bind fun v1 =>
    if v1 = true then
      some (.inl ((x1 + 1), (x2 + 1)))
    else
      some (.inl (x1, (x2 + 1)))
noncomputable def l_la_rulesTold_4 (x1 : Int32) (x2 : Int32) (M : dM) : Option Int32 := lpc (fun s => b_la_rulesTold_4_4 s.1 s.2 M) (x1, x2)
noncomputable def f_la_rulesTold (M : dM) : Option Int32 :=
  (l_la_rulesTold_4 0 0 M).bind fun r5 => some r5
theorem w_b_la_rulesTold_4_4 (x1 : Int32) (x2 : Int32) (M : dM) {Q : mz_P} {o : ((Int32 × Int32) ⊕ Int32)} (hf : b_la_rulesTold_4_4 x1 x2 M = some o) (hk : K_la_rulesTold_4 Q  M o) : mW mX3_rulesTold 2 Q 4 [some (.ref 27), some (.int x1), some (.int x2)] [] M := by
  unfold b_la_rulesTold_4_4 at hf
  refine y_iload_n (i := 2) (n := 5) ⟨dX3_rulesTold_4, rfl⟩ rfl ?_
  refine y_bipush (n := 7) (v := 8) ⟨dX3_rulesTold_5, rfl⟩ kb_8 ?_
  refine y_icmp_ge (t := 30) (n := 10) ⟨dX3_rulesTold_7, rfl, rfl⟩ (fun (hc : 8 ≤ x2) => ?_) (fun (hc : ¬ (8 ≤ x2)) => ?_)
  · replace hf := i_t hc hf
    refine y_iload_n (i := 1) (n := 31) ⟨dX3_rulesTold_30, rfl⟩ rfl ?_
    cases hf
    exact y_ireturn (n := 32) ⟨dX3_rulesTold_31, rfl⟩ rfl rfl hk
  · replace hf := i_f hc hf
    refine y_aload_n (i := 0) (n := 11) ⟨dX3_rulesTold_10, rfl⟩ rfl ?_
    refine y_bipush (n := 13) (v := 12) ⟨dX3_rulesTold_11, rfl⟩ kb_12 ?_
    refine y_iload_n (i := 2) (n := 14) ⟨dX3_rulesTold_13, rfl⟩ rfl ?_
    refine y_iadd (n := 15) ⟨dX3_rulesTold_14, rfl⟩ ?_
    obtain ⟨v1, hv2, hf⟩ := b_s hf
    refine c_la_isTold_27 (12 + x2) M (n := 18) ⟨dX3_rulesTold_15, rfl⟩ klX3_52 hv2 (by decide) (Nat.le_of_ble_eq_true rfl) rfl rfl ?_
    refine y_if_eq (t := 24) (n := 21) ⟨dX3_rulesTold_18, rfl, rfl⟩ (fun h0 => ?_) (fun h0 => ?_)
    · have hc := bI_0 h0
      replace hf := i_f hc hf
      refine y_iinc (i := 2) (n := 27) (b := (x2 + 1)) (L2 := [some (.ref 27), some (.int x1), some (.int (x2 + 1))]) ⟨dX3_rulesTold_24, rfl⟩ rfl (by rw [ki_1]) (by decide) rfl rfl ?_
      refine y_goto (t := 4) ⟨dX3_rulesTold_27, rfl, rfl⟩ ?_
      cases hf
      exact y_wk ⟨Or.inr rfl, Or.inr rfl, Or.inr rfl, trivial⟩ hk
    · have hc := bI_1 h0
      replace hf := i_t hc hf
      refine y_iinc (i := 1) (n := 24) (b := (x1 + 1)) (L2 := [some (.ref 27), some (.int (x1 + 1)), some (.int x2)]) ⟨dX3_rulesTold_21, rfl⟩ rfl (by rw [ki_1]) (by decide) rfl rfl ?_
      refine y_iinc (i := 2) (n := 27) (b := (x2 + 1)) (L2 := [some (.ref 27), some (.int (x1 + 1)), some (.int (x2 + 1))]) ⟨dX3_rulesTold_24, rfl⟩ rfl (by rw [ki_1]) (by decide) rfl rfl ?_
      refine y_goto (t := 4) ⟨dX3_rulesTold_27, rfl, rfl⟩ ?_
      cases hf
      exact y_wk ⟨Or.inr rfl, Or.inr rfl, Or.inr rfl, trivial⟩ hk
theorem wl_la_rulesTold_4 (x1 : Int32) (x2 : Int32) (M : dM) {Q : mz_P} {x : Int32} (hf : l_la_rulesTold_4 x1 x2 M = some x) (hk : K_la_rulesTold_4 Q  M (.inr x)) : mW mX3_rulesTold 2 Q 4 [some (.ref 27), some (.int x1), some (.int x2)] [] M :=
  lpc_wp (Wh := fun s => mW mX3_rulesTold 2 Q 4 [some (.ref 27), some (.int s.1), some (.int s.2)] [] M) (K := K_la_rulesTold_4 Q  M) (fun _ h => h) (fun s o hb hk => w_b_la_rulesTold_4_4 s.1 s.2 M hb hk) hf hk
theorem ok_la_rulesTold  (M : dM) {o : Int32} (hf : f_la_rulesTold M = some o) : mO mX3_rulesTold 2 [.ref 27] M (some (.int o)) M := by
  refine y_ok (by decide +kernel) (by decide) (L0 := [some (.ref 27), none, none]) rfl ?_
  have hk := mR_mQ (some (.int o)) M
  generalize mQ _ _ = Q at hk ⊢
  unfold f_la_rulesTold at hf
  refine y_iconst (n := 1) (v := 0) ⟨dX3_rulesTold_0, rfl⟩ ki_0 ?_
  refine y_istore_n (i := 1) (n := 2) (L2 := [some (.ref 27), some (.int 0), none]) ⟨dX3_rulesTold_1, rfl⟩ (by decide) rfl rfl ?_
  refine y_iconst (n := 3) (v := 0) ⟨dX3_rulesTold_2, rfl⟩ ki_0 ?_
  refine y_istore_n (i := 2) (n := 4) (L2 := [some (.ref 27), some (.int 0), some (.int 0)]) ⟨dX3_rulesTold_3, rfl⟩ (by decide) rfl rfl ?_
  obtain ⟨r5, hl4, hf⟩ := b_s hf
  cases hf
  exact y_wk ⟨Or.inr rfl, Or.inr rfl, Or.inr rfl, trivial⟩ (wl_la_rulesTold_4 0 0 M hl4 hk)
theorem c_la_rulesTold  (M : dM) {o : Int32} {y : mz_M} {d : Nat} {Q : mz_P} {pc n i : Nat} {L : List (Option Value)} {st : List Value} (h : mz_d y.2.1 pc n 3 (.invokevirtual i)) (hl : mz_ml y.1.cls i yX3_rulesTold) (hf : f_la_rulesTold M = some o) (hd : 2 + 1 ≤ d) (hsm : (st.map (fun v => v.category)).sum ≤ 8) (hLr : mz_rL 133 L = true) (hSr : mz_rS 133 st = true) (kk : mW y d Q n L (.int o :: st) M) : mW y d Q pc L (.ref 27 :: st) M :=
  y_callV kmX3_rulesTold kvX3_rulesTold l_27 (by decide +kernel) (by decide +kernel) h hl (ok_la_rulesTold  M hf) (vs := []) rfl rfl hd hsm hLr hSr kk
noncomputable def f_ax_count (a1 : Int32) (M : dM) : Option Int32 :=
  if a1 = 0 then
    some (gI M 12 7)
  else
  if a1 = 1 then
    some (gI M 6 5)
  else
  if a1 = 2 then
    some (gI M 12 11)
  else
  if a1 = 3 then
    some (gI M 12 13)
  else
  if a1 = 4 then
    some (gI M 50 4)
  else
  if a1 = 5 then
    (f_la_rulesTold M).bind fun v1 =>
    some v1
  else
  if a1 = 6 then
    some (gI M 32 1)
  else
  if a1 = 7 then
    (f_si_layersTold M).bind fun v3 =>
    some v3
  else
  some (-1)
theorem ok_ax_count (a1 : Int32) (M : dM) {o : Int32} (hf : f_ax_count a1 M = some o) : mO mX11_count 4 [.ref 0, .int a1] M (some (.int o)) M := by
  refine y_ok (by decide +kernel) (by decide) (L0 := [some (.ref 0), some (.int a1)]) rfl ?_
  have hk := mR_mQ (some (.int o)) M
  generalize mQ _ _ = Q at hk ⊢
  unfold f_ax_count at hf
  refine y_iload_n (i := 1) (n := 1) ⟨dX11_count_0, rfl⟩ rfl ?_
  by_cases hc0 : a1 = 0
  · replace hf := i_t hc0 hf
    refine y_tabIn (t := 48) (off := 47) dX11_count_1 (sw_lo hc0 (by decide)) (sw_hi hc0 (by decide)) (sw_at hc0 (by decide)) rfl ?_
    refine y_aload_n (i := 0) (n := 49) ⟨dX11_count_48, rfl⟩ rfl ?_
    refine y_getR (n := 52) ⟨dX11_count_49, rfl⟩ kfX11_26 l_0 rfl r_0_2 ?_
    refine y_getI (n := 55) ⟨dX11_count_52, rfl⟩ kfX11_146 l_12 rfl ?_
    cases hf
    exact y_ireturn (n := 56) ⟨dX11_count_55, rfl⟩ rfl rfl hk
  replace hf := i_f hc0 hf
  by_cases hc1 : a1 = 1
  · replace hf := i_t hc1 hf
    refine y_tabIn (t := 56) (off := 55) dX11_count_1 (sw_lo hc1 (by decide)) (sw_hi hc1 (by decide)) (sw_at hc1 (by decide)) rfl ?_
    refine y_aload_n (i := 0) (n := 57) ⟨dX11_count_56, rfl⟩ rfl ?_
    refine y_getR (n := 60) ⟨dX11_count_57, rfl⟩ kfX11_19 l_0 rfl r_0_1 ?_
    refine y_getI (n := 63) ⟨dX11_count_60, rfl⟩ kfX11_294 l_6 rfl ?_
    cases hf
    exact y_ireturn (n := 64) ⟨dX11_count_63, rfl⟩ rfl rfl hk
  replace hf := i_f hc1 hf
  by_cases hc2 : a1 = 2
  · replace hf := i_t hc2 hf
    refine y_tabIn (t := 64) (off := 63) dX11_count_1 (sw_lo hc2 (by decide)) (sw_hi hc2 (by decide)) (sw_at hc2 (by decide)) rfl ?_
    refine y_aload_n (i := 0) (n := 65) ⟨dX11_count_64, rfl⟩ rfl ?_
    refine y_getR (n := 68) ⟨dX11_count_65, rfl⟩ kfX11_26 l_0 rfl r_0_2 ?_
    refine y_getI (n := 71) ⟨dX11_count_68, rfl⟩ kfX11_306 l_12 rfl ?_
    cases hf
    exact y_ireturn (n := 72) ⟨dX11_count_71, rfl⟩ rfl rfl hk
  replace hf := i_f hc2 hf
  by_cases hc3 : a1 = 3
  · replace hf := i_t hc3 hf
    refine y_tabIn (t := 72) (off := 71) dX11_count_1 (sw_lo hc3 (by decide)) (sw_hi hc3 (by decide)) (sw_at hc3 (by decide)) rfl ?_
    refine y_aload_n (i := 0) (n := 73) ⟨dX11_count_72, rfl⟩ rfl ?_
    refine y_getR (n := 76) ⟨dX11_count_73, rfl⟩ kfX11_26 l_0 rfl r_0_2 ?_
    refine y_getI (n := 79) ⟨dX11_count_76, rfl⟩ kfX11_309 l_12 rfl ?_
    cases hf
    exact y_ireturn (n := 80) ⟨dX11_count_79, rfl⟩ rfl rfl hk
  replace hf := i_f hc3 hf
  by_cases hc4 : a1 = 4
  · replace hf := i_t hc4 hf
    refine y_tabIn (t := 80) (off := 79) dX11_count_1 (sw_lo hc4 (by decide)) (sw_hi hc4 (by decide)) (sw_at hc4 (by decide)) rfl ?_
    refine y_aload_n (i := 0) (n := 81) ⟨dX11_count_80, rfl⟩ rfl ?_
    refine y_getR (n := 84) ⟨dX11_count_81, rfl⟩ kfX11_74 l_0 rfl r_0_8 ?_
    refine y_getI (n := 87) ⟨dX11_count_84, rfl⟩ kfX11_295 l_50 rfl ?_
    cases hf
    exact y_ireturn (n := 88) ⟨dX11_count_87, rfl⟩ rfl rfl hk
  replace hf := i_f hc4 hf
  by_cases hc5 : a1 = 5
  · replace hf := i_t hc5 hf
    refine y_tabIn (t := 88) (off := 87) dX11_count_1 (sw_lo hc5 (by decide)) (sw_hi hc5 (by decide)) (sw_at hc5 (by decide)) rfl ?_
    refine y_aload_n (i := 0) (n := 89) ⟨dX11_count_88, rfl⟩ rfl ?_
    refine y_getR (n := 92) ⟨dX11_count_89, rfl⟩ kfX11_40 l_0 rfl r_0_4 ?_
    obtain ⟨v1, hv2, hf⟩ := b_s hf
    refine c_la_rulesTold M (n := 95) ⟨dX11_count_92, rfl⟩ klX11_351 hv2 (by decide) (Nat.le_of_ble_eq_true rfl) rfl rfl ?_
    cases hf
    exact y_ireturn (n := 96) ⟨dX11_count_95, rfl⟩ rfl rfl hk
  replace hf := i_f hc5 hf
  by_cases hc6 : a1 = 6
  · replace hf := i_t hc6 hf
    refine y_tabIn (t := 96) (off := 95) dX11_count_1 (sw_lo hc6 (by decide)) (sw_hi hc6 (by decide)) (sw_at hc6 (by decide)) rfl ?_
    refine y_aload_n (i := 0) (n := 97) ⟨dX11_count_96, rfl⟩ rfl ?_
    refine y_getR (n := 100) ⟨dX11_count_97, rfl⟩ kfX11_47 l_0 rfl r_0_5 ?_
    refine y_getI (n := 103) ⟨dX11_count_100, rfl⟩ kfX11_132 l_32 rfl ?_
    cases hf
    exact y_ireturn (n := 104) ⟨dX11_count_103, rfl⟩ rfl rfl hk
  replace hf := i_f hc6 hf
  by_cases hc7 : a1 = 7
  · replace hf := i_t hc7 hf
    refine y_tabIn (t := 104) (off := 103) dX11_count_1 (sw_lo hc7 (by decide)) (sw_hi hc7 (by decide)) (sw_at hc7 (by decide)) rfl ?_
    refine y_aload_n (i := 0) (n := 105) ⟨dX11_count_104, rfl⟩ rfl ?_
    refine y_getR (n := 108) ⟨dX11_count_105, rfl⟩ kfX11_10 l_0 rfl r_0_0 ?_
    obtain ⟨v3, hv4, hf⟩ := b_s hf
    refine c_si_layersTold M (n := 111) ⟨dX11_count_108, rfl⟩ klX11_354 hv4 (by decide) (Nat.le_of_ble_eq_true rfl) rfl rfl ?_
    cases hf
    exact y_ireturn (n := 112) ⟨dX11_count_111, rfl⟩ rfl rfl hk
  replace hf := i_f hc7 hf
  refine y_tabOut (t := 112) dX11_count_1 (sw_out (lo := 0) (cs := [0, 1, 2, 3, 4, 5, 6, 7]) (by decide) (by decide) ⟨hc0, hc1, hc2, hc3, hc4, hc5, hc6, hc7, trivial⟩) rfl ?_
  refine y_iconst (n := 113) (v := (-1)) ⟨dX11_count_112, rfl⟩ ki_m1 ?_
  cases hf
  exact y_ireturn (n := 114) ⟨dX11_count_113, rfl⟩ rfl rfl hk
theorem c_ax_count (a1 : Int32) (M : dM) {o : Int32} {y : mz_M} {d : Nat} {Q : mz_P} {pc n i : Nat} {L : List (Option Value)} {st : List Value} (h : mz_d y.2.1 pc n 3 (.invokevirtual i)) (hl : mz_ml y.1.cls i yX11_count) (hf : f_ax_count a1 M = some o) (hd : 4 + 1 ≤ d) (hsm : (st.map (fun v => v.category)).sum ≤ 8) (hLr : mz_rL 133 L = true) (hSr : mz_rS 133 st = true) (kk : mW y d Q n L (.int o :: st) M) : mW y d Q pc L (.int a1 :: .ref 0 :: st) M :=
  y_callV kmX11_count kvX11_count l_0 (by decide +kernel) (by decide +kernel) h hl (ok_ax_count a1 M hf) (vs := [.int a1]) rfl rfl hd hsm hLr hSr kk
noncomputable def f_mo_thrown (M : dM) : Int32 :=
  (gI M 66 0)
theorem ok_mo_thrown  (M : dM) {o : Int32} (hf : f_mo_thrown M = o) : mO mX12_thrown 1 [.ref 66] M (some (.int o)) M := by
  refine y_ok (by decide +kernel) (by decide) (L0 := [some (.ref 66)]) rfl ?_
  have hk := mR_mQ (some (.int o)) M
  generalize mQ _ _ = Q at hk ⊢
  unfold f_mo_thrown at hf
  refine y_aload_n (i := 0) (n := 1) ⟨dX12_thrown_0, rfl⟩ rfl ?_
  refine y_getI (n := 4) ⟨dX12_thrown_1, rfl⟩ kfX12_214 l_66 rfl ?_
  cases hf
  exact y_ireturn (n := 5) ⟨dX12_thrown_4, rfl⟩ rfl rfl hk
theorem c_mo_thrown  (M : dM) {o : Int32} {y : mz_M} {d : Nat} {Q : mz_P} {pc n i : Nat} {L : List (Option Value)} {st : List Value} (h : mz_d y.2.1 pc n 3 (.invokevirtual i)) (hl : mz_ml y.1.cls i yX12_thrown) (hf : f_mo_thrown M = o) (hd : 1 + 1 ≤ d) (hsm : (st.map (fun v => v.category)).sum ≤ 8) (hLr : mz_rL 133 L = true) (hSr : mz_rS 133 st = true) (kk : mW y d Q n L (.int o :: st) M) : mW y d Q pc L (.ref 66 :: st) M :=
  y_callV kmX12_thrown kvX12_thrown l_66 (by decide +kernel) (by decide +kernel) h hl (ok_mo_thrown  M hf) (vs := []) rfl rfl hd hsm hLr hSr kk
noncomputable def f_mo_isSite (a1 : Int32) : Bool :=
  if a1 < 0 then
    false
  else
    if 8 ≤ a1 then
      false
    else
      true
theorem ok_mo_isSite (a1 : Int32) (M : dM) {o : Bool} (hf : f_mo_isSite a1 = o) : mO mX12_isSite 1 [.int a1] M (some (.int (bI o))) M := by
  refine y_ok (by decide +kernel) (by decide) (L0 := [some (.int a1)]) rfl ?_
  have hk := mR_mQ (some (.int (bI o))) M
  generalize mQ _ _ = Q at hk ⊢
  unfold f_mo_isSite at hf
  refine y_iload_n (i := 0) (n := 1) ⟨dX12_isSite_0, rfl⟩ rfl ?_
  refine y_if_lt (t := 14) (n := 4) ⟨dX12_isSite_1, rfl, rfl⟩ (fun (hc : a1 < 0) => ?_) (fun (hc : ¬ (a1 < 0)) => ?_)
  · replace hf := i_t hc hf
    refine y_iconst (n := 15) (v := 0) ⟨dX12_isSite_14, rfl⟩ ki_0 ?_
    cases hf
    exact y_ireturn (n := 16) ⟨dX12_isSite_15, rfl⟩ rfl rfl hk
  · replace hf := i_f hc hf
    refine y_iload_n (i := 0) (n := 5) ⟨dX12_isSite_4, rfl⟩ rfl ?_
    refine y_bipush (n := 7) (v := 8) ⟨dX12_isSite_5, rfl⟩ kb_8 ?_
    refine y_icmp_ge (t := 14) (n := 10) ⟨dX12_isSite_7, rfl, rfl⟩ (fun (hc : 8 ≤ a1) => ?_) (fun (hc : ¬ (8 ≤ a1)) => ?_)
    · replace hf := i_t hc hf
      refine y_iconst (n := 15) (v := 0) ⟨dX12_isSite_14, rfl⟩ ki_0 ?_
      cases hf
      exact y_ireturn (n := 16) ⟨dX12_isSite_15, rfl⟩ rfl rfl hk
    · replace hf := i_f hc hf
      refine y_iconst (n := 11) (v := 1) ⟨dX12_isSite_10, rfl⟩ ki_1 ?_
      refine y_goto (t := 15) ⟨dX12_isSite_11, rfl, rfl⟩ ?_
      cases hf
      exact y_ireturn (n := 16) ⟨dX12_isSite_15, rfl⟩ rfl rfl hk
theorem c_mo_isSite (a1 : Int32) (M : dM) {o : Bool} {y : mz_M} {d : Nat} {Q : mz_P} {pc n i : Nat} {L : List (Option Value)} {st : List Value} (h : mz_d y.2.1 pc n 3 (.invokestatic i)) (hl : mz_ml y.1.cls i yX12_isSite) (hf : f_mo_isSite a1 = o) (hd : 1 + 1 ≤ d) (hsm : (st.map (fun v => v.category)).sum ≤ 8) (hLr : mz_rL 133 L = true) (hSr : mz_rS 133 st = true) (kk : mW y d Q n L (.int (bI o) :: st) M) : mW y d Q pc L (.int a1 :: st) M :=
  y_callS kmX12_isSite ksX12_isSite h hl (ok_mo_isSite a1 M hf) (vs := [.int a1]) rfl rfl hd hsm hLr hSr kk
noncomputable def f_mo_within (a1 : Int32) (a2 : Int32) (a3 : Int32) : Bool :=
  if a1 < a2 then
    false
  else
    if a3 < a1 then
      false
    else
      true
theorem ok_mo_within (a1 : Int32) (a2 : Int32) (a3 : Int32) (M : dM) {o : Bool} (hf : f_mo_within a1 a2 a3 = o) : mO mX12_within 1 [.int a1, .int a2, .int a3] M (some (.int (bI o))) M := by
  refine y_ok (by decide +kernel) (by decide) (L0 := [some (.int a1), some (.int a2), some (.int a3)]) rfl ?_
  have hk := mR_mQ (some (.int (bI o))) M
  generalize mQ _ _ = Q at hk ⊢
  unfold f_mo_within at hf
  refine y_iload_n (i := 0) (n := 1) ⟨dX12_within_0, rfl⟩ rfl ?_
  refine y_iload_n (i := 1) (n := 2) ⟨dX12_within_1, rfl⟩ rfl ?_
  refine y_icmp_lt (t := 14) (n := 5) ⟨dX12_within_2, rfl, rfl⟩ (fun (hc : a1 < a2) => ?_) (fun (hc : ¬ (a1 < a2)) => ?_)
  · replace hf := i_t hc hf
    refine y_iconst (n := 15) (v := 0) ⟨dX12_within_14, rfl⟩ ki_0 ?_
    cases hf
    exact y_ireturn (n := 16) ⟨dX12_within_15, rfl⟩ rfl rfl hk
  · replace hf := i_f hc hf
    refine y_iload_n (i := 0) (n := 6) ⟨dX12_within_5, rfl⟩ rfl ?_
    refine y_iload_n (i := 2) (n := 7) ⟨dX12_within_6, rfl⟩ rfl ?_
    refine y_icmp_gt (t := 14) (n := 10) ⟨dX12_within_7, rfl, rfl⟩ (fun (hc : a3 < a1) => ?_) (fun (hc : ¬ (a3 < a1)) => ?_)
    · replace hf := i_t hc hf
      refine y_iconst (n := 15) (v := 0) ⟨dX12_within_14, rfl⟩ ki_0 ?_
      cases hf
      exact y_ireturn (n := 16) ⟨dX12_within_15, rfl⟩ rfl rfl hk
    · replace hf := i_f hc hf
      refine y_iconst (n := 11) (v := 1) ⟨dX12_within_10, rfl⟩ ki_1 ?_
      refine y_goto (t := 15) ⟨dX12_within_11, rfl, rfl⟩ ?_
      cases hf
      exact y_ireturn (n := 16) ⟨dX12_within_15, rfl⟩ rfl rfl hk
theorem c_mo_within (a1 : Int32) (a2 : Int32) (a3 : Int32) (M : dM) {o : Bool} {y : mz_M} {d : Nat} {Q : mz_P} {pc n i : Nat} {L : List (Option Value)} {st : List Value} (h : mz_d y.2.1 pc n 3 (.invokestatic i)) (hl : mz_ml y.1.cls i yX12_within) (hf : f_mo_within a1 a2 a3 = o) (hd : 1 + 1 ≤ d) (hsm : (st.map (fun v => v.category)).sum ≤ 8) (hLr : mz_rL 133 L = true) (hSr : mz_rS 133 st = true) (kk : mW y d Q n L (.int (bI o) :: st) M) : mW y d Q pc L (.int a3 :: .int a2 :: .int a1 :: st) M :=
  y_callS kmX12_within ksX12_within h hl (ok_mo_within a1 a2 a3 M hf) (vs := [.int a1, .int a2, .int a3]) rfl rfl hd hsm hLr hSr kk
noncomputable def f_mo_layer (a1 : Int32) (a2 : Int32) (a3 : Int32) (M : dM) : Option (Bool × dM) :=
  if (f_mo_isSite a1) = true then
    if (f_mo_within a2 0 9) = true then
      if (f_mo_within a3 0 9999) = true then
        gd (vp_in ((10 * a1) + a2) 80) <|
        some (true, (sI (sI M 66 0 0) 67 ((10 * a1) + a2).toNatClampNeg a3))
      else
        some (false, (sI M 66 0 0))
    else
      some (false, (sI M 66 0 0))
  else
    some (false, (sI M 66 0 0))
theorem ok_mo_layer (a1 : Int32) (a2 : Int32) (a3 : Int32) (M : dM) {o : (Bool × dM)} (hf : f_mo_layer a1 a2 a3 M = some o) : mO mX12_layer 2 [.ref 66, .int a1, .int a2, .int a3] M (some (.int (bI o.1))) o.2 := by
  refine y_ok (by decide +kernel) (by decide) (L0 := [some (.ref 66), some (.int a1), some (.int a2), some (.int a3)]) rfl ?_
  have hk := mR_mQ (some (.int (bI o.1))) o.2
  generalize mQ _ _ = Q at hk ⊢
  unfold f_mo_layer at hf
  refine y_aload_n (i := 0) (n := 1) ⟨dX12_layer_0, rfl⟩ rfl ?_
  refine y_iconst (n := 2) (v := 0) ⟨dX12_layer_1, rfl⟩ ki_0 ?_
  refine y_putI (n := 5) ⟨dX12_layer_2, rfl⟩ kfX12_214 l_66 (by decide +kernel) rfl ?_
  refine y_iload_n (i := 1) (n := 6) ⟨dX12_layer_5, rfl⟩ rfl ?_
  refine c_mo_isSite a1 (sI M 66 0 0) (n := 9) ⟨dX12_layer_6, rfl⟩ klX12_217 rfl (by decide) (Nat.le_of_ble_eq_true rfl) rfl rfl ?_
  refine y_if_eq (t := 33) (n := 12) ⟨dX12_layer_9, rfl, rfl⟩ (fun h0 => ?_) (fun h0 => ?_)
  · have hc := bI_0 h0
    replace hf := i_f hc hf
    refine y_iconst (n := 34) (v := 0) ⟨dX12_layer_33, rfl⟩ ki_0 ?_
    cases hf
    exact y_ireturn (n := 35) ⟨dX12_layer_34, rfl⟩ rfl rfl hk
  · have hc := bI_1 h0
    replace hf := i_t hc hf
    refine y_iload_n (i := 2) (n := 13) ⟨dX12_layer_12, rfl⟩ rfl ?_
    refine y_iconst (n := 14) (v := 0) ⟨dX12_layer_13, rfl⟩ ki_0 ?_
    refine y_bipush (n := 16) (v := 9) ⟨dX12_layer_14, rfl⟩ kb_9 ?_
    refine c_mo_within a2 0 9 (sI M 66 0 0) (n := 19) ⟨dX12_layer_16, rfl⟩ klX12_221 rfl (by decide) (Nat.le_of_ble_eq_true rfl) rfl rfl ?_
    refine y_if_eq (t := 33) (n := 22) ⟨dX12_layer_19, rfl, rfl⟩ (fun h0 => ?_) (fun h0 => ?_)
    · have hc := bI_0 h0
      replace hf := i_f hc hf
      refine y_iconst (n := 34) (v := 0) ⟨dX12_layer_33, rfl⟩ ki_0 ?_
      cases hf
      exact y_ireturn (n := 35) ⟨dX12_layer_34, rfl⟩ rfl rfl hk
    · have hc := bI_1 h0
      replace hf := i_t hc hf
      refine y_iload_n (i := 3) (n := 23) ⟨dX12_layer_22, rfl⟩ rfl ?_
      refine y_iconst (n := 24) (v := 0) ⟨dX12_layer_23, rfl⟩ ki_0 ?_
      refine y_sipush (n := 27) (v := 9999) ⟨dX12_layer_24, rfl⟩ ks_9999 ?_
      refine c_mo_within a3 0 9999 (sI M 66 0 0) (n := 30) ⟨dX12_layer_27, rfl⟩ klX12_221 rfl (by decide) (Nat.le_of_ble_eq_true rfl) rfl rfl ?_
      refine y_if_ne (t := 35) (n := 33) ⟨dX12_layer_30, rfl, rfl⟩ (fun h0 => ?_) (fun h0 => ?_)
      · have hc := bI_1 h0
        replace hf := i_t hc hf
        refine y_aload_n (i := 0) (n := 36) ⟨dX12_layer_35, rfl⟩ rfl ?_
        refine y_getR (n := 39) ⟨dX12_layer_36, rfl⟩ kfX12_7 l_66 rfl r_66_1 ?_
        refine y_bipush (n := 41) (v := 10) ⟨dX12_layer_39, rfl⟩ kb_10 ?_
        refine y_iload_n (i := 1) (n := 42) ⟨dX12_layer_41, rfl⟩ rfl ?_
        refine y_imul (n := 43) ⟨dX12_layer_42, rfl⟩ ?_
        refine y_iload_n (i := 2) (n := 44) ⟨dX12_layer_43, rfl⟩ rfl ?_
        refine y_iadd (n := 45) ⟨dX12_layer_44, rfl⟩ ?_
        refine y_iload_n (i := 3) (n := 46) ⟨dX12_layer_45, rfl⟩ rfl ?_
        obtain ⟨hg1, hf⟩ := g_s hf
        refine y_iastore (n := 47) ⟨dX12_layer_46, rfl⟩ l_67 hg1 ?_
        refine y_iconst (n := 48) (v := 1) ⟨dX12_layer_47, rfl⟩ ki_1 ?_
        cases hf
        exact y_ireturn (n := 49) ⟨dX12_layer_48, rfl⟩ rfl rfl hk
      · have hc := bI_0 h0
        replace hf := i_f hc hf
        refine y_iconst (n := 34) (v := 0) ⟨dX12_layer_33, rfl⟩ ki_0 ?_
        cases hf
        exact y_ireturn (n := 35) ⟨dX12_layer_34, rfl⟩ rfl rfl hk
theorem c_mo_layer (a1 : Int32) (a2 : Int32) (a3 : Int32) (M : dM) {o : (Bool × dM)} {y : mz_M} {d : Nat} {Q : mz_P} {pc n i : Nat} {L : List (Option Value)} {st : List Value} (h : mz_d y.2.1 pc n 3 (.invokevirtual i)) (hl : mz_ml y.1.cls i yX12_layer) (hf : f_mo_layer a1 a2 a3 M = some o) (hd : 2 + 1 ≤ d) (hsm : (st.map (fun v => v.category)).sum ≤ 8) (hLr : mz_rL 133 L = true) (hSr : mz_rS 133 st = true) (kk : mW y d Q n L (.int (bI o.1) :: st) o.2) : mW y d Q pc L (.int a3 :: .int a2 :: .int a1 :: .ref 66 :: st) M :=
  y_callV kmX12_layer kvX12_layer l_66 (by decide +kernel) (by decide +kernel) h hl (ok_mo_layer a1 a2 a3 M hf) (vs := [.int a1, .int a2, .int a3]) rfl rfl hd hsm hLr hSr kk
noncomputable def f_mo_way (a1 : Int32) (a2 : Int32) (a3 : Int32) (M : dM) : Option (Bool × dM) :=
  if (f_mo_isSite a1) = true then
    if (f_mo_isSite a2) = true then
      if a1 = a2 then
        some (false, (sI M 66 0 0))
      else
        if (f_mo_within a3 0 999) = true then
          gd (vp_in ((8 * a1) + a2) 64) <|
          gd (vp_in ((8 * a2) + a1) 64) <|
          some (true, (sI (sI (sI M 66 0 0) 68 ((8 * a1) + a2).toNatClampNeg a3) 68 ((8 * a2) + a1).toNatClampNeg a3))
        else
          some (false, (sI M 66 0 0))
    else
      some (false, (sI M 66 0 0))
  else
    some (false, (sI M 66 0 0))
theorem ok_mo_way (a1 : Int32) (a2 : Int32) (a3 : Int32) (M : dM) {o : (Bool × dM)} (hf : f_mo_way a1 a2 a3 M = some o) : mO mX12_way 2 [.ref 66, .int a1, .int a2, .int a3] M (some (.int (bI o.1))) o.2 := by
  refine y_ok (by decide +kernel) (by decide) (L0 := [some (.ref 66), some (.int a1), some (.int a2), some (.int a3)]) rfl ?_
  have hk := mR_mQ (some (.int (bI o.1))) o.2
  generalize mQ _ _ = Q at hk ⊢
  unfold f_mo_way at hf
  refine y_aload_n (i := 0) (n := 1) ⟨dX12_way_0, rfl⟩ rfl ?_
  refine y_iconst (n := 2) (v := 0) ⟨dX12_way_1, rfl⟩ ki_0 ?_
  refine y_putI (n := 5) ⟨dX12_way_2, rfl⟩ kfX12_214 l_66 (by decide +kernel) rfl ?_
  refine y_iload_n (i := 1) (n := 6) ⟨dX12_way_5, rfl⟩ rfl ?_
  refine c_mo_isSite a1 (sI M 66 0 0) (n := 9) ⟨dX12_way_6, rfl⟩ klX12_217 rfl (by decide) (Nat.le_of_ble_eq_true rfl) rfl rfl ?_
  refine y_if_eq (t := 35) (n := 12) ⟨dX12_way_9, rfl, rfl⟩ (fun h0 => ?_) (fun h0 => ?_)
  · have hc := bI_0 h0
    replace hf := i_f hc hf
    refine y_iconst (n := 36) (v := 0) ⟨dX12_way_35, rfl⟩ ki_0 ?_
    cases hf
    exact y_ireturn (n := 37) ⟨dX12_way_36, rfl⟩ rfl rfl hk
  · have hc := bI_1 h0
    replace hf := i_t hc hf
    refine y_iload_n (i := 2) (n := 13) ⟨dX12_way_12, rfl⟩ rfl ?_
    refine c_mo_isSite a2 (sI M 66 0 0) (n := 16) ⟨dX12_way_13, rfl⟩ klX12_217 rfl (by decide) (Nat.le_of_ble_eq_true rfl) rfl rfl ?_
    refine y_if_eq (t := 35) (n := 19) ⟨dX12_way_16, rfl, rfl⟩ (fun h0 => ?_) (fun h0 => ?_)
    · have hc := bI_0 h0
      replace hf := i_f hc hf
      refine y_iconst (n := 36) (v := 0) ⟨dX12_way_35, rfl⟩ ki_0 ?_
      cases hf
      exact y_ireturn (n := 37) ⟨dX12_way_36, rfl⟩ rfl rfl hk
    · have hc := bI_1 h0
      replace hf := i_t hc hf
      refine y_iload_n (i := 1) (n := 20) ⟨dX12_way_19, rfl⟩ rfl ?_
      refine y_iload_n (i := 2) (n := 21) ⟨dX12_way_20, rfl⟩ rfl ?_
      refine y_icmp_eq (t := 35) (n := 24) ⟨dX12_way_21, rfl, rfl⟩ (fun (hc : a1 = a2) => ?_) (fun (hc : ¬ (a1 = a2)) => ?_)
      · replace hf := i_t hc hf
        refine y_iconst (n := 36) (v := 0) ⟨dX12_way_35, rfl⟩ ki_0 ?_
        cases hf
        exact y_ireturn (n := 37) ⟨dX12_way_36, rfl⟩ rfl rfl hk
      · replace hf := i_f hc hf
        refine y_iload_n (i := 3) (n := 25) ⟨dX12_way_24, rfl⟩ rfl ?_
        refine y_iconst (n := 26) (v := 0) ⟨dX12_way_25, rfl⟩ ki_0 ?_
        refine y_sipush (n := 29) (v := 999) ⟨dX12_way_26, rfl⟩ ks_999 ?_
        refine c_mo_within a3 0 999 (sI M 66 0 0) (n := 32) ⟨dX12_way_29, rfl⟩ klX12_221 rfl (by decide) (Nat.le_of_ble_eq_true rfl) rfl rfl ?_
        refine y_if_ne (t := 37) (n := 35) ⟨dX12_way_32, rfl, rfl⟩ (fun h0 => ?_) (fun h0 => ?_)
        · have hc := bI_1 h0
          replace hf := i_t hc hf
          refine y_aload_n (i := 0) (n := 38) ⟨dX12_way_37, rfl⟩ rfl ?_
          refine y_getR (n := 41) ⟨dX12_way_38, rfl⟩ kfX12_13 l_66 rfl r_66_2 ?_
          refine y_bipush (n := 43) (v := 8) ⟨dX12_way_41, rfl⟩ kb_8 ?_
          refine y_iload_n (i := 1) (n := 44) ⟨dX12_way_43, rfl⟩ rfl ?_
          refine y_imul (n := 45) ⟨dX12_way_44, rfl⟩ ?_
          refine y_iload_n (i := 2) (n := 46) ⟨dX12_way_45, rfl⟩ rfl ?_
          refine y_iadd (n := 47) ⟨dX12_way_46, rfl⟩ ?_
          refine y_iload_n (i := 3) (n := 48) ⟨dX12_way_47, rfl⟩ rfl ?_
          obtain ⟨hg1, hf⟩ := g_s hf
          refine y_iastore (n := 49) ⟨dX12_way_48, rfl⟩ l_68 hg1 ?_
          refine y_aload_n (i := 0) (n := 50) ⟨dX12_way_49, rfl⟩ rfl ?_
          refine y_getR (n := 53) ⟨dX12_way_50, rfl⟩ kfX12_13 l_66 rfl r_66_2 ?_
          refine y_bipush (n := 55) (v := 8) ⟨dX12_way_53, rfl⟩ kb_8 ?_
          refine y_iload_n (i := 2) (n := 56) ⟨dX12_way_55, rfl⟩ rfl ?_
          refine y_imul (n := 57) ⟨dX12_way_56, rfl⟩ ?_
          refine y_iload_n (i := 1) (n := 58) ⟨dX12_way_57, rfl⟩ rfl ?_
          refine y_iadd (n := 59) ⟨dX12_way_58, rfl⟩ ?_
          refine y_iload_n (i := 3) (n := 60) ⟨dX12_way_59, rfl⟩ rfl ?_
          obtain ⟨hg2, hf⟩ := g_s hf
          refine y_iastore (n := 61) ⟨dX12_way_60, rfl⟩ l_68 hg2 ?_
          refine y_iconst (n := 62) (v := 1) ⟨dX12_way_61, rfl⟩ ki_1 ?_
          cases hf
          exact y_ireturn (n := 63) ⟨dX12_way_62, rfl⟩ rfl rfl hk
        · have hc := bI_0 h0
          replace hf := i_f hc hf
          refine y_iconst (n := 36) (v := 0) ⟨dX12_way_35, rfl⟩ ki_0 ?_
          cases hf
          exact y_ireturn (n := 37) ⟨dX12_way_36, rfl⟩ rfl rfl hk
theorem c_mo_way (a1 : Int32) (a2 : Int32) (a3 : Int32) (M : dM) {o : (Bool × dM)} {y : mz_M} {d : Nat} {Q : mz_P} {pc n i : Nat} {L : List (Option Value)} {st : List Value} (h : mz_d y.2.1 pc n 3 (.invokevirtual i)) (hl : mz_ml y.1.cls i yX12_way) (hf : f_mo_way a1 a2 a3 M = some o) (hd : 2 + 1 ≤ d) (hsm : (st.map (fun v => v.category)).sum ≤ 8) (hLr : mz_rL 133 L = true) (hSr : mz_rS 133 st = true) (kk : mW y d Q n L (.int (bI o.1) :: st) o.2) : mW y d Q pc L (.int a3 :: .int a2 :: .int a1 :: .ref 66 :: st) M :=
  y_callV kmX12_way kvX12_way l_66 (by decide +kernel) (by decide +kernel) h hl (ok_mo_way a1 a2 a3 M hf) (vs := [.int a1, .int a2, .int a3]) rfl rfl hd hsm hLr hSr kk
noncomputable def f_mo_isHand (a1 : Int32) : Bool :=
  if a1 < 0 then
    false
  else
    if 10 ≤ a1 then
      false
    else
      true
theorem ok_mo_isHand (a1 : Int32) (M : dM) {o : Bool} (hf : f_mo_isHand a1 = o) : mO mX12_isHand 1 [.int a1] M (some (.int (bI o))) M := by
  refine y_ok (by decide +kernel) (by decide) (L0 := [some (.int a1)]) rfl ?_
  have hk := mR_mQ (some (.int (bI o))) M
  generalize mQ _ _ = Q at hk ⊢
  unfold f_mo_isHand at hf
  refine y_iload_n (i := 0) (n := 1) ⟨dX12_isHand_0, rfl⟩ rfl ?_
  refine y_if_lt (t := 14) (n := 4) ⟨dX12_isHand_1, rfl, rfl⟩ (fun (hc : a1 < 0) => ?_) (fun (hc : ¬ (a1 < 0)) => ?_)
  · replace hf := i_t hc hf
    refine y_iconst (n := 15) (v := 0) ⟨dX12_isHand_14, rfl⟩ ki_0 ?_
    cases hf
    exact y_ireturn (n := 16) ⟨dX12_isHand_15, rfl⟩ rfl rfl hk
  · replace hf := i_f hc hf
    refine y_iload_n (i := 0) (n := 5) ⟨dX12_isHand_4, rfl⟩ rfl ?_
    refine y_bipush (n := 7) (v := 10) ⟨dX12_isHand_5, rfl⟩ kb_10 ?_
    refine y_icmp_ge (t := 14) (n := 10) ⟨dX12_isHand_7, rfl, rfl⟩ (fun (hc : 10 ≤ a1) => ?_) (fun (hc : ¬ (10 ≤ a1)) => ?_)
    · replace hf := i_t hc hf
      refine y_iconst (n := 15) (v := 0) ⟨dX12_isHand_14, rfl⟩ ki_0 ?_
      cases hf
      exact y_ireturn (n := 16) ⟨dX12_isHand_15, rfl⟩ rfl rfl hk
    · replace hf := i_f hc hf
      refine y_iconst (n := 11) (v := 1) ⟨dX12_isHand_10, rfl⟩ ki_1 ?_
      refine y_goto (t := 15) ⟨dX12_isHand_11, rfl, rfl⟩ ?_
      cases hf
      exact y_ireturn (n := 16) ⟨dX12_isHand_15, rfl⟩ rfl rfl hk
theorem c_mo_isHand (a1 : Int32) (M : dM) {o : Bool} {y : mz_M} {d : Nat} {Q : mz_P} {pc n i : Nat} {L : List (Option Value)} {st : List Value} (h : mz_d y.2.1 pc n 3 (.invokestatic i)) (hl : mz_ml y.1.cls i yX12_isHand) (hf : f_mo_isHand a1 = o) (hd : 1 + 1 ≤ d) (hsm : (st.map (fun v => v.category)).sum ≤ 8) (hLr : mz_rL 133 L = true) (hSr : mz_rS 133 st = true) (kk : mW y d Q n L (.int (bI o) :: st) M) : mW y d Q pc L (.int a1 :: st) M :=
  y_callS kmX12_isHand ksX12_isHand h hl (ok_mo_isHand a1 M hf) (vs := [.int a1]) rfl rfl hd hsm hLr hSr kk
def K_mo_here_63 (Q : mz_P) (x1 : Int32) (x2 : Int32) (x3 : Int32) (x4 : Int32) (x5 : Int32) (M : dM) : (Int32 ⊕ (Unit ⊕ (Bool × dM))) → Prop
  | .inl s => mW mX12_here 2 Q 63 [some (.ref 66), some (.int x1), some (.int x2), some (.int x3), some (.int x4), some (.int x5), some (.int s)] [] M
  | .inr (.inl t) => mW mX12_here 2 Q 137 [some (.ref 66), some (.int x1), some (.int x2), some (.int x3), some (.int x4), some (.int x5), none] [] M
  | .inr (.inr r) => mR Q (some (.int (bI r.1))) r.2
noncomputable def b_mo_here_63_63 (x1 : Int32) (x2 : Int32) (x3 : Int32) (x4 : Int32) (x5 : Int32) (x6 : Int32) (M : dM) : Option (Int32 ⊕ (Unit ⊕ (Bool × dM))) :=
  if (gI M 66 3) ≤ x6 then
    some (.inr (.inl ()))
  else
    gd (vp_in x6 80) <|
    if (gI M 69 x6.toNatClampNeg) = x1 then
      if (gI M 71 x6.toNatClampNeg) = x3 then
        if (gI M 70 x6.toNatClampNeg) = x2 then
          some (.inl (x6 + 1))
        else
          if x5 < (gI M 72 x6.toNatClampNeg) then
            some (.inl (x6 + 1))
          else
            if (gI M 73 x6.toNatClampNeg) < x4 then
              some (.inl (x6 + 1))
            else
              some (.inr (.inr (false, M)))
      else
        some (.inl (x6 + 1))
    else
      some (.inl (x6 + 1))
noncomputable def l_mo_here_63 (x1 : Int32) (x2 : Int32) (x3 : Int32) (x4 : Int32) (x5 : Int32) (x6 : Int32) (M : dM) : Option (Unit ⊕ (Bool × dM)) := lpc (fun s => b_mo_here_63_63 x1 x2 x3 x4 x5 s M) x6
noncomputable def f_mo_here (a1 : Int32) (a2 : Int32) (a3 : Int32) (a4 : Int32) (a5 : Int32) (M : dM) : Option (Bool × dM) :=
  if (f_mo_isHand a1) = true then
    if (f_mo_isSite a2) = true then
      if (f_mo_within a3 0 999) = true then
        if a4 < 0 then
          some (false, (sI M 66 0 0))
        else
          if a5 < a4 then
            some (false, (sI M 66 0 0))
          else
            if 23 < a5 then
              some (false, (sI M 66 0 0))
            else
              if (gI (sI M 66 0 0) 66 3) = 80 then
                some (false, (sI M 66 0 0))
              else
                (l_mo_here_63 a1 a2 a3 a4 a5 0 (sI M 66 0 0)).bind (Sum.elim (fun t2 =>
                    gd (vp_in (gI (sI M 66 0 0) 66 3) 80) <|
                    gd (vp_in (gI (sI (sI M 66 0 0) 69 (gI (sI M 66 0 0) 66 3).toNatClampNeg a1) 66 3) 80) <|
                    gd (vp_in (gI (sI (sI (sI M 66 0 0) 69 (gI (sI M 66 0 0) 66 3).toNatClampNeg a1) 70 (gI (sI (sI M 66 0 0) 69 (gI (sI M 66 0 0) 66 3).toNatClampNeg a1) 66 3).toNatClampNeg a2) 66 3) 80) <|
                    gd (vp_in (gI (sI (sI (sI (sI M 66 0 0) 69 (gI (sI M 66 0 0) 66 3).toNatClampNeg a1) 70 (gI (sI (sI M 66 0 0) 69 (gI (sI M 66 0 0) 66 3).toNatClampNeg a1) 66 3).toNatClampNeg a2) 71 (gI (sI (sI (sI M 66 0 0) 69 (gI (sI M 66 0 0) 66 3).toNatClampNeg a1) 70 (gI (sI (sI M 66 0 0) 69 (gI (sI M 66 0 0) 66 3).toNatClampNeg a1) 66 3).toNatClampNeg a2) 66 3).toNatClampNeg a3) 66 3) 80) <|
                    gd (vp_in (gI (sI (sI (sI (sI (sI M 66 0 0) 69 (gI (sI M 66 0 0) 66 3).toNatClampNeg a1) 70 (gI (sI (sI M 66 0 0) 69 (gI (sI M 66 0 0) 66 3).toNatClampNeg a1) 66 3).toNatClampNeg a2) 71 (gI (sI (sI (sI M 66 0 0) 69 (gI (sI M 66 0 0) 66 3).toNatClampNeg a1) 70 (gI (sI (sI M 66 0 0) 69 (gI (sI M 66 0 0) 66 3).toNatClampNeg a1) 66 3).toNatClampNeg a2) 66 3).toNatClampNeg a3) 72 (gI (sI (sI (sI (sI M 66 0 0) 69 (gI (sI M 66 0 0) 66 3).toNatClampNeg a1) 70 (gI (sI (sI M 66 0 0) 69 (gI (sI M 66 0 0) 66 3).toNatClampNeg a1) 66 3).toNatClampNeg a2) 71 (gI (sI (sI (sI M 66 0 0) 69 (gI (sI M 66 0 0) 66 3).toNatClampNeg a1) 70 (gI (sI (sI M 66 0 0) 69 (gI (sI M 66 0 0) 66 3).toNatClampNeg a1) 66 3).toNatClampNeg a2) 66 3).toNatClampNeg a3) 66 3).toNatClampNeg a4) 66 3) 80) <|
                    some (true, (sI (sI (sI (sI (sI (sI (sI M 66 0 0) 69 (gI (sI M 66 0 0) 66 3).toNatClampNeg a1) 70 (gI (sI (sI M 66 0 0) 69 (gI (sI M 66 0 0) 66 3).toNatClampNeg a1) 66 3).toNatClampNeg a2) 71 (gI (sI (sI (sI M 66 0 0) 69 (gI (sI M 66 0 0) 66 3).toNatClampNeg a1) 70 (gI (sI (sI M 66 0 0) 69 (gI (sI M 66 0 0) 66 3).toNatClampNeg a1) 66 3).toNatClampNeg a2) 66 3).toNatClampNeg a3) 72 (gI (sI (sI (sI (sI M 66 0 0) 69 (gI (sI M 66 0 0) 66 3).toNatClampNeg a1) 70 (gI (sI (sI M 66 0 0) 69 (gI (sI M 66 0 0) 66 3).toNatClampNeg a1) 66 3).toNatClampNeg a2) 71 (gI (sI (sI (sI M 66 0 0) 69 (gI (sI M 66 0 0) 66 3).toNatClampNeg a1) 70 (gI (sI (sI M 66 0 0) 69 (gI (sI M 66 0 0) 66 3).toNatClampNeg a1) 66 3).toNatClampNeg a2) 66 3).toNatClampNeg a3) 66 3).toNatClampNeg a4) 73 (gI (sI (sI (sI (sI (sI M 66 0 0) 69 (gI (sI M 66 0 0) 66 3).toNatClampNeg a1) 70 (gI (sI (sI M 66 0 0) 69 (gI (sI M 66 0 0) 66 3).toNatClampNeg a1) 66 3).toNatClampNeg a2) 71 (gI (sI (sI (sI M 66 0 0) 69 (gI (sI M 66 0 0) 66 3).toNatClampNeg a1) 70 (gI (sI (sI M 66 0 0) 69 (gI (sI M 66 0 0) 66 3).toNatClampNeg a1) 66 3).toNatClampNeg a2) 66 3).toNatClampNeg a3) 72 (gI (sI (sI (sI (sI M 66 0 0) 69 (gI (sI M 66 0 0) 66 3).toNatClampNeg a1) 70 (gI (sI (sI M 66 0 0) 69 (gI (sI M 66 0 0) 66 3).toNatClampNeg a1) 66 3).toNatClampNeg a2) 71 (gI (sI (sI (sI M 66 0 0) 69 (gI (sI M 66 0 0) 66 3).toNatClampNeg a1) 70 (gI (sI (sI M 66 0 0) 69 (gI (sI M 66 0 0) 66 3).toNatClampNeg a1) 66 3).toNatClampNeg a2) 66 3).toNatClampNeg a3) 66 3).toNatClampNeg a4) 66 3).toNatClampNeg a5) 66 3 ((gI (sI (sI (sI (sI (sI (sI M 66 0 0) 69 (gI (sI M 66 0 0) 66 3).toNatClampNeg a1) 70 (gI (sI (sI M 66 0 0) 69 (gI (sI M 66 0 0) 66 3).toNatClampNeg a1) 66 3).toNatClampNeg a2) 71 (gI (sI (sI (sI M 66 0 0) 69 (gI (sI M 66 0 0) 66 3).toNatClampNeg a1) 70 (gI (sI (sI M 66 0 0) 69 (gI (sI M 66 0 0) 66 3).toNatClampNeg a1) 66 3).toNatClampNeg a2) 66 3).toNatClampNeg a3) 72 (gI (sI (sI (sI (sI M 66 0 0) 69 (gI (sI M 66 0 0) 66 3).toNatClampNeg a1) 70 (gI (sI (sI M 66 0 0) 69 (gI (sI M 66 0 0) 66 3).toNatClampNeg a1) 66 3).toNatClampNeg a2) 71 (gI (sI (sI (sI M 66 0 0) 69 (gI (sI M 66 0 0) 66 3).toNatClampNeg a1) 70 (gI (sI (sI M 66 0 0) 69 (gI (sI M 66 0 0) 66 3).toNatClampNeg a1) 66 3).toNatClampNeg a2) 66 3).toNatClampNeg a3) 66 3).toNatClampNeg a4) 73 (gI (sI (sI (sI (sI (sI M 66 0 0) 69 (gI (sI M 66 0 0) 66 3).toNatClampNeg a1) 70 (gI (sI (sI M 66 0 0) 69 (gI (sI M 66 0 0) 66 3).toNatClampNeg a1) 66 3).toNatClampNeg a2) 71 (gI (sI (sI (sI M 66 0 0) 69 (gI (sI M 66 0 0) 66 3).toNatClampNeg a1) 70 (gI (sI (sI M 66 0 0) 69 (gI (sI M 66 0 0) 66 3).toNatClampNeg a1) 66 3).toNatClampNeg a2) 66 3).toNatClampNeg a3) 72 (gI (sI (sI (sI (sI M 66 0 0) 69 (gI (sI M 66 0 0) 66 3).toNatClampNeg a1) 70 (gI (sI (sI M 66 0 0) 69 (gI (sI M 66 0 0) 66 3).toNatClampNeg a1) 66 3).toNatClampNeg a2) 71 (gI (sI (sI (sI M 66 0 0) 69 (gI (sI M 66 0 0) 66 3).toNatClampNeg a1) 70 (gI (sI (sI M 66 0 0) 69 (gI (sI M 66 0 0) 66 3).toNatClampNeg a1) 66 3).toNatClampNeg a2) 66 3).toNatClampNeg a3) 66 3).toNatClampNeg a4) 66 3).toNatClampNeg a5) 66 3) + 1)))
                  ) (fun r4 => some r4))
      else
        some (false, (sI M 66 0 0))
    else
      some (false, (sI M 66 0 0))
  else
    some (false, (sI M 66 0 0))
theorem w_b_mo_here_63_63 (x1 : Int32) (x2 : Int32) (x3 : Int32) (x4 : Int32) (x5 : Int32) (x6 : Int32) (M : dM) {Q : mz_P} {o : (Int32 ⊕ (Unit ⊕ (Bool × dM)))} (hf : b_mo_here_63_63 x1 x2 x3 x4 x5 x6 M = some o) (hk : K_mo_here_63 Q x1 x2 x3 x4 x5 M o) : mW mX12_here 2 Q 63 [some (.ref 66), some (.int x1), some (.int x2), some (.int x3), some (.int x4), some (.int x5), some (.int x6)] [] M := by
  unfold b_mo_here_63_63 at hf
  refine y_iload (i := 6) (n := 65) ⟨dX12_here_63, rfl⟩ rfl ?_
  refine y_aload_n (i := 0) (n := 66) ⟨dX12_here_65, rfl⟩ rfl ?_
  refine y_getI (n := 69) ⟨dX12_here_66, rfl⟩ kfX12_228 l_66 rfl ?_
  refine y_icmp_ge (t := 137) (n := 72) ⟨dX12_here_69, rfl, rfl⟩ (fun (hc : (gI M 66 3) ≤ x6) => ?_) (fun (hc : ¬ ((gI M 66 3) ≤ x6)) => ?_)
  · replace hf := i_t hc hf
    cases hf
    exact y_wk ⟨Or.inr rfl, Or.inr rfl, Or.inr rfl, Or.inr rfl, Or.inr rfl, Or.inr rfl, Or.inl rfl, trivial⟩ hk
  · replace hf := i_f hc hf
    refine y_aload_n (i := 0) (n := 73) ⟨dX12_here_72, rfl⟩ rfl ?_
    refine y_getR (n := 76) ⟨dX12_here_73, rfl⟩ kfX12_16 l_66 rfl r_66_4 ?_
    refine y_iload (i := 6) (n := 78) ⟨dX12_here_76, rfl⟩ rfl ?_
    obtain ⟨hg1, hf⟩ := g_s hf
    refine y_iaload (n := 79) ⟨dX12_here_78, rfl⟩ l_69 hg1 ?_
    refine y_iload_n (i := 1) (n := 80) ⟨dX12_here_79, rfl⟩ rfl ?_
    refine y_icmp_ne (t := 131) (n := 83) ⟨dX12_here_80, rfl, rfl⟩ (fun (hc : ¬ ((gI M 69 x6.toNatClampNeg) = x1)) => ?_) (fun (hc : (gI M 69 x6.toNatClampNeg) = x1) => ?_)
    · replace hf := i_f hc hf
      refine y_iinc (i := 6) (n := 134) (b := (x6 + 1)) (L2 := [some (.ref 66), some (.int x1), some (.int x2), some (.int x3), some (.int x4), some (.int x5), some (.int (x6 + 1))]) ⟨dX12_here_131, rfl⟩ rfl (by rw [ki_1]) (by decide) rfl rfl ?_
      refine y_goto (t := 63) ⟨dX12_here_134, rfl, rfl⟩ ?_
      cases hf
      exact y_wk ⟨Or.inr rfl, Or.inr rfl, Or.inr rfl, Or.inr rfl, Or.inr rfl, Or.inr rfl, Or.inr rfl, trivial⟩ hk
    · replace hf := i_t hc hf
      refine y_aload_n (i := 0) (n := 84) ⟨dX12_here_83, rfl⟩ rfl ?_
      refine y_getR (n := 87) ⟨dX12_here_84, rfl⟩ kfX12_22 l_66 rfl r_66_6 ?_
      refine y_iload (i := 6) (n := 89) ⟨dX12_here_87, rfl⟩ rfl ?_
      refine y_iaload (n := 90) ⟨dX12_here_89, rfl⟩ l_71 hg1 ?_
      refine y_iload_n (i := 3) (n := 91) ⟨dX12_here_90, rfl⟩ rfl ?_
      refine y_icmp_ne (t := 131) (n := 94) ⟨dX12_here_91, rfl, rfl⟩ (fun (hc : ¬ ((gI M 71 x6.toNatClampNeg) = x3)) => ?_) (fun (hc : (gI M 71 x6.toNatClampNeg) = x3) => ?_)
      · replace hf := i_f hc hf
        refine y_iinc (i := 6) (n := 134) (b := (x6 + 1)) (L2 := [some (.ref 66), some (.int x1), some (.int x2), some (.int x3), some (.int x4), some (.int x5), some (.int (x6 + 1))]) ⟨dX12_here_131, rfl⟩ rfl (by rw [ki_1]) (by decide) rfl rfl ?_
        refine y_goto (t := 63) ⟨dX12_here_134, rfl, rfl⟩ ?_
        cases hf
        exact y_wk ⟨Or.inr rfl, Or.inr rfl, Or.inr rfl, Or.inr rfl, Or.inr rfl, Or.inr rfl, Or.inr rfl, trivial⟩ hk
      · replace hf := i_t hc hf
        refine y_aload_n (i := 0) (n := 95) ⟨dX12_here_94, rfl⟩ rfl ?_
        refine y_getR (n := 98) ⟨dX12_here_95, rfl⟩ kfX12_19 l_66 rfl r_66_5 ?_
        refine y_iload (i := 6) (n := 100) ⟨dX12_here_98, rfl⟩ rfl ?_
        refine y_iaload (n := 101) ⟨dX12_here_100, rfl⟩ l_70 hg1 ?_
        refine y_iload_n (i := 2) (n := 102) ⟨dX12_here_101, rfl⟩ rfl ?_
        refine y_icmp_eq (t := 131) (n := 105) ⟨dX12_here_102, rfl, rfl⟩ (fun (hc : (gI M 70 x6.toNatClampNeg) = x2) => ?_) (fun (hc : ¬ ((gI M 70 x6.toNatClampNeg) = x2)) => ?_)
        · replace hf := i_t hc hf
          refine y_iinc (i := 6) (n := 134) (b := (x6 + 1)) (L2 := [some (.ref 66), some (.int x1), some (.int x2), some (.int x3), some (.int x4), some (.int x5), some (.int (x6 + 1))]) ⟨dX12_here_131, rfl⟩ rfl (by rw [ki_1]) (by decide) rfl rfl ?_
          refine y_goto (t := 63) ⟨dX12_here_134, rfl, rfl⟩ ?_
          cases hf
          exact y_wk ⟨Or.inr rfl, Or.inr rfl, Or.inr rfl, Or.inr rfl, Or.inr rfl, Or.inr rfl, Or.inr rfl, trivial⟩ hk
        · replace hf := i_f hc hf
          refine y_aload_n (i := 0) (n := 106) ⟨dX12_here_105, rfl⟩ rfl ?_
          refine y_getR (n := 109) ⟨dX12_here_106, rfl⟩ kfX12_25 l_66 rfl r_66_7 ?_
          refine y_iload (i := 6) (n := 111) ⟨dX12_here_109, rfl⟩ rfl ?_
          refine y_iaload (n := 112) ⟨dX12_here_111, rfl⟩ l_72 hg1 ?_
          refine y_iload (i := 5) (n := 114) ⟨dX12_here_112, rfl⟩ rfl ?_
          refine y_icmp_gt (t := 131) (n := 117) ⟨dX12_here_114, rfl, rfl⟩ (fun (hc : x5 < (gI M 72 x6.toNatClampNeg)) => ?_) (fun (hc : ¬ (x5 < (gI M 72 x6.toNatClampNeg))) => ?_)
          · replace hf := i_t hc hf
            refine y_iinc (i := 6) (n := 134) (b := (x6 + 1)) (L2 := [some (.ref 66), some (.int x1), some (.int x2), some (.int x3), some (.int x4), some (.int x5), some (.int (x6 + 1))]) ⟨dX12_here_131, rfl⟩ rfl (by rw [ki_1]) (by decide) rfl rfl ?_
            refine y_goto (t := 63) ⟨dX12_here_134, rfl, rfl⟩ ?_
            cases hf
            exact y_wk ⟨Or.inr rfl, Or.inr rfl, Or.inr rfl, Or.inr rfl, Or.inr rfl, Or.inr rfl, Or.inr rfl, trivial⟩ hk
          · replace hf := i_f hc hf
            refine y_aload_n (i := 0) (n := 118) ⟨dX12_here_117, rfl⟩ rfl ?_
            refine y_getR (n := 121) ⟨dX12_here_118, rfl⟩ kfX12_28 l_66 rfl r_66_8 ?_
            refine y_iload (i := 6) (n := 123) ⟨dX12_here_121, rfl⟩ rfl ?_
            refine y_iaload (n := 124) ⟨dX12_here_123, rfl⟩ l_73 hg1 ?_
            refine y_iload (i := 4) (n := 126) ⟨dX12_here_124, rfl⟩ rfl ?_
            refine y_icmp_lt (t := 131) (n := 129) ⟨dX12_here_126, rfl, rfl⟩ (fun (hc : (gI M 73 x6.toNatClampNeg) < x4) => ?_) (fun (hc : ¬ ((gI M 73 x6.toNatClampNeg) < x4)) => ?_)
            · replace hf := i_t hc hf
              refine y_iinc (i := 6) (n := 134) (b := (x6 + 1)) (L2 := [some (.ref 66), some (.int x1), some (.int x2), some (.int x3), some (.int x4), some (.int x5), some (.int (x6 + 1))]) ⟨dX12_here_131, rfl⟩ rfl (by rw [ki_1]) (by decide) rfl rfl ?_
              refine y_goto (t := 63) ⟨dX12_here_134, rfl, rfl⟩ ?_
              cases hf
              exact y_wk ⟨Or.inr rfl, Or.inr rfl, Or.inr rfl, Or.inr rfl, Or.inr rfl, Or.inr rfl, Or.inr rfl, trivial⟩ hk
            · replace hf := i_f hc hf
              refine y_iconst (n := 130) (v := 0) ⟨dX12_here_129, rfl⟩ ki_0 ?_
              cases hf
              exact y_ireturn (n := 131) ⟨dX12_here_130, rfl⟩ rfl rfl hk
theorem wl_mo_here_63 (x1 : Int32) (x2 : Int32) (x3 : Int32) (x4 : Int32) (x5 : Int32) (x6 : Int32) (M : dM) {Q : mz_P} {x : (Unit ⊕ (Bool × dM))} (hf : l_mo_here_63 x1 x2 x3 x4 x5 x6 M = some x) (hk : K_mo_here_63 Q x1 x2 x3 x4 x5 M (.inr x)) : mW mX12_here 2 Q 63 [some (.ref 66), some (.int x1), some (.int x2), some (.int x3), some (.int x4), some (.int x5), some (.int x6)] [] M :=
  lpc_wp (Wh := fun s => mW mX12_here 2 Q 63 [some (.ref 66), some (.int x1), some (.int x2), some (.int x3), some (.int x4), some (.int x5), some (.int s)] [] M) (K := K_mo_here_63 Q x1 x2 x3 x4 x5 M) (fun _ h => h) (fun s o hb hk => w_b_mo_here_63_63 x1 x2 x3 x4 x5 s M hb hk) hf hk
theorem ok_mo_here (a1 : Int32) (a2 : Int32) (a3 : Int32) (a4 : Int32) (a5 : Int32) (M : dM) {o : (Bool × dM)} (hf : f_mo_here a1 a2 a3 a4 a5 M = some o) : mO mX12_here 2 [.ref 66, .int a1, .int a2, .int a3, .int a4, .int a5] M (some (.int (bI o.1))) o.2 := by
  refine y_ok (by decide +kernel) (by decide) (L0 := [some (.ref 66), some (.int a1), some (.int a2), some (.int a3), some (.int a4), some (.int a5), none]) rfl ?_
  have hk := mR_mQ (some (.int (bI o.1))) o.2
  generalize mQ _ _ = Q at hk ⊢
  unfold f_mo_here at hf
  refine y_aload_n (i := 0) (n := 1) ⟨dX12_here_0, rfl⟩ rfl ?_
  refine y_iconst (n := 2) (v := 0) ⟨dX12_here_1, rfl⟩ ki_0 ?_
  refine y_putI (n := 5) ⟨dX12_here_2, rfl⟩ kfX12_214 l_66 (by decide +kernel) rfl ?_
  refine y_iload_n (i := 1) (n := 6) ⟨dX12_here_5, rfl⟩ rfl ?_
  refine c_mo_isHand a1 (sI M 66 0 0) (n := 9) ⟨dX12_here_6, rfl⟩ klX12_225 rfl (by decide) (Nat.le_of_ble_eq_true rfl) rfl rfl ?_
  refine y_if_eq (t := 58) (n := 12) ⟨dX12_here_9, rfl, rfl⟩ (fun h0 => ?_) (fun h0 => ?_)
  · have hc := bI_0 h0
    replace hf := i_f hc hf
    refine y_iconst (n := 59) (v := 0) ⟨dX12_here_58, rfl⟩ ki_0 ?_
    cases hf
    exact y_ireturn (n := 60) ⟨dX12_here_59, rfl⟩ rfl rfl hk
  · have hc := bI_1 h0
    replace hf := i_t hc hf
    refine y_iload_n (i := 2) (n := 13) ⟨dX12_here_12, rfl⟩ rfl ?_
    refine c_mo_isSite a2 (sI M 66 0 0) (n := 16) ⟨dX12_here_13, rfl⟩ klX12_217 rfl (by decide) (Nat.le_of_ble_eq_true rfl) rfl rfl ?_
    refine y_if_eq (t := 58) (n := 19) ⟨dX12_here_16, rfl, rfl⟩ (fun h0 => ?_) (fun h0 => ?_)
    · have hc := bI_0 h0
      replace hf := i_f hc hf
      refine y_iconst (n := 59) (v := 0) ⟨dX12_here_58, rfl⟩ ki_0 ?_
      cases hf
      exact y_ireturn (n := 60) ⟨dX12_here_59, rfl⟩ rfl rfl hk
    · have hc := bI_1 h0
      replace hf := i_t hc hf
      refine y_iload_n (i := 3) (n := 20) ⟨dX12_here_19, rfl⟩ rfl ?_
      refine y_iconst (n := 21) (v := 0) ⟨dX12_here_20, rfl⟩ ki_0 ?_
      refine y_sipush (n := 24) (v := 999) ⟨dX12_here_21, rfl⟩ ks_999 ?_
      refine c_mo_within a3 0 999 (sI M 66 0 0) (n := 27) ⟨dX12_here_24, rfl⟩ klX12_221 rfl (by decide) (Nat.le_of_ble_eq_true rfl) rfl rfl ?_
      refine y_if_eq (t := 58) (n := 30) ⟨dX12_here_27, rfl, rfl⟩ (fun h0 => ?_) (fun h0 => ?_)
      · have hc := bI_0 h0
        replace hf := i_f hc hf
        refine y_iconst (n := 59) (v := 0) ⟨dX12_here_58, rfl⟩ ki_0 ?_
        cases hf
        exact y_ireturn (n := 60) ⟨dX12_here_59, rfl⟩ rfl rfl hk
      · have hc := bI_1 h0
        replace hf := i_t hc hf
        refine y_iload (i := 4) (n := 32) ⟨dX12_here_30, rfl⟩ rfl ?_
        refine y_if_lt (t := 58) (n := 35) ⟨dX12_here_32, rfl, rfl⟩ (fun (hc : a4 < 0) => ?_) (fun (hc : ¬ (a4 < 0)) => ?_)
        · replace hf := i_t hc hf
          refine y_iconst (n := 59) (v := 0) ⟨dX12_here_58, rfl⟩ ki_0 ?_
          cases hf
          exact y_ireturn (n := 60) ⟨dX12_here_59, rfl⟩ rfl rfl hk
        · replace hf := i_f hc hf
          refine y_iload (i := 4) (n := 37) ⟨dX12_here_35, rfl⟩ rfl ?_
          refine y_iload (i := 5) (n := 39) ⟨dX12_here_37, rfl⟩ rfl ?_
          refine y_icmp_gt (t := 58) (n := 42) ⟨dX12_here_39, rfl, rfl⟩ (fun (hc : a5 < a4) => ?_) (fun (hc : ¬ (a5 < a4)) => ?_)
          · replace hf := i_t hc hf
            refine y_iconst (n := 59) (v := 0) ⟨dX12_here_58, rfl⟩ ki_0 ?_
            cases hf
            exact y_ireturn (n := 60) ⟨dX12_here_59, rfl⟩ rfl rfl hk
          · replace hf := i_f hc hf
            refine y_iload (i := 5) (n := 44) ⟨dX12_here_42, rfl⟩ rfl ?_
            refine y_bipush (n := 46) (v := 23) ⟨dX12_here_44, rfl⟩ kb_23 ?_
            refine y_icmp_gt (t := 58) (n := 49) ⟨dX12_here_46, rfl, rfl⟩ (fun (hc : 23 < a5) => ?_) (fun (hc : ¬ (23 < a5)) => ?_)
            · replace hf := i_t hc hf
              refine y_iconst (n := 59) (v := 0) ⟨dX12_here_58, rfl⟩ ki_0 ?_
              cases hf
              exact y_ireturn (n := 60) ⟨dX12_here_59, rfl⟩ rfl rfl hk
            · replace hf := i_f hc hf
              refine y_aload_n (i := 0) (n := 50) ⟨dX12_here_49, rfl⟩ rfl ?_
              refine y_getI (n := 53) ⟨dX12_here_50, rfl⟩ kfX12_228 l_66 rfl ?_
              refine y_bipush (n := 55) (v := 80) ⟨dX12_here_53, rfl⟩ kb_80 ?_
              refine y_icmp_ne (t := 60) (n := 58) ⟨dX12_here_55, rfl, rfl⟩ (fun (hc : ¬ ((gI (sI M 66 0 0) 66 3) = 80)) => ?_) (fun (hc : (gI (sI M 66 0 0) 66 3) = 80) => ?_)
              · replace hf := i_f hc hf
                refine y_iconst (n := 61) (v := 0) ⟨dX12_here_60, rfl⟩ ki_0 ?_
                refine y_istore (i := 6) (n := 63) (L2 := [some (.ref 66), some (.int a1), some (.int a2), some (.int a3), some (.int a4), some (.int a5), some (.int 0)]) ⟨dX12_here_61, rfl⟩ (by decide) rfl rfl ?_
                obtain ⟨z10, hl3, hf⟩ := b_s hf
                refine y_wk ⟨Or.inr rfl, Or.inr rfl, Or.inr rfl, Or.inr rfl, Or.inr rfl, Or.inr rfl, Or.inr rfl, trivial⟩ (wl_mo_here_63 a1 a2 a3 a4 a5 0 (sI M 66 0 0) hl3 ?_)
                rcases z10 with t2 | r4
                · show mW mX12_here 2 Q 137 [some (.ref 66), some (.int a1), some (.int a2), some (.int a3), some (.int a4), some (.int a5), none] [] (sI M 66 0 0)
                  refine y_aload_n (i := 0) (n := 138) ⟨dX12_here_137, rfl⟩ rfl ?_
                  refine y_getR (n := 141) ⟨dX12_here_138, rfl⟩ kfX12_16 l_66 rfl r_66_4 ?_
                  refine y_aload_n (i := 0) (n := 142) ⟨dX12_here_141, rfl⟩ rfl ?_
                  refine y_getI (n := 145) ⟨dX12_here_142, rfl⟩ kfX12_228 l_66 rfl ?_
                  refine y_iload_n (i := 1) (n := 146) ⟨dX12_here_145, rfl⟩ rfl ?_
                  obtain ⟨hg5, hf⟩ := g_s hf
                  refine y_iastore (n := 147) ⟨dX12_here_146, rfl⟩ l_69 hg5 ?_
                  refine y_aload_n (i := 0) (n := 148) ⟨dX12_here_147, rfl⟩ rfl ?_
                  refine y_getR (n := 151) ⟨dX12_here_148, rfl⟩ kfX12_19 l_66 rfl r_66_5 ?_
                  refine y_aload_n (i := 0) (n := 152) ⟨dX12_here_151, rfl⟩ rfl ?_
                  refine y_getI (n := 155) ⟨dX12_here_152, rfl⟩ kfX12_228 l_66 rfl ?_
                  refine y_iload_n (i := 2) (n := 156) ⟨dX12_here_155, rfl⟩ rfl ?_
                  obtain ⟨hg6, hf⟩ := g_s hf
                  refine y_iastore (n := 157) ⟨dX12_here_156, rfl⟩ l_70 hg6 ?_
                  refine y_aload_n (i := 0) (n := 158) ⟨dX12_here_157, rfl⟩ rfl ?_
                  refine y_getR (n := 161) ⟨dX12_here_158, rfl⟩ kfX12_22 l_66 rfl r_66_6 ?_
                  refine y_aload_n (i := 0) (n := 162) ⟨dX12_here_161, rfl⟩ rfl ?_
                  refine y_getI (n := 165) ⟨dX12_here_162, rfl⟩ kfX12_228 l_66 rfl ?_
                  refine y_iload_n (i := 3) (n := 166) ⟨dX12_here_165, rfl⟩ rfl ?_
                  obtain ⟨hg7, hf⟩ := g_s hf
                  refine y_iastore (n := 167) ⟨dX12_here_166, rfl⟩ l_71 hg7 ?_
                  refine y_aload_n (i := 0) (n := 168) ⟨dX12_here_167, rfl⟩ rfl ?_
                  refine y_getR (n := 171) ⟨dX12_here_168, rfl⟩ kfX12_25 l_66 rfl r_66_7 ?_
                  refine y_aload_n (i := 0) (n := 172) ⟨dX12_here_171, rfl⟩ rfl ?_
                  refine y_getI (n := 175) ⟨dX12_here_172, rfl⟩ kfX12_228 l_66 rfl ?_
                  refine y_iload (i := 4) (n := 177) ⟨dX12_here_175, rfl⟩ rfl ?_
                  obtain ⟨hg8, hf⟩ := g_s hf
                  refine y_iastore (n := 178) ⟨dX12_here_177, rfl⟩ l_72 hg8 ?_
                  refine y_aload_n (i := 0) (n := 179) ⟨dX12_here_178, rfl⟩ rfl ?_
                  refine y_getR (n := 182) ⟨dX12_here_179, rfl⟩ kfX12_28 l_66 rfl r_66_8 ?_
                  refine y_aload_n (i := 0) (n := 183) ⟨dX12_here_182, rfl⟩ rfl ?_
                  refine y_getI (n := 186) ⟨dX12_here_183, rfl⟩ kfX12_228 l_66 rfl ?_
                  refine y_iload (i := 5) (n := 188) ⟨dX12_here_186, rfl⟩ rfl ?_
                  obtain ⟨hg9, hf⟩ := g_s hf
                  refine y_iastore (n := 189) ⟨dX12_here_188, rfl⟩ l_73 hg9 ?_
                  refine y_aload_n (i := 0) (n := 190) ⟨dX12_here_189, rfl⟩ rfl ?_
                  refine y_dup_r (n := 191) ⟨dX12_here_190, rfl⟩ ?_
                  refine y_getI (n := 194) ⟨dX12_here_191, rfl⟩ kfX12_228 l_66 rfl ?_
                  refine y_iconst (n := 195) (v := 1) ⟨dX12_here_194, rfl⟩ ki_1 ?_
                  refine y_iadd (n := 196) ⟨dX12_here_195, rfl⟩ ?_
                  refine y_putI (n := 199) ⟨dX12_here_196, rfl⟩ kfX12_228 l_66 (by decide +kernel) rfl ?_
                  refine y_iconst (n := 200) (v := 1) ⟨dX12_here_199, rfl⟩ ki_1 ?_
                  cases hf
                  exact y_ireturn (n := 201) ⟨dX12_here_200, rfl⟩ rfl rfl hk
                · cases hf
                  exact hk
              · replace hf := i_t hc hf
                refine y_iconst (n := 59) (v := 0) ⟨dX12_here_58, rfl⟩ ki_0 ?_
                cases hf
                exact y_ireturn (n := 60) ⟨dX12_here_59, rfl⟩ rfl rfl hk
theorem c_mo_here (a1 : Int32) (a2 : Int32) (a3 : Int32) (a4 : Int32) (a5 : Int32) (M : dM) {o : (Bool × dM)} {y : mz_M} {d : Nat} {Q : mz_P} {pc n i : Nat} {L : List (Option Value)} {st : List Value} (h : mz_d y.2.1 pc n 3 (.invokevirtual i)) (hl : mz_ml y.1.cls i yX12_here) (hf : f_mo_here a1 a2 a3 a4 a5 M = some o) (hd : 2 + 1 ≤ d) (hsm : (st.map (fun v => v.category)).sum ≤ 8) (hLr : mz_rL 133 L = true) (hSr : mz_rS 133 st = true) (kk : mW y d Q n L (.int (bI o.1) :: st) o.2) : mW y d Q pc L (.int a5 :: .int a4 :: .int a3 :: .int a2 :: .int a1 :: .ref 66 :: st) M :=
  y_callV kmX12_here kvX12_here l_66 (by decide +kernel) (by decide +kernel) h hl (ok_mo_here a1 a2 a3 a4 a5 M hf) (vs := [.int a1, .int a2, .int a3, .int a4, .int a5]) rfl rfl hd hsm hLr hSr kk
def K_mo_presentAt_6 (Q : mz_P) (x1 : Int32) (x2 : Int32) (x3 : Int32) (M : dM) : ((Int32 × Int32) ⊕ Int32) → Prop
  | .inl s => mW mX12_presentAt 1 Q 6 [some (.ref 66), some (.int x1), some (.int x2), some (.int x3), some (.int s.1), some (.int s.2)] [] M
  | .inr r => mR Q (some (.int r)) M
noncomputable def b_mo_presentAt_6_6 (x1 : Int32) (x2 : Int32) (x3 : Int32) (x4 : Int32) (x5 : Int32) (M : dM) : Option ((Int32 × Int32) ⊕ Int32) :=
  if (gI M 66 3) ≤ x5 then
    some (.inr x4)
  else
    gd (vp_in x5 80) <|
    if (gI M 70 x5.toNatClampNeg) = x1 then
      if (gI M 71 x5.toNatClampNeg) = x2 then
        if x3 < (gI M 72 x5.toNatClampNeg) then
          some (.inl (x4, (x5 + 1)))
        else
          if (gI M 73 x5.toNatClampNeg) < x3 then
            some (.inl (x4, (x5 + 1)))
          else
            some (.inl ((x4 ||| ((1 : Int32) <<< ((gI M 69 x5.toNatClampNeg) &&& 31))), (x5 + 1)))
      else
        some (.inl (x4, (x5 + 1)))
    else
      some (.inl (x4, (x5 + 1)))
noncomputable def l_mo_presentAt_6 (x1 : Int32) (x2 : Int32) (x3 : Int32) (x4 : Int32) (x5 : Int32) (M : dM) : Option Int32 := lpc (fun s => b_mo_presentAt_6_6 x1 x2 x3 s.1 s.2 M) (x4, x5)
noncomputable def f_mo_presentAt (a1 : Int32) (a2 : Int32) (a3 : Int32) (M : dM) : Option Int32 :=
  (l_mo_presentAt_6 a1 a2 a3 0 0 M).bind fun r4 => some r4
theorem w_b_mo_presentAt_6_6 (x1 : Int32) (x2 : Int32) (x3 : Int32) (x4 : Int32) (x5 : Int32) (M : dM) {Q : mz_P} {o : ((Int32 × Int32) ⊕ Int32)} (hf : b_mo_presentAt_6_6 x1 x2 x3 x4 x5 M = some o) (hk : K_mo_presentAt_6 Q x1 x2 x3 M o) : mW mX12_presentAt 1 Q 6 [some (.ref 66), some (.int x1), some (.int x2), some (.int x3), some (.int x4), some (.int x5)] [] M := by
  unfold b_mo_presentAt_6_6 at hf
  refine y_iload (i := 5) (n := 8) ⟨dX12_presentAt_6, rfl⟩ rfl ?_
  refine y_aload_n (i := 0) (n := 9) ⟨dX12_presentAt_8, rfl⟩ rfl ?_
  refine y_getI (n := 12) ⟨dX12_presentAt_9, rfl⟩ kfX12_228 l_66 rfl ?_
  refine y_icmp_ge (t := 79) (n := 15) ⟨dX12_presentAt_12, rfl, rfl⟩ (fun (hc : (gI M 66 3) ≤ x5) => ?_) (fun (hc : ¬ ((gI M 66 3) ≤ x5)) => ?_)
  · replace hf := i_t hc hf
    refine y_iload (i := 4) (n := 81) ⟨dX12_presentAt_79, rfl⟩ rfl ?_
    cases hf
    exact y_ireturn (n := 82) ⟨dX12_presentAt_81, rfl⟩ rfl rfl hk
  · replace hf := i_f hc hf
    refine y_aload_n (i := 0) (n := 16) ⟨dX12_presentAt_15, rfl⟩ rfl ?_
    refine y_getR (n := 19) ⟨dX12_presentAt_16, rfl⟩ kfX12_19 l_66 rfl r_66_5 ?_
    refine y_iload (i := 5) (n := 21) ⟨dX12_presentAt_19, rfl⟩ rfl ?_
    obtain ⟨hg1, hf⟩ := g_s hf
    refine y_iaload (n := 22) ⟨dX12_presentAt_21, rfl⟩ l_70 hg1 ?_
    refine y_iload_n (i := 1) (n := 23) ⟨dX12_presentAt_22, rfl⟩ rfl ?_
    refine y_icmp_ne (t := 73) (n := 26) ⟨dX12_presentAt_23, rfl, rfl⟩ (fun (hc : ¬ ((gI M 70 x5.toNatClampNeg) = x1)) => ?_) (fun (hc : (gI M 70 x5.toNatClampNeg) = x1) => ?_)
    · replace hf := i_f hc hf
      refine y_iinc (i := 5) (n := 76) (b := (x5 + 1)) (L2 := [some (.ref 66), some (.int x1), some (.int x2), some (.int x3), some (.int x4), some (.int (x5 + 1))]) ⟨dX12_presentAt_73, rfl⟩ rfl (by rw [ki_1]) (by decide) rfl rfl ?_
      refine y_goto (t := 6) ⟨dX12_presentAt_76, rfl, rfl⟩ ?_
      cases hf
      exact y_wk ⟨Or.inr rfl, Or.inr rfl, Or.inr rfl, Or.inr rfl, Or.inr rfl, Or.inr rfl, trivial⟩ hk
    · replace hf := i_t hc hf
      refine y_aload_n (i := 0) (n := 27) ⟨dX12_presentAt_26, rfl⟩ rfl ?_
      refine y_getR (n := 30) ⟨dX12_presentAt_27, rfl⟩ kfX12_22 l_66 rfl r_66_6 ?_
      refine y_iload (i := 5) (n := 32) ⟨dX12_presentAt_30, rfl⟩ rfl ?_
      refine y_iaload (n := 33) ⟨dX12_presentAt_32, rfl⟩ l_71 hg1 ?_
      refine y_iload_n (i := 2) (n := 34) ⟨dX12_presentAt_33, rfl⟩ rfl ?_
      refine y_icmp_ne (t := 73) (n := 37) ⟨dX12_presentAt_34, rfl, rfl⟩ (fun (hc : ¬ ((gI M 71 x5.toNatClampNeg) = x2)) => ?_) (fun (hc : (gI M 71 x5.toNatClampNeg) = x2) => ?_)
      · replace hf := i_f hc hf
        refine y_iinc (i := 5) (n := 76) (b := (x5 + 1)) (L2 := [some (.ref 66), some (.int x1), some (.int x2), some (.int x3), some (.int x4), some (.int (x5 + 1))]) ⟨dX12_presentAt_73, rfl⟩ rfl (by rw [ki_1]) (by decide) rfl rfl ?_
        refine y_goto (t := 6) ⟨dX12_presentAt_76, rfl, rfl⟩ ?_
        cases hf
        exact y_wk ⟨Or.inr rfl, Or.inr rfl, Or.inr rfl, Or.inr rfl, Or.inr rfl, Or.inr rfl, trivial⟩ hk
      · replace hf := i_t hc hf
        refine y_aload_n (i := 0) (n := 38) ⟨dX12_presentAt_37, rfl⟩ rfl ?_
        refine y_getR (n := 41) ⟨dX12_presentAt_38, rfl⟩ kfX12_25 l_66 rfl r_66_7 ?_
        refine y_iload (i := 5) (n := 43) ⟨dX12_presentAt_41, rfl⟩ rfl ?_
        refine y_iaload (n := 44) ⟨dX12_presentAt_43, rfl⟩ l_72 hg1 ?_
        refine y_iload_n (i := 3) (n := 45) ⟨dX12_presentAt_44, rfl⟩ rfl ?_
        refine y_icmp_gt (t := 73) (n := 48) ⟨dX12_presentAt_45, rfl, rfl⟩ (fun (hc : x3 < (gI M 72 x5.toNatClampNeg)) => ?_) (fun (hc : ¬ (x3 < (gI M 72 x5.toNatClampNeg))) => ?_)
        · replace hf := i_t hc hf
          refine y_iinc (i := 5) (n := 76) (b := (x5 + 1)) (L2 := [some (.ref 66), some (.int x1), some (.int x2), some (.int x3), some (.int x4), some (.int (x5 + 1))]) ⟨dX12_presentAt_73, rfl⟩ rfl (by rw [ki_1]) (by decide) rfl rfl ?_
          refine y_goto (t := 6) ⟨dX12_presentAt_76, rfl, rfl⟩ ?_
          cases hf
          exact y_wk ⟨Or.inr rfl, Or.inr rfl, Or.inr rfl, Or.inr rfl, Or.inr rfl, Or.inr rfl, trivial⟩ hk
        · replace hf := i_f hc hf
          refine y_aload_n (i := 0) (n := 49) ⟨dX12_presentAt_48, rfl⟩ rfl ?_
          refine y_getR (n := 52) ⟨dX12_presentAt_49, rfl⟩ kfX12_28 l_66 rfl r_66_8 ?_
          refine y_iload (i := 5) (n := 54) ⟨dX12_presentAt_52, rfl⟩ rfl ?_
          refine y_iaload (n := 55) ⟨dX12_presentAt_54, rfl⟩ l_73 hg1 ?_
          refine y_iload_n (i := 3) (n := 56) ⟨dX12_presentAt_55, rfl⟩ rfl ?_
          refine y_icmp_lt (t := 73) (n := 59) ⟨dX12_presentAt_56, rfl, rfl⟩ (fun (hc : (gI M 73 x5.toNatClampNeg) < x3) => ?_) (fun (hc : ¬ ((gI M 73 x5.toNatClampNeg) < x3)) => ?_)
          · replace hf := i_t hc hf
            refine y_iinc (i := 5) (n := 76) (b := (x5 + 1)) (L2 := [some (.ref 66), some (.int x1), some (.int x2), some (.int x3), some (.int x4), some (.int (x5 + 1))]) ⟨dX12_presentAt_73, rfl⟩ rfl (by rw [ki_1]) (by decide) rfl rfl ?_
            refine y_goto (t := 6) ⟨dX12_presentAt_76, rfl, rfl⟩ ?_
            cases hf
            exact y_wk ⟨Or.inr rfl, Or.inr rfl, Or.inr rfl, Or.inr rfl, Or.inr rfl, Or.inr rfl, trivial⟩ hk
          · replace hf := i_f hc hf
            refine y_iload (i := 4) (n := 61) ⟨dX12_presentAt_59, rfl⟩ rfl ?_
            refine y_iconst (n := 62) (v := 1) ⟨dX12_presentAt_61, rfl⟩ ki_1 ?_
            refine y_aload_n (i := 0) (n := 63) ⟨dX12_presentAt_62, rfl⟩ rfl ?_
            refine y_getR (n := 66) ⟨dX12_presentAt_63, rfl⟩ kfX12_16 l_66 rfl r_66_4 ?_
            refine y_iload (i := 5) (n := 68) ⟨dX12_presentAt_66, rfl⟩ rfl ?_
            refine y_iaload (n := 69) ⟨dX12_presentAt_68, rfl⟩ l_69 hg1 ?_
            refine y_ishl (n := 70) ⟨dX12_presentAt_69, rfl⟩ ?_
            refine y_ior (n := 71) ⟨dX12_presentAt_70, rfl⟩ ?_
            refine y_istore (i := 4) (n := 73) (L2 := [some (.ref 66), some (.int x1), some (.int x2), some (.int x3), some (.int (x4 ||| ((1 : Int32) <<< ((gI M 69 x5.toNatClampNeg) &&& 31)))), some (.int x5)]) ⟨dX12_presentAt_71, rfl⟩ (by decide) rfl rfl ?_
            refine y_iinc (i := 5) (n := 76) (b := (x5 + 1)) (L2 := [some (.ref 66), some (.int x1), some (.int x2), some (.int x3), some (.int (x4 ||| ((1 : Int32) <<< ((gI M 69 x5.toNatClampNeg) &&& 31)))), some (.int (x5 + 1))]) ⟨dX12_presentAt_73, rfl⟩ rfl (by rw [ki_1]) (by decide) rfl rfl ?_
            refine y_goto (t := 6) ⟨dX12_presentAt_76, rfl, rfl⟩ ?_
            cases hf
            exact y_wk ⟨Or.inr rfl, Or.inr rfl, Or.inr rfl, Or.inr rfl, Or.inr rfl, Or.inr rfl, trivial⟩ hk
theorem wl_mo_presentAt_6 (x1 : Int32) (x2 : Int32) (x3 : Int32) (x4 : Int32) (x5 : Int32) (M : dM) {Q : mz_P} {x : Int32} (hf : l_mo_presentAt_6 x1 x2 x3 x4 x5 M = some x) (hk : K_mo_presentAt_6 Q x1 x2 x3 M (.inr x)) : mW mX12_presentAt 1 Q 6 [some (.ref 66), some (.int x1), some (.int x2), some (.int x3), some (.int x4), some (.int x5)] [] M :=
  lpc_wp (Wh := fun s => mW mX12_presentAt 1 Q 6 [some (.ref 66), some (.int x1), some (.int x2), some (.int x3), some (.int s.1), some (.int s.2)] [] M) (K := K_mo_presentAt_6 Q x1 x2 x3 M) (fun _ h => h) (fun s o hb hk => w_b_mo_presentAt_6_6 x1 x2 x3 s.1 s.2 M hb hk) hf hk
theorem ok_mo_presentAt (a1 : Int32) (a2 : Int32) (a3 : Int32) (M : dM) {o : Int32} (hf : f_mo_presentAt a1 a2 a3 M = some o) : mO mX12_presentAt 1 [.ref 66, .int a1, .int a2, .int a3] M (some (.int o)) M := by
  refine y_ok (by decide +kernel) (by decide) (L0 := [some (.ref 66), some (.int a1), some (.int a2), some (.int a3), none, none]) rfl ?_
  have hk := mR_mQ (some (.int o)) M
  generalize mQ _ _ = Q at hk ⊢
  unfold f_mo_presentAt at hf
  refine y_iconst (n := 1) (v := 0) ⟨dX12_presentAt_0, rfl⟩ ki_0 ?_
  refine y_istore (i := 4) (n := 3) (L2 := [some (.ref 66), some (.int a1), some (.int a2), some (.int a3), some (.int 0), none]) ⟨dX12_presentAt_1, rfl⟩ (by decide) rfl rfl ?_
  refine y_iconst (n := 4) (v := 0) ⟨dX12_presentAt_3, rfl⟩ ki_0 ?_
  refine y_istore (i := 5) (n := 6) (L2 := [some (.ref 66), some (.int a1), some (.int a2), some (.int a3), some (.int 0), some (.int 0)]) ⟨dX12_presentAt_4, rfl⟩ (by decide) rfl rfl ?_
  obtain ⟨r4, hl3, hf⟩ := b_s hf
  cases hf
  exact y_wk ⟨Or.inr rfl, Or.inr rfl, Or.inr rfl, Or.inr rfl, Or.inr rfl, Or.inr rfl, trivial⟩ (wl_mo_presentAt_6 a1 a2 a3 0 0 M hl3 hk)
theorem c_mo_presentAt (a1 : Int32) (a2 : Int32) (a3 : Int32) (M : dM) {o : Int32} {y : mz_M} {d : Nat} {Q : mz_P} {pc n i : Nat} {L : List (Option Value)} {st : List Value} (h : mz_d y.2.1 pc n 3 (.invokevirtual i)) (hl : mz_ml y.1.cls i yX12_presentAt) (hf : f_mo_presentAt a1 a2 a3 M = some o) (hd : 1 + 1 ≤ d) (hsm : (st.map (fun v => v.category)).sum ≤ 8) (hLr : mz_rL 133 L = true) (hSr : mz_rS 133 st = true) (kk : mW y d Q n L (.int o :: st) M) : mW y d Q pc L (.int a3 :: .int a2 :: .int a1 :: .ref 66 :: st) M :=
  y_callV kmX12_presentAt kvX12_presentAt l_66 (by decide +kernel) (by decide +kernel) h hl (ok_mo_presentAt a1 a2 a3 M hf) (vs := [.int a1, .int a2, .int a3]) rfl rfl hd hsm hLr hSr kk
noncomputable def f_mo_present (a1 : Int32) (a2 : Int32) (a3 : Int32) (M : dM) : Option (Int32 × dM) :=
  if (f_mo_isSite a1) = true then
    if (f_mo_within a2 0 999) = true then
      if (f_mo_within a3 0 23) = true then
        (f_mo_presentAt a1 a2 a3 (sI M 66 0 0)).bind fun v1 =>
        some (v1, (sI M 66 0 0))
      else
        some ((-1), (sI M 66 0 0))
    else
      some ((-1), (sI M 66 0 0))
  else
    some ((-1), (sI M 66 0 0))
theorem ok_mo_present (a1 : Int32) (a2 : Int32) (a3 : Int32) (M : dM) {o : (Int32 × dM)} (hf : f_mo_present a1 a2 a3 M = some o) : mO mX12_present 2 [.ref 66, .int a1, .int a2, .int a3] M (some (.int o.1)) o.2 := by
  refine y_ok (by decide +kernel) (by decide) (L0 := [some (.ref 66), some (.int a1), some (.int a2), some (.int a3)]) rfl ?_
  have hk := mR_mQ (some (.int o.1)) o.2
  generalize mQ _ _ = Q at hk ⊢
  unfold f_mo_present at hf
  refine y_aload_n (i := 0) (n := 1) ⟨dX12_present_0, rfl⟩ rfl ?_
  refine y_iconst (n := 2) (v := 0) ⟨dX12_present_1, rfl⟩ ki_0 ?_
  refine y_putI (n := 5) ⟨dX12_present_2, rfl⟩ kfX12_214 l_66 (by decide +kernel) rfl ?_
  refine y_iload_n (i := 1) (n := 6) ⟨dX12_present_5, rfl⟩ rfl ?_
  refine c_mo_isSite a1 (sI M 66 0 0) (n := 9) ⟨dX12_present_6, rfl⟩ klX12_217 rfl (by decide) (Nat.le_of_ble_eq_true rfl) rfl rfl ?_
  refine y_if_eq (t := 43) (n := 12) ⟨dX12_present_9, rfl, rfl⟩ (fun h0 => ?_) (fun h0 => ?_)
  · have hc := bI_0 h0
    replace hf := i_f hc hf
    refine y_iconst (n := 44) (v := (-1)) ⟨dX12_present_43, rfl⟩ ki_m1 ?_
    cases hf
    exact y_ireturn (n := 45) ⟨dX12_present_44, rfl⟩ rfl rfl hk
  · have hc := bI_1 h0
    replace hf := i_t hc hf
    refine y_iload_n (i := 2) (n := 13) ⟨dX12_present_12, rfl⟩ rfl ?_
    refine y_iconst (n := 14) (v := 0) ⟨dX12_present_13, rfl⟩ ki_0 ?_
    refine y_sipush (n := 17) (v := 999) ⟨dX12_present_14, rfl⟩ ks_999 ?_
    refine c_mo_within a2 0 999 (sI M 66 0 0) (n := 20) ⟨dX12_present_17, rfl⟩ klX12_221 rfl (by decide) (Nat.le_of_ble_eq_true rfl) rfl rfl ?_
    refine y_if_eq (t := 43) (n := 23) ⟨dX12_present_20, rfl, rfl⟩ (fun h0 => ?_) (fun h0 => ?_)
    · have hc := bI_0 h0
      replace hf := i_f hc hf
      refine y_iconst (n := 44) (v := (-1)) ⟨dX12_present_43, rfl⟩ ki_m1 ?_
      cases hf
      exact y_ireturn (n := 45) ⟨dX12_present_44, rfl⟩ rfl rfl hk
    · have hc := bI_1 h0
      replace hf := i_t hc hf
      refine y_iload_n (i := 3) (n := 24) ⟨dX12_present_23, rfl⟩ rfl ?_
      refine y_iconst (n := 25) (v := 0) ⟨dX12_present_24, rfl⟩ ki_0 ?_
      refine y_bipush (n := 27) (v := 23) ⟨dX12_present_25, rfl⟩ kb_23 ?_
      refine c_mo_within a3 0 23 (sI M 66 0 0) (n := 30) ⟨dX12_present_27, rfl⟩ klX12_221 rfl (by decide) (Nat.le_of_ble_eq_true rfl) rfl rfl ?_
      refine y_if_eq (t := 43) (n := 33) ⟨dX12_present_30, rfl, rfl⟩ (fun h0 => ?_) (fun h0 => ?_)
      · have hc := bI_0 h0
        replace hf := i_f hc hf
        refine y_iconst (n := 44) (v := (-1)) ⟨dX12_present_43, rfl⟩ ki_m1 ?_
        cases hf
        exact y_ireturn (n := 45) ⟨dX12_present_44, rfl⟩ rfl rfl hk
      · have hc := bI_1 h0
        replace hf := i_t hc hf
        refine y_aload_n (i := 0) (n := 34) ⟨dX12_present_33, rfl⟩ rfl ?_
        refine y_iload_n (i := 1) (n := 35) ⟨dX12_present_34, rfl⟩ rfl ?_
        refine y_iload_n (i := 2) (n := 36) ⟨dX12_present_35, rfl⟩ rfl ?_
        refine y_iload_n (i := 3) (n := 37) ⟨dX12_present_36, rfl⟩ rfl ?_
        obtain ⟨v1, hv2, hf⟩ := b_s hf
        refine c_mo_presentAt a1 a2 a3 (sI M 66 0 0) (n := 40) ⟨dX12_present_37, rfl⟩ klX12_231 hv2 (by decide) (Nat.le_of_ble_eq_true rfl) rfl rfl ?_
        refine y_goto (t := 44) ⟨dX12_present_40, rfl, rfl⟩ ?_
        cases hf
        exact y_ireturn (n := 45) ⟨dX12_present_44, rfl⟩ rfl rfl hk
theorem c_mo_present (a1 : Int32) (a2 : Int32) (a3 : Int32) (M : dM) {o : (Int32 × dM)} {y : mz_M} {d : Nat} {Q : mz_P} {pc n i : Nat} {L : List (Option Value)} {st : List Value} (h : mz_d y.2.1 pc n 3 (.invokevirtual i)) (hl : mz_ml y.1.cls i yX12_present) (hf : f_mo_present a1 a2 a3 M = some o) (hd : 2 + 1 ≤ d) (hsm : (st.map (fun v => v.category)).sum ≤ 8) (hLr : mz_rL 133 L = true) (hSr : mz_rS 133 st = true) (kk : mW y d Q n L (.int o.1 :: st) o.2) : mW y d Q pc L (.int a3 :: .int a2 :: .int a1 :: .ref 66 :: st) M :=
  y_callV kmX12_present kvX12_present l_66 (by decide +kernel) (by decide +kernel) h hl (ok_mo_present a1 a2 a3 M hf) (vs := [.int a1, .int a2, .int a3]) rfl rfl hd hsm hLr hSr kk
noncomputable def t_mo_find_122 (x1 : Int32) (x2 : Int32) (x3 : Int32) (x4 : Int32) (x5 : Int32) (x6 : Int32) (x7 : Int32) (M : dM) : Option (Int32 × dM) :=
  (f_mo_presentAt x1 x3 x4 M).bind fun v2 =>
  if ((v2 >>> (x5 &&& 31)) &&& 1) = 0 then
    some ((-1), M)
  else
    gd (vp_in (gI M 66 9) 40) <|
    gd (vp_in (gI (sI M 74 (gI M 66 9).toNatClampNeg x1) 66 9) 40) <|
    gd (vp_in (gI (sI (sI M 74 (gI M 66 9).toNatClampNeg x1) 75 (gI (sI M 74 (gI M 66 9).toNatClampNeg x1) 66 9).toNatClampNeg x2) 66 9) 40) <|
    gd (vp_in (gI (sI (sI (sI M 74 (gI M 66 9).toNatClampNeg x1) 75 (gI (sI M 74 (gI M 66 9).toNatClampNeg x1) 66 9).toNatClampNeg x2) 76 (gI (sI (sI M 74 (gI M 66 9).toNatClampNeg x1) 75 (gI (sI M 74 (gI M 66 9).toNatClampNeg x1) 66 9).toNatClampNeg x2) 66 9).toNatClampNeg x3) 66 9) 40) <|
    gd (vp_in (gI (sI (sI (sI (sI M 74 (gI M 66 9).toNatClampNeg x1) 75 (gI (sI M 74 (gI M 66 9).toNatClampNeg x1) 66 9).toNatClampNeg x2) 76 (gI (sI (sI M 74 (gI M 66 9).toNatClampNeg x1) 75 (gI (sI M 74 (gI M 66 9).toNatClampNeg x1) 66 9).toNatClampNeg x2) 66 9).toNatClampNeg x3) 77 (gI (sI (sI (sI M 74 (gI M 66 9).toNatClampNeg x1) 75 (gI (sI M 74 (gI M 66 9).toNatClampNeg x1) 66 9).toNatClampNeg x2) 76 (gI (sI (sI M 74 (gI M 66 9).toNatClampNeg x1) 75 (gI (sI M 74 (gI M 66 9).toNatClampNeg x1) 66 9).toNatClampNeg x2) 66 9).toNatClampNeg x3) 66 9).toNatClampNeg x4) 66 9) 40) <|
    gd (vp_in (gI (sI (sI (sI (sI (sI M 74 (gI M 66 9).toNatClampNeg x1) 75 (gI (sI M 74 (gI M 66 9).toNatClampNeg x1) 66 9).toNatClampNeg x2) 76 (gI (sI (sI M 74 (gI M 66 9).toNatClampNeg x1) 75 (gI (sI M 74 (gI M 66 9).toNatClampNeg x1) 66 9).toNatClampNeg x2) 66 9).toNatClampNeg x3) 77 (gI (sI (sI (sI M 74 (gI M 66 9).toNatClampNeg x1) 75 (gI (sI M 74 (gI M 66 9).toNatClampNeg x1) 66 9).toNatClampNeg x2) 76 (gI (sI (sI M 74 (gI M 66 9).toNatClampNeg x1) 75 (gI (sI M 74 (gI M 66 9).toNatClampNeg x1) 66 9).toNatClampNeg x2) 66 9).toNatClampNeg x3) 66 9).toNatClampNeg x4) 78 (gI (sI (sI (sI (sI M 74 (gI M 66 9).toNatClampNeg x1) 75 (gI (sI M 74 (gI M 66 9).toNatClampNeg x1) 66 9).toNatClampNeg x2) 76 (gI (sI (sI M 74 (gI M 66 9).toNatClampNeg x1) 75 (gI (sI M 74 (gI M 66 9).toNatClampNeg x1) 66 9).toNatClampNeg x2) 66 9).toNatClampNeg x3) 77 (gI (sI (sI (sI M 74 (gI M 66 9).toNatClampNeg x1) 75 (gI (sI M 74 (gI M 66 9).toNatClampNeg x1) 66 9).toNatClampNeg x2) 76 (gI (sI (sI M 74 (gI M 66 9).toNatClampNeg x1) 75 (gI (sI M 74 (gI M 66 9).toNatClampNeg x1) 66 9).toNatClampNeg x2) 66 9).toNatClampNeg x3) 66 9).toNatClampNeg x4) 66 9).toNatClampNeg x5) 66 9) 40) <|
    gd (vp_in (gI (sI (sI (sI (sI (sI (sI M 74 (gI M 66 9).toNatClampNeg x1) 75 (gI (sI M 74 (gI M 66 9).toNatClampNeg x1) 66 9).toNatClampNeg x2) 76 (gI (sI (sI M 74 (gI M 66 9).toNatClampNeg x1) 75 (gI (sI M 74 (gI M 66 9).toNatClampNeg x1) 66 9).toNatClampNeg x2) 66 9).toNatClampNeg x3) 77 (gI (sI (sI (sI M 74 (gI M 66 9).toNatClampNeg x1) 75 (gI (sI M 74 (gI M 66 9).toNatClampNeg x1) 66 9).toNatClampNeg x2) 76 (gI (sI (sI M 74 (gI M 66 9).toNatClampNeg x1) 75 (gI (sI M 74 (gI M 66 9).toNatClampNeg x1) 66 9).toNatClampNeg x2) 66 9).toNatClampNeg x3) 66 9).toNatClampNeg x4) 78 (gI (sI (sI (sI (sI M 74 (gI M 66 9).toNatClampNeg x1) 75 (gI (sI M 74 (gI M 66 9).toNatClampNeg x1) 66 9).toNatClampNeg x2) 76 (gI (sI (sI M 74 (gI M 66 9).toNatClampNeg x1) 75 (gI (sI M 74 (gI M 66 9).toNatClampNeg x1) 66 9).toNatClampNeg x2) 66 9).toNatClampNeg x3) 77 (gI (sI (sI (sI M 74 (gI M 66 9).toNatClampNeg x1) 75 (gI (sI M 74 (gI M 66 9).toNatClampNeg x1) 66 9).toNatClampNeg x2) 76 (gI (sI (sI M 74 (gI M 66 9).toNatClampNeg x1) 75 (gI (sI M 74 (gI M 66 9).toNatClampNeg x1) 66 9).toNatClampNeg x2) 66 9).toNatClampNeg x3) 66 9).toNatClampNeg x4) 66 9).toNatClampNeg x5) 79 (gI (sI (sI (sI (sI (sI M 74 (gI M 66 9).toNatClampNeg x1) 75 (gI (sI M 74 (gI M 66 9).toNatClampNeg x1) 66 9).toNatClampNeg x2) 76 (gI (sI (sI M 74 (gI M 66 9).toNatClampNeg x1) 75 (gI (sI M 74 (gI M 66 9).toNatClampNeg x1) 66 9).toNatClampNeg x2) 66 9).toNatClampNeg x3) 77 (gI (sI (sI (sI M 74 (gI M 66 9).toNatClampNeg x1) 75 (gI (sI M 74 (gI M 66 9).toNatClampNeg x1) 66 9).toNatClampNeg x2) 76 (gI (sI (sI M 74 (gI M 66 9).toNatClampNeg x1) 75 (gI (sI M 74 (gI M 66 9).toNatClampNeg x1) 66 9).toNatClampNeg x2) 66 9).toNatClampNeg x3) 66 9).toNatClampNeg x4) 78 (gI (sI (sI (sI (sI M 74 (gI M 66 9).toNatClampNeg x1) 75 (gI (sI M 74 (gI M 66 9).toNatClampNeg x1) 66 9).toNatClampNeg x2) 76 (gI (sI (sI M 74 (gI M 66 9).toNatClampNeg x1) 75 (gI (sI M 74 (gI M 66 9).toNatClampNeg x1) 66 9).toNatClampNeg x2) 66 9).toNatClampNeg x3) 77 (gI (sI (sI (sI M 74 (gI M 66 9).toNatClampNeg x1) 75 (gI (sI M 74 (gI M 66 9).toNatClampNeg x1) 66 9).toNatClampNeg x2) 76 (gI (sI (sI M 74 (gI M 66 9).toNatClampNeg x1) 75 (gI (sI M 74 (gI M 66 9).toNatClampNeg x1) 66 9).toNatClampNeg x2) 66 9).toNatClampNeg x3) 66 9).toNatClampNeg x4) 66 9).toNatClampNeg x5) 66 9).toNatClampNeg x6) 66 9) 40) <|
    some (((gI (sI (sI (sI (sI (sI (sI (sI (sI M 74 (gI M 66 9).toNatClampNeg x1) 75 (gI (sI M 74 (gI M 66 9).toNatClampNeg x1) 66 9).toNatClampNeg x2) 76 (gI (sI (sI M 74 (gI M 66 9).toNatClampNeg x1) 75 (gI (sI M 74 (gI M 66 9).toNatClampNeg x1) 66 9).toNatClampNeg x2) 66 9).toNatClampNeg x3) 77 (gI (sI (sI (sI M 74 (gI M 66 9).toNatClampNeg x1) 75 (gI (sI M 74 (gI M 66 9).toNatClampNeg x1) 66 9).toNatClampNeg x2) 76 (gI (sI (sI M 74 (gI M 66 9).toNatClampNeg x1) 75 (gI (sI M 74 (gI M 66 9).toNatClampNeg x1) 66 9).toNatClampNeg x2) 66 9).toNatClampNeg x3) 66 9).toNatClampNeg x4) 78 (gI (sI (sI (sI (sI M 74 (gI M 66 9).toNatClampNeg x1) 75 (gI (sI M 74 (gI M 66 9).toNatClampNeg x1) 66 9).toNatClampNeg x2) 76 (gI (sI (sI M 74 (gI M 66 9).toNatClampNeg x1) 75 (gI (sI M 74 (gI M 66 9).toNatClampNeg x1) 66 9).toNatClampNeg x2) 66 9).toNatClampNeg x3) 77 (gI (sI (sI (sI M 74 (gI M 66 9).toNatClampNeg x1) 75 (gI (sI M 74 (gI M 66 9).toNatClampNeg x1) 66 9).toNatClampNeg x2) 76 (gI (sI (sI M 74 (gI M 66 9).toNatClampNeg x1) 75 (gI (sI M 74 (gI M 66 9).toNatClampNeg x1) 66 9).toNatClampNeg x2) 66 9).toNatClampNeg x3) 66 9).toNatClampNeg x4) 66 9).toNatClampNeg x5) 79 (gI (sI (sI (sI (sI (sI M 74 (gI M 66 9).toNatClampNeg x1) 75 (gI (sI M 74 (gI M 66 9).toNatClampNeg x1) 66 9).toNatClampNeg x2) 76 (gI (sI (sI M 74 (gI M 66 9).toNatClampNeg x1) 75 (gI (sI M 74 (gI M 66 9).toNatClampNeg x1) 66 9).toNatClampNeg x2) 66 9).toNatClampNeg x3) 77 (gI (sI (sI (sI M 74 (gI M 66 9).toNatClampNeg x1) 75 (gI (sI M 74 (gI M 66 9).toNatClampNeg x1) 66 9).toNatClampNeg x2) 76 (gI (sI (sI M 74 (gI M 66 9).toNatClampNeg x1) 75 (gI (sI M 74 (gI M 66 9).toNatClampNeg x1) 66 9).toNatClampNeg x2) 66 9).toNatClampNeg x3) 66 9).toNatClampNeg x4) 78 (gI (sI (sI (sI (sI M 74 (gI M 66 9).toNatClampNeg x1) 75 (gI (sI M 74 (gI M 66 9).toNatClampNeg x1) 66 9).toNatClampNeg x2) 76 (gI (sI (sI M 74 (gI M 66 9).toNatClampNeg x1) 75 (gI (sI M 74 (gI M 66 9).toNatClampNeg x1) 66 9).toNatClampNeg x2) 66 9).toNatClampNeg x3) 77 (gI (sI (sI (sI M 74 (gI M 66 9).toNatClampNeg x1) 75 (gI (sI M 74 (gI M 66 9).toNatClampNeg x1) 66 9).toNatClampNeg x2) 76 (gI (sI (sI M 74 (gI M 66 9).toNatClampNeg x1) 75 (gI (sI M 74 (gI M 66 9).toNatClampNeg x1) 66 9).toNatClampNeg x2) 66 9).toNatClampNeg x3) 66 9).toNatClampNeg x4) 66 9).toNatClampNeg x5) 66 9).toNatClampNeg x6) 80 (gI (sI (sI (sI (sI (sI (sI M 74 (gI M 66 9).toNatClampNeg x1) 75 (gI (sI M 74 (gI M 66 9).toNatClampNeg x1) 66 9).toNatClampNeg x2) 76 (gI (sI (sI M 74 (gI M 66 9).toNatClampNeg x1) 75 (gI (sI M 74 (gI M 66 9).toNatClampNeg x1) 66 9).toNatClampNeg x2) 66 9).toNatClampNeg x3) 77 (gI (sI (sI (sI M 74 (gI M 66 9).toNatClampNeg x1) 75 (gI (sI M 74 (gI M 66 9).toNatClampNeg x1) 66 9).toNatClampNeg x2) 76 (gI (sI (sI M 74 (gI M 66 9).toNatClampNeg x1) 75 (gI (sI M 74 (gI M 66 9).toNatClampNeg x1) 66 9).toNatClampNeg x2) 66 9).toNatClampNeg x3) 66 9).toNatClampNeg x4) 78 (gI (sI (sI (sI (sI M 74 (gI M 66 9).toNatClampNeg x1) 75 (gI (sI M 74 (gI M 66 9).toNatClampNeg x1) 66 9).toNatClampNeg x2) 76 (gI (sI (sI M 74 (gI M 66 9).toNatClampNeg x1) 75 (gI (sI M 74 (gI M 66 9).toNatClampNeg x1) 66 9).toNatClampNeg x2) 66 9).toNatClampNeg x3) 77 (gI (sI (sI (sI M 74 (gI M 66 9).toNatClampNeg x1) 75 (gI (sI M 74 (gI M 66 9).toNatClampNeg x1) 66 9).toNatClampNeg x2) 76 (gI (sI (sI M 74 (gI M 66 9).toNatClampNeg x1) 75 (gI (sI M 74 (gI M 66 9).toNatClampNeg x1) 66 9).toNatClampNeg x2) 66 9).toNatClampNeg x3) 66 9).toNatClampNeg x4) 66 9).toNatClampNeg x5) 79 (gI (sI (sI (sI (sI (sI M 74 (gI M 66 9).toNatClampNeg x1) 75 (gI (sI M 74 (gI M 66 9).toNatClampNeg x1) 66 9).toNatClampNeg x2) 76 (gI (sI (sI M 74 (gI M 66 9).toNatClampNeg x1) 75 (gI (sI M 74 (gI M 66 9).toNatClampNeg x1) 66 9).toNatClampNeg x2) 66 9).toNatClampNeg x3) 77 (gI (sI (sI (sI M 74 (gI M 66 9).toNatClampNeg x1) 75 (gI (sI M 74 (gI M 66 9).toNatClampNeg x1) 66 9).toNatClampNeg x2) 76 (gI (sI (sI M 74 (gI M 66 9).toNatClampNeg x1) 75 (gI (sI M 74 (gI M 66 9).toNatClampNeg x1) 66 9).toNatClampNeg x2) 66 9).toNatClampNeg x3) 66 9).toNatClampNeg x4) 78 (gI (sI (sI (sI (sI M 74 (gI M 66 9).toNatClampNeg x1) 75 (gI (sI M 74 (gI M 66 9).toNatClampNeg x1) 66 9).toNatClampNeg x2) 76 (gI (sI (sI M 74 (gI M 66 9).toNatClampNeg x1) 75 (gI (sI M 74 (gI M 66 9).toNatClampNeg x1) 66 9).toNatClampNeg x2) 66 9).toNatClampNeg x3) 77 (gI (sI (sI (sI M 74 (gI M 66 9).toNatClampNeg x1) 75 (gI (sI M 74 (gI M 66 9).toNatClampNeg x1) 66 9).toNatClampNeg x2) 76 (gI (sI (sI M 74 (gI M 66 9).toNatClampNeg x1) 75 (gI (sI M 74 (gI M 66 9).toNatClampNeg x1) 66 9).toNatClampNeg x2) 66 9).toNatClampNeg x3) 66 9).toNatClampNeg x4) 66 9).toNatClampNeg x5) 66 9).toNatClampNeg x6) 66 9).toNatClampNeg x7) 66 9 ((gI (sI (sI (sI (sI (sI (sI (sI M 74 (gI M 66 9).toNatClampNeg x1) 75 (gI (sI M 74 (gI M 66 9).toNatClampNeg x1) 66 9).toNatClampNeg x2) 76 (gI (sI (sI M 74 (gI M 66 9).toNatClampNeg x1) 75 (gI (sI M 74 (gI M 66 9).toNatClampNeg x1) 66 9).toNatClampNeg x2) 66 9).toNatClampNeg x3) 77 (gI (sI (sI (sI M 74 (gI M 66 9).toNatClampNeg x1) 75 (gI (sI M 74 (gI M 66 9).toNatClampNeg x1) 66 9).toNatClampNeg x2) 76 (gI (sI (sI M 74 (gI M 66 9).toNatClampNeg x1) 75 (gI (sI M 74 (gI M 66 9).toNatClampNeg x1) 66 9).toNatClampNeg x2) 66 9).toNatClampNeg x3) 66 9).toNatClampNeg x4) 78 (gI (sI (sI (sI (sI M 74 (gI M 66 9).toNatClampNeg x1) 75 (gI (sI M 74 (gI M 66 9).toNatClampNeg x1) 66 9).toNatClampNeg x2) 76 (gI (sI (sI M 74 (gI M 66 9).toNatClampNeg x1) 75 (gI (sI M 74 (gI M 66 9).toNatClampNeg x1) 66 9).toNatClampNeg x2) 66 9).toNatClampNeg x3) 77 (gI (sI (sI (sI M 74 (gI M 66 9).toNatClampNeg x1) 75 (gI (sI M 74 (gI M 66 9).toNatClampNeg x1) 66 9).toNatClampNeg x2) 76 (gI (sI (sI M 74 (gI M 66 9).toNatClampNeg x1) 75 (gI (sI M 74 (gI M 66 9).toNatClampNeg x1) 66 9).toNatClampNeg x2) 66 9).toNatClampNeg x3) 66 9).toNatClampNeg x4) 66 9).toNatClampNeg x5) 79 (gI (sI (sI (sI (sI (sI M 74 (gI M 66 9).toNatClampNeg x1) 75 (gI (sI M 74 (gI M 66 9).toNatClampNeg x1) 66 9).toNatClampNeg x2) 76 (gI (sI (sI M 74 (gI M 66 9).toNatClampNeg x1) 75 (gI (sI M 74 (gI M 66 9).toNatClampNeg x1) 66 9).toNatClampNeg x2) 66 9).toNatClampNeg x3) 77 (gI (sI (sI (sI M 74 (gI M 66 9).toNatClampNeg x1) 75 (gI (sI M 74 (gI M 66 9).toNatClampNeg x1) 66 9).toNatClampNeg x2) 76 (gI (sI (sI M 74 (gI M 66 9).toNatClampNeg x1) 75 (gI (sI M 74 (gI M 66 9).toNatClampNeg x1) 66 9).toNatClampNeg x2) 66 9).toNatClampNeg x3) 66 9).toNatClampNeg x4) 78 (gI (sI (sI (sI (sI M 74 (gI M 66 9).toNatClampNeg x1) 75 (gI (sI M 74 (gI M 66 9).toNatClampNeg x1) 66 9).toNatClampNeg x2) 76 (gI (sI (sI M 74 (gI M 66 9).toNatClampNeg x1) 75 (gI (sI M 74 (gI M 66 9).toNatClampNeg x1) 66 9).toNatClampNeg x2) 66 9).toNatClampNeg x3) 77 (gI (sI (sI (sI M 74 (gI M 66 9).toNatClampNeg x1) 75 (gI (sI M 74 (gI M 66 9).toNatClampNeg x1) 66 9).toNatClampNeg x2) 76 (gI (sI (sI M 74 (gI M 66 9).toNatClampNeg x1) 75 (gI (sI M 74 (gI M 66 9).toNatClampNeg x1) 66 9).toNatClampNeg x2) 66 9).toNatClampNeg x3) 66 9).toNatClampNeg x4) 66 9).toNatClampNeg x5) 66 9).toNatClampNeg x6) 80 (gI (sI (sI (sI (sI (sI (sI M 74 (gI M 66 9).toNatClampNeg x1) 75 (gI (sI M 74 (gI M 66 9).toNatClampNeg x1) 66 9).toNatClampNeg x2) 76 (gI (sI (sI M 74 (gI M 66 9).toNatClampNeg x1) 75 (gI (sI M 74 (gI M 66 9).toNatClampNeg x1) 66 9).toNatClampNeg x2) 66 9).toNatClampNeg x3) 77 (gI (sI (sI (sI M 74 (gI M 66 9).toNatClampNeg x1) 75 (gI (sI M 74 (gI M 66 9).toNatClampNeg x1) 66 9).toNatClampNeg x2) 76 (gI (sI (sI M 74 (gI M 66 9).toNatClampNeg x1) 75 (gI (sI M 74 (gI M 66 9).toNatClampNeg x1) 66 9).toNatClampNeg x2) 66 9).toNatClampNeg x3) 66 9).toNatClampNeg x4) 78 (gI (sI (sI (sI (sI M 74 (gI M 66 9).toNatClampNeg x1) 75 (gI (sI M 74 (gI M 66 9).toNatClampNeg x1) 66 9).toNatClampNeg x2) 76 (gI (sI (sI M 74 (gI M 66 9).toNatClampNeg x1) 75 (gI (sI M 74 (gI M 66 9).toNatClampNeg x1) 66 9).toNatClampNeg x2) 66 9).toNatClampNeg x3) 77 (gI (sI (sI (sI M 74 (gI M 66 9).toNatClampNeg x1) 75 (gI (sI M 74 (gI M 66 9).toNatClampNeg x1) 66 9).toNatClampNeg x2) 76 (gI (sI (sI M 74 (gI M 66 9).toNatClampNeg x1) 75 (gI (sI M 74 (gI M 66 9).toNatClampNeg x1) 66 9).toNatClampNeg x2) 66 9).toNatClampNeg x3) 66 9).toNatClampNeg x4) 66 9).toNatClampNeg x5) 79 (gI (sI (sI (sI (sI (sI M 74 (gI M 66 9).toNatClampNeg x1) 75 (gI (sI M 74 (gI M 66 9).toNatClampNeg x1) 66 9).toNatClampNeg x2) 76 (gI (sI (sI M 74 (gI M 66 9).toNatClampNeg x1) 75 (gI (sI M 74 (gI M 66 9).toNatClampNeg x1) 66 9).toNatClampNeg x2) 66 9).toNatClampNeg x3) 77 (gI (sI (sI (sI M 74 (gI M 66 9).toNatClampNeg x1) 75 (gI (sI M 74 (gI M 66 9).toNatClampNeg x1) 66 9).toNatClampNeg x2) 76 (gI (sI (sI M 74 (gI M 66 9).toNatClampNeg x1) 75 (gI (sI M 74 (gI M 66 9).toNatClampNeg x1) 66 9).toNatClampNeg x2) 66 9).toNatClampNeg x3) 66 9).toNatClampNeg x4) 78 (gI (sI (sI (sI (sI M 74 (gI M 66 9).toNatClampNeg x1) 75 (gI (sI M 74 (gI M 66 9).toNatClampNeg x1) 66 9).toNatClampNeg x2) 76 (gI (sI (sI M 74 (gI M 66 9).toNatClampNeg x1) 75 (gI (sI M 74 (gI M 66 9).toNatClampNeg x1) 66 9).toNatClampNeg x2) 66 9).toNatClampNeg x3) 77 (gI (sI (sI (sI M 74 (gI M 66 9).toNatClampNeg x1) 75 (gI (sI M 74 (gI M 66 9).toNatClampNeg x1) 66 9).toNatClampNeg x2) 76 (gI (sI (sI M 74 (gI M 66 9).toNatClampNeg x1) 75 (gI (sI M 74 (gI M 66 9).toNatClampNeg x1) 66 9).toNatClampNeg x2) 66 9).toNatClampNeg x3) 66 9).toNatClampNeg x4) 66 9).toNatClampNeg x5) 66 9).toNatClampNeg x6) 66 9).toNatClampNeg x7) 66 9) + 1)) 66 9) - 1), (sI (sI (sI (sI (sI (sI (sI (sI M 74 (gI M 66 9).toNatClampNeg x1) 75 (gI (sI M 74 (gI M 66 9).toNatClampNeg x1) 66 9).toNatClampNeg x2) 76 (gI (sI (sI M 74 (gI M 66 9).toNatClampNeg x1) 75 (gI (sI M 74 (gI M 66 9).toNatClampNeg x1) 66 9).toNatClampNeg x2) 66 9).toNatClampNeg x3) 77 (gI (sI (sI (sI M 74 (gI M 66 9).toNatClampNeg x1) 75 (gI (sI M 74 (gI M 66 9).toNatClampNeg x1) 66 9).toNatClampNeg x2) 76 (gI (sI (sI M 74 (gI M 66 9).toNatClampNeg x1) 75 (gI (sI M 74 (gI M 66 9).toNatClampNeg x1) 66 9).toNatClampNeg x2) 66 9).toNatClampNeg x3) 66 9).toNatClampNeg x4) 78 (gI (sI (sI (sI (sI M 74 (gI M 66 9).toNatClampNeg x1) 75 (gI (sI M 74 (gI M 66 9).toNatClampNeg x1) 66 9).toNatClampNeg x2) 76 (gI (sI (sI M 74 (gI M 66 9).toNatClampNeg x1) 75 (gI (sI M 74 (gI M 66 9).toNatClampNeg x1) 66 9).toNatClampNeg x2) 66 9).toNatClampNeg x3) 77 (gI (sI (sI (sI M 74 (gI M 66 9).toNatClampNeg x1) 75 (gI (sI M 74 (gI M 66 9).toNatClampNeg x1) 66 9).toNatClampNeg x2) 76 (gI (sI (sI M 74 (gI M 66 9).toNatClampNeg x1) 75 (gI (sI M 74 (gI M 66 9).toNatClampNeg x1) 66 9).toNatClampNeg x2) 66 9).toNatClampNeg x3) 66 9).toNatClampNeg x4) 66 9).toNatClampNeg x5) 79 (gI (sI (sI (sI (sI (sI M 74 (gI M 66 9).toNatClampNeg x1) 75 (gI (sI M 74 (gI M 66 9).toNatClampNeg x1) 66 9).toNatClampNeg x2) 76 (gI (sI (sI M 74 (gI M 66 9).toNatClampNeg x1) 75 (gI (sI M 74 (gI M 66 9).toNatClampNeg x1) 66 9).toNatClampNeg x2) 66 9).toNatClampNeg x3) 77 (gI (sI (sI (sI M 74 (gI M 66 9).toNatClampNeg x1) 75 (gI (sI M 74 (gI M 66 9).toNatClampNeg x1) 66 9).toNatClampNeg x2) 76 (gI (sI (sI M 74 (gI M 66 9).toNatClampNeg x1) 75 (gI (sI M 74 (gI M 66 9).toNatClampNeg x1) 66 9).toNatClampNeg x2) 66 9).toNatClampNeg x3) 66 9).toNatClampNeg x4) 78 (gI (sI (sI (sI (sI M 74 (gI M 66 9).toNatClampNeg x1) 75 (gI (sI M 74 (gI M 66 9).toNatClampNeg x1) 66 9).toNatClampNeg x2) 76 (gI (sI (sI M 74 (gI M 66 9).toNatClampNeg x1) 75 (gI (sI M 74 (gI M 66 9).toNatClampNeg x1) 66 9).toNatClampNeg x2) 66 9).toNatClampNeg x3) 77 (gI (sI (sI (sI M 74 (gI M 66 9).toNatClampNeg x1) 75 (gI (sI M 74 (gI M 66 9).toNatClampNeg x1) 66 9).toNatClampNeg x2) 76 (gI (sI (sI M 74 (gI M 66 9).toNatClampNeg x1) 75 (gI (sI M 74 (gI M 66 9).toNatClampNeg x1) 66 9).toNatClampNeg x2) 66 9).toNatClampNeg x3) 66 9).toNatClampNeg x4) 66 9).toNatClampNeg x5) 66 9).toNatClampNeg x6) 80 (gI (sI (sI (sI (sI (sI (sI M 74 (gI M 66 9).toNatClampNeg x1) 75 (gI (sI M 74 (gI M 66 9).toNatClampNeg x1) 66 9).toNatClampNeg x2) 76 (gI (sI (sI M 74 (gI M 66 9).toNatClampNeg x1) 75 (gI (sI M 74 (gI M 66 9).toNatClampNeg x1) 66 9).toNatClampNeg x2) 66 9).toNatClampNeg x3) 77 (gI (sI (sI (sI M 74 (gI M 66 9).toNatClampNeg x1) 75 (gI (sI M 74 (gI M 66 9).toNatClampNeg x1) 66 9).toNatClampNeg x2) 76 (gI (sI (sI M 74 (gI M 66 9).toNatClampNeg x1) 75 (gI (sI M 74 (gI M 66 9).toNatClampNeg x1) 66 9).toNatClampNeg x2) 66 9).toNatClampNeg x3) 66 9).toNatClampNeg x4) 78 (gI (sI (sI (sI (sI M 74 (gI M 66 9).toNatClampNeg x1) 75 (gI (sI M 74 (gI M 66 9).toNatClampNeg x1) 66 9).toNatClampNeg x2) 76 (gI (sI (sI M 74 (gI M 66 9).toNatClampNeg x1) 75 (gI (sI M 74 (gI M 66 9).toNatClampNeg x1) 66 9).toNatClampNeg x2) 66 9).toNatClampNeg x3) 77 (gI (sI (sI (sI M 74 (gI M 66 9).toNatClampNeg x1) 75 (gI (sI M 74 (gI M 66 9).toNatClampNeg x1) 66 9).toNatClampNeg x2) 76 (gI (sI (sI M 74 (gI M 66 9).toNatClampNeg x1) 75 (gI (sI M 74 (gI M 66 9).toNatClampNeg x1) 66 9).toNatClampNeg x2) 66 9).toNatClampNeg x3) 66 9).toNatClampNeg x4) 66 9).toNatClampNeg x5) 79 (gI (sI (sI (sI (sI (sI M 74 (gI M 66 9).toNatClampNeg x1) 75 (gI (sI M 74 (gI M 66 9).toNatClampNeg x1) 66 9).toNatClampNeg x2) 76 (gI (sI (sI M 74 (gI M 66 9).toNatClampNeg x1) 75 (gI (sI M 74 (gI M 66 9).toNatClampNeg x1) 66 9).toNatClampNeg x2) 66 9).toNatClampNeg x3) 77 (gI (sI (sI (sI M 74 (gI M 66 9).toNatClampNeg x1) 75 (gI (sI M 74 (gI M 66 9).toNatClampNeg x1) 66 9).toNatClampNeg x2) 76 (gI (sI (sI M 74 (gI M 66 9).toNatClampNeg x1) 75 (gI (sI M 74 (gI M 66 9).toNatClampNeg x1) 66 9).toNatClampNeg x2) 66 9).toNatClampNeg x3) 66 9).toNatClampNeg x4) 78 (gI (sI (sI (sI (sI M 74 (gI M 66 9).toNatClampNeg x1) 75 (gI (sI M 74 (gI M 66 9).toNatClampNeg x1) 66 9).toNatClampNeg x2) 76 (gI (sI (sI M 74 (gI M 66 9).toNatClampNeg x1) 75 (gI (sI M 74 (gI M 66 9).toNatClampNeg x1) 66 9).toNatClampNeg x2) 66 9).toNatClampNeg x3) 77 (gI (sI (sI (sI M 74 (gI M 66 9).toNatClampNeg x1) 75 (gI (sI M 74 (gI M 66 9).toNatClampNeg x1) 66 9).toNatClampNeg x2) 76 (gI (sI (sI M 74 (gI M 66 9).toNatClampNeg x1) 75 (gI (sI M 74 (gI M 66 9).toNatClampNeg x1) 66 9).toNatClampNeg x2) 66 9).toNatClampNeg x3) 66 9).toNatClampNeg x4) 66 9).toNatClampNeg x5) 66 9).toNatClampNeg x6) 66 9).toNatClampNeg x7) 66 9 ((gI (sI (sI (sI (sI (sI (sI (sI M 74 (gI M 66 9).toNatClampNeg x1) 75 (gI (sI M 74 (gI M 66 9).toNatClampNeg x1) 66 9).toNatClampNeg x2) 76 (gI (sI (sI M 74 (gI M 66 9).toNatClampNeg x1) 75 (gI (sI M 74 (gI M 66 9).toNatClampNeg x1) 66 9).toNatClampNeg x2) 66 9).toNatClampNeg x3) 77 (gI (sI (sI (sI M 74 (gI M 66 9).toNatClampNeg x1) 75 (gI (sI M 74 (gI M 66 9).toNatClampNeg x1) 66 9).toNatClampNeg x2) 76 (gI (sI (sI M 74 (gI M 66 9).toNatClampNeg x1) 75 (gI (sI M 74 (gI M 66 9).toNatClampNeg x1) 66 9).toNatClampNeg x2) 66 9).toNatClampNeg x3) 66 9).toNatClampNeg x4) 78 (gI (sI (sI (sI (sI M 74 (gI M 66 9).toNatClampNeg x1) 75 (gI (sI M 74 (gI M 66 9).toNatClampNeg x1) 66 9).toNatClampNeg x2) 76 (gI (sI (sI M 74 (gI M 66 9).toNatClampNeg x1) 75 (gI (sI M 74 (gI M 66 9).toNatClampNeg x1) 66 9).toNatClampNeg x2) 66 9).toNatClampNeg x3) 77 (gI (sI (sI (sI M 74 (gI M 66 9).toNatClampNeg x1) 75 (gI (sI M 74 (gI M 66 9).toNatClampNeg x1) 66 9).toNatClampNeg x2) 76 (gI (sI (sI M 74 (gI M 66 9).toNatClampNeg x1) 75 (gI (sI M 74 (gI M 66 9).toNatClampNeg x1) 66 9).toNatClampNeg x2) 66 9).toNatClampNeg x3) 66 9).toNatClampNeg x4) 66 9).toNatClampNeg x5) 79 (gI (sI (sI (sI (sI (sI M 74 (gI M 66 9).toNatClampNeg x1) 75 (gI (sI M 74 (gI M 66 9).toNatClampNeg x1) 66 9).toNatClampNeg x2) 76 (gI (sI (sI M 74 (gI M 66 9).toNatClampNeg x1) 75 (gI (sI M 74 (gI M 66 9).toNatClampNeg x1) 66 9).toNatClampNeg x2) 66 9).toNatClampNeg x3) 77 (gI (sI (sI (sI M 74 (gI M 66 9).toNatClampNeg x1) 75 (gI (sI M 74 (gI M 66 9).toNatClampNeg x1) 66 9).toNatClampNeg x2) 76 (gI (sI (sI M 74 (gI M 66 9).toNatClampNeg x1) 75 (gI (sI M 74 (gI M 66 9).toNatClampNeg x1) 66 9).toNatClampNeg x2) 66 9).toNatClampNeg x3) 66 9).toNatClampNeg x4) 78 (gI (sI (sI (sI (sI M 74 (gI M 66 9).toNatClampNeg x1) 75 (gI (sI M 74 (gI M 66 9).toNatClampNeg x1) 66 9).toNatClampNeg x2) 76 (gI (sI (sI M 74 (gI M 66 9).toNatClampNeg x1) 75 (gI (sI M 74 (gI M 66 9).toNatClampNeg x1) 66 9).toNatClampNeg x2) 66 9).toNatClampNeg x3) 77 (gI (sI (sI (sI M 74 (gI M 66 9).toNatClampNeg x1) 75 (gI (sI M 74 (gI M 66 9).toNatClampNeg x1) 66 9).toNatClampNeg x2) 76 (gI (sI (sI M 74 (gI M 66 9).toNatClampNeg x1) 75 (gI (sI M 74 (gI M 66 9).toNatClampNeg x1) 66 9).toNatClampNeg x2) 66 9).toNatClampNeg x3) 66 9).toNatClampNeg x4) 66 9).toNatClampNeg x5) 66 9).toNatClampNeg x6) 80 (gI (sI (sI (sI (sI (sI (sI M 74 (gI M 66 9).toNatClampNeg x1) 75 (gI (sI M 74 (gI M 66 9).toNatClampNeg x1) 66 9).toNatClampNeg x2) 76 (gI (sI (sI M 74 (gI M 66 9).toNatClampNeg x1) 75 (gI (sI M 74 (gI M 66 9).toNatClampNeg x1) 66 9).toNatClampNeg x2) 66 9).toNatClampNeg x3) 77 (gI (sI (sI (sI M 74 (gI M 66 9).toNatClampNeg x1) 75 (gI (sI M 74 (gI M 66 9).toNatClampNeg x1) 66 9).toNatClampNeg x2) 76 (gI (sI (sI M 74 (gI M 66 9).toNatClampNeg x1) 75 (gI (sI M 74 (gI M 66 9).toNatClampNeg x1) 66 9).toNatClampNeg x2) 66 9).toNatClampNeg x3) 66 9).toNatClampNeg x4) 78 (gI (sI (sI (sI (sI M 74 (gI M 66 9).toNatClampNeg x1) 75 (gI (sI M 74 (gI M 66 9).toNatClampNeg x1) 66 9).toNatClampNeg x2) 76 (gI (sI (sI M 74 (gI M 66 9).toNatClampNeg x1) 75 (gI (sI M 74 (gI M 66 9).toNatClampNeg x1) 66 9).toNatClampNeg x2) 66 9).toNatClampNeg x3) 77 (gI (sI (sI (sI M 74 (gI M 66 9).toNatClampNeg x1) 75 (gI (sI M 74 (gI M 66 9).toNatClampNeg x1) 66 9).toNatClampNeg x2) 76 (gI (sI (sI M 74 (gI M 66 9).toNatClampNeg x1) 75 (gI (sI M 74 (gI M 66 9).toNatClampNeg x1) 66 9).toNatClampNeg x2) 66 9).toNatClampNeg x3) 66 9).toNatClampNeg x4) 66 9).toNatClampNeg x5) 79 (gI (sI (sI (sI (sI (sI M 74 (gI M 66 9).toNatClampNeg x1) 75 (gI (sI M 74 (gI M 66 9).toNatClampNeg x1) 66 9).toNatClampNeg x2) 76 (gI (sI (sI M 74 (gI M 66 9).toNatClampNeg x1) 75 (gI (sI M 74 (gI M 66 9).toNatClampNeg x1) 66 9).toNatClampNeg x2) 66 9).toNatClampNeg x3) 77 (gI (sI (sI (sI M 74 (gI M 66 9).toNatClampNeg x1) 75 (gI (sI M 74 (gI M 66 9).toNatClampNeg x1) 66 9).toNatClampNeg x2) 76 (gI (sI (sI M 74 (gI M 66 9).toNatClampNeg x1) 75 (gI (sI M 74 (gI M 66 9).toNatClampNeg x1) 66 9).toNatClampNeg x2) 66 9).toNatClampNeg x3) 66 9).toNatClampNeg x4) 78 (gI (sI (sI (sI (sI M 74 (gI M 66 9).toNatClampNeg x1) 75 (gI (sI M 74 (gI M 66 9).toNatClampNeg x1) 66 9).toNatClampNeg x2) 76 (gI (sI (sI M 74 (gI M 66 9).toNatClampNeg x1) 75 (gI (sI M 74 (gI M 66 9).toNatClampNeg x1) 66 9).toNatClampNeg x2) 66 9).toNatClampNeg x3) 77 (gI (sI (sI (sI M 74 (gI M 66 9).toNatClampNeg x1) 75 (gI (sI M 74 (gI M 66 9).toNatClampNeg x1) 66 9).toNatClampNeg x2) 76 (gI (sI (sI M 74 (gI M 66 9).toNatClampNeg x1) 75 (gI (sI M 74 (gI M 66 9).toNatClampNeg x1) 66 9).toNatClampNeg x2) 66 9).toNatClampNeg x3) 66 9).toNatClampNeg x4) 66 9).toNatClampNeg x5) 66 9).toNatClampNeg x6) 66 9).toNatClampNeg x7) 66 9) + 1)))
noncomputable def f_mo_find (a1 : Int32) (a2 : Int32) (a3 : Int32) (a4 : Int32) (a5 : Int32) (a6 : Int32) (a7 : Int32) (M : dM) : Option (Int32 × dM) :=
  if (f_mo_isSite a1) = true then
    if (f_mo_within a2 0 9) = true then
      gd (vp_in ((10 * a1) + a2) 80) <|
      if (gI (sI M 66 0 0) 67 ((10 * a1) + a2).toNatClampNeg) < 0 then
        some ((-1), (sI M 66 0 0))
      else
        if (f_mo_within a3 0 999) = true then
          if (f_mo_within a4 0 23) = true then
            if (f_mo_isHand a5) = true then
              if (f_mo_within a6 0 255) = true then
                if (f_mo_within a7 0 99) = true then
                  if (gI (sI M 66 0 0) 66 9) = 40 then
                    some ((-1), (sI M 66 0 0))
                  else
                    if (gI (sI M 66 0 0) 66 9) ≤ 0 then
                      t_mo_find_122 a1 a2 a3 a4 a5 a6 a7 (sI M 66 0 0)
                    else
                      gd (vp_in ((gI (sI M 66 0 0) 66 9) - 1) 40) <|
                      if a3 < (gI (sI M 66 0 0) 76 ((gI (sI M 66 0 0) 66 9) - 1).toNatClampNeg) then
                        some ((-1), (sI M 66 0 0))
                      else
                        t_mo_find_122 a1 a2 a3 a4 a5 a6 a7 (sI M 66 0 0)
                else
                  some ((-1), (sI M 66 0 0))
              else
                some ((-1), (sI M 66 0 0))
            else
              some ((-1), (sI M 66 0 0))
          else
            some ((-1), (sI M 66 0 0))
        else
          some ((-1), (sI M 66 0 0))
    else
      some ((-1), (sI M 66 0 0))
  else
    some ((-1), (sI M 66 0 0))
theorem w_t_mo_find_122 (x1 : Int32) (x2 : Int32) (x3 : Int32) (x4 : Int32) (x5 : Int32) (x6 : Int32) (x7 : Int32) (M : dM) {Q : mz_P} {o : (Int32 × dM)} (hf : t_mo_find_122 x1 x2 x3 x4 x5 x6 x7 M = some o) (hk : mR Q (some (.int o.1)) o.2) : mW mX12_find 2 Q 122 [some (.ref 66), some (.int x1), some (.int x2), some (.int x3), some (.int x4), some (.int x5), some (.int x6), some (.int x7)] [] M := by
  unfold t_mo_find_122 at hf
  refine y_aload_n (i := 0) (n := 123) ⟨dX12_find_122, rfl⟩ rfl ?_
  refine y_iload_n (i := 1) (n := 124) ⟨dX12_find_123, rfl⟩ rfl ?_
  refine y_iload_n (i := 3) (n := 125) ⟨dX12_find_124, rfl⟩ rfl ?_
  refine y_iload (i := 4) (n := 127) ⟨dX12_find_125, rfl⟩ rfl ?_
  obtain ⟨v2, hv3, hf⟩ := b_s hf
  refine c_mo_presentAt x1 x3 x4 M (n := 130) ⟨dX12_find_127, rfl⟩ klX12_231 hv3 (by decide) (Nat.le_of_ble_eq_true rfl) rfl rfl ?_
  refine y_iload (i := 5) (n := 132) ⟨dX12_find_130, rfl⟩ rfl ?_
  refine y_ishr (n := 133) ⟨dX12_find_132, rfl⟩ ?_
  refine y_iconst (n := 134) (v := 1) ⟨dX12_find_133, rfl⟩ ki_1 ?_
  refine y_iand (n := 135) ⟨dX12_find_134, rfl⟩ ?_
  refine y_if_ne (t := 140) (n := 138) ⟨dX12_find_135, rfl, rfl⟩ (fun (hc : ¬ (((v2 >>> (x5 &&& 31)) &&& 1) = 0)) => ?_) (fun (hc : ((v2 >>> (x5 &&& 31)) &&& 1) = 0) => ?_)
  · replace hf := i_f hc hf
    refine y_aload_n (i := 0) (n := 141) ⟨dX12_find_140, rfl⟩ rfl ?_
    refine y_getR (n := 144) ⟨dX12_find_141, rfl⟩ kfX12_31 l_66 rfl r_66_10 ?_
    refine y_aload_n (i := 0) (n := 145) ⟨dX12_find_144, rfl⟩ rfl ?_
    refine y_getI (n := 148) ⟨dX12_find_145, rfl⟩ kfX12_235 l_66 rfl ?_
    refine y_iload_n (i := 1) (n := 149) ⟨dX12_find_148, rfl⟩ rfl ?_
    obtain ⟨hg4, hf⟩ := g_s hf
    refine y_iastore (n := 150) ⟨dX12_find_149, rfl⟩ l_74 hg4 ?_
    refine y_aload_n (i := 0) (n := 151) ⟨dX12_find_150, rfl⟩ rfl ?_
    refine y_getR (n := 154) ⟨dX12_find_151, rfl⟩ kfX12_34 l_66 rfl r_66_11 ?_
    refine y_aload_n (i := 0) (n := 155) ⟨dX12_find_154, rfl⟩ rfl ?_
    refine y_getI (n := 158) ⟨dX12_find_155, rfl⟩ kfX12_235 l_66 rfl ?_
    refine y_iload_n (i := 2) (n := 159) ⟨dX12_find_158, rfl⟩ rfl ?_
    obtain ⟨hg5, hf⟩ := g_s hf
    refine y_iastore (n := 160) ⟨dX12_find_159, rfl⟩ l_75 hg5 ?_
    refine y_aload_n (i := 0) (n := 161) ⟨dX12_find_160, rfl⟩ rfl ?_
    refine y_getR (n := 164) ⟨dX12_find_161, rfl⟩ kfX12_37 l_66 rfl r_66_12 ?_
    refine y_aload_n (i := 0) (n := 165) ⟨dX12_find_164, rfl⟩ rfl ?_
    refine y_getI (n := 168) ⟨dX12_find_165, rfl⟩ kfX12_235 l_66 rfl ?_
    refine y_iload_n (i := 3) (n := 169) ⟨dX12_find_168, rfl⟩ rfl ?_
    obtain ⟨hg6, hf⟩ := g_s hf
    refine y_iastore (n := 170) ⟨dX12_find_169, rfl⟩ l_76 hg6 ?_
    refine y_aload_n (i := 0) (n := 171) ⟨dX12_find_170, rfl⟩ rfl ?_
    refine y_getR (n := 174) ⟨dX12_find_171, rfl⟩ kfX12_40 l_66 rfl r_66_13 ?_
    refine y_aload_n (i := 0) (n := 175) ⟨dX12_find_174, rfl⟩ rfl ?_
    refine y_getI (n := 178) ⟨dX12_find_175, rfl⟩ kfX12_235 l_66 rfl ?_
    refine y_iload (i := 4) (n := 180) ⟨dX12_find_178, rfl⟩ rfl ?_
    obtain ⟨hg7, hf⟩ := g_s hf
    refine y_iastore (n := 181) ⟨dX12_find_180, rfl⟩ l_77 hg7 ?_
    refine y_aload_n (i := 0) (n := 182) ⟨dX12_find_181, rfl⟩ rfl ?_
    refine y_getR (n := 185) ⟨dX12_find_182, rfl⟩ kfX12_43 l_66 rfl r_66_14 ?_
    refine y_aload_n (i := 0) (n := 186) ⟨dX12_find_185, rfl⟩ rfl ?_
    refine y_getI (n := 189) ⟨dX12_find_186, rfl⟩ kfX12_235 l_66 rfl ?_
    refine y_iload (i := 5) (n := 191) ⟨dX12_find_189, rfl⟩ rfl ?_
    obtain ⟨hg8, hf⟩ := g_s hf
    refine y_iastore (n := 192) ⟨dX12_find_191, rfl⟩ l_78 hg8 ?_
    refine y_aload_n (i := 0) (n := 193) ⟨dX12_find_192, rfl⟩ rfl ?_
    refine y_getR (n := 196) ⟨dX12_find_193, rfl⟩ kfX12_46 l_66 rfl r_66_15 ?_
    refine y_aload_n (i := 0) (n := 197) ⟨dX12_find_196, rfl⟩ rfl ?_
    refine y_getI (n := 200) ⟨dX12_find_197, rfl⟩ kfX12_235 l_66 rfl ?_
    refine y_iload (i := 6) (n := 202) ⟨dX12_find_200, rfl⟩ rfl ?_
    obtain ⟨hg9, hf⟩ := g_s hf
    refine y_iastore (n := 203) ⟨dX12_find_202, rfl⟩ l_79 hg9 ?_
    refine y_aload_n (i := 0) (n := 204) ⟨dX12_find_203, rfl⟩ rfl ?_
    refine y_getR (n := 207) ⟨dX12_find_204, rfl⟩ kfX12_49 l_66 rfl r_66_16 ?_
    refine y_aload_n (i := 0) (n := 208) ⟨dX12_find_207, rfl⟩ rfl ?_
    refine y_getI (n := 211) ⟨dX12_find_208, rfl⟩ kfX12_235 l_66 rfl ?_
    refine y_iload (i := 7) (n := 213) ⟨dX12_find_211, rfl⟩ rfl ?_
    obtain ⟨hg10, hf⟩ := g_s hf
    refine y_iastore (n := 214) ⟨dX12_find_213, rfl⟩ l_80 hg10 ?_
    refine y_aload_n (i := 0) (n := 215) ⟨dX12_find_214, rfl⟩ rfl ?_
    refine y_dup_r (n := 216) ⟨dX12_find_215, rfl⟩ ?_
    refine y_getI (n := 219) ⟨dX12_find_216, rfl⟩ kfX12_235 l_66 rfl ?_
    refine y_iconst (n := 220) (v := 1) ⟨dX12_find_219, rfl⟩ ki_1 ?_
    refine y_iadd (n := 221) ⟨dX12_find_220, rfl⟩ ?_
    refine y_putI (n := 224) ⟨dX12_find_221, rfl⟩ kfX12_235 l_66 (by decide +kernel) rfl ?_
    refine y_aload_n (i := 0) (n := 225) ⟨dX12_find_224, rfl⟩ rfl ?_
    refine y_getI (n := 228) ⟨dX12_find_225, rfl⟩ kfX12_235 l_66 rfl ?_
    refine y_iconst (n := 229) (v := 1) ⟨dX12_find_228, rfl⟩ ki_1 ?_
    refine y_isub (n := 230) ⟨dX12_find_229, rfl⟩ ?_
    cases hf
    exact y_ireturn (n := 231) ⟨dX12_find_230, rfl⟩ rfl rfl hk
  · replace hf := i_t hc hf
    refine y_iconst (n := 139) (v := (-1)) ⟨dX12_find_138, rfl⟩ ki_m1 ?_
    cases hf
    exact y_ireturn (n := 140) ⟨dX12_find_139, rfl⟩ rfl rfl hk
theorem ok_mo_find (a1 : Int32) (a2 : Int32) (a3 : Int32) (a4 : Int32) (a5 : Int32) (a6 : Int32) (a7 : Int32) (M : dM) {o : (Int32 × dM)} (hf : f_mo_find a1 a2 a3 a4 a5 a6 a7 M = some o) : mO mX12_find 2 [.ref 66, .int a1, .int a2, .int a3, .int a4, .int a5, .int a6, .int a7] M (some (.int o.1)) o.2 := by
  refine y_ok (by decide +kernel) (by decide) (L0 := [some (.ref 66), some (.int a1), some (.int a2), some (.int a3), some (.int a4), some (.int a5), some (.int a6), some (.int a7)]) rfl ?_
  have hk := mR_mQ (some (.int o.1)) o.2
  generalize mQ _ _ = Q at hk ⊢
  unfold f_mo_find at hf
  refine y_aload_n (i := 0) (n := 1) ⟨dX12_find_0, rfl⟩ rfl ?_
  refine y_iconst (n := 2) (v := 0) ⟨dX12_find_1, rfl⟩ ki_0 ?_
  refine y_putI (n := 5) ⟨dX12_find_2, rfl⟩ kfX12_214 l_66 (by decide +kernel) rfl ?_
  refine y_iload_n (i := 1) (n := 6) ⟨dX12_find_5, rfl⟩ rfl ?_
  refine c_mo_isSite a1 (sI M 66 0 0) (n := 9) ⟨dX12_find_6, rfl⟩ klX12_217 rfl (by decide) (Nat.le_of_ble_eq_true rfl) rfl rfl ?_
  refine y_if_eq (t := 98) (n := 12) ⟨dX12_find_9, rfl, rfl⟩ (fun h0 => ?_) (fun h0 => ?_)
  · have hc := bI_0 h0
    replace hf := i_f hc hf
    refine y_iconst (n := 99) (v := (-1)) ⟨dX12_find_98, rfl⟩ ki_m1 ?_
    cases hf
    exact y_ireturn (n := 100) ⟨dX12_find_99, rfl⟩ rfl rfl hk
  · have hc := bI_1 h0
    replace hf := i_t hc hf
    refine y_iload_n (i := 2) (n := 13) ⟨dX12_find_12, rfl⟩ rfl ?_
    refine y_iconst (n := 14) (v := 0) ⟨dX12_find_13, rfl⟩ ki_0 ?_
    refine y_bipush (n := 16) (v := 9) ⟨dX12_find_14, rfl⟩ kb_9 ?_
    refine c_mo_within a2 0 9 (sI M 66 0 0) (n := 19) ⟨dX12_find_16, rfl⟩ klX12_221 rfl (by decide) (Nat.le_of_ble_eq_true rfl) rfl rfl ?_
    refine y_if_eq (t := 98) (n := 22) ⟨dX12_find_19, rfl, rfl⟩ (fun h0 => ?_) (fun h0 => ?_)
    · have hc := bI_0 h0
      replace hf := i_f hc hf
      refine y_iconst (n := 99) (v := (-1)) ⟨dX12_find_98, rfl⟩ ki_m1 ?_
      cases hf
      exact y_ireturn (n := 100) ⟨dX12_find_99, rfl⟩ rfl rfl hk
    · have hc := bI_1 h0
      replace hf := i_t hc hf
      refine y_aload_n (i := 0) (n := 23) ⟨dX12_find_22, rfl⟩ rfl ?_
      refine y_getR (n := 26) ⟨dX12_find_23, rfl⟩ kfX12_7 l_66 rfl r_66_1 ?_
      refine y_bipush (n := 28) (v := 10) ⟨dX12_find_26, rfl⟩ kb_10 ?_
      refine y_iload_n (i := 1) (n := 29) ⟨dX12_find_28, rfl⟩ rfl ?_
      refine y_imul (n := 30) ⟨dX12_find_29, rfl⟩ ?_
      refine y_iload_n (i := 2) (n := 31) ⟨dX12_find_30, rfl⟩ rfl ?_
      refine y_iadd (n := 32) ⟨dX12_find_31, rfl⟩ ?_
      obtain ⟨hg1, hf⟩ := g_s hf
      refine y_iaload (n := 33) ⟨dX12_find_32, rfl⟩ l_67 hg1 ?_
      refine y_if_lt (t := 98) (n := 36) ⟨dX12_find_33, rfl, rfl⟩ (fun (hc : (gI (sI M 66 0 0) 67 ((10 * a1) + a2).toNatClampNeg) < 0) => ?_) (fun (hc : ¬ ((gI (sI M 66 0 0) 67 ((10 * a1) + a2).toNatClampNeg) < 0)) => ?_)
      · replace hf := i_t hc hf
        refine y_iconst (n := 99) (v := (-1)) ⟨dX12_find_98, rfl⟩ ki_m1 ?_
        cases hf
        exact y_ireturn (n := 100) ⟨dX12_find_99, rfl⟩ rfl rfl hk
      · replace hf := i_f hc hf
        refine y_iload_n (i := 3) (n := 37) ⟨dX12_find_36, rfl⟩ rfl ?_
        refine y_iconst (n := 38) (v := 0) ⟨dX12_find_37, rfl⟩ ki_0 ?_
        refine y_sipush (n := 41) (v := 999) ⟨dX12_find_38, rfl⟩ ks_999 ?_
        refine c_mo_within a3 0 999 (sI M 66 0 0) (n := 44) ⟨dX12_find_41, rfl⟩ klX12_221 rfl (by decide) (Nat.le_of_ble_eq_true rfl) rfl rfl ?_
        refine y_if_eq (t := 98) (n := 47) ⟨dX12_find_44, rfl, rfl⟩ (fun h0 => ?_) (fun h0 => ?_)
        · have hc := bI_0 h0
          replace hf := i_f hc hf
          refine y_iconst (n := 99) (v := (-1)) ⟨dX12_find_98, rfl⟩ ki_m1 ?_
          cases hf
          exact y_ireturn (n := 100) ⟨dX12_find_99, rfl⟩ rfl rfl hk
        · have hc := bI_1 h0
          replace hf := i_t hc hf
          refine y_iload (i := 4) (n := 49) ⟨dX12_find_47, rfl⟩ rfl ?_
          refine y_iconst (n := 50) (v := 0) ⟨dX12_find_49, rfl⟩ ki_0 ?_
          refine y_bipush (n := 52) (v := 23) ⟨dX12_find_50, rfl⟩ kb_23 ?_
          refine c_mo_within a4 0 23 (sI M 66 0 0) (n := 55) ⟨dX12_find_52, rfl⟩ klX12_221 rfl (by decide) (Nat.le_of_ble_eq_true rfl) rfl rfl ?_
          refine y_if_eq (t := 98) (n := 58) ⟨dX12_find_55, rfl, rfl⟩ (fun h0 => ?_) (fun h0 => ?_)
          · have hc := bI_0 h0
            replace hf := i_f hc hf
            refine y_iconst (n := 99) (v := (-1)) ⟨dX12_find_98, rfl⟩ ki_m1 ?_
            cases hf
            exact y_ireturn (n := 100) ⟨dX12_find_99, rfl⟩ rfl rfl hk
          · have hc := bI_1 h0
            replace hf := i_t hc hf
            refine y_iload (i := 5) (n := 60) ⟨dX12_find_58, rfl⟩ rfl ?_
            refine c_mo_isHand a5 (sI M 66 0 0) (n := 63) ⟨dX12_find_60, rfl⟩ klX12_225 rfl (by decide) (Nat.le_of_ble_eq_true rfl) rfl rfl ?_
            refine y_if_eq (t := 98) (n := 66) ⟨dX12_find_63, rfl, rfl⟩ (fun h0 => ?_) (fun h0 => ?_)
            · have hc := bI_0 h0
              replace hf := i_f hc hf
              refine y_iconst (n := 99) (v := (-1)) ⟨dX12_find_98, rfl⟩ ki_m1 ?_
              cases hf
              exact y_ireturn (n := 100) ⟨dX12_find_99, rfl⟩ rfl rfl hk
            · have hc := bI_1 h0
              replace hf := i_t hc hf
              refine y_iload (i := 6) (n := 68) ⟨dX12_find_66, rfl⟩ rfl ?_
              refine y_iconst (n := 69) (v := 0) ⟨dX12_find_68, rfl⟩ ki_0 ?_
              refine y_sipush (n := 72) (v := 255) ⟨dX12_find_69, rfl⟩ ks_255 ?_
              refine c_mo_within a6 0 255 (sI M 66 0 0) (n := 75) ⟨dX12_find_72, rfl⟩ klX12_221 rfl (by decide) (Nat.le_of_ble_eq_true rfl) rfl rfl ?_
              refine y_if_eq (t := 98) (n := 78) ⟨dX12_find_75, rfl, rfl⟩ (fun h0 => ?_) (fun h0 => ?_)
              · have hc := bI_0 h0
                replace hf := i_f hc hf
                refine y_iconst (n := 99) (v := (-1)) ⟨dX12_find_98, rfl⟩ ki_m1 ?_
                cases hf
                exact y_ireturn (n := 100) ⟨dX12_find_99, rfl⟩ rfl rfl hk
              · have hc := bI_1 h0
                replace hf := i_t hc hf
                refine y_iload (i := 7) (n := 80) ⟨dX12_find_78, rfl⟩ rfl ?_
                refine y_iconst (n := 81) (v := 0) ⟨dX12_find_80, rfl⟩ ki_0 ?_
                refine y_bipush (n := 83) (v := 99) ⟨dX12_find_81, rfl⟩ kb_99 ?_
                refine c_mo_within a7 0 99 (sI M 66 0 0) (n := 86) ⟨dX12_find_83, rfl⟩ klX12_221 rfl (by decide) (Nat.le_of_ble_eq_true rfl) rfl rfl ?_
                refine y_if_eq (t := 98) (n := 89) ⟨dX12_find_86, rfl, rfl⟩ (fun h0 => ?_) (fun h0 => ?_)
                · have hc := bI_0 h0
                  replace hf := i_f hc hf
                  refine y_iconst (n := 99) (v := (-1)) ⟨dX12_find_98, rfl⟩ ki_m1 ?_
                  cases hf
                  exact y_ireturn (n := 100) ⟨dX12_find_99, rfl⟩ rfl rfl hk
                · have hc := bI_1 h0
                  replace hf := i_t hc hf
                  refine y_aload_n (i := 0) (n := 90) ⟨dX12_find_89, rfl⟩ rfl ?_
                  refine y_getI (n := 93) ⟨dX12_find_90, rfl⟩ kfX12_235 l_66 rfl ?_
                  refine y_bipush (n := 95) (v := 40) ⟨dX12_find_93, rfl⟩ kb_40 ?_
                  refine y_icmp_ne (t := 100) (n := 98) ⟨dX12_find_95, rfl, rfl⟩ (fun (hc : ¬ ((gI (sI M 66 0 0) 66 9) = 40)) => ?_) (fun (hc : (gI (sI M 66 0 0) 66 9) = 40) => ?_)
                  · replace hf := i_f hc hf
                    refine y_aload_n (i := 0) (n := 101) ⟨dX12_find_100, rfl⟩ rfl ?_
                    refine y_getI (n := 104) ⟨dX12_find_101, rfl⟩ kfX12_235 l_66 rfl ?_
                    refine y_if_le (t := 122) (n := 107) ⟨dX12_find_104, rfl, rfl⟩ (fun (hc : (gI (sI M 66 0 0) 66 9) ≤ 0) => ?_) (fun (hc : ¬ ((gI (sI M 66 0 0) 66 9) ≤ 0)) => ?_)
                    · replace hf := i_t hc hf
                      exact y_wk ⟨Or.inr rfl, Or.inr rfl, Or.inr rfl, Or.inr rfl, Or.inr rfl, Or.inr rfl, Or.inr rfl, Or.inr rfl, trivial⟩ (w_t_mo_find_122 a1 a2 a3 a4 a5 a6 a7 (sI M 66 0 0) hf hk)
                    · replace hf := i_f hc hf
                      refine y_iload_n (i := 3) (n := 108) ⟨dX12_find_107, rfl⟩ rfl ?_
                      refine y_aload_n (i := 0) (n := 109) ⟨dX12_find_108, rfl⟩ rfl ?_
                      refine y_getR (n := 112) ⟨dX12_find_109, rfl⟩ kfX12_37 l_66 rfl r_66_12 ?_
                      refine y_aload_n (i := 0) (n := 113) ⟨dX12_find_112, rfl⟩ rfl ?_
                      refine y_getI (n := 116) ⟨dX12_find_113, rfl⟩ kfX12_235 l_66 rfl ?_
                      refine y_iconst (n := 117) (v := 1) ⟨dX12_find_116, rfl⟩ ki_1 ?_
                      refine y_isub (n := 118) ⟨dX12_find_117, rfl⟩ ?_
                      obtain ⟨hg11, hf⟩ := g_s hf
                      refine y_iaload (n := 119) ⟨dX12_find_118, rfl⟩ l_76 hg11 ?_
                      refine y_icmp_lt (t := 138) (n := 122) ⟨dX12_find_119, rfl, rfl⟩ (fun (hc : a3 < (gI (sI M 66 0 0) 76 ((gI (sI M 66 0 0) 66 9) - 1).toNatClampNeg)) => ?_) (fun (hc : ¬ (a3 < (gI (sI M 66 0 0) 76 ((gI (sI M 66 0 0) 66 9) - 1).toNatClampNeg))) => ?_)
                      · replace hf := i_t hc hf
                        refine y_iconst (n := 139) (v := (-1)) ⟨dX12_find_138, rfl⟩ ki_m1 ?_
                        cases hf
                        exact y_ireturn (n := 140) ⟨dX12_find_139, rfl⟩ rfl rfl hk
                      · replace hf := i_f hc hf
                        exact y_wk ⟨Or.inr rfl, Or.inr rfl, Or.inr rfl, Or.inr rfl, Or.inr rfl, Or.inr rfl, Or.inr rfl, Or.inr rfl, trivial⟩ (w_t_mo_find_122 a1 a2 a3 a4 a5 a6 a7 (sI M 66 0 0) hf hk)
                  · replace hf := i_t hc hf
                    refine y_iconst (n := 99) (v := (-1)) ⟨dX12_find_98, rfl⟩ ki_m1 ?_
                    cases hf
                    exact y_ireturn (n := 100) ⟨dX12_find_99, rfl⟩ rfl rfl hk
theorem c_mo_find (a1 : Int32) (a2 : Int32) (a3 : Int32) (a4 : Int32) (a5 : Int32) (a6 : Int32) (a7 : Int32) (M : dM) {o : (Int32 × dM)} {y : mz_M} {d : Nat} {Q : mz_P} {pc n i : Nat} {L : List (Option Value)} {st : List Value} (h : mz_d y.2.1 pc n 3 (.invokevirtual i)) (hl : mz_ml y.1.cls i yX12_find) (hf : f_mo_find a1 a2 a3 a4 a5 a6 a7 M = some o) (hd : 2 + 1 ≤ d) (hsm : (st.map (fun v => v.category)).sum ≤ 8) (hLr : mz_rL 133 L = true) (hSr : mz_rS 133 st = true) (kk : mW y d Q n L (.int o.1 :: st) o.2) : mW y d Q pc L (.int a7 :: .int a6 :: .int a5 :: .int a4 :: .int a3 :: .int a2 :: .int a1 :: .ref 66 :: st) M :=
  y_callV kmX12_find kvX12_find l_66 (by decide +kernel) (by decide +kernel) h hl (ok_mo_find a1 a2 a3 a4 a5 a6 a7 M hf) (vs := [.int a1, .int a2, .int a3, .int a4, .int a5, .int a6, .int a7]) rfl rfl hd hsm hLr hSr kk
noncomputable def f_mo_isFind (a1 : Int32) (M : dM) : Bool :=
  if a1 < 0 then
    false
  else
    if (gI M 66 9) ≤ a1 then
      false
    else
      true
theorem ok_mo_isFind (a1 : Int32) (M : dM) {o : Bool} (hf : f_mo_isFind a1 M = o) : mO mX12_isFind 1 [.ref 66, .int a1] M (some (.int (bI o))) M := by
  refine y_ok (by decide +kernel) (by decide) (L0 := [some (.ref 66), some (.int a1)]) rfl ?_
  have hk := mR_mQ (some (.int (bI o))) M
  generalize mQ _ _ = Q at hk ⊢
  unfold f_mo_isFind at hf
  refine y_iload_n (i := 1) (n := 1) ⟨dX12_isFind_0, rfl⟩ rfl ?_
  refine y_if_lt (t := 16) (n := 4) ⟨dX12_isFind_1, rfl, rfl⟩ (fun (hc : a1 < 0) => ?_) (fun (hc : ¬ (a1 < 0)) => ?_)
  · replace hf := i_t hc hf
    refine y_iconst (n := 17) (v := 0) ⟨dX12_isFind_16, rfl⟩ ki_0 ?_
    cases hf
    exact y_ireturn (n := 18) ⟨dX12_isFind_17, rfl⟩ rfl rfl hk
  · replace hf := i_f hc hf
    refine y_iload_n (i := 1) (n := 5) ⟨dX12_isFind_4, rfl⟩ rfl ?_
    refine y_aload_n (i := 0) (n := 6) ⟨dX12_isFind_5, rfl⟩ rfl ?_
    refine y_getI (n := 9) ⟨dX12_isFind_6, rfl⟩ kfX12_235 l_66 rfl ?_
    refine y_icmp_ge (t := 16) (n := 12) ⟨dX12_isFind_9, rfl, rfl⟩ (fun (hc : (gI M 66 9) ≤ a1) => ?_) (fun (hc : ¬ ((gI M 66 9) ≤ a1)) => ?_)
    · replace hf := i_t hc hf
      refine y_iconst (n := 17) (v := 0) ⟨dX12_isFind_16, rfl⟩ ki_0 ?_
      cases hf
      exact y_ireturn (n := 18) ⟨dX12_isFind_17, rfl⟩ rfl rfl hk
    · replace hf := i_f hc hf
      refine y_iconst (n := 13) (v := 1) ⟨dX12_isFind_12, rfl⟩ ki_1 ?_
      refine y_goto (t := 17) ⟨dX12_isFind_13, rfl, rfl⟩ ?_
      cases hf
      exact y_ireturn (n := 18) ⟨dX12_isFind_17, rfl⟩ rfl rfl hk
theorem c_mo_isFind (a1 : Int32) (M : dM) {o : Bool} {y : mz_M} {d : Nat} {Q : mz_P} {pc n i : Nat} {L : List (Option Value)} {st : List Value} (h : mz_d y.2.1 pc n 3 (.invokevirtual i)) (hl : mz_ml y.1.cls i yX12_isFind) (hf : f_mo_isFind a1 M = o) (hd : 1 + 1 ≤ d) (hsm : (st.map (fun v => v.category)).sum ≤ 8) (hLr : mz_rL 133 L = true) (hSr : mz_rS 133 st = true) (kk : mW y d Q n L (.int (bI o) :: st) M) : mW y d Q pc L (.int a1 :: .ref 66 :: st) M :=
  y_callV kmX12_isFind kvX12_isFind l_66 (by decide +kernel) (by decide +kernel) h hl (ok_mo_isFind a1 M hf) (vs := [.int a1]) rfl rfl hd hsm hLr hSr kk
noncomputable def f_mo_isTwin (a1 : Int32) (a2 : Int32) (M : dM) : Option Bool :=
  if a1 = a2 then
    some false
  else
    gd (vp_in a1 40) <|
    gd (vp_in a2 40) <|
    if (gI M 80 a1.toNatClampNeg) = (gI M 80 a2.toNatClampNeg) then
      gd (vp_in ((8 * (gI M 74 a1.toNatClampNeg)) + (gI M 74 a2.toNatClampNeg)) 64) <|
      if (gI M 68 ((8 * (gI M 74 a1.toNatClampNeg)) + (gI M 74 a2.toNatClampNeg)).toNatClampNeg) ≤ (gI M 66 33) then
        some false
      else
        some true
    else
      some false
theorem ok_mo_isTwin (a1 : Int32) (a2 : Int32) (M : dM) {o : Bool} (hf : f_mo_isTwin a1 a2 M = some o) : mO mX12_isTwin 1 [.ref 66, .int a1, .int a2] M (some (.int (bI o))) M := by
  refine y_ok (by decide +kernel) (by decide) (L0 := [some (.ref 66), some (.int a1), some (.int a2)]) rfl ?_
  have hk := mR_mQ (some (.int (bI o))) M
  generalize mQ _ _ = Q at hk ⊢
  unfold f_mo_isTwin at hf
  refine y_iload_n (i := 1) (n := 1) ⟨dX12_isTwin_0, rfl⟩ rfl ?_
  refine y_iload_n (i := 2) (n := 2) ⟨dX12_isTwin_1, rfl⟩ rfl ?_
  refine y_icmp_eq (t := 52) (n := 5) ⟨dX12_isTwin_2, rfl, rfl⟩ (fun (hc : a1 = a2) => ?_) (fun (hc : ¬ (a1 = a2)) => ?_)
  · replace hf := i_t hc hf
    refine y_iconst (n := 53) (v := 0) ⟨dX12_isTwin_52, rfl⟩ ki_0 ?_
    cases hf
    exact y_ireturn (n := 54) ⟨dX12_isTwin_53, rfl⟩ rfl rfl hk
  · replace hf := i_f hc hf
    refine y_aload_n (i := 0) (n := 6) ⟨dX12_isTwin_5, rfl⟩ rfl ?_
    refine y_getR (n := 9) ⟨dX12_isTwin_6, rfl⟩ kfX12_49 l_66 rfl r_66_16 ?_
    refine y_iload_n (i := 1) (n := 10) ⟨dX12_isTwin_9, rfl⟩ rfl ?_
    obtain ⟨hg1, hf⟩ := g_s hf
    refine y_iaload (n := 11) ⟨dX12_isTwin_10, rfl⟩ l_80 hg1 ?_
    refine y_aload_n (i := 0) (n := 12) ⟨dX12_isTwin_11, rfl⟩ rfl ?_
    refine y_getR (n := 15) ⟨dX12_isTwin_12, rfl⟩ kfX12_49 l_66 rfl r_66_16 ?_
    refine y_iload_n (i := 2) (n := 16) ⟨dX12_isTwin_15, rfl⟩ rfl ?_
    obtain ⟨hg2, hf⟩ := g_s hf
    refine y_iaload (n := 17) ⟨dX12_isTwin_16, rfl⟩ l_80 hg2 ?_
    refine y_icmp_ne (t := 52) (n := 20) ⟨dX12_isTwin_17, rfl, rfl⟩ (fun (hc : ¬ ((gI M 80 a1.toNatClampNeg) = (gI M 80 a2.toNatClampNeg))) => ?_) (fun (hc : (gI M 80 a1.toNatClampNeg) = (gI M 80 a2.toNatClampNeg)) => ?_)
    · replace hf := i_f hc hf
      refine y_iconst (n := 53) (v := 0) ⟨dX12_isTwin_52, rfl⟩ ki_0 ?_
      cases hf
      exact y_ireturn (n := 54) ⟨dX12_isTwin_53, rfl⟩ rfl rfl hk
    · replace hf := i_t hc hf
      refine y_aload_n (i := 0) (n := 21) ⟨dX12_isTwin_20, rfl⟩ rfl ?_
      refine y_getR (n := 24) ⟨dX12_isTwin_21, rfl⟩ kfX12_13 l_66 rfl r_66_2 ?_
      refine y_bipush (n := 26) (v := 8) ⟨dX12_isTwin_24, rfl⟩ kb_8 ?_
      refine y_aload_n (i := 0) (n := 27) ⟨dX12_isTwin_26, rfl⟩ rfl ?_
      refine y_getR (n := 30) ⟨dX12_isTwin_27, rfl⟩ kfX12_31 l_66 rfl r_66_10 ?_
      refine y_iload_n (i := 1) (n := 31) ⟨dX12_isTwin_30, rfl⟩ rfl ?_
      refine y_iaload (n := 32) ⟨dX12_isTwin_31, rfl⟩ l_74 hg1 ?_
      refine y_imul (n := 33) ⟨dX12_isTwin_32, rfl⟩ ?_
      refine y_aload_n (i := 0) (n := 34) ⟨dX12_isTwin_33, rfl⟩ rfl ?_
      refine y_getR (n := 37) ⟨dX12_isTwin_34, rfl⟩ kfX12_31 l_66 rfl r_66_10 ?_
      refine y_iload_n (i := 2) (n := 38) ⟨dX12_isTwin_37, rfl⟩ rfl ?_
      refine y_iaload (n := 39) ⟨dX12_isTwin_38, rfl⟩ l_74 hg2 ?_
      refine y_iadd (n := 40) ⟨dX12_isTwin_39, rfl⟩ ?_
      obtain ⟨hg3, hf⟩ := g_s hf
      refine y_iaload (n := 41) ⟨dX12_isTwin_40, rfl⟩ l_68 hg3 ?_
      refine y_aload_n (i := 0) (n := 42) ⟨dX12_isTwin_41, rfl⟩ rfl ?_
      refine y_getI (n := 45) ⟨dX12_isTwin_42, rfl⟩ kfX12_211 l_66 rfl ?_
      refine y_icmp_le (t := 52) (n := 48) ⟨dX12_isTwin_45, rfl, rfl⟩ (fun (hc : (gI M 68 ((8 * (gI M 74 a1.toNatClampNeg)) + (gI M 74 a2.toNatClampNeg)).toNatClampNeg) ≤ (gI M 66 33)) => ?_) (fun (hc : ¬ ((gI M 68 ((8 * (gI M 74 a1.toNatClampNeg)) + (gI M 74 a2.toNatClampNeg)).toNatClampNeg) ≤ (gI M 66 33))) => ?_)
      · replace hf := i_t hc hf
        refine y_iconst (n := 53) (v := 0) ⟨dX12_isTwin_52, rfl⟩ ki_0 ?_
        cases hf
        exact y_ireturn (n := 54) ⟨dX12_isTwin_53, rfl⟩ rfl rfl hk
      · replace hf := i_f hc hf
        refine y_iconst (n := 49) (v := 1) ⟨dX12_isTwin_48, rfl⟩ ki_1 ?_
        refine y_goto (t := 53) ⟨dX12_isTwin_49, rfl, rfl⟩ ?_
        cases hf
        exact y_ireturn (n := 54) ⟨dX12_isTwin_53, rfl⟩ rfl rfl hk
theorem c_mo_isTwin (a1 : Int32) (a2 : Int32) (M : dM) {o : Bool} {y : mz_M} {d : Nat} {Q : mz_P} {pc n i : Nat} {L : List (Option Value)} {st : List Value} (h : mz_d y.2.1 pc n 3 (.invokevirtual i)) (hl : mz_ml y.1.cls i yX12_isTwin) (hf : f_mo_isTwin a1 a2 M = some o) (hd : 1 + 1 ≤ d) (hsm : (st.map (fun v => v.category)).sum ≤ 8) (hLr : mz_rL 133 L = true) (hSr : mz_rS 133 st = true) (kk : mW y d Q n L (.int (bI o) :: st) M) : mW y d Q pc L (.int a2 :: .int a1 :: .ref 66 :: st) M :=
  y_callV kmX12_isTwin kvX12_isTwin l_66 (by decide +kernel) (by decide +kernel) h hl (ok_mo_isTwin a1 a2 M hf) (vs := [.int a1, .int a2]) rfl rfl hd hsm hLr hSr kk
def K_mo_bits_4 (Q : mz_P) (x0 : Int32) (M : dM) : ((Int32 × Int32) ⊕ Int32) → Prop
  | .inl s => mW mX12_bits 1 Q 4 [some (.int x0), some (.int s.1), some (.int s.2)] [] M
  | .inr r => mR Q (some (.int r)) M
noncomputable def b_mo_bits_4_4 (x0 : Int32) (x1 : Int32) (x2 : Int32) : Option ((Int32 × Int32) ⊕ Int32) :=
  if 12 ≤ x2 then
    some (.inr x1)
  else
    some (.inl ((x1 + ((x0 >>> (x2 &&& 31)) &&& 1)), (x2 + 1)))
noncomputable def l_mo_bits_4 (x0 : Int32) (x1 : Int32) (x2 : Int32) : Option Int32 := lpc (fun s => b_mo_bits_4_4 x0 s.1 s.2) (x1, x2)
noncomputable def f_mo_bits (a1 : Int32) : Option Int32 :=
  (l_mo_bits_4 a1 0 0).bind fun r3 => some r3
theorem w_b_mo_bits_4_4 (x0 : Int32) (x1 : Int32) (x2 : Int32) (M : dM) {Q : mz_P} {o : ((Int32 × Int32) ⊕ Int32)} (hf : b_mo_bits_4_4 x0 x1 x2 = some o) (hk : K_mo_bits_4 Q x0 M o) : mW mX12_bits 1 Q 4 [some (.int x0), some (.int x1), some (.int x2)] [] M := by
  unfold b_mo_bits_4_4 at hf
  refine y_iload_n (i := 2) (n := 5) ⟨dX12_bits_4, rfl⟩ rfl ?_
  refine y_bipush (n := 7) (v := 12) ⟨dX12_bits_5, rfl⟩ kb_12 ?_
  refine y_icmp_ge (t := 24) (n := 10) ⟨dX12_bits_7, rfl, rfl⟩ (fun (hc : 12 ≤ x2) => ?_) (fun (hc : ¬ (12 ≤ x2)) => ?_)
  · replace hf := i_t hc hf
    refine y_iload_n (i := 1) (n := 25) ⟨dX12_bits_24, rfl⟩ rfl ?_
    cases hf
    exact y_ireturn (n := 26) ⟨dX12_bits_25, rfl⟩ rfl rfl hk
  · replace hf := i_f hc hf
    refine y_iload_n (i := 1) (n := 11) ⟨dX12_bits_10, rfl⟩ rfl ?_
    refine y_iload_n (i := 0) (n := 12) ⟨dX12_bits_11, rfl⟩ rfl ?_
    refine y_iload_n (i := 2) (n := 13) ⟨dX12_bits_12, rfl⟩ rfl ?_
    refine y_ishr (n := 14) ⟨dX12_bits_13, rfl⟩ ?_
    refine y_iconst (n := 15) (v := 1) ⟨dX12_bits_14, rfl⟩ ki_1 ?_
    refine y_iand (n := 16) ⟨dX12_bits_15, rfl⟩ ?_
    refine y_iadd (n := 17) ⟨dX12_bits_16, rfl⟩ ?_
    refine y_istore_n (i := 1) (n := 18) (L2 := [some (.int x0), some (.int (x1 + ((x0 >>> (x2 &&& 31)) &&& 1))), some (.int x2)]) ⟨dX12_bits_17, rfl⟩ (by decide) rfl rfl ?_
    refine y_iinc (i := 2) (n := 21) (b := (x2 + 1)) (L2 := [some (.int x0), some (.int (x1 + ((x0 >>> (x2 &&& 31)) &&& 1))), some (.int (x2 + 1))]) ⟨dX12_bits_18, rfl⟩ rfl (by rw [ki_1]) (by decide) rfl rfl ?_
    refine y_goto (t := 4) ⟨dX12_bits_21, rfl, rfl⟩ ?_
    cases hf
    exact y_wk ⟨Or.inr rfl, Or.inr rfl, Or.inr rfl, trivial⟩ hk
theorem wl_mo_bits_4 (x0 : Int32) (x1 : Int32) (x2 : Int32) (M : dM) {Q : mz_P} {x : Int32} (hf : l_mo_bits_4 x0 x1 x2 = some x) (hk : K_mo_bits_4 Q x0 M (.inr x)) : mW mX12_bits 1 Q 4 [some (.int x0), some (.int x1), some (.int x2)] [] M :=
  lpc_wp (Wh := fun s => mW mX12_bits 1 Q 4 [some (.int x0), some (.int s.1), some (.int s.2)] [] M) (K := K_mo_bits_4 Q x0 M) (fun _ h => h) (fun s o hb hk => w_b_mo_bits_4_4 x0 s.1 s.2 M hb hk) hf hk
theorem ok_mo_bits (a1 : Int32) (M : dM) {o : Int32} (hf : f_mo_bits a1 = some o) : mO mX12_bits 1 [.int a1] M (some (.int o)) M := by
  refine y_ok (by decide +kernel) (by decide) (L0 := [some (.int a1), none, none]) rfl ?_
  have hk := mR_mQ (some (.int o)) M
  generalize mQ _ _ = Q at hk ⊢
  unfold f_mo_bits at hf
  refine y_iconst (n := 1) (v := 0) ⟨dX12_bits_0, rfl⟩ ki_0 ?_
  refine y_istore_n (i := 1) (n := 2) (L2 := [some (.int a1), some (.int 0), none]) ⟨dX12_bits_1, rfl⟩ (by decide) rfl rfl ?_
  refine y_iconst (n := 3) (v := 0) ⟨dX12_bits_2, rfl⟩ ki_0 ?_
  refine y_istore_n (i := 2) (n := 4) (L2 := [some (.int a1), some (.int 0), some (.int 0)]) ⟨dX12_bits_3, rfl⟩ (by decide) rfl rfl ?_
  obtain ⟨r3, hl2, hf⟩ := b_s hf
  cases hf
  exact y_wk ⟨Or.inr rfl, Or.inr rfl, Or.inr rfl, trivial⟩ (wl_mo_bits_4 a1 0 0 M hl2 hk)
theorem c_mo_bits (a1 : Int32) (M : dM) {o : Int32} {y : mz_M} {d : Nat} {Q : mz_P} {pc n i : Nat} {L : List (Option Value)} {st : List Value} (h : mz_d y.2.1 pc n 3 (.invokestatic i)) (hl : mz_ml y.1.cls i yX12_bits) (hf : f_mo_bits a1 = some o) (hd : 1 + 1 ≤ d) (hsm : (st.map (fun v => v.category)).sum ≤ 8) (hLr : mz_rL 133 L = true) (hSr : mz_rS 133 st = true) (kk : mW y d Q n L (.int o :: st) M) : mW y d Q pc L (.int a1 :: st) M :=
  y_callS kmX12_bits ksX12_bits h hl (ok_mo_bits a1 M hf) (vs := [.int a1]) rfl rfl hd hsm hLr hSr kk
noncomputable def f_mo_ageOf (a1 : Int32) (M : dM) : Option Int32 :=
  gd (vp_in a1 40) <|
  gd (vp_in ((10 * (gI M 74 a1.toNatClampNeg)) + (gI M 75 a1.toNatClampNeg)) 80) <|
  some (gI M 67 ((10 * (gI M 74 a1.toNatClampNeg)) + (gI M 75 a1.toNatClampNeg)).toNatClampNeg)
theorem ok_mo_ageOf (a1 : Int32) (M : dM) {o : Int32} (hf : f_mo_ageOf a1 M = some o) : mO mX12_ageOf 1 [.ref 66, .int a1] M (some (.int o)) M := by
  refine y_ok (by decide +kernel) (by decide) (L0 := [some (.ref 66), some (.int a1)]) rfl ?_
  have hk := mR_mQ (some (.int o)) M
  generalize mQ _ _ = Q at hk ⊢
  unfold f_mo_ageOf at hf
  refine y_aload_n (i := 0) (n := 1) ⟨dX12_ageOf_0, rfl⟩ rfl ?_
  refine y_getR (n := 4) ⟨dX12_ageOf_1, rfl⟩ kfX12_7 l_66 rfl r_66_1 ?_
  refine y_bipush (n := 6) (v := 10) ⟨dX12_ageOf_4, rfl⟩ kb_10 ?_
  refine y_aload_n (i := 0) (n := 7) ⟨dX12_ageOf_6, rfl⟩ rfl ?_
  refine y_getR (n := 10) ⟨dX12_ageOf_7, rfl⟩ kfX12_31 l_66 rfl r_66_10 ?_
  refine y_iload_n (i := 1) (n := 11) ⟨dX12_ageOf_10, rfl⟩ rfl ?_
  obtain ⟨hg1, hf⟩ := g_s hf
  refine y_iaload (n := 12) ⟨dX12_ageOf_11, rfl⟩ l_74 hg1 ?_
  refine y_imul (n := 13) ⟨dX12_ageOf_12, rfl⟩ ?_
  refine y_aload_n (i := 0) (n := 14) ⟨dX12_ageOf_13, rfl⟩ rfl ?_
  refine y_getR (n := 17) ⟨dX12_ageOf_14, rfl⟩ kfX12_34 l_66 rfl r_66_11 ?_
  refine y_iload_n (i := 1) (n := 18) ⟨dX12_ageOf_17, rfl⟩ rfl ?_
  refine y_iaload (n := 19) ⟨dX12_ageOf_18, rfl⟩ l_75 hg1 ?_
  refine y_iadd (n := 20) ⟨dX12_ageOf_19, rfl⟩ ?_
  obtain ⟨hg2, hf⟩ := g_s hf
  refine y_iaload (n := 21) ⟨dX12_ageOf_20, rfl⟩ l_67 hg2 ?_
  cases hf
  exact y_ireturn (n := 22) ⟨dX12_ageOf_21, rfl⟩ rfl rfl hk
theorem c_mo_ageOf (a1 : Int32) (M : dM) {o : Int32} {y : mz_M} {d : Nat} {Q : mz_P} {pc n i : Nat} {L : List (Option Value)} {st : List Value} (h : mz_d y.2.1 pc n 3 (.invokevirtual i)) (hl : mz_ml y.1.cls i yX12_ageOf) (hf : f_mo_ageOf a1 M = some o) (hd : 1 + 1 ≤ d) (hsm : (st.map (fun v => v.category)).sum ≤ 8) (hLr : mz_rL 133 L = true) (hSr : mz_rS 133 st = true) (kk : mW y d Q n L (.int o :: st) M) : mW y d Q pc L (.int a1 :: .ref 66 :: st) M :=
  y_callV kmX12_ageOf kvX12_ageOf l_66 (by decide +kernel) (by decide +kernel) h hl (ok_mo_ageOf a1 M hf) (vs := [.int a1]) rfl rfl hd hsm hLr hSr kk
def K_mo_factOf_130 (Q : mz_P) (x1 : Int32) (M : dM) : ((Int32 × Int32) ⊕ Int32) → Prop
  | .inl s => mW mX12_factOf 2 Q 130 [some (.ref 66), some (.int x1), none, none, none, some (.int s.1), some (.int s.2)] [] M
  | .inr t => mW mX12_factOf 2 Q 166 [none, none, none, none, none, some (.int t), none] [] M
noncomputable def b_mo_factOf_130_130 (x1 : Int32) (x5 : Int32) (x6 : Int32) (M : dM) : Option ((Int32 × Int32) ⊕ Int32) :=
  if x1 ≤ x6 then
    some (.inr x5)
  else
    (f_mo_ageOf x6 M).bind fun v6 =>
    (f_mo_ageOf x1 M).bind fun v8 =>
    if v6 < v8 then
      some (.inl ((x5 + 0), (x6 + 1)))
    else
      some (.inl ((x5 + 1), (x6 + 1)))
noncomputable def l_mo_factOf_130 (x1 : Int32) (x5 : Int32) (x6 : Int32) (M : dM) : Option Int32 := lpc (fun s => b_mo_factOf_130_130 x1 s.1 s.2 M) (x5, x6)
def K_mo_factOf_192 (Q : mz_P) (x1 : Int32) (x4 : Int32) (M : dM) : ((Int32 × Int32) ⊕ Int32) → Prop
  | .inl s => mW mX12_factOf 2 Q 192 [some (.ref 66), some (.int x1), none, none, some (.int x4), some (.int s.1), some (.int s.2)] [] M
  | .inr r => mR Q (some (.int r)) M
noncomputable def b_mo_factOf_192_192 (x1 : Int32) (x4 : Int32) (x5 : Int32) (x6 : Int32) (M : dM) : Option ((Int32 × Int32) ⊕ Int32) :=
  gd (vp_in x1 40) <|
  if (gI M 77 x1.toNatClampNeg) ≤ x6 then
    some (.inr x5)
  else
    (f_mo_presentAt (gI M 74 x1.toNatClampNeg) (gI M 76 x1.toNatClampNeg) x6 M).bind fun v14 =>
    if v14 = x4 then
      some (.inl ((x5 + 1), (x6 + 1)))
    else
      some (.inl ((x5 + 0), (x6 + 1)))
noncomputable def l_mo_factOf_192 (x1 : Int32) (x4 : Int32) (x5 : Int32) (x6 : Int32) (M : dM) : Option Int32 := lpc (fun s => b_mo_factOf_192_192 x1 x4 s.1 s.2 M) (x5, x6)
def K_mo_factOf_255 (Q : mz_P) (x1 : Int32) (M : dM) : ((Int32 × Int32) ⊕ Int32) → Prop
  | .inl s => mW mX12_factOf 2 Q 255 [some (.ref 66), some (.int x1), none, none, none, some (.int s.1), some (.int s.2)] [] M
  | .inr r => mR Q (some (.int r)) M
noncomputable def b_mo_factOf_255_255 (x1 : Int32) (x5 : Int32) (x6 : Int32) (M : dM) : Option ((Int32 × Int32) ⊕ Int32) :=
  if (gI M 66 9) ≤ x6 then
    some (.inr x5)
  else
    (f_mo_isTwin x1 x6 M).bind fun v21 =>
    if v21 = true then
      some (.inl ((x5 + 1), (x6 + 1)))
    else
      some (.inl ((x5 + 0), (x6 + 1)))
noncomputable def l_mo_factOf_255 (x1 : Int32) (x5 : Int32) (x6 : Int32) (M : dM) : Option Int32 := lpc (fun s => b_mo_factOf_255_255 x1 s.1 s.2 M) (x5, x6)
noncomputable def f_mo_factOf (a1 : Int32) (a2 : Int32) (M : dM) : Option Int32 :=
  gd (vp_in a1 40) <|
  (f_mo_presentAt (gI M 74 a1.toNatClampNeg) (gI M 76 a1.toNatClampNeg) (gI M 77 a1.toNatClampNeg) M).bind fun v2 =>
  if a2 = 8 then
    (f_mo_ageOf a1 M).bind fun v4 =>
    some v4
  else
  if a2 = 9 then
    some (gI M 75 a1.toNatClampNeg)
  else
  if a2 = 10 then
    some (gI M 77 a1.toNatClampNeg)
  else
  if a2 = 11 then
    some (gI M 80 a1.toNatClampNeg)
  else
  if a2 = 12 then
    (l_mo_factOf_130 a1 0 0 M).bind fun t10 =>
      if t10 = 0 then
        some 1
      else
        some 0
  else
  if a2 = 13 then
    if v2 = ((1 : Int32) <<< ((gI M 78 a1.toNatClampNeg) &&& 31)) then
      some 1
    else
      some 0
  else
  if a2 = 14 then
    (l_mo_factOf_192 a1 ((1 : Int32) <<< ((gI M 78 a1.toNatClampNeg) &&& 31)) 0 0 M).bind fun r18 => some r18
  else
  if a2 = 15 then
    (f_mo_bits v2).bind fun v19 =>
    some (v19 - 1)
  else
  if a2 = 16 then
    (l_mo_factOf_255 a1 0 0 M).bind fun r25 => some r25
  else
  if a2 = 17 then
    some (gI M 74 a1.toNatClampNeg)
  else
  if a2 = 18 then
    some (gI M 76 a1.toNatClampNeg)
  else
  if a2 = 19 then
    some (gI M 78 a1.toNatClampNeg)
  else
  some (((gI M 79 a1.toNatClampNeg) >>> (a2 &&& 31)) &&& 1)
theorem w_b_mo_factOf_130_130 (x1 : Int32) (x5 : Int32) (x6 : Int32) (M : dM) {Q : mz_P} {o : ((Int32 × Int32) ⊕ Int32)} (hf : b_mo_factOf_130_130 x1 x5 x6 M = some o) (hk : K_mo_factOf_130 Q x1 M o) : mW mX12_factOf 2 Q 130 [some (.ref 66), some (.int x1), none, none, none, some (.int x5), some (.int x6)] [] M := by
  unfold b_mo_factOf_130_130 at hf
  refine y_iload (i := 6) (n := 132) ⟨dX12_factOf_130, rfl⟩ rfl ?_
  refine y_iload_n (i := 1) (n := 133) ⟨dX12_factOf_132, rfl⟩ rfl ?_
  refine y_icmp_ge (t := 166) (n := 136) ⟨dX12_factOf_133, rfl, rfl⟩ (fun (hc : x1 ≤ x6) => ?_) (fun (hc : ¬ (x1 ≤ x6)) => ?_)
  · replace hf := i_t hc hf
    cases hf
    exact y_wk ⟨Or.inl rfl, Or.inl rfl, Or.inr rfl, Or.inr rfl, Or.inr rfl, Or.inr rfl, Or.inl rfl, trivial⟩ hk
  · replace hf := i_f hc hf
    refine y_iload (i := 5) (n := 138) ⟨dX12_factOf_136, rfl⟩ rfl ?_
    refine y_aload_n (i := 0) (n := 139) ⟨dX12_factOf_138, rfl⟩ rfl ?_
    refine y_iload (i := 6) (n := 141) ⟨dX12_factOf_139, rfl⟩ rfl ?_
    obtain ⟨v6, hv7, hf⟩ := b_s hf
    refine c_mo_ageOf x6 M (n := 144) ⟨dX12_factOf_141, rfl⟩ klX12_238 hv7 (by decide) (Nat.le_of_ble_eq_true rfl) rfl rfl ?_
    refine y_aload_n (i := 0) (n := 145) ⟨dX12_factOf_144, rfl⟩ rfl ?_
    refine y_iload_n (i := 1) (n := 146) ⟨dX12_factOf_145, rfl⟩ rfl ?_
    obtain ⟨v8, hv9, hf⟩ := b_s hf
    refine c_mo_ageOf x1 M (n := 149) ⟨dX12_factOf_146, rfl⟩ klX12_238 hv9 (by decide) (Nat.le_of_ble_eq_true rfl) rfl rfl ?_
    refine y_icmp_lt (t := 156) (n := 152) ⟨dX12_factOf_149, rfl, rfl⟩ (fun (hc : v6 < v8) => ?_) (fun (hc : ¬ (v6 < v8)) => ?_)
    · replace hf := i_t hc hf
      refine y_iconst (n := 157) (v := 0) ⟨dX12_factOf_156, rfl⟩ ki_0 ?_
      refine y_iadd (n := 158) ⟨dX12_factOf_157, rfl⟩ ?_
      refine y_istore (i := 5) (n := 160) (L2 := [some (.ref 66), some (.int x1), none, none, none, some (.int (x5 + 0)), some (.int x6)]) ⟨dX12_factOf_158, rfl⟩ (by decide) rfl rfl ?_
      refine y_iinc (i := 6) (n := 163) (b := (x6 + 1)) (L2 := [some (.ref 66), some (.int x1), none, none, none, some (.int (x5 + 0)), some (.int (x6 + 1))]) ⟨dX12_factOf_160, rfl⟩ rfl (by rw [ki_1]) (by decide) rfl rfl ?_
      refine y_goto (t := 130) ⟨dX12_factOf_163, rfl, rfl⟩ ?_
      cases hf
      exact y_wk ⟨Or.inr rfl, Or.inr rfl, Or.inr rfl, Or.inr rfl, Or.inr rfl, Or.inr rfl, Or.inr rfl, trivial⟩ hk
    · replace hf := i_f hc hf
      refine y_iconst (n := 153) (v := 1) ⟨dX12_factOf_152, rfl⟩ ki_1 ?_
      refine y_goto (t := 157) ⟨dX12_factOf_153, rfl, rfl⟩ ?_
      refine y_iadd (n := 158) ⟨dX12_factOf_157, rfl⟩ ?_
      refine y_istore (i := 5) (n := 160) (L2 := [some (.ref 66), some (.int x1), none, none, none, some (.int (x5 + 1)), some (.int x6)]) ⟨dX12_factOf_158, rfl⟩ (by decide) rfl rfl ?_
      refine y_iinc (i := 6) (n := 163) (b := (x6 + 1)) (L2 := [some (.ref 66), some (.int x1), none, none, none, some (.int (x5 + 1)), some (.int (x6 + 1))]) ⟨dX12_factOf_160, rfl⟩ rfl (by rw [ki_1]) (by decide) rfl rfl ?_
      refine y_goto (t := 130) ⟨dX12_factOf_163, rfl, rfl⟩ ?_
      cases hf
      exact y_wk ⟨Or.inr rfl, Or.inr rfl, Or.inr rfl, Or.inr rfl, Or.inr rfl, Or.inr rfl, Or.inr rfl, trivial⟩ hk
theorem wl_mo_factOf_130 (x1 : Int32) (x5 : Int32) (x6 : Int32) (M : dM) {Q : mz_P} {x : Int32} (hf : l_mo_factOf_130 x1 x5 x6 M = some x) (hk : K_mo_factOf_130 Q x1 M (.inr x)) : mW mX12_factOf 2 Q 130 [some (.ref 66), some (.int x1), none, none, none, some (.int x5), some (.int x6)] [] M :=
  lpc_wp (Wh := fun s => mW mX12_factOf 2 Q 130 [some (.ref 66), some (.int x1), none, none, none, some (.int s.1), some (.int s.2)] [] M) (K := K_mo_factOf_130 Q x1 M) (fun _ h => h) (fun s o hb hk => w_b_mo_factOf_130_130 x1 s.1 s.2 M hb hk) hf hk
theorem w_b_mo_factOf_192_192 (x1 : Int32) (x4 : Int32) (x5 : Int32) (x6 : Int32) (M : dM) {Q : mz_P} {o : ((Int32 × Int32) ⊕ Int32)} (hf : b_mo_factOf_192_192 x1 x4 x5 x6 M = some o) (hk : K_mo_factOf_192 Q x1 x4 M o) : mW mX12_factOf 2 Q 192 [some (.ref 66), some (.int x1), none, none, some (.int x4), some (.int x5), some (.int x6)] [] M := by
  unfold b_mo_factOf_192_192 at hf
  refine y_iload (i := 6) (n := 194) ⟨dX12_factOf_192, rfl⟩ rfl ?_
  refine y_aload_n (i := 0) (n := 195) ⟨dX12_factOf_194, rfl⟩ rfl ?_
  refine y_getR (n := 198) ⟨dX12_factOf_195, rfl⟩ kfX12_40 l_66 rfl r_66_13 ?_
  refine y_iload_n (i := 1) (n := 199) ⟨dX12_factOf_198, rfl⟩ rfl ?_
  obtain ⟨hg13, hf⟩ := g_s hf
  refine y_iaload (n := 200) ⟨dX12_factOf_199, rfl⟩ l_77 hg13 ?_
  refine y_icmp_ge (t := 242) (n := 203) ⟨dX12_factOf_200, rfl, rfl⟩ (fun (hc : (gI M 77 x1.toNatClampNeg) ≤ x6) => ?_) (fun (hc : ¬ ((gI M 77 x1.toNatClampNeg) ≤ x6)) => ?_)
  · replace hf := i_t hc hf
    refine y_iload (i := 5) (n := 244) ⟨dX12_factOf_242, rfl⟩ rfl ?_
    cases hf
    exact y_ireturn (n := 245) ⟨dX12_factOf_244, rfl⟩ rfl rfl hk
  · replace hf := i_f hc hf
    refine y_iload (i := 5) (n := 205) ⟨dX12_factOf_203, rfl⟩ rfl ?_
    refine y_aload_n (i := 0) (n := 206) ⟨dX12_factOf_205, rfl⟩ rfl ?_
    refine y_aload_n (i := 0) (n := 207) ⟨dX12_factOf_206, rfl⟩ rfl ?_
    refine y_getR (n := 210) ⟨dX12_factOf_207, rfl⟩ kfX12_31 l_66 rfl r_66_10 ?_
    refine y_iload_n (i := 1) (n := 211) ⟨dX12_factOf_210, rfl⟩ rfl ?_
    refine y_iaload (n := 212) ⟨dX12_factOf_211, rfl⟩ l_74 hg13 ?_
    refine y_aload_n (i := 0) (n := 213) ⟨dX12_factOf_212, rfl⟩ rfl ?_
    refine y_getR (n := 216) ⟨dX12_factOf_213, rfl⟩ kfX12_37 l_66 rfl r_66_12 ?_
    refine y_iload_n (i := 1) (n := 217) ⟨dX12_factOf_216, rfl⟩ rfl ?_
    refine y_iaload (n := 218) ⟨dX12_factOf_217, rfl⟩ l_76 hg13 ?_
    refine y_iload (i := 6) (n := 220) ⟨dX12_factOf_218, rfl⟩ rfl ?_
    obtain ⟨v14, hv15, hf⟩ := b_s hf
    refine c_mo_presentAt (gI M 74 x1.toNatClampNeg) (gI M 76 x1.toNatClampNeg) x6 M (n := 223) ⟨dX12_factOf_220, rfl⟩ klX12_231 hv15 (by decide) (Nat.le_of_ble_eq_true rfl) rfl rfl ?_
    refine y_iload (i := 4) (n := 225) ⟨dX12_factOf_223, rfl⟩ rfl ?_
    refine y_icmp_ne (t := 232) (n := 228) ⟨dX12_factOf_225, rfl, rfl⟩ (fun (hc : ¬ (v14 = x4)) => ?_) (fun (hc : v14 = x4) => ?_)
    · replace hf := i_f hc hf
      refine y_iconst (n := 233) (v := 0) ⟨dX12_factOf_232, rfl⟩ ki_0 ?_
      refine y_iadd (n := 234) ⟨dX12_factOf_233, rfl⟩ ?_
      refine y_istore (i := 5) (n := 236) (L2 := [some (.ref 66), some (.int x1), none, none, some (.int x4), some (.int (x5 + 0)), some (.int x6)]) ⟨dX12_factOf_234, rfl⟩ (by decide) rfl rfl ?_
      refine y_iinc (i := 6) (n := 239) (b := (x6 + 1)) (L2 := [some (.ref 66), some (.int x1), none, none, some (.int x4), some (.int (x5 + 0)), some (.int (x6 + 1))]) ⟨dX12_factOf_236, rfl⟩ rfl (by rw [ki_1]) (by decide) rfl rfl ?_
      refine y_goto (t := 192) ⟨dX12_factOf_239, rfl, rfl⟩ ?_
      cases hf
      exact y_wk ⟨Or.inr rfl, Or.inr rfl, Or.inr rfl, Or.inr rfl, Or.inr rfl, Or.inr rfl, Or.inr rfl, trivial⟩ hk
    · replace hf := i_t hc hf
      refine y_iconst (n := 229) (v := 1) ⟨dX12_factOf_228, rfl⟩ ki_1 ?_
      refine y_goto (t := 233) ⟨dX12_factOf_229, rfl, rfl⟩ ?_
      refine y_iadd (n := 234) ⟨dX12_factOf_233, rfl⟩ ?_
      refine y_istore (i := 5) (n := 236) (L2 := [some (.ref 66), some (.int x1), none, none, some (.int x4), some (.int (x5 + 1)), some (.int x6)]) ⟨dX12_factOf_234, rfl⟩ (by decide) rfl rfl ?_
      refine y_iinc (i := 6) (n := 239) (b := (x6 + 1)) (L2 := [some (.ref 66), some (.int x1), none, none, some (.int x4), some (.int (x5 + 1)), some (.int (x6 + 1))]) ⟨dX12_factOf_236, rfl⟩ rfl (by rw [ki_1]) (by decide) rfl rfl ?_
      refine y_goto (t := 192) ⟨dX12_factOf_239, rfl, rfl⟩ ?_
      cases hf
      exact y_wk ⟨Or.inr rfl, Or.inr rfl, Or.inr rfl, Or.inr rfl, Or.inr rfl, Or.inr rfl, Or.inr rfl, trivial⟩ hk
theorem wl_mo_factOf_192 (x1 : Int32) (x4 : Int32) (x5 : Int32) (x6 : Int32) (M : dM) {Q : mz_P} {x : Int32} (hf : l_mo_factOf_192 x1 x4 x5 x6 M = some x) (hk : K_mo_factOf_192 Q x1 x4 M (.inr x)) : mW mX12_factOf 2 Q 192 [some (.ref 66), some (.int x1), none, none, some (.int x4), some (.int x5), some (.int x6)] [] M :=
  lpc_wp (Wh := fun s => mW mX12_factOf 2 Q 192 [some (.ref 66), some (.int x1), none, none, some (.int x4), some (.int s.1), some (.int s.2)] [] M) (K := K_mo_factOf_192 Q x1 x4 M) (fun _ h => h) (fun s o hb hk => w_b_mo_factOf_192_192 x1 x4 s.1 s.2 M hb hk) hf hk
theorem w_b_mo_factOf_255_255 (x1 : Int32) (x5 : Int32) (x6 : Int32) (M : dM) {Q : mz_P} {o : ((Int32 × Int32) ⊕ Int32)} (hf : b_mo_factOf_255_255 x1 x5 x6 M = some o) (hk : K_mo_factOf_255 Q x1 M o) : mW mX12_factOf 2 Q 255 [some (.ref 66), some (.int x1), none, none, none, some (.int x5), some (.int x6)] [] M := by
  unfold b_mo_factOf_255_255 at hf
  refine y_iload (i := 6) (n := 257) ⟨dX12_factOf_255, rfl⟩ rfl ?_
  refine y_aload_n (i := 0) (n := 258) ⟨dX12_factOf_257, rfl⟩ rfl ?_
  refine y_getI (n := 261) ⟨dX12_factOf_258, rfl⟩ kfX12_235 l_66 rfl ?_
  refine y_icmp_ge (t := 290) (n := 264) ⟨dX12_factOf_261, rfl, rfl⟩ (fun (hc : (gI M 66 9) ≤ x6) => ?_) (fun (hc : ¬ ((gI M 66 9) ≤ x6)) => ?_)
  · replace hf := i_t hc hf
    refine y_iload (i := 5) (n := 292) ⟨dX12_factOf_290, rfl⟩ rfl ?_
    cases hf
    exact y_ireturn (n := 293) ⟨dX12_factOf_292, rfl⟩ rfl rfl hk
  · replace hf := i_f hc hf
    refine y_iload (i := 5) (n := 266) ⟨dX12_factOf_264, rfl⟩ rfl ?_
    refine y_aload_n (i := 0) (n := 267) ⟨dX12_factOf_266, rfl⟩ rfl ?_
    refine y_iload_n (i := 1) (n := 268) ⟨dX12_factOf_267, rfl⟩ rfl ?_
    refine y_iload (i := 6) (n := 270) ⟨dX12_factOf_268, rfl⟩ rfl ?_
    obtain ⟨v21, hv22, hf⟩ := b_s hf
    refine c_mo_isTwin x1 x6 M (n := 273) ⟨dX12_factOf_270, rfl⟩ klX12_245 hv22 (by decide) (Nat.le_of_ble_eq_true rfl) rfl rfl ?_
    refine y_if_eq (t := 280) (n := 276) ⟨dX12_factOf_273, rfl, rfl⟩ (fun h0 => ?_) (fun h0 => ?_)
    · have hc := bI_0 h0
      replace hf := i_f hc hf
      refine y_iconst (n := 281) (v := 0) ⟨dX12_factOf_280, rfl⟩ ki_0 ?_
      refine y_iadd (n := 282) ⟨dX12_factOf_281, rfl⟩ ?_
      refine y_istore (i := 5) (n := 284) (L2 := [some (.ref 66), some (.int x1), none, none, none, some (.int (x5 + 0)), some (.int x6)]) ⟨dX12_factOf_282, rfl⟩ (by decide) rfl rfl ?_
      refine y_iinc (i := 6) (n := 287) (b := (x6 + 1)) (L2 := [some (.ref 66), some (.int x1), none, none, none, some (.int (x5 + 0)), some (.int (x6 + 1))]) ⟨dX12_factOf_284, rfl⟩ rfl (by rw [ki_1]) (by decide) rfl rfl ?_
      refine y_goto (t := 255) ⟨dX12_factOf_287, rfl, rfl⟩ ?_
      cases hf
      exact y_wk ⟨Or.inr rfl, Or.inr rfl, Or.inr rfl, Or.inr rfl, Or.inr rfl, Or.inr rfl, Or.inr rfl, trivial⟩ hk
    · have hc := bI_1 h0
      replace hf := i_t hc hf
      refine y_iconst (n := 277) (v := 1) ⟨dX12_factOf_276, rfl⟩ ki_1 ?_
      refine y_goto (t := 281) ⟨dX12_factOf_277, rfl, rfl⟩ ?_
      refine y_iadd (n := 282) ⟨dX12_factOf_281, rfl⟩ ?_
      refine y_istore (i := 5) (n := 284) (L2 := [some (.ref 66), some (.int x1), none, none, none, some (.int (x5 + 1)), some (.int x6)]) ⟨dX12_factOf_282, rfl⟩ (by decide) rfl rfl ?_
      refine y_iinc (i := 6) (n := 287) (b := (x6 + 1)) (L2 := [some (.ref 66), some (.int x1), none, none, none, some (.int (x5 + 1)), some (.int (x6 + 1))]) ⟨dX12_factOf_284, rfl⟩ rfl (by rw [ki_1]) (by decide) rfl rfl ?_
      refine y_goto (t := 255) ⟨dX12_factOf_287, rfl, rfl⟩ ?_
      cases hf
      exact y_wk ⟨Or.inr rfl, Or.inr rfl, Or.inr rfl, Or.inr rfl, Or.inr rfl, Or.inr rfl, Or.inr rfl, trivial⟩ hk
theorem wl_mo_factOf_255 (x1 : Int32) (x5 : Int32) (x6 : Int32) (M : dM) {Q : mz_P} {x : Int32} (hf : l_mo_factOf_255 x1 x5 x6 M = some x) (hk : K_mo_factOf_255 Q x1 M (.inr x)) : mW mX12_factOf 2 Q 255 [some (.ref 66), some (.int x1), none, none, none, some (.int x5), some (.int x6)] [] M :=
  lpc_wp (Wh := fun s => mW mX12_factOf 2 Q 255 [some (.ref 66), some (.int x1), none, none, none, some (.int s.1), some (.int s.2)] [] M) (K := K_mo_factOf_255 Q x1 M) (fun _ h => h) (fun s o hb hk => w_b_mo_factOf_255_255 x1 s.1 s.2 M hb hk) hf hk
theorem ok_mo_factOf (a1 : Int32) (a2 : Int32) (M : dM) {o : Int32} (hf : f_mo_factOf a1 a2 M = some o) : mO mX12_factOf 2 [.ref 66, .int a1, .int a2] M (some (.int o)) M := by
  refine y_ok (by decide +kernel) (by decide) (L0 := [some (.ref 66), some (.int a1), some (.int a2), none, none, none, none]) rfl ?_
  have hk := mR_mQ (some (.int o)) M
  generalize mQ _ _ = Q at hk ⊢
  unfold f_mo_factOf at hf
  refine y_aload_n (i := 0) (n := 1) ⟨dX12_factOf_0, rfl⟩ rfl ?_
  refine y_aload_n (i := 0) (n := 2) ⟨dX12_factOf_1, rfl⟩ rfl ?_
  refine y_getR (n := 5) ⟨dX12_factOf_2, rfl⟩ kfX12_31 l_66 rfl r_66_10 ?_
  refine y_iload_n (i := 1) (n := 6) ⟨dX12_factOf_5, rfl⟩ rfl ?_
  obtain ⟨hg1, hf⟩ := g_s hf
  refine y_iaload (n := 7) ⟨dX12_factOf_6, rfl⟩ l_74 hg1 ?_
  refine y_aload_n (i := 0) (n := 8) ⟨dX12_factOf_7, rfl⟩ rfl ?_
  refine y_getR (n := 11) ⟨dX12_factOf_8, rfl⟩ kfX12_37 l_66 rfl r_66_12 ?_
  refine y_iload_n (i := 1) (n := 12) ⟨dX12_factOf_11, rfl⟩ rfl ?_
  refine y_iaload (n := 13) ⟨dX12_factOf_12, rfl⟩ l_76 hg1 ?_
  refine y_aload_n (i := 0) (n := 14) ⟨dX12_factOf_13, rfl⟩ rfl ?_
  refine y_getR (n := 17) ⟨dX12_factOf_14, rfl⟩ kfX12_40 l_66 rfl r_66_13 ?_
  refine y_iload_n (i := 1) (n := 18) ⟨dX12_factOf_17, rfl⟩ rfl ?_
  refine y_iaload (n := 19) ⟨dX12_factOf_18, rfl⟩ l_77 hg1 ?_
  obtain ⟨v2, hv3, hf⟩ := b_s hf
  refine c_mo_presentAt (gI M 74 a1.toNatClampNeg) (gI M 76 a1.toNatClampNeg) (gI M 77 a1.toNatClampNeg) M (n := 22) ⟨dX12_factOf_19, rfl⟩ klX12_231 hv3 (by decide) (Nat.le_of_ble_eq_true rfl) rfl rfl ?_
  refine y_istore_n (i := 3) (n := 23) (L2 := [some (.ref 66), some (.int a1), some (.int a2), some (.int v2), none, none, none]) ⟨dX12_factOf_22, rfl⟩ (by decide) rfl rfl ?_
  refine y_iconst (n := 24) (v := 1) ⟨dX12_factOf_23, rfl⟩ ki_1 ?_
  refine y_aload_n (i := 0) (n := 25) ⟨dX12_factOf_24, rfl⟩ rfl ?_
  refine y_getR (n := 28) ⟨dX12_factOf_25, rfl⟩ kfX12_43 l_66 rfl r_66_14 ?_
  refine y_iload_n (i := 1) (n := 29) ⟨dX12_factOf_28, rfl⟩ rfl ?_
  refine y_iaload (n := 30) ⟨dX12_factOf_29, rfl⟩ l_78 hg1 ?_
  refine y_ishl (n := 31) ⟨dX12_factOf_30, rfl⟩ ?_
  refine y_istore (i := 4) (n := 33) (L2 := [some (.ref 66), some (.int a1), some (.int a2), some (.int v2), some (.int ((1 : Int32) <<< ((gI M 78 a1.toNatClampNeg) &&& 31))), none, none]) ⟨dX12_factOf_31, rfl⟩ (by decide) rfl rfl ?_
  refine y_iconst (n := 34) (v := 0) ⟨dX12_factOf_33, rfl⟩ ki_0 ?_
  refine y_istore (i := 5) (n := 36) (L2 := [some (.ref 66), some (.int a1), some (.int a2), some (.int v2), some (.int ((1 : Int32) <<< ((gI M 78 a1.toNatClampNeg) &&& 31))), some (.int 0), none]) ⟨dX12_factOf_34, rfl⟩ (by decide) rfl rfl ?_
  refine y_iload_n (i := 2) (n := 37) ⟨dX12_factOf_36, rfl⟩ rfl ?_
  by_cases hc0 : a2 = 8
  · replace hf := i_t hc0 hf
    refine y_tabIn (t := 100) (off := 63) dX12_factOf_37 (sw_lo hc0 (by decide)) (sw_hi hc0 (by decide)) (sw_at hc0 (by decide)) rfl ?_
    refine y_aload_n (i := 0) (n := 101) ⟨dX12_factOf_100, rfl⟩ rfl ?_
    refine y_iload_n (i := 1) (n := 102) ⟨dX12_factOf_101, rfl⟩ rfl ?_
    obtain ⟨v4, hv5, hf⟩ := b_s hf
    refine c_mo_ageOf a1 M (n := 105) ⟨dX12_factOf_102, rfl⟩ klX12_238 hv5 (by decide) (Nat.le_of_ble_eq_true rfl) rfl rfl ?_
    cases hf
    exact y_ireturn (n := 106) ⟨dX12_factOf_105, rfl⟩ rfl rfl hk
  replace hf := i_f hc0 hf
  by_cases hc1 : a2 = 9
  · replace hf := i_t hc1 hf
    refine y_tabIn (t := 106) (off := 69) dX12_factOf_37 (sw_lo hc1 (by decide)) (sw_hi hc1 (by decide)) (sw_at hc1 (by decide)) rfl ?_
    refine y_aload_n (i := 0) (n := 107) ⟨dX12_factOf_106, rfl⟩ rfl ?_
    refine y_getR (n := 110) ⟨dX12_factOf_107, rfl⟩ kfX12_34 l_66 rfl r_66_11 ?_
    refine y_iload_n (i := 1) (n := 111) ⟨dX12_factOf_110, rfl⟩ rfl ?_
    refine y_iaload (n := 112) ⟨dX12_factOf_111, rfl⟩ l_75 hg1 ?_
    cases hf
    exact y_ireturn (n := 113) ⟨dX12_factOf_112, rfl⟩ rfl rfl hk
  replace hf := i_f hc1 hf
  by_cases hc2 : a2 = 10
  · replace hf := i_t hc2 hf
    refine y_tabIn (t := 113) (off := 76) dX12_factOf_37 (sw_lo hc2 (by decide)) (sw_hi hc2 (by decide)) (sw_at hc2 (by decide)) rfl ?_
    refine y_aload_n (i := 0) (n := 114) ⟨dX12_factOf_113, rfl⟩ rfl ?_
    refine y_getR (n := 117) ⟨dX12_factOf_114, rfl⟩ kfX12_40 l_66 rfl r_66_13 ?_
    refine y_iload_n (i := 1) (n := 118) ⟨dX12_factOf_117, rfl⟩ rfl ?_
    refine y_iaload (n := 119) ⟨dX12_factOf_118, rfl⟩ l_77 hg1 ?_
    cases hf
    exact y_ireturn (n := 120) ⟨dX12_factOf_119, rfl⟩ rfl rfl hk
  replace hf := i_f hc2 hf
  by_cases hc3 : a2 = 11
  · replace hf := i_t hc3 hf
    refine y_tabIn (t := 120) (off := 83) dX12_factOf_37 (sw_lo hc3 (by decide)) (sw_hi hc3 (by decide)) (sw_at hc3 (by decide)) rfl ?_
    refine y_aload_n (i := 0) (n := 121) ⟨dX12_factOf_120, rfl⟩ rfl ?_
    refine y_getR (n := 124) ⟨dX12_factOf_121, rfl⟩ kfX12_49 l_66 rfl r_66_16 ?_
    refine y_iload_n (i := 1) (n := 125) ⟨dX12_factOf_124, rfl⟩ rfl ?_
    refine y_iaload (n := 126) ⟨dX12_factOf_125, rfl⟩ l_80 hg1 ?_
    cases hf
    exact y_ireturn (n := 127) ⟨dX12_factOf_126, rfl⟩ rfl rfl hk
  replace hf := i_f hc3 hf
  by_cases hc4 : a2 = 12
  · replace hf := i_t hc4 hf
    refine y_tabIn (t := 127) (off := 90) dX12_factOf_37 (sw_lo hc4 (by decide)) (sw_hi hc4 (by decide)) (sw_at hc4 (by decide)) rfl ?_
    refine y_iconst (n := 128) (v := 0) ⟨dX12_factOf_127, rfl⟩ ki_0 ?_
    refine y_istore (i := 6) (n := 130) (L2 := [some (.ref 66), some (.int a1), some (.int a2), some (.int v2), some (.int ((1 : Int32) <<< ((gI M 78 a1.toNatClampNeg) &&& 31))), some (.int 0), some (.int 0)]) ⟨dX12_factOf_128, rfl⟩ (by decide) rfl rfl ?_
    obtain ⟨t10, hl11, hf⟩ := b_s hf
    refine y_wk ⟨Or.inr rfl, Or.inr rfl, Or.inl rfl, Or.inl rfl, Or.inl rfl, Or.inr rfl, Or.inr rfl, trivial⟩ (wl_mo_factOf_130 a1 0 0 M hl11 ?_)
    show mW mX12_factOf 2 Q 166 [none, none, none, none, none, some (.int t10), none] [] M
    refine y_iload (i := 5) (n := 168) ⟨dX12_factOf_166, rfl⟩ rfl ?_
    refine y_if_ne (t := 175) (n := 171) ⟨dX12_factOf_168, rfl, rfl⟩ (fun (hc : ¬ (t10 = 0)) => ?_) (fun (hc : t10 = 0) => ?_)
    · replace hf := i_f hc hf
      refine y_iconst (n := 176) (v := 0) ⟨dX12_factOf_175, rfl⟩ ki_0 ?_
      cases hf
      exact y_ireturn (n := 177) ⟨dX12_factOf_176, rfl⟩ rfl rfl hk
    · replace hf := i_t hc hf
      refine y_iconst (n := 172) (v := 1) ⟨dX12_factOf_171, rfl⟩ ki_1 ?_
      refine y_goto (t := 176) ⟨dX12_factOf_172, rfl, rfl⟩ ?_
      cases hf
      exact y_ireturn (n := 177) ⟨dX12_factOf_176, rfl⟩ rfl rfl hk
  replace hf := i_f hc4 hf
  by_cases hc5 : a2 = 13
  · replace hf := i_t hc5 hf
    refine y_tabIn (t := 177) (off := 140) dX12_factOf_37 (sw_lo hc5 (by decide)) (sw_hi hc5 (by decide)) (sw_at hc5 (by decide)) rfl ?_
    refine y_iload_n (i := 3) (n := 178) ⟨dX12_factOf_177, rfl⟩ rfl ?_
    refine y_iload (i := 4) (n := 180) ⟨dX12_factOf_178, rfl⟩ rfl ?_
    refine y_icmp_ne (t := 187) (n := 183) ⟨dX12_factOf_180, rfl, rfl⟩ (fun (hc : ¬ (v2 = ((1 : Int32) <<< ((gI M 78 a1.toNatClampNeg) &&& 31)))) => ?_) (fun (hc : v2 = ((1 : Int32) <<< ((gI M 78 a1.toNatClampNeg) &&& 31))) => ?_)
    · replace hf := i_f hc hf
      refine y_iconst (n := 188) (v := 0) ⟨dX12_factOf_187, rfl⟩ ki_0 ?_
      cases hf
      exact y_ireturn (n := 189) ⟨dX12_factOf_188, rfl⟩ rfl rfl hk
    · replace hf := i_t hc hf
      refine y_iconst (n := 184) (v := 1) ⟨dX12_factOf_183, rfl⟩ ki_1 ?_
      refine y_goto (t := 188) ⟨dX12_factOf_184, rfl, rfl⟩ ?_
      cases hf
      exact y_ireturn (n := 189) ⟨dX12_factOf_188, rfl⟩ rfl rfl hk
  replace hf := i_f hc5 hf
  by_cases hc6 : a2 = 14
  · replace hf := i_t hc6 hf
    refine y_tabIn (t := 189) (off := 152) dX12_factOf_37 (sw_lo hc6 (by decide)) (sw_hi hc6 (by decide)) (sw_at hc6 (by decide)) rfl ?_
    refine y_iconst (n := 190) (v := 0) ⟨dX12_factOf_189, rfl⟩ ki_0 ?_
    refine y_istore (i := 6) (n := 192) (L2 := [some (.ref 66), some (.int a1), some (.int a2), some (.int v2), some (.int ((1 : Int32) <<< ((gI M 78 a1.toNatClampNeg) &&& 31))), some (.int 0), some (.int 0)]) ⟨dX12_factOf_190, rfl⟩ (by decide) rfl rfl ?_
    obtain ⟨r18, hl17, hf⟩ := b_s hf
    cases hf
    exact y_wk ⟨Or.inr rfl, Or.inr rfl, Or.inl rfl, Or.inl rfl, Or.inr rfl, Or.inr rfl, Or.inr rfl, trivial⟩ (wl_mo_factOf_192 a1 ((1 : Int32) <<< ((gI M 78 a1.toNatClampNeg) &&& 31)) 0 0 M hl17 hk)
  replace hf := i_f hc6 hf
  by_cases hc7 : a2 = 15
  · replace hf := i_t hc7 hf
    refine y_tabIn (t := 245) (off := 208) dX12_factOf_37 (sw_lo hc7 (by decide)) (sw_hi hc7 (by decide)) (sw_at hc7 (by decide)) rfl ?_
    refine y_iload_n (i := 3) (n := 246) ⟨dX12_factOf_245, rfl⟩ rfl ?_
    obtain ⟨v19, hv20, hf⟩ := b_s hf
    refine c_mo_bits v2 M (n := 249) ⟨dX12_factOf_246, rfl⟩ klX12_242 hv20 (by decide) (Nat.le_of_ble_eq_true rfl) rfl rfl ?_
    refine y_iconst (n := 250) (v := 1) ⟨dX12_factOf_249, rfl⟩ ki_1 ?_
    refine y_isub (n := 251) ⟨dX12_factOf_250, rfl⟩ ?_
    cases hf
    exact y_ireturn (n := 252) ⟨dX12_factOf_251, rfl⟩ rfl rfl hk
  replace hf := i_f hc7 hf
  by_cases hc8 : a2 = 16
  · replace hf := i_t hc8 hf
    refine y_tabIn (t := 252) (off := 215) dX12_factOf_37 (sw_lo hc8 (by decide)) (sw_hi hc8 (by decide)) (sw_at hc8 (by decide)) rfl ?_
    refine y_iconst (n := 253) (v := 0) ⟨dX12_factOf_252, rfl⟩ ki_0 ?_
    refine y_istore (i := 6) (n := 255) (L2 := [some (.ref 66), some (.int a1), some (.int a2), some (.int v2), some (.int ((1 : Int32) <<< ((gI M 78 a1.toNatClampNeg) &&& 31))), some (.int 0), some (.int 0)]) ⟨dX12_factOf_253, rfl⟩ (by decide) rfl rfl ?_
    obtain ⟨r25, hl24, hf⟩ := b_s hf
    cases hf
    exact y_wk ⟨Or.inr rfl, Or.inr rfl, Or.inl rfl, Or.inl rfl, Or.inl rfl, Or.inr rfl, Or.inr rfl, trivial⟩ (wl_mo_factOf_255 a1 0 0 M hl24 hk)
  replace hf := i_f hc8 hf
  by_cases hc9 : a2 = 17
  · replace hf := i_t hc9 hf
    refine y_tabIn (t := 293) (off := 256) dX12_factOf_37 (sw_lo hc9 (by decide)) (sw_hi hc9 (by decide)) (sw_at hc9 (by decide)) rfl ?_
    refine y_aload_n (i := 0) (n := 294) ⟨dX12_factOf_293, rfl⟩ rfl ?_
    refine y_getR (n := 297) ⟨dX12_factOf_294, rfl⟩ kfX12_31 l_66 rfl r_66_10 ?_
    refine y_iload_n (i := 1) (n := 298) ⟨dX12_factOf_297, rfl⟩ rfl ?_
    refine y_iaload (n := 299) ⟨dX12_factOf_298, rfl⟩ l_74 hg1 ?_
    cases hf
    exact y_ireturn (n := 300) ⟨dX12_factOf_299, rfl⟩ rfl rfl hk
  replace hf := i_f hc9 hf
  by_cases hc10 : a2 = 18
  · replace hf := i_t hc10 hf
    refine y_tabIn (t := 300) (off := 263) dX12_factOf_37 (sw_lo hc10 (by decide)) (sw_hi hc10 (by decide)) (sw_at hc10 (by decide)) rfl ?_
    refine y_aload_n (i := 0) (n := 301) ⟨dX12_factOf_300, rfl⟩ rfl ?_
    refine y_getR (n := 304) ⟨dX12_factOf_301, rfl⟩ kfX12_37 l_66 rfl r_66_12 ?_
    refine y_iload_n (i := 1) (n := 305) ⟨dX12_factOf_304, rfl⟩ rfl ?_
    refine y_iaload (n := 306) ⟨dX12_factOf_305, rfl⟩ l_76 hg1 ?_
    cases hf
    exact y_ireturn (n := 307) ⟨dX12_factOf_306, rfl⟩ rfl rfl hk
  replace hf := i_f hc10 hf
  by_cases hc11 : a2 = 19
  · replace hf := i_t hc11 hf
    refine y_tabIn (t := 307) (off := 270) dX12_factOf_37 (sw_lo hc11 (by decide)) (sw_hi hc11 (by decide)) (sw_at hc11 (by decide)) rfl ?_
    refine y_aload_n (i := 0) (n := 308) ⟨dX12_factOf_307, rfl⟩ rfl ?_
    refine y_getR (n := 311) ⟨dX12_factOf_308, rfl⟩ kfX12_43 l_66 rfl r_66_14 ?_
    refine y_iload_n (i := 1) (n := 312) ⟨dX12_factOf_311, rfl⟩ rfl ?_
    refine y_iaload (n := 313) ⟨dX12_factOf_312, rfl⟩ l_78 hg1 ?_
    cases hf
    exact y_ireturn (n := 314) ⟨dX12_factOf_313, rfl⟩ rfl rfl hk
  replace hf := i_f hc11 hf
  refine y_tabOut (t := 314) dX12_factOf_37 (sw_out (lo := 8) (cs := [8, 9, 10, 11, 12, 13, 14, 15, 16, 17, 18, 19]) (by decide) (by decide) ⟨hc0, hc1, hc2, hc3, hc4, hc5, hc6, hc7, hc8, hc9, hc10, hc11, trivial⟩) rfl ?_
  refine y_aload_n (i := 0) (n := 315) ⟨dX12_factOf_314, rfl⟩ rfl ?_
  refine y_getR (n := 318) ⟨dX12_factOf_315, rfl⟩ kfX12_46 l_66 rfl r_66_15 ?_
  refine y_iload_n (i := 1) (n := 319) ⟨dX12_factOf_318, rfl⟩ rfl ?_
  refine y_iaload (n := 320) ⟨dX12_factOf_319, rfl⟩ l_79 hg1 ?_
  refine y_iload_n (i := 2) (n := 321) ⟨dX12_factOf_320, rfl⟩ rfl ?_
  refine y_ishr (n := 322) ⟨dX12_factOf_321, rfl⟩ ?_
  refine y_iconst (n := 323) (v := 1) ⟨dX12_factOf_322, rfl⟩ ki_1 ?_
  refine y_iand (n := 324) ⟨dX12_factOf_323, rfl⟩ ?_
  cases hf
  exact y_ireturn (n := 325) ⟨dX12_factOf_324, rfl⟩ rfl rfl hk
theorem c_mo_factOf (a1 : Int32) (a2 : Int32) (M : dM) {o : Int32} {y : mz_M} {d : Nat} {Q : mz_P} {pc n i : Nat} {L : List (Option Value)} {st : List Value} (h : mz_d y.2.1 pc n 3 (.invokevirtual i)) (hl : mz_ml y.1.cls i yX12_factOf) (hf : f_mo_factOf a1 a2 M = some o) (hd : 2 + 1 ≤ d) (hsm : (st.map (fun v => v.category)).sum ≤ 8) (hLr : mz_rL 133 L = true) (hSr : mz_rS 133 st = true) (kk : mW y d Q n L (.int o :: st) M) : mW y d Q pc L (.int a2 :: .int a1 :: .ref 66 :: st) M :=
  y_callV kmX12_factOf kvX12_factOf l_66 (by decide +kernel) (by decide +kernel) h hl (ok_mo_factOf a1 a2 M hf) (vs := [.int a1, .int a2]) rfl rfl hd hsm hLr hSr kk
noncomputable def t_mo_fact_24 (x1 : Int32) (x2 : Int32) (y1 : Int32) (M : dM) : Option (Int32 × dM) :=
  if (gI (sI M 66 0 y1) 66 0) = 1 then
    some (0, (sI M 66 0 y1))
  else
    (f_mo_factOf x1 x2 (sI M 66 0 y1)).bind fun v1 =>
    some (v1, (sI M 66 0 y1))
noncomputable def t_mo_fact_23 (x1 : Int32) (x2 : Int32) (M : dM) : Option (Int32 × dM) :=
  t_mo_fact_24 x1 x2 1 M
noncomputable def f_mo_fact (a1 : Int32) (a2 : Int32) (M : dM) : Option (Int32 × dM) :=
  if (f_mo_isFind a1 M) = true then
    if (f_mo_within a2 0 19) = true then
      t_mo_fact_24 a1 a2 0 M
    else
      t_mo_fact_23 a1 a2 M
  else
    t_mo_fact_23 a1 a2 M
theorem w_t_mo_fact_24 (x1 : Int32) (x2 : Int32) (y1 : Int32) (M : dM) {Q : mz_P} {o : (Int32 × dM)} (hf : t_mo_fact_24 x1 x2 y1 M = some o) (hk : mR Q (some (.int o.1)) o.2) : mW mX12_fact 3 Q 24 [some (.ref 66), some (.int x1), some (.int x2)] [.ref 66, .int y1] M := by
  unfold t_mo_fact_24 at hf
  refine y_putI (n := 27) ⟨dX12_fact_24, rfl⟩ kfX12_214 l_66 (by decide +kernel) rfl ?_
  refine y_aload_n (i := 0) (n := 28) ⟨dX12_fact_27, rfl⟩ rfl ?_
  refine y_getI (n := 31) ⟨dX12_fact_28, rfl⟩ kfX12_214 l_66 rfl ?_
  refine y_iconst (n := 32) (v := 1) ⟨dX12_fact_31, rfl⟩ ki_1 ?_
  refine y_icmp_ne (t := 39) (n := 35) ⟨dX12_fact_32, rfl, rfl⟩ (fun (hc : ¬ ((gI (sI M 66 0 y1) 66 0) = 1)) => ?_) (fun (hc : (gI (sI M 66 0 y1) 66 0) = 1) => ?_)
  · replace hf := i_f hc hf
    refine y_aload_n (i := 0) (n := 40) ⟨dX12_fact_39, rfl⟩ rfl ?_
    refine y_iload_n (i := 1) (n := 41) ⟨dX12_fact_40, rfl⟩ rfl ?_
    refine y_iload_n (i := 2) (n := 42) ⟨dX12_fact_41, rfl⟩ rfl ?_
    obtain ⟨v1, hv2, hf⟩ := b_s hf
    refine c_mo_factOf x1 x2 (sI M 66 0 y1) (n := 45) ⟨dX12_fact_42, rfl⟩ klX12_252 hv2 (by decide) (Nat.le_of_ble_eq_true rfl) rfl rfl ?_
    cases hf
    exact y_ireturn (n := 46) ⟨dX12_fact_45, rfl⟩ rfl rfl hk
  · replace hf := i_t hc hf
    refine y_iconst (n := 36) (v := 0) ⟨dX12_fact_35, rfl⟩ ki_0 ?_
    refine y_goto (t := 45) ⟨dX12_fact_36, rfl, rfl⟩ ?_
    cases hf
    exact y_ireturn (n := 46) ⟨dX12_fact_45, rfl⟩ rfl rfl hk
theorem w_t_mo_fact_23 (x1 : Int32) (x2 : Int32) (M : dM) {Q : mz_P} {o : (Int32 × dM)} (hf : t_mo_fact_23 x1 x2 M = some o) (hk : mR Q (some (.int o.1)) o.2) : mW mX12_fact 3 Q 23 [some (.ref 66), some (.int x1), some (.int x2)] [.ref 66] M := by
  unfold t_mo_fact_23 at hf
  refine y_iconst (n := 24) (v := 1) ⟨dX12_fact_23, rfl⟩ ki_1 ?_
  exact y_wk ⟨Or.inr rfl, Or.inr rfl, Or.inr rfl, trivial⟩ (w_t_mo_fact_24 x1 x2 1 M hf hk)
theorem ok_mo_fact (a1 : Int32) (a2 : Int32) (M : dM) {o : (Int32 × dM)} (hf : f_mo_fact a1 a2 M = some o) : mO mX12_fact 3 [.ref 66, .int a1, .int a2] M (some (.int o.1)) o.2 := by
  refine y_ok (by decide +kernel) (by decide) (L0 := [some (.ref 66), some (.int a1), some (.int a2)]) rfl ?_
  have hk := mR_mQ (some (.int o.1)) o.2
  generalize mQ _ _ = Q at hk ⊢
  unfold f_mo_fact at hf
  refine y_aload_n (i := 0) (n := 1) ⟨dX12_fact_0, rfl⟩ rfl ?_
  refine y_aload_n (i := 0) (n := 2) ⟨dX12_fact_1, rfl⟩ rfl ?_
  refine y_iload_n (i := 1) (n := 3) ⟨dX12_fact_2, rfl⟩ rfl ?_
  refine c_mo_isFind a1 M (n := 6) ⟨dX12_fact_3, rfl⟩ klX12_249 rfl (by decide) (Nat.le_of_ble_eq_true rfl) rfl rfl ?_
  refine y_if_eq (t := 23) (n := 9) ⟨dX12_fact_6, rfl, rfl⟩ (fun h0 => ?_) (fun h0 => ?_)
  · have hc := bI_0 h0
    replace hf := i_f hc hf
    exact y_wk ⟨Or.inr rfl, Or.inr rfl, Or.inr rfl, trivial⟩ (w_t_mo_fact_23 a1 a2 M hf hk)
  · have hc := bI_1 h0
    replace hf := i_t hc hf
    refine y_iload_n (i := 2) (n := 10) ⟨dX12_fact_9, rfl⟩ rfl ?_
    refine y_iconst (n := 11) (v := 0) ⟨dX12_fact_10, rfl⟩ ki_0 ?_
    refine y_bipush (n := 13) (v := 19) ⟨dX12_fact_11, rfl⟩ kb_19 ?_
    refine c_mo_within a2 0 19 M (n := 16) ⟨dX12_fact_13, rfl⟩ klX12_221 rfl (by decide) (Nat.le_of_ble_eq_true rfl) rfl rfl ?_
    refine y_if_eq (t := 23) (n := 19) ⟨dX12_fact_16, rfl, rfl⟩ (fun h0 => ?_) (fun h0 => ?_)
    · have hc := bI_0 h0
      replace hf := i_f hc hf
      exact y_wk ⟨Or.inr rfl, Or.inr rfl, Or.inr rfl, trivial⟩ (w_t_mo_fact_23 a1 a2 M hf hk)
    · have hc := bI_1 h0
      replace hf := i_t hc hf
      refine y_iconst (n := 20) (v := 0) ⟨dX12_fact_19, rfl⟩ ki_0 ?_
      refine y_goto (t := 24) ⟨dX12_fact_20, rfl, rfl⟩ ?_
      exact y_wk ⟨Or.inr rfl, Or.inr rfl, Or.inr rfl, trivial⟩ (w_t_mo_fact_24 a1 a2 0 M hf hk)
theorem c_mo_fact (a1 : Int32) (a2 : Int32) (M : dM) {o : (Int32 × dM)} {y : mz_M} {d : Nat} {Q : mz_P} {pc n i : Nat} {L : List (Option Value)} {st : List Value} (h : mz_d y.2.1 pc n 3 (.invokevirtual i)) (hl : mz_ml y.1.cls i yX12_fact) (hf : f_mo_fact a1 a2 M = some o) (hd : 3 + 1 ≤ d) (hsm : (st.map (fun v => v.category)).sum ≤ 8) (hLr : mz_rL 133 L = true) (hSr : mz_rS 133 st = true) (kk : mW y d Q n L (.int o.1 :: st) o.2) : mW y d Q pc L (.int a2 :: .int a1 :: .ref 66 :: st) M :=
  y_callV kmX12_fact kvX12_fact l_66 (by decide +kernel) (by decide +kernel) h hl (ok_mo_fact a1 a2 M hf) (vs := [.int a1, .int a2]) rfl rfl hd hsm hLr hSr kk
