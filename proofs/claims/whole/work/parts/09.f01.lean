noncomputable def f_ax_within (a1 : Int32) (a2 : Int32) : Bool :=
  if a1 < 0 then
    false
  else
    if a2 ≤ a1 then
      false
    else
      true
theorem ok_ax_within (a1 : Int32) (a2 : Int32) (M : dM) {o : Bool} (hf : f_ax_within a1 a2 = o) : mO mX11_within 1 [.int a1, .int a2] M (some (.int (bI o))) M := by
  refine y_ok (by decide +kernel) (Nat.le_of_ble_eq_true rfl) (L0 := [some (.int a1), some (.int a2)]) rfl ?_
  have hk := mR_mQ (some (.int (bI o))) M
  generalize mQ _ _ = Q at hk ⊢
  unfold f_ax_within at hf
  refine y_iload_n (i := 0) (n := 1) ⟨dX11_within_0, rfl⟩ rfl ?_
  refine y_if_lt (t := 13) (n := 4) ⟨dX11_within_1, rfl, rfl⟩ (fun (hc : a1 < 0) => ?_) (fun (hc : ¬ (a1 < 0)) => ?_)
  · replace hf := i_t hc hf
    refine y_iconst (n := 14) (v := 0) ⟨dX11_within_13, rfl⟩ ki_0 ?_
    cases hf
    exact y_ireturn (n := 15) ⟨dX11_within_14, rfl⟩ rfl rfl hk
  · replace hf := i_f hc hf
    refine y_iload_n (i := 0) (n := 5) ⟨dX11_within_4, rfl⟩ rfl ?_
    refine y_iload_n (i := 1) (n := 6) ⟨dX11_within_5, rfl⟩ rfl ?_
    refine y_icmp_ge (t := 13) (n := 9) ⟨dX11_within_6, rfl, rfl⟩ (fun (hc : a2 ≤ a1) => ?_) (fun (hc : ¬ (a2 ≤ a1)) => ?_)
    · replace hf := i_t hc hf
      refine y_iconst (n := 14) (v := 0) ⟨dX11_within_13, rfl⟩ ki_0 ?_
      cases hf
      exact y_ireturn (n := 15) ⟨dX11_within_14, rfl⟩ rfl rfl hk
    · replace hf := i_f hc hf
      refine y_iconst (n := 10) (v := 1) ⟨dX11_within_9, rfl⟩ ki_1 ?_
      refine y_goto (t := 14) ⟨dX11_within_10, rfl, rfl⟩ ?_
      cases hf
      exact y_ireturn (n := 15) ⟨dX11_within_14, rfl⟩ rfl rfl hk
theorem c_ax_within (a1 : Int32) (a2 : Int32) (M : dM) {o : Bool} {y : mz_M} {d : Nat} {Q : mz_P} {pc n i : Nat} {L : List (Option Value)} {st : List Value} (h : mz_d y.2.1 pc n 3 (.invokestatic i)) (hl : mz_ml y.1.cls i yX11_within) (hf : f_ax_within a1 a2 = o) (hd : 1 + 1 ≤ d) (hsm : (st.map (fun v => v.category)).sum ≤ 8) (hLr : mz_rL 133 L = true) (hSr : mz_rS 133 st = true) (kk : mW y d Q n L (.int (bI o) :: st) M) : mW y d Q pc L (.int a2 :: .int a1 :: st) M :=
  y_callS kmX11_within ksX11_within h hl (ok_ax_within a1 a2 M hf) (vs := [.int a1, .int a2]) rfl rfl hd hsm hLr hSr kk
noncomputable def f_si_tellLayer (a1 : Int32) (a2 : Int32) (a3 : Int32) (M : dM) : Option dM :=
  gd (vp_in ((a1 * 10) + a2) 80) <|
  gd (vp_in a1 8) <|
  some (sI (sI M 2 ((a1 * 10) + a2).toNatClampNeg a3) 4 a1.toNatClampNeg ((gI (sI M 2 ((a1 * 10) + a2).toNatClampNeg a3) 4 a1.toNatClampNeg) ||| ((1 : Int32) <<< (a2 &&& 31))))
theorem ok_si_tellLayer (a1 : Int32) (a2 : Int32) (a3 : Int32) (M : dM) {o : dM} (hf : f_si_tellLayer a1 a2 a3 M = some o) : mO mX7_tellLayer 1 [.ref 1, .int a1, .int a2, .int a3] M none o := by
  refine y_ok (by decide +kernel) (Nat.le_of_ble_eq_true rfl) (L0 := [some (.ref 1), some (.int a1), some (.int a2), some (.int a3)]) rfl ?_
  have hk := mR_mQ none o
  generalize mQ _ _ = Q at hk ⊢
  unfold f_si_tellLayer at hf
  refine y_aload_n (i := 0) (n := 1) ⟨dX7_tellLayer_0, rfl⟩ rfl ?_
  refine y_getR (n := 4) ⟨dX7_tellLayer_1, rfl⟩ kfX7_9 l_1 rfl r_1_0 ?_
  refine y_iload_n (i := 1) (n := 5) ⟨dX7_tellLayer_4, rfl⟩ rfl ?_
  refine y_bipush (n := 7) (v := 10) ⟨dX7_tellLayer_5, rfl⟩ kb_10 ?_
  refine y_imul (n := 8) ⟨dX7_tellLayer_7, rfl⟩ ?_
  refine y_iload_n (i := 2) (n := 9) ⟨dX7_tellLayer_8, rfl⟩ rfl ?_
  refine y_iadd (n := 10) ⟨dX7_tellLayer_9, rfl⟩ ?_
  refine y_iload_n (i := 3) (n := 11) ⟨dX7_tellLayer_10, rfl⟩ rfl ?_
  obtain ⟨hg1, hf⟩ := g_s hf
  refine y_iastore (n := 12) ⟨dX7_tellLayer_11, rfl⟩ l_2 hg1 ?_
  refine y_aload_n (i := 0) (n := 13) ⟨dX7_tellLayer_12, rfl⟩ rfl ?_
  refine y_getR (n := 16) ⟨dX7_tellLayer_13, rfl⟩ kfX7_18 l_1 rfl r_1_2 ?_
  refine y_iload_n (i := 1) (n := 17) ⟨dX7_tellLayer_16, rfl⟩ rfl ?_
  refine y_dup2 (n := 18) ⟨dX7_tellLayer_17, rfl⟩ ?_
  obtain ⟨hg2, hf⟩ := g_s hf
  refine y_iaload (n := 19) ⟨dX7_tellLayer_18, rfl⟩ l_4 hg2 ?_
  refine y_iconst (n := 20) (v := 1) ⟨dX7_tellLayer_19, rfl⟩ ki_1 ?_
  refine y_iload_n (i := 2) (n := 21) ⟨dX7_tellLayer_20, rfl⟩ rfl ?_
  refine y_ishl (n := 22) ⟨dX7_tellLayer_21, rfl⟩ ?_
  refine y_ior (n := 23) ⟨dX7_tellLayer_22, rfl⟩ ?_
  refine y_iastore (n := 24) ⟨dX7_tellLayer_23, rfl⟩ l_4 hg2 ?_
  cases hf
  exact y_return (n := 25) ⟨dX7_tellLayer_24, rfl⟩ rfl hk
theorem c_si_tellLayer (a1 : Int32) (a2 : Int32) (a3 : Int32) (M : dM) {o : dM} {y : mz_M} {d : Nat} {Q : mz_P} {pc n i : Nat} {L : List (Option Value)} {st : List Value} (h : mz_d y.2.1 pc n 3 (.invokevirtual i)) (hl : mz_ml y.1.cls i yX7_tellLayer) (hf : f_si_tellLayer a1 a2 a3 M = some o) (hd : 1 + 1 ≤ d) (hsm : (st.map (fun v => v.category)).sum ≤ 8) (hLr : mz_rL 133 L = true) (hSr : mz_rS 133 st = true) (kk : mW y d Q n L st o) : mW y d Q pc L (.int a3 :: .int a2 :: .int a1 :: .ref 1 :: st) M :=
  y_callV kmX7_tellLayer kvX7_tellLayer l_1 (by decide +kernel) (by decide +kernel) h hl (ok_si_tellLayer a1 a2 a3 M hf) (vs := [.int a1, .int a2, .int a3]) rfl rfl hd hsm hLr hSr kk
noncomputable def f_ju_forget (M : dM) : dM :=
  (sI M 39 9 (-2))
theorem ok_ju_forget  (M : dM) {o : dM} (hf : f_ju_forget M = o) : mO mX2_forget 1 [.ref 39] M none o := by
  refine y_ok (by decide +kernel) (Nat.le_of_ble_eq_true rfl) (L0 := [some (.ref 39)]) rfl ?_
  have hk := mR_mQ none o
  generalize mQ _ _ = Q at hk ⊢
  unfold f_ju_forget at hf
  refine y_aload_n (i := 0) (n := 1) ⟨dX2_forget_0, rfl⟩ rfl ?_
  refine y_bipush (n := 3) (v := (-2)) ⟨dX2_forget_1, rfl⟩ kb_m2 ?_
  refine y_putI (n := 6) ⟨dX2_forget_3, rfl⟩ kfX2_28 l_39 (by decide +kernel) rfl ?_
  cases hf
  exact y_return (n := 7) ⟨dX2_forget_6, rfl⟩ rfl hk
theorem c_ju_forget  (M : dM) {o : dM} {y : mz_M} {d : Nat} {Q : mz_P} {pc n i : Nat} {L : List (Option Value)} {st : List Value} (h : mz_d y.2.1 pc n 3 (.invokevirtual i)) (hl : mz_ml y.1.cls i yX2_forget) (hf : f_ju_forget M = o) (hd : 1 + 1 ≤ d) (hsm : (st.map (fun v => v.category)).sum ≤ 8) (hLr : mz_rL 133 L = true) (hSr : mz_rS 133 st = true) (kk : mW y d Q n L st o) : mW y d Q pc L (.ref 39 :: st) M :=
  y_callV kmX2_forget kvX2_forget l_39 (by decide +kernel) (by decide +kernel) h hl (ok_ju_forget  M hf) (vs := []) rfl rfl hd hsm hLr hSr kk
noncomputable def f_cl_forget (M : dM) : dM :=
  (sI (sI M 50 6 (-1)) 50 9 0)
theorem ok_cl_forget  (M : dM) {o : dM} (hf : f_cl_forget M = o) : mO mX1_forget 1 [.ref 50] M none o := by
  refine y_ok (by decide +kernel) (Nat.le_of_ble_eq_true rfl) (L0 := [some (.ref 50)]) rfl ?_
  have hk := mR_mQ none o
  generalize mQ _ _ = Q at hk ⊢
  unfold f_cl_forget at hf
  refine y_aload_n (i := 0) (n := 1) ⟨dX1_forget_0, rfl⟩ rfl ?_
  refine y_iconst (n := 2) (v := (-1)) ⟨dX1_forget_1, rfl⟩ ki_m1 ?_
  refine y_putI (n := 5) ⟨dX1_forget_2, rfl⟩ kfX1_25 l_50 (by decide +kernel) rfl ?_
  refine y_aload_n (i := 0) (n := 6) ⟨dX1_forget_5, rfl⟩ rfl ?_
  refine y_iconst (n := 7) (v := 0) ⟨dX1_forget_6, rfl⟩ ki_0 ?_
  refine y_putI (n := 10) ⟨dX1_forget_7, rfl⟩ kfX1_36 l_50 (by decide +kernel) rfl ?_
  cases hf
  exact y_return (n := 11) ⟨dX1_forget_10, rfl⟩ rfl hk
theorem c_cl_forget  (M : dM) {o : dM} {y : mz_M} {d : Nat} {Q : mz_P} {pc n i : Nat} {L : List (Option Value)} {st : List Value} (h : mz_d y.2.1 pc n 3 (.invokevirtual i)) (hl : mz_ml y.1.cls i yX1_forget) (hf : f_cl_forget M = o) (hd : 1 + 1 ≤ d) (hsm : (st.map (fun v => v.category)).sum ≤ 8) (hLr : mz_rL 133 L = true) (hSr : mz_rS 133 st = true) (kk : mW y d Q n L st o) : mW y d Q pc L (.ref 50 :: st) M :=
  y_callV kmX1_forget kvX1_forget l_50 (by decide +kernel) (by decide +kernel) h hl (ok_cl_forget  M hf) (vs := []) rfl rfl hd hsm hLr hSr kk
noncomputable def f_wo_forget (M : dM) : dM :=
  (sI (sI M 56 14 (-1)) 56 16 0)
theorem ok_wo_forget  (M : dM) {o : dM} (hf : f_wo_forget M = o) : mO mX10_forget 1 [.ref 56] M none o := by
  refine y_ok (by decide +kernel) (Nat.le_of_ble_eq_true rfl) (L0 := [some (.ref 56)]) rfl ?_
  have hk := mR_mQ none o
  generalize mQ _ _ = Q at hk ⊢
  unfold f_wo_forget at hf
  refine y_aload_n (i := 0) (n := 1) ⟨dX10_forget_0, rfl⟩ rfl ?_
  refine y_iconst (n := 2) (v := (-1)) ⟨dX10_forget_1, rfl⟩ ki_m1 ?_
  refine y_putI (n := 5) ⟨dX10_forget_2, rfl⟩ kfX10_36 l_56 (by decide +kernel) rfl ?_
  refine y_aload_n (i := 0) (n := 6) ⟨dX10_forget_5, rfl⟩ rfl ?_
  refine y_iconst (n := 7) (v := 0) ⟨dX10_forget_6, rfl⟩ ki_0 ?_
  refine y_putI (n := 10) ⟨dX10_forget_7, rfl⟩ kfX10_55 l_56 (by decide +kernel) rfl ?_
  cases hf
  exact y_return (n := 11) ⟨dX10_forget_10, rfl⟩ rfl hk
theorem c_wo_forget  (M : dM) {o : dM} {y : mz_M} {d : Nat} {Q : mz_P} {pc n i : Nat} {L : List (Option Value)} {st : List Value} (h : mz_d y.2.1 pc n 3 (.invokevirtual i)) (hl : mz_ml y.1.cls i yX10_forget) (hf : f_wo_forget M = o) (hd : 1 + 1 ≤ d) (hsm : (st.map (fun v => v.category)).sum ≤ 8) (hLr : mz_rL 133 L = true) (hSr : mz_rS 133 st = true) (kk : mW y d Q n L st o) : mW y d Q pc L (.ref 56 :: st) M :=
  y_callV kmX10_forget kvX10_forget l_56 (by decide +kernel) (by decide +kernel) h hl (ok_wo_forget  M hf) (vs := []) rfl rfl hd hsm hLr hSr kk
noncomputable def f_ax_changed (M : dM) : dM :=
  (f_wo_forget (f_cl_forget (f_ju_forget (sI M 0 10 0))))
theorem ok_ax_changed  (M : dM) {o : dM} (hf : f_ax_changed M = o) : mO mX11_changed 2 [.ref 0] M none o := by
  refine y_ok (by decide +kernel) (Nat.le_of_ble_eq_true rfl) (L0 := [some (.ref 0)]) rfl ?_
  have hk := mR_mQ none o
  generalize mQ _ _ = Q at hk ⊢
  unfold f_ax_changed at hf
  refine y_aload_n (i := 0) (n := 1) ⟨dX11_changed_0, rfl⟩ rfl ?_
  refine y_iconst (n := 2) (v := 0) ⟨dX11_changed_1, rfl⟩ ki_0 ?_
  refine y_putI (n := 5) ⟨dX11_changed_2, rfl⟩ kfX11_87 l_0 (by decide +kernel) rfl ?_
  refine y_aload_n (i := 0) (n := 6) ⟨dX11_changed_5, rfl⟩ rfl ?_
  refine y_getR (n := 9) ⟨dX11_changed_6, rfl⟩ kfX11_56 l_0 rfl r_0_6 ?_
  refine c_ju_forget (sI M 0 10 0) (n := 12) ⟨dX11_changed_9, rfl⟩ klX11_357 rfl (by decide) (Nat.le_of_ble_eq_true rfl) rfl rfl ?_
  refine y_aload_n (i := 0) (n := 13) ⟨dX11_changed_12, rfl⟩ rfl ?_
  refine y_getR (n := 16) ⟨dX11_changed_13, rfl⟩ kfX11_74 l_0 rfl r_0_8 ?_
  refine c_cl_forget (f_ju_forget (sI M 0 10 0)) (n := 19) ⟨dX11_changed_16, rfl⟩ klX11_360 rfl (by decide) (Nat.le_of_ble_eq_true rfl) rfl rfl ?_
  refine y_aload_n (i := 0) (n := 20) ⟨dX11_changed_19, rfl⟩ rfl ?_
  refine y_getR (n := 23) ⟨dX11_changed_20, rfl⟩ kfX11_83 l_0 rfl r_0_9 ?_
  refine c_wo_forget (f_cl_forget (f_ju_forget (sI M 0 10 0))) (n := 26) ⟨dX11_changed_23, rfl⟩ klX11_361 rfl (by decide) (Nat.le_of_ble_eq_true rfl) rfl rfl ?_
  cases hf
  exact y_return (n := 27) ⟨dX11_changed_26, rfl⟩ rfl hk
theorem c_ax_changed  (M : dM) {o : dM} {y : mz_M} {d : Nat} {Q : mz_P} {pc n i : Nat} {L : List (Option Value)} {st : List Value} (h : mz_d y.2.1 pc n 3 (.invokevirtual i)) (hl : mz_ml y.1.cls i yX11_changed) (hf : f_ax_changed M = o) (hd : 2 + 1 ≤ d) (hsm : (st.map (fun v => v.category)).sum ≤ 8) (hLr : mz_rL 133 L = true) (hSr : mz_rS 133 st = true) (kk : mW y d Q n L st o) : mW y d Q pc L (.ref 0 :: st) M :=
  y_callV kmX11_changed kvX11_changed l_0 (by decide +kernel) (by decide +kernel) h hl (ok_ax_changed  M hf) (vs := []) rfl rfl hd hsm hLr hSr kk
noncomputable def f_ax_layer (a1 : Int32) (a2 : Int32) (a3 : Int32) (M : dM) : Option (Bool × dM) :=
  if (f_ax_within a1 8) = true then
    if (f_ax_within a2 10) = true then
      if (f_ax_within a3 10000) = true then
        (f_si_tellLayer a1 a2 a3 M).bind fun q1 =>
        some (true, (f_ax_changed q1))
      else
        some (false, M)
    else
      some (false, M)
  else
    some (false, M)
theorem ok_ax_layer (a1 : Int32) (a2 : Int32) (a3 : Int32) (M : dM) {o : (Bool × dM)} (hf : f_ax_layer a1 a2 a3 M = some o) : mO mX11_layer 3 [.ref 0, .int a1, .int a2, .int a3] M (some (.int (bI o.1))) o.2 := by
  refine y_ok (by decide +kernel) (Nat.le_of_ble_eq_true rfl) (L0 := [some (.ref 0), some (.int a1), some (.int a2), some (.int a3)]) rfl ?_
  have hk := mR_mQ (some (.int (bI o.1))) o.2
  generalize mQ _ _ = Q at hk ⊢
  unfold f_ax_layer at hf
  refine y_iload_n (i := 1) (n := 1) ⟨dX11_layer_0, rfl⟩ rfl ?_
  refine y_bipush (n := 3) (v := 8) ⟨dX11_layer_1, rfl⟩ kb_8 ?_
  refine c_ax_within a1 8 M (n := 6) ⟨dX11_layer_3, rfl⟩ klX11_91 rfl (by decide) (Nat.le_of_ble_eq_true rfl) rfl rfl ?_
  refine y_if_eq (t := 28) (n := 9) ⟨dX11_layer_6, rfl, rfl⟩ (fun h0 => ?_) (fun h0 => ?_)
  · have hc := bI_0 h0
    replace hf := i_f hc hf
    refine y_iconst (n := 29) (v := 0) ⟨dX11_layer_28, rfl⟩ ki_0 ?_
    cases hf
    exact y_ireturn (n := 30) ⟨dX11_layer_29, rfl⟩ rfl rfl hk
  · have hc := bI_1 h0
    replace hf := i_t hc hf
    refine y_iload_n (i := 2) (n := 10) ⟨dX11_layer_9, rfl⟩ rfl ?_
    refine y_bipush (n := 12) (v := 10) ⟨dX11_layer_10, rfl⟩ kb_10 ?_
    refine c_ax_within a2 10 M (n := 15) ⟨dX11_layer_12, rfl⟩ klX11_91 rfl (by decide) (Nat.le_of_ble_eq_true rfl) rfl rfl ?_
    refine y_if_eq (t := 28) (n := 18) ⟨dX11_layer_15, rfl, rfl⟩ (fun h0 => ?_) (fun h0 => ?_)
    · have hc := bI_0 h0
      replace hf := i_f hc hf
      refine y_iconst (n := 29) (v := 0) ⟨dX11_layer_28, rfl⟩ ki_0 ?_
      cases hf
      exact y_ireturn (n := 30) ⟨dX11_layer_29, rfl⟩ rfl rfl hk
    · have hc := bI_1 h0
      replace hf := i_t hc hf
      refine y_iload_n (i := 3) (n := 19) ⟨dX11_layer_18, rfl⟩ rfl ?_
      refine y_sipush (n := 22) (v := 10000) ⟨dX11_layer_19, rfl⟩ ks_10000 ?_
      refine c_ax_within a3 10000 M (n := 25) ⟨dX11_layer_22, rfl⟩ klX11_91 rfl (by decide) (Nat.le_of_ble_eq_true rfl) rfl rfl ?_
      refine y_if_ne (t := 30) (n := 28) ⟨dX11_layer_25, rfl, rfl⟩ (fun h0 => ?_) (fun h0 => ?_)
      · have hc := bI_1 h0
        replace hf := i_t hc hf
        refine y_aload_n (i := 0) (n := 31) ⟨dX11_layer_30, rfl⟩ rfl ?_
        refine y_getR (n := 34) ⟨dX11_layer_31, rfl⟩ kfX11_10 l_0 rfl r_0_0 ?_
        refine y_iload_n (i := 1) (n := 35) ⟨dX11_layer_34, rfl⟩ rfl ?_
        refine y_iload_n (i := 2) (n := 36) ⟨dX11_layer_35, rfl⟩ rfl ?_
        refine y_iload_n (i := 3) (n := 37) ⟨dX11_layer_36, rfl⟩ rfl ?_
        obtain ⟨q1, hv2, hf⟩ := b_s hf
        refine c_si_tellLayer a1 a2 a3 M (n := 40) ⟨dX11_layer_37, rfl⟩ klX11_95 hv2 (by decide) (Nat.le_of_ble_eq_true rfl) rfl rfl ?_
        refine y_aload_n (i := 0) (n := 41) ⟨dX11_layer_40, rfl⟩ rfl ?_
        refine c_ax_changed q1 (n := 44) ⟨dX11_layer_41, rfl⟩ klX11_99 rfl (by decide) (Nat.le_of_ble_eq_true rfl) rfl rfl ?_
        refine y_iconst (n := 45) (v := 1) ⟨dX11_layer_44, rfl⟩ ki_1 ?_
        cases hf
        exact y_ireturn (n := 46) ⟨dX11_layer_45, rfl⟩ rfl rfl hk
      · have hc := bI_0 h0
        replace hf := i_f hc hf
        refine y_iconst (n := 29) (v := 0) ⟨dX11_layer_28, rfl⟩ ki_0 ?_
        cases hf
        exact y_ireturn (n := 30) ⟨dX11_layer_29, rfl⟩ rfl rfl hk
theorem c_ax_layer (a1 : Int32) (a2 : Int32) (a3 : Int32) (M : dM) {o : (Bool × dM)} {y : mz_M} {d : Nat} {Q : mz_P} {pc n i : Nat} {L : List (Option Value)} {st : List Value} (h : mz_d y.2.1 pc n 3 (.invokevirtual i)) (hl : mz_ml y.1.cls i yX11_layer) (hf : f_ax_layer a1 a2 a3 M = some o) (hd : 3 + 1 ≤ d) (hsm : (st.map (fun v => v.category)).sum ≤ 8) (hLr : mz_rL 133 L = true) (hSr : mz_rS 133 st = true) (kk : mW y d Q n L (.int (bI o.1) :: st) o.2) : mW y d Q pc L (.int a3 :: .int a2 :: .int a1 :: .ref 0 :: st) M :=
  y_callV kmX11_layer kvX11_layer l_0 (by decide +kernel) (by decide +kernel) h hl (ok_ax_layer a1 a2 a3 M hf) (vs := [.int a1, .int a2, .int a3]) rfl rfl hd hsm hLr hSr kk
noncomputable def f_si_tellWay (a1 : Int32) (a2 : Int32) (a3 : Int32) (M : dM) : Option dM :=
  gd (vp_in ((a1 * 8) + a2) 64) <|
  gd (vp_in ((a2 * 8) + a1) 64) <|
  some (sI (sI M 5 ((a1 * 8) + a2).toNatClampNeg a3) 5 ((a2 * 8) + a1).toNatClampNeg a3)
theorem ok_si_tellWay (a1 : Int32) (a2 : Int32) (a3 : Int32) (M : dM) {o : dM} (hf : f_si_tellWay a1 a2 a3 M = some o) : mO mX7_tellWay 1 [.ref 1, .int a1, .int a2, .int a3] M none o := by
  refine y_ok (by decide +kernel) (Nat.le_of_ble_eq_true rfl) (L0 := [some (.ref 1), some (.int a1), some (.int a2), some (.int a3)]) rfl ?_
  have hk := mR_mQ none o
  generalize mQ _ _ = Q at hk ⊢
  unfold f_si_tellWay at hf
  refine y_aload_n (i := 0) (n := 1) ⟨dX7_tellWay_0, rfl⟩ rfl ?_
  refine y_getR (n := 4) ⟨dX7_tellWay_1, rfl⟩ kfX7_21 l_1 rfl r_1_3 ?_
  refine y_iload_n (i := 1) (n := 5) ⟨dX7_tellWay_4, rfl⟩ rfl ?_
  refine y_bipush (n := 7) (v := 8) ⟨dX7_tellWay_5, rfl⟩ kb_8 ?_
  refine y_imul (n := 8) ⟨dX7_tellWay_7, rfl⟩ ?_
  refine y_iload_n (i := 2) (n := 9) ⟨dX7_tellWay_8, rfl⟩ rfl ?_
  refine y_iadd (n := 10) ⟨dX7_tellWay_9, rfl⟩ ?_
  refine y_iload_n (i := 3) (n := 11) ⟨dX7_tellWay_10, rfl⟩ rfl ?_
  obtain ⟨hg1, hf⟩ := g_s hf
  refine y_iastore (n := 12) ⟨dX7_tellWay_11, rfl⟩ l_5 hg1 ?_
  refine y_aload_n (i := 0) (n := 13) ⟨dX7_tellWay_12, rfl⟩ rfl ?_
  refine y_getR (n := 16) ⟨dX7_tellWay_13, rfl⟩ kfX7_21 l_1 rfl r_1_3 ?_
  refine y_iload_n (i := 2) (n := 17) ⟨dX7_tellWay_16, rfl⟩ rfl ?_
  refine y_bipush (n := 19) (v := 8) ⟨dX7_tellWay_17, rfl⟩ kb_8 ?_
  refine y_imul (n := 20) ⟨dX7_tellWay_19, rfl⟩ ?_
  refine y_iload_n (i := 1) (n := 21) ⟨dX7_tellWay_20, rfl⟩ rfl ?_
  refine y_iadd (n := 22) ⟨dX7_tellWay_21, rfl⟩ ?_
  refine y_iload_n (i := 3) (n := 23) ⟨dX7_tellWay_22, rfl⟩ rfl ?_
  obtain ⟨hg2, hf⟩ := g_s hf
  refine y_iastore (n := 24) ⟨dX7_tellWay_23, rfl⟩ l_5 hg2 ?_
  cases hf
  exact y_return (n := 25) ⟨dX7_tellWay_24, rfl⟩ rfl hk
theorem c_si_tellWay (a1 : Int32) (a2 : Int32) (a3 : Int32) (M : dM) {o : dM} {y : mz_M} {d : Nat} {Q : mz_P} {pc n i : Nat} {L : List (Option Value)} {st : List Value} (h : mz_d y.2.1 pc n 3 (.invokevirtual i)) (hl : mz_ml y.1.cls i yX7_tellWay) (hf : f_si_tellWay a1 a2 a3 M = some o) (hd : 1 + 1 ≤ d) (hsm : (st.map (fun v => v.category)).sum ≤ 8) (hLr : mz_rL 133 L = true) (hSr : mz_rS 133 st = true) (kk : mW y d Q n L st o) : mW y d Q pc L (.int a3 :: .int a2 :: .int a1 :: .ref 1 :: st) M :=
  y_callV kmX7_tellWay kvX7_tellWay l_1 (by decide +kernel) (by decide +kernel) h hl (ok_si_tellWay a1 a2 a3 M hf) (vs := [.int a1, .int a2, .int a3]) rfl rfl hd hsm hLr hSr kk
noncomputable def f_ax_way (a1 : Int32) (a2 : Int32) (a3 : Int32) (M : dM) : Option (Bool × dM) :=
  if (f_ax_within a1 8) = true then
    if (f_ax_within a2 8) = true then
      if a1 = a2 then
        some (false, M)
      else
        if (f_ax_within a3 1000) = true then
          (f_si_tellWay a1 a2 a3 M).bind fun q1 =>
          some (true, (f_ax_changed q1))
        else
          some (false, M)
    else
      some (false, M)
  else
    some (false, M)
theorem ok_ax_way (a1 : Int32) (a2 : Int32) (a3 : Int32) (M : dM) {o : (Bool × dM)} (hf : f_ax_way a1 a2 a3 M = some o) : mO mX11_way 3 [.ref 0, .int a1, .int a2, .int a3] M (some (.int (bI o.1))) o.2 := by
  refine y_ok (by decide +kernel) (Nat.le_of_ble_eq_true rfl) (L0 := [some (.ref 0), some (.int a1), some (.int a2), some (.int a3)]) rfl ?_
  have hk := mR_mQ (some (.int (bI o.1))) o.2
  generalize mQ _ _ = Q at hk ⊢
  unfold f_ax_way at hf
  refine y_iload_n (i := 1) (n := 1) ⟨dX11_way_0, rfl⟩ rfl ?_
  refine y_bipush (n := 3) (v := 8) ⟨dX11_way_1, rfl⟩ kb_8 ?_
  refine c_ax_within a1 8 M (n := 6) ⟨dX11_way_3, rfl⟩ klX11_91 rfl (by decide) (Nat.le_of_ble_eq_true rfl) rfl rfl ?_
  refine y_if_eq (t := 33) (n := 9) ⟨dX11_way_6, rfl, rfl⟩ (fun h0 => ?_) (fun h0 => ?_)
  · have hc := bI_0 h0
    replace hf := i_f hc hf
    refine y_iconst (n := 34) (v := 0) ⟨dX11_way_33, rfl⟩ ki_0 ?_
    cases hf
    exact y_ireturn (n := 35) ⟨dX11_way_34, rfl⟩ rfl rfl hk
  · have hc := bI_1 h0
    replace hf := i_t hc hf
    refine y_iload_n (i := 2) (n := 10) ⟨dX11_way_9, rfl⟩ rfl ?_
    refine y_bipush (n := 12) (v := 8) ⟨dX11_way_10, rfl⟩ kb_8 ?_
    refine c_ax_within a2 8 M (n := 15) ⟨dX11_way_12, rfl⟩ klX11_91 rfl (by decide) (Nat.le_of_ble_eq_true rfl) rfl rfl ?_
    refine y_if_eq (t := 33) (n := 18) ⟨dX11_way_15, rfl, rfl⟩ (fun h0 => ?_) (fun h0 => ?_)
    · have hc := bI_0 h0
      replace hf := i_f hc hf
      refine y_iconst (n := 34) (v := 0) ⟨dX11_way_33, rfl⟩ ki_0 ?_
      cases hf
      exact y_ireturn (n := 35) ⟨dX11_way_34, rfl⟩ rfl rfl hk
    · have hc := bI_1 h0
      replace hf := i_t hc hf
      refine y_iload_n (i := 1) (n := 19) ⟨dX11_way_18, rfl⟩ rfl ?_
      refine y_iload_n (i := 2) (n := 20) ⟨dX11_way_19, rfl⟩ rfl ?_
      refine y_icmp_eq (t := 33) (n := 23) ⟨dX11_way_20, rfl, rfl⟩ (fun (hc : a1 = a2) => ?_) (fun (hc : ¬ (a1 = a2)) => ?_)
      · replace hf := i_t hc hf
        refine y_iconst (n := 34) (v := 0) ⟨dX11_way_33, rfl⟩ ki_0 ?_
        cases hf
        exact y_ireturn (n := 35) ⟨dX11_way_34, rfl⟩ rfl rfl hk
      · replace hf := i_f hc hf
        refine y_iload_n (i := 3) (n := 24) ⟨dX11_way_23, rfl⟩ rfl ?_
        refine y_sipush (n := 27) (v := 1000) ⟨dX11_way_24, rfl⟩ ks_1000 ?_
        refine c_ax_within a3 1000 M (n := 30) ⟨dX11_way_27, rfl⟩ klX11_91 rfl (by decide) (Nat.le_of_ble_eq_true rfl) rfl rfl ?_
        refine y_if_ne (t := 35) (n := 33) ⟨dX11_way_30, rfl, rfl⟩ (fun h0 => ?_) (fun h0 => ?_)
        · have hc := bI_1 h0
          replace hf := i_t hc hf
          refine y_aload_n (i := 0) (n := 36) ⟨dX11_way_35, rfl⟩ rfl ?_
          refine y_getR (n := 39) ⟨dX11_way_36, rfl⟩ kfX11_10 l_0 rfl r_0_0 ?_
          refine y_iload_n (i := 1) (n := 40) ⟨dX11_way_39, rfl⟩ rfl ?_
          refine y_iload_n (i := 2) (n := 41) ⟨dX11_way_40, rfl⟩ rfl ?_
          refine y_iload_n (i := 3) (n := 42) ⟨dX11_way_41, rfl⟩ rfl ?_
          obtain ⟨q1, hv2, hf⟩ := b_s hf
          refine c_si_tellWay a1 a2 a3 M (n := 45) ⟨dX11_way_42, rfl⟩ klX11_102 hv2 (by decide) (Nat.le_of_ble_eq_true rfl) rfl rfl ?_
          refine y_aload_n (i := 0) (n := 46) ⟨dX11_way_45, rfl⟩ rfl ?_
          refine c_ax_changed q1 (n := 49) ⟨dX11_way_46, rfl⟩ klX11_99 rfl (by decide) (Nat.le_of_ble_eq_true rfl) rfl rfl ?_
          refine y_iconst (n := 50) (v := 1) ⟨dX11_way_49, rfl⟩ ki_1 ?_
          cases hf
          exact y_ireturn (n := 51) ⟨dX11_way_50, rfl⟩ rfl rfl hk
        · have hc := bI_0 h0
          replace hf := i_f hc hf
          refine y_iconst (n := 34) (v := 0) ⟨dX11_way_33, rfl⟩ ki_0 ?_
          cases hf
          exact y_ireturn (n := 35) ⟨dX11_way_34, rfl⟩ rfl rfl hk
theorem c_ax_way (a1 : Int32) (a2 : Int32) (a3 : Int32) (M : dM) {o : (Bool × dM)} {y : mz_M} {d : Nat} {Q : mz_P} {pc n i : Nat} {L : List (Option Value)} {st : List Value} (h : mz_d y.2.1 pc n 3 (.invokevirtual i)) (hl : mz_ml y.1.cls i yX11_way) (hf : f_ax_way a1 a2 a3 M = some o) (hd : 3 + 1 ≤ d) (hsm : (st.map (fun v => v.category)).sum ≤ 8) (hLr : mz_rL 133 L = true) (hSr : mz_rS 133 st = true) (kk : mW y d Q n L (.int (bI o.1) :: st) o.2) : mW y d Q pc L (.int a3 :: .int a2 :: .int a1 :: .ref 0 :: st) M :=
  y_callV kmX11_way kvX11_way l_0 (by decide +kernel) (by decide +kernel) h hl (ok_ax_way a1 a2 a3 M hf) (vs := [.int a1, .int a2, .int a3]) rfl rfl hd hsm hLr hSr kk
noncomputable def f_ax_hoursFrom (a1 : Int32) (a2 : Int32) : Int32 :=
  (((2 : Int32) <<< (a2 &&& 31)) - ((1 : Int32) <<< (a1 &&& 31)))
theorem ok_ax_hoursFrom (a1 : Int32) (a2 : Int32) (M : dM) {o : Int32} (hf : f_ax_hoursFrom a1 a2 = o) : mO mX11_hoursFrom 1 [.int a1, .int a2] M (some (.int o)) M := by
  refine y_ok (by decide +kernel) (Nat.le_of_ble_eq_true rfl) (L0 := [some (.int a1), some (.int a2)]) rfl ?_
  have hk := mR_mQ (some (.int o)) M
  generalize mQ _ _ = Q at hk ⊢
  unfold f_ax_hoursFrom at hf
  refine y_iconst (n := 1) (v := 2) ⟨dX11_hoursFrom_0, rfl⟩ ki_2 ?_
  refine y_iload_n (i := 1) (n := 2) ⟨dX11_hoursFrom_1, rfl⟩ rfl ?_
  refine y_ishl (n := 3) ⟨dX11_hoursFrom_2, rfl⟩ ?_
  refine y_iconst (n := 4) (v := 1) ⟨dX11_hoursFrom_3, rfl⟩ ki_1 ?_
  refine y_iload_n (i := 0) (n := 5) ⟨dX11_hoursFrom_4, rfl⟩ rfl ?_
  refine y_ishl (n := 6) ⟨dX11_hoursFrom_5, rfl⟩ ?_
  refine y_isub (n := 7) ⟨dX11_hoursFrom_6, rfl⟩ ?_
  cases hf
  exact y_ireturn (n := 8) ⟨dX11_hoursFrom_7, rfl⟩ rfl rfl hk
theorem c_ax_hoursFrom (a1 : Int32) (a2 : Int32) (M : dM) {o : Int32} {y : mz_M} {d : Nat} {Q : mz_P} {pc n i : Nat} {L : List (Option Value)} {st : List Value} (h : mz_d y.2.1 pc n 3 (.invokestatic i)) (hl : mz_ml y.1.cls i yX11_hoursFrom) (hf : f_ax_hoursFrom a1 a2 = o) (hd : 1 + 1 ≤ d) (hsm : (st.map (fun v => v.category)).sum ≤ 8) (hLr : mz_rL 133 L = true) (hSr : mz_rS 133 st = true) (kk : mW y d Q n L (.int o :: st) M) : mW y d Q pc L (.int a2 :: .int a1 :: st) M :=
  y_callS kmX11_hoursFrom ksX11_hoursFrom h hl (ok_ax_hoursFrom a1 a2 M hf) (vs := [.int a1, .int a2]) rfl rfl hd hsm hLr hSr kk
def K_li_isElsewhere_3 (Q : mz_P) (x1 : Int32) (x2 : Int32) (x3 : Int32) (x4 : Int32) (M : dM) : (Int32 ⊕ Bool) → Prop
  | .inl s => mW mX4_isElsewhere 1 Q 3 [some (.ref 6), some (.int x1), some (.int x2), some (.int x3), some (.int x4), some (.int s)] [] M
  | .inr r => mR Q (some (.int (bI r))) M
noncomputable def b_li_isElsewhere_3_3 (x1 : Int32) (x2 : Int32) (x3 : Int32) (x4 : Int32) (x5 : Int32) (M : dM) : Option (Int32 ⊕ Bool) :=
  if (gI M 6 5) ≤ x5 then
    some (.inr false)
  else
    gd (vp_in x5 80) <|
    if (gI M 7 x5.toNatClampNeg) = x1 then
      if (gI M 9 x5.toNatClampNeg) = x3 then
        if (gI M 8 x5.toNatClampNeg) = x2 then
          some (.inl (x5 + 1))
        else
          if ((gI M 10 x5.toNatClampNeg) &&& x4) = 0 then
            some (.inl (x5 + 1))
          else
            some (.inr true)
      else
        some (.inl (x5 + 1))
    else
      some (.inl (x5 + 1))
noncomputable def l_li_isElsewhere_3 (x1 : Int32) (x2 : Int32) (x3 : Int32) (x4 : Int32) (x5 : Int32) (M : dM) : Option Bool := lpc (fun s => b_li_isElsewhere_3_3 x1 x2 x3 x4 s M) x5
noncomputable def f_li_isElsewhere (a1 : Int32) (a2 : Int32) (a3 : Int32) (a4 : Int32) (M : dM) : Option Bool :=
  (l_li_isElsewhere_3 a1 a2 a3 a4 0 M).bind fun r4 => some r4
theorem w_b_li_isElsewhere_3_3 (x1 : Int32) (x2 : Int32) (x3 : Int32) (x4 : Int32) (x5 : Int32)  (M : dM) {Q : mz_P} {o : (Int32 ⊕ Bool)} (hf : b_li_isElsewhere_3_3 x1 x2 x3 x4 x5 M = some o) (hk : K_li_isElsewhere_3 Q x1 x2 x3 x4 M o) : mW mX4_isElsewhere 1 Q 3 [some (.ref 6), some (.int x1), some (.int x2), some (.int x3), some (.int x4), some (.int x5)] [] M := by
  unfold b_li_isElsewhere_3_3 at hf
  refine y_iload (i := 5) (n := 5) ⟨dX4_isElsewhere_3, rfl⟩ rfl ?_
  refine y_aload_n (i := 0) (n := 6) ⟨dX4_isElsewhere_5, rfl⟩ rfl ?_
  refine y_getI (n := 9) ⟨dX4_isElsewhere_6, rfl⟩ kfX4_27 l_6 rfl ?_
  refine y_icmp_ge (t := 66) (n := 12) ⟨dX4_isElsewhere_9, rfl, rfl⟩ (fun (hc : (gI M 6 5) ≤ x5) => ?_) (fun (hc : ¬ ((gI M 6 5) ≤ x5)) => ?_)
  · replace hf := i_t hc hf
    refine y_iconst (n := 67) (v := 0) ⟨dX4_isElsewhere_66, rfl⟩ ki_0 ?_
    cases hf
    exact y_ireturn (n := 68) ⟨dX4_isElsewhere_67, rfl⟩ rfl rfl hk
  · replace hf := i_f hc hf
    refine y_aload_n (i := 0) (n := 13) ⟨dX4_isElsewhere_12, rfl⟩ rfl ?_
    refine y_getR (n := 16) ⟨dX4_isElsewhere_13, rfl⟩ kfX4_9 l_6 rfl r_6_0 ?_
    refine y_iload (i := 5) (n := 18) ⟨dX4_isElsewhere_16, rfl⟩ rfl ?_
    obtain ⟨hg1, hf⟩ := g_s hf
    refine y_iaload (n := 19) ⟨dX4_isElsewhere_18, rfl⟩ l_7 hg1 ?_
    refine y_iload_n (i := 1) (n := 20) ⟨dX4_isElsewhere_19, rfl⟩ rfl ?_
    refine y_icmp_ne (t := 60) (n := 23) ⟨dX4_isElsewhere_20, rfl, rfl⟩ (fun (hc : ¬ ((gI M 7 x5.toNatClampNeg) = x1)) => ?_) (fun (hc : (gI M 7 x5.toNatClampNeg) = x1) => ?_)
    · replace hf := i_f hc hf
      refine y_iinc (i := 5) (n := 63) (b := (x5 + 1)) (L2 := [some (.ref 6), some (.int x1), some (.int x2), some (.int x3), some (.int x4), some (.int (x5 + 1))]) ⟨dX4_isElsewhere_60, rfl⟩ rfl (by rw [ki_1]) (by decide) rfl rfl ?_
      refine y_goto (t := 3) ⟨dX4_isElsewhere_63, rfl, rfl⟩ ?_
      cases hf
      exact y_wk (L2 := [some (.ref 6), some (.int x1), some (.int x2), some (.int x3), some (.int x4), some (.int (x5 + 1))]) ⟨Or.inr rfl, Or.inr rfl, Or.inr rfl, Or.inr rfl, Or.inr rfl, Or.inr rfl, trivial⟩ hk
    · replace hf := i_t hc hf
      refine y_aload_n (i := 0) (n := 24) ⟨dX4_isElsewhere_23, rfl⟩ rfl ?_
      refine y_getR (n := 27) ⟨dX4_isElsewhere_24, rfl⟩ kfX4_18 l_6 rfl r_6_2 ?_
      refine y_iload (i := 5) (n := 29) ⟨dX4_isElsewhere_27, rfl⟩ rfl ?_
      refine y_iaload (n := 30) ⟨dX4_isElsewhere_29, rfl⟩ l_9 hg1 ?_
      refine y_iload_n (i := 3) (n := 31) ⟨dX4_isElsewhere_30, rfl⟩ rfl ?_
      refine y_icmp_ne (t := 60) (n := 34) ⟨dX4_isElsewhere_31, rfl, rfl⟩ (fun (hc : ¬ ((gI M 9 x5.toNatClampNeg) = x3)) => ?_) (fun (hc : (gI M 9 x5.toNatClampNeg) = x3) => ?_)
      · replace hf := i_f hc hf
        refine y_iinc (i := 5) (n := 63) (b := (x5 + 1)) (L2 := [some (.ref 6), some (.int x1), some (.int x2), some (.int x3), some (.int x4), some (.int (x5 + 1))]) ⟨dX4_isElsewhere_60, rfl⟩ rfl (by rw [ki_1]) (by decide) rfl rfl ?_
        refine y_goto (t := 3) ⟨dX4_isElsewhere_63, rfl, rfl⟩ ?_
        cases hf
        exact y_wk (L2 := [some (.ref 6), some (.int x1), some (.int x2), some (.int x3), some (.int x4), some (.int (x5 + 1))]) ⟨Or.inr rfl, Or.inr rfl, Or.inr rfl, Or.inr rfl, Or.inr rfl, Or.inr rfl, trivial⟩ hk
      · replace hf := i_t hc hf
        refine y_aload_n (i := 0) (n := 35) ⟨dX4_isElsewhere_34, rfl⟩ rfl ?_
        refine y_getR (n := 38) ⟨dX4_isElsewhere_35, rfl⟩ kfX4_15 l_6 rfl r_6_1 ?_
        refine y_iload (i := 5) (n := 40) ⟨dX4_isElsewhere_38, rfl⟩ rfl ?_
        refine y_iaload (n := 41) ⟨dX4_isElsewhere_40, rfl⟩ l_8 hg1 ?_
        refine y_iload_n (i := 2) (n := 42) ⟨dX4_isElsewhere_41, rfl⟩ rfl ?_
        refine y_icmp_eq (t := 60) (n := 45) ⟨dX4_isElsewhere_42, rfl, rfl⟩ (fun (hc : (gI M 8 x5.toNatClampNeg) = x2) => ?_) (fun (hc : ¬ ((gI M 8 x5.toNatClampNeg) = x2)) => ?_)
        · replace hf := i_t hc hf
          refine y_iinc (i := 5) (n := 63) (b := (x5 + 1)) (L2 := [some (.ref 6), some (.int x1), some (.int x2), some (.int x3), some (.int x4), some (.int (x5 + 1))]) ⟨dX4_isElsewhere_60, rfl⟩ rfl (by rw [ki_1]) (by decide) rfl rfl ?_
          refine y_goto (t := 3) ⟨dX4_isElsewhere_63, rfl, rfl⟩ ?_
          cases hf
          exact y_wk (L2 := [some (.ref 6), some (.int x1), some (.int x2), some (.int x3), some (.int x4), some (.int (x5 + 1))]) ⟨Or.inr rfl, Or.inr rfl, Or.inr rfl, Or.inr rfl, Or.inr rfl, Or.inr rfl, trivial⟩ hk
        · replace hf := i_f hc hf
          refine y_aload_n (i := 0) (n := 46) ⟨dX4_isElsewhere_45, rfl⟩ rfl ?_
          refine y_getR (n := 49) ⟨dX4_isElsewhere_46, rfl⟩ kfX4_21 l_6 rfl r_6_3 ?_
          refine y_iload (i := 5) (n := 51) ⟨dX4_isElsewhere_49, rfl⟩ rfl ?_
          refine y_iaload (n := 52) ⟨dX4_isElsewhere_51, rfl⟩ l_10 hg1 ?_
          refine y_iload (i := 4) (n := 54) ⟨dX4_isElsewhere_52, rfl⟩ rfl ?_
          refine y_iand (n := 55) ⟨dX4_isElsewhere_54, rfl⟩ ?_
          refine y_if_eq (t := 60) (n := 58) ⟨dX4_isElsewhere_55, rfl, rfl⟩ (fun (hc : ((gI M 10 x5.toNatClampNeg) &&& x4) = 0) => ?_) (fun (hc : ¬ (((gI M 10 x5.toNatClampNeg) &&& x4) = 0)) => ?_)
          · replace hf := i_t hc hf
            refine y_iinc (i := 5) (n := 63) (b := (x5 + 1)) (L2 := [some (.ref 6), some (.int x1), some (.int x2), some (.int x3), some (.int x4), some (.int (x5 + 1))]) ⟨dX4_isElsewhere_60, rfl⟩ rfl (by rw [ki_1]) (by decide) rfl rfl ?_
            refine y_goto (t := 3) ⟨dX4_isElsewhere_63, rfl, rfl⟩ ?_
            cases hf
            exact y_wk (L2 := [some (.ref 6), some (.int x1), some (.int x2), some (.int x3), some (.int x4), some (.int (x5 + 1))]) ⟨Or.inr rfl, Or.inr rfl, Or.inr rfl, Or.inr rfl, Or.inr rfl, Or.inr rfl, trivial⟩ hk
          · replace hf := i_f hc hf
            refine y_iconst (n := 59) (v := 1) ⟨dX4_isElsewhere_58, rfl⟩ ki_1 ?_
            cases hf
            exact y_ireturn (n := 60) ⟨dX4_isElsewhere_59, rfl⟩ rfl rfl hk
theorem wl_li_isElsewhere_3 (x1 : Int32) (x2 : Int32) (x3 : Int32) (x4 : Int32) (x5 : Int32) (M : dM) {Q : mz_P} {x : Bool} (hf : l_li_isElsewhere_3 x1 x2 x3 x4 x5 M = some x) (hk : K_li_isElsewhere_3 Q x1 x2 x3 x4 M (.inr x)) : mW mX4_isElsewhere 1 Q 3 [some (.ref 6), some (.int x1), some (.int x2), some (.int x3), some (.int x4), some (.int x5)] [] M :=
  lpc_wp (σ := Int32) (ξ := Bool) (s := x5) (Wh := fun s => mW mX4_isElsewhere 1 Q 3 [some (.ref 6), some (.int x1), some (.int x2), some (.int x3), some (.int x4), some (.int s)] [] M) (K := K_li_isElsewhere_3 Q x1 x2 x3 x4 M) (fun _ h => h) (fun s o hb hk => w_b_li_isElsewhere_3_3 x1 x2 x3 x4 s M hb hk) hf hk
theorem ok_li_isElsewhere (a1 : Int32) (a2 : Int32) (a3 : Int32) (a4 : Int32) (M : dM) {o : Bool} (hf : f_li_isElsewhere a1 a2 a3 a4 M = some o) : mO mX4_isElsewhere 1 [.ref 6, .int a1, .int a2, .int a3, .int a4] M (some (.int (bI o))) M := by
  refine y_ok (by decide +kernel) (Nat.le_of_ble_eq_true rfl) (L0 := [some (.ref 6), some (.int a1), some (.int a2), some (.int a3), some (.int a4), none]) rfl ?_
  have hk := mR_mQ (some (.int (bI o))) M
  generalize mQ _ _ = Q at hk ⊢
  unfold f_li_isElsewhere at hf
  refine y_iconst (n := 1) (v := 0) ⟨dX4_isElsewhere_0, rfl⟩ ki_0 ?_
  refine y_istore (i := 5) (n := 3) (L2 := [some (.ref 6), some (.int a1), some (.int a2), some (.int a3), some (.int a4), some (.int 0)]) ⟨dX4_isElsewhere_1, rfl⟩ (by decide) rfl rfl ?_
  obtain ⟨r4, hl3, hf⟩ := b_s hf
  cases hf
  exact y_wk (L2 := [some (.ref 6), some (.int a1), some (.int a2), some (.int a3), some (.int a4), some (.int 0)]) ⟨Or.inr rfl, Or.inr rfl, Or.inr rfl, Or.inr rfl, Or.inr rfl, Or.inr rfl, trivial⟩ (wl_li_isElsewhere_3 a1 a2 a3 a4 0 M hl3 hk)
theorem c_li_isElsewhere (a1 : Int32) (a2 : Int32) (a3 : Int32) (a4 : Int32) (M : dM) {o : Bool} {y : mz_M} {d : Nat} {Q : mz_P} {pc n i : Nat} {L : List (Option Value)} {st : List Value} (h : mz_d y.2.1 pc n 3 (.invokevirtual i)) (hl : mz_ml y.1.cls i yX4_isElsewhere) (hf : f_li_isElsewhere a1 a2 a3 a4 M = some o) (hd : 1 + 1 ≤ d) (hsm : (st.map (fun v => v.category)).sum ≤ 8) (hLr : mz_rL 133 L = true) (hSr : mz_rS 133 st = true) (kk : mW y d Q n L (.int (bI o) :: st) M) : mW y d Q pc L (.int a4 :: .int a3 :: .int a2 :: .int a1 :: .ref 6 :: st) M :=
  y_callV kmX4_isElsewhere kvX4_isElsewhere l_6 (by decide +kernel) (by decide +kernel) h hl (ok_li_isElsewhere a1 a2 a3 a4 M hf) (vs := [.int a1, .int a2, .int a3, .int a4]) rfl rfl hd hsm hLr hSr kk
noncomputable def f_li_tellLine (a1 : Int32) (a2 : Int32) (a3 : Int32) (a4 : Int32) (M : dM) : Option (Bool × dM) :=
  if (80 : Int32) ≤ (gI M 6 5) then
    some (false, M)
  else
    (f_li_isElsewhere a1 a2 a3 a4 M).bind fun v1 =>
    if v1 = true then
      some (false, M)
    else
      gd (vp_in (gI M 6 5) 80) <|
      gd (vp_in (gI (sI M 7 (gI M 6 5).toNatClampNeg a1) 6 5) 80) <|
      gd (vp_in (gI (sI (sI M 7 (gI M 6 5).toNatClampNeg a1) 8 (gI (sI M 7 (gI M 6 5).toNatClampNeg a1) 6 5).toNatClampNeg a2) 6 5) 80) <|
      gd (vp_in (gI (sI (sI (sI M 7 (gI M 6 5).toNatClampNeg a1) 8 (gI (sI M 7 (gI M 6 5).toNatClampNeg a1) 6 5).toNatClampNeg a2) 9 (gI (sI (sI M 7 (gI M 6 5).toNatClampNeg a1) 8 (gI (sI M 7 (gI M 6 5).toNatClampNeg a1) 6 5).toNatClampNeg a2) 6 5).toNatClampNeg a3) 6 5) 80) <|
      some (true, (sI (sI (sI (sI (sI (sI M 7 (gI M 6 5).toNatClampNeg a1) 8 (gI (sI M 7 (gI M 6 5).toNatClampNeg a1) 6 5).toNatClampNeg a2) 9 (gI (sI (sI M 7 (gI M 6 5).toNatClampNeg a1) 8 (gI (sI M 7 (gI M 6 5).toNatClampNeg a1) 6 5).toNatClampNeg a2) 6 5).toNatClampNeg a3) 10 (gI (sI (sI (sI M 7 (gI M 6 5).toNatClampNeg a1) 8 (gI (sI M 7 (gI M 6 5).toNatClampNeg a1) 6 5).toNatClampNeg a2) 9 (gI (sI (sI M 7 (gI M 6 5).toNatClampNeg a1) 8 (gI (sI M 7 (gI M 6 5).toNatClampNeg a1) 6 5).toNatClampNeg a2) 6 5).toNatClampNeg a3) 6 5).toNatClampNeg a4) 6 5 ((gI (sI (sI (sI (sI M 7 (gI M 6 5).toNatClampNeg a1) 8 (gI (sI M 7 (gI M 6 5).toNatClampNeg a1) 6 5).toNatClampNeg a2) 9 (gI (sI (sI M 7 (gI M 6 5).toNatClampNeg a1) 8 (gI (sI M 7 (gI M 6 5).toNatClampNeg a1) 6 5).toNatClampNeg a2) 6 5).toNatClampNeg a3) 10 (gI (sI (sI (sI M 7 (gI M 6 5).toNatClampNeg a1) 8 (gI (sI M 7 (gI M 6 5).toNatClampNeg a1) 6 5).toNatClampNeg a2) 9 (gI (sI (sI M 7 (gI M 6 5).toNatClampNeg a1) 8 (gI (sI M 7 (gI M 6 5).toNatClampNeg a1) 6 5).toNatClampNeg a2) 6 5).toNatClampNeg a3) 6 5).toNatClampNeg a4) 6 5) + 1)) 6 6 0))
theorem ok_li_tellLine (a1 : Int32) (a2 : Int32) (a3 : Int32) (a4 : Int32) (M : dM) {o : (Bool × dM)} (hf : f_li_tellLine a1 a2 a3 a4 M = some o) : mO mX4_tellLine 2 [.ref 6, .int a1, .int a2, .int a3, .int a4] M (some (.int (bI o.1))) o.2 := by
  refine y_ok (by decide +kernel) (Nat.le_of_ble_eq_true rfl) (L0 := [some (.ref 6), some (.int a1), some (.int a2), some (.int a3), some (.int a4)]) rfl ?_
  have hk := mR_mQ (some (.int (bI o.1))) o.2
  generalize mQ _ _ = Q at hk ⊢
  unfold f_li_tellLine at hf
  refine y_aload_n (i := 0) (n := 1) ⟨dX4_tellLine_0, rfl⟩ rfl ?_
  refine y_getI (n := 4) ⟨dX4_tellLine_1, rfl⟩ kfX4_27 l_6 rfl ?_
  refine y_bipush (n := 6) (v := 80) ⟨dX4_tellLine_4, rfl⟩ kb_80 ?_
  refine y_icmp_ge (t := 21) (n := 9) ⟨dX4_tellLine_6, rfl, rfl⟩ (fun (hc : (80 : Int32) ≤ (gI M 6 5)) => ?_) (fun (hc : ¬ ((80 : Int32) ≤ (gI M 6 5))) => ?_)
  · replace hf := i_t hc hf
    refine y_iconst (n := 22) (v := 0) ⟨dX4_tellLine_21, rfl⟩ ki_0 ?_
    cases hf
    exact y_ireturn (n := 23) ⟨dX4_tellLine_22, rfl⟩ rfl rfl hk
  · replace hf := i_f hc hf
    refine y_aload_n (i := 0) (n := 10) ⟨dX4_tellLine_9, rfl⟩ rfl ?_
    refine y_iload_n (i := 1) (n := 11) ⟨dX4_tellLine_10, rfl⟩ rfl ?_
    refine y_iload_n (i := 2) (n := 12) ⟨dX4_tellLine_11, rfl⟩ rfl ?_
    refine y_iload_n (i := 3) (n := 13) ⟨dX4_tellLine_12, rfl⟩ rfl ?_
    refine y_iload (i := 4) (n := 15) ⟨dX4_tellLine_13, rfl⟩ rfl ?_
    obtain ⟨v1, hv2, hf⟩ := b_s hf
    refine c_li_isElsewhere a1 a2 a3 a4 M (n := 18) ⟨dX4_tellLine_15, rfl⟩ klX4_31 hv2 (by decide) (Nat.le_of_ble_eq_true rfl) rfl rfl ?_
    refine y_if_eq (t := 23) (n := 21) ⟨dX4_tellLine_18, rfl, rfl⟩ (fun h0 => ?_) (fun h0 => ?_)
    · have hc := bI_0 h0
      replace hf := i_f hc hf
      refine y_aload_n (i := 0) (n := 24) ⟨dX4_tellLine_23, rfl⟩ rfl ?_
      refine y_getR (n := 27) ⟨dX4_tellLine_24, rfl⟩ kfX4_9 l_6 rfl r_6_0 ?_
      refine y_aload_n (i := 0) (n := 28) ⟨dX4_tellLine_27, rfl⟩ rfl ?_
      refine y_getI (n := 31) ⟨dX4_tellLine_28, rfl⟩ kfX4_27 l_6 rfl ?_
      refine y_iload_n (i := 1) (n := 32) ⟨dX4_tellLine_31, rfl⟩ rfl ?_
      obtain ⟨hg3, hf⟩ := g_s hf
      refine y_iastore (n := 33) ⟨dX4_tellLine_32, rfl⟩ l_7 hg3 ?_
      refine y_aload_n (i := 0) (n := 34) ⟨dX4_tellLine_33, rfl⟩ rfl ?_
      refine y_getR (n := 37) ⟨dX4_tellLine_34, rfl⟩ kfX4_15 l_6 rfl r_6_1 ?_
      refine y_aload_n (i := 0) (n := 38) ⟨dX4_tellLine_37, rfl⟩ rfl ?_
      refine y_getI (n := 41) ⟨dX4_tellLine_38, rfl⟩ kfX4_27 l_6 rfl ?_
      refine y_iload_n (i := 2) (n := 42) ⟨dX4_tellLine_41, rfl⟩ rfl ?_
      obtain ⟨hg4, hf⟩ := g_s hf
      refine y_iastore (n := 43) ⟨dX4_tellLine_42, rfl⟩ l_8 hg4 ?_
      refine y_aload_n (i := 0) (n := 44) ⟨dX4_tellLine_43, rfl⟩ rfl ?_
      refine y_getR (n := 47) ⟨dX4_tellLine_44, rfl⟩ kfX4_18 l_6 rfl r_6_2 ?_
      refine y_aload_n (i := 0) (n := 48) ⟨dX4_tellLine_47, rfl⟩ rfl ?_
      refine y_getI (n := 51) ⟨dX4_tellLine_48, rfl⟩ kfX4_27 l_6 rfl ?_
      refine y_iload_n (i := 3) (n := 52) ⟨dX4_tellLine_51, rfl⟩ rfl ?_
      obtain ⟨hg5, hf⟩ := g_s hf
      refine y_iastore (n := 53) ⟨dX4_tellLine_52, rfl⟩ l_9 hg5 ?_
      refine y_aload_n (i := 0) (n := 54) ⟨dX4_tellLine_53, rfl⟩ rfl ?_
      refine y_getR (n := 57) ⟨dX4_tellLine_54, rfl⟩ kfX4_21 l_6 rfl r_6_3 ?_
      refine y_aload_n (i := 0) (n := 58) ⟨dX4_tellLine_57, rfl⟩ rfl ?_
      refine y_getI (n := 61) ⟨dX4_tellLine_58, rfl⟩ kfX4_27 l_6 rfl ?_
      refine y_iload (i := 4) (n := 63) ⟨dX4_tellLine_61, rfl⟩ rfl ?_
      obtain ⟨hg6, hf⟩ := g_s hf
      refine y_iastore (n := 64) ⟨dX4_tellLine_63, rfl⟩ l_10 hg6 ?_
      refine y_aload_n (i := 0) (n := 65) ⟨dX4_tellLine_64, rfl⟩ rfl ?_
      refine y_dup_r (n := 66) ⟨dX4_tellLine_65, rfl⟩ ?_
      refine y_getI (n := 69) ⟨dX4_tellLine_66, rfl⟩ kfX4_27 l_6 rfl ?_
      refine y_iconst (n := 70) (v := 1) ⟨dX4_tellLine_69, rfl⟩ ki_1 ?_
      refine y_iadd (n := 71) ⟨dX4_tellLine_70, rfl⟩ ?_
      refine y_putI (n := 74) ⟨dX4_tellLine_71, rfl⟩ kfX4_27 l_6 (by decide +kernel) rfl ?_
      refine y_aload_n (i := 0) (n := 75) ⟨dX4_tellLine_74, rfl⟩ rfl ?_
      refine y_iconst (n := 76) (v := 0) ⟨dX4_tellLine_75, rfl⟩ ki_0 ?_
      refine y_putZ (n := 79) ⟨dX4_tellLine_76, rfl⟩ kfX4_35 l_6 (by decide +kernel) rfl (by decide) ?_
      refine y_iconst (n := 80) (v := 1) ⟨dX4_tellLine_79, rfl⟩ ki_1 ?_
      cases hf
      exact y_ireturn (n := 81) ⟨dX4_tellLine_80, rfl⟩ rfl rfl hk
    · have hc := bI_1 h0
      replace hf := i_t hc hf
      refine y_iconst (n := 22) (v := 0) ⟨dX4_tellLine_21, rfl⟩ ki_0 ?_
      cases hf
      exact y_ireturn (n := 23) ⟨dX4_tellLine_22, rfl⟩ rfl rfl hk
theorem c_li_tellLine (a1 : Int32) (a2 : Int32) (a3 : Int32) (a4 : Int32) (M : dM) {o : (Bool × dM)} {y : mz_M} {d : Nat} {Q : mz_P} {pc n i : Nat} {L : List (Option Value)} {st : List Value} (h : mz_d y.2.1 pc n 3 (.invokevirtual i)) (hl : mz_ml y.1.cls i yX4_tellLine) (hf : f_li_tellLine a1 a2 a3 a4 M = some o) (hd : 2 + 1 ≤ d) (hsm : (st.map (fun v => v.category)).sum ≤ 8) (hLr : mz_rL 133 L = true) (hSr : mz_rS 133 st = true) (kk : mW y d Q n L (.int (bI o.1) :: st) o.2) : mW y d Q pc L (.int a4 :: .int a3 :: .int a2 :: .int a1 :: .ref 6 :: st) M :=
  y_callV kmX4_tellLine kvX4_tellLine l_6 (by decide +kernel) (by decide +kernel) h hl (ok_li_tellLine a1 a2 a3 a4 M hf) (vs := [.int a1, .int a2, .int a3, .int a4]) rfl rfl hd hsm hLr hSr kk
noncomputable def f_ax_here (a1 : Int32) (a2 : Int32) (a3 : Int32) (a4 : Int32) (a5 : Int32) (M : dM) : Option (Bool × dM) :=
  if (f_ax_within a1 10) = true then
    if (f_ax_within a2 8) = true then
      if (f_ax_within a3 1000) = true then
        if (f_ax_within a4 24) = true then
          if (f_ax_within a5 24) = true then
            if a4 ≤ a5 then
              (f_li_tellLine a1 a2 a3 (f_ax_hoursFrom a4 a5) M).bind fun q1 =>
              if q1.1 = true then
                some (true, (f_ax_changed q1.2))
              else
                some (false, q1.2)
            else
              some (false, M)
          else
            some (false, M)
        else
          some (false, M)
      else
        some (false, M)
    else
      some (false, M)
  else
    some (false, M)
theorem ok_ax_here (a1 : Int32) (a2 : Int32) (a3 : Int32) (a4 : Int32) (a5 : Int32) (M : dM) {o : (Bool × dM)} (hf : f_ax_here a1 a2 a3 a4 a5 M = some o) : mO mX11_here 3 [.ref 0, .int a1, .int a2, .int a3, .int a4, .int a5] M (some (.int (bI o.1))) o.2 := by
  refine y_ok (by decide +kernel) (Nat.le_of_ble_eq_true rfl) (L0 := [some (.ref 0), some (.int a1), some (.int a2), some (.int a3), some (.int a4), some (.int a5)]) rfl ?_
  have hk := mR_mQ (some (.int (bI o.1))) o.2
  generalize mQ _ _ = Q at hk ⊢
  unfold f_ax_here at hf
  refine y_iload_n (i := 1) (n := 1) ⟨dX11_here_0, rfl⟩ rfl ?_
  refine y_bipush (n := 3) (v := 10) ⟨dX11_here_1, rfl⟩ kb_10 ?_
  refine c_ax_within a1 10 M (n := 6) ⟨dX11_here_3, rfl⟩ klX11_91 rfl (by decide) (Nat.le_of_ble_eq_true rfl) rfl rfl ?_
  refine y_if_eq (t := 28) (n := 9) ⟨dX11_here_6, rfl, rfl⟩ (fun h0 => ?_) (fun h0 => ?_)
  · have hc := bI_0 h0
    replace hf := i_f hc hf
    refine y_iconst (n := 29) (v := 0) ⟨dX11_here_28, rfl⟩ ki_0 ?_
    cases hf
    exact y_ireturn (n := 30) ⟨dX11_here_29, rfl⟩ rfl rfl hk
  · have hc := bI_1 h0
    replace hf := i_t hc hf
    refine y_iload_n (i := 2) (n := 10) ⟨dX11_here_9, rfl⟩ rfl ?_
    refine y_bipush (n := 12) (v := 8) ⟨dX11_here_10, rfl⟩ kb_8 ?_
    refine c_ax_within a2 8 M (n := 15) ⟨dX11_here_12, rfl⟩ klX11_91 rfl (by decide) (Nat.le_of_ble_eq_true rfl) rfl rfl ?_
    refine y_if_eq (t := 28) (n := 18) ⟨dX11_here_15, rfl, rfl⟩ (fun h0 => ?_) (fun h0 => ?_)
    · have hc := bI_0 h0
      replace hf := i_f hc hf
      refine y_iconst (n := 29) (v := 0) ⟨dX11_here_28, rfl⟩ ki_0 ?_
      cases hf
      exact y_ireturn (n := 30) ⟨dX11_here_29, rfl⟩ rfl rfl hk
    · have hc := bI_1 h0
      replace hf := i_t hc hf
      refine y_iload_n (i := 3) (n := 19) ⟨dX11_here_18, rfl⟩ rfl ?_
      refine y_sipush (n := 22) (v := 1000) ⟨dX11_here_19, rfl⟩ ks_1000 ?_
      refine c_ax_within a3 1000 M (n := 25) ⟨dX11_here_22, rfl⟩ klX11_91 rfl (by decide) (Nat.le_of_ble_eq_true rfl) rfl rfl ?_
      refine y_if_ne (t := 30) (n := 28) ⟨dX11_here_25, rfl, rfl⟩ (fun h0 => ?_) (fun h0 => ?_)
      · have hc := bI_1 h0
        replace hf := i_t hc hf
        refine y_iload (i := 4) (n := 32) ⟨dX11_here_30, rfl⟩ rfl ?_
        refine y_bipush (n := 34) (v := 24) ⟨dX11_here_32, rfl⟩ kb_24 ?_
        refine c_ax_within a4 24 M (n := 37) ⟨dX11_here_34, rfl⟩ klX11_91 rfl (by decide) (Nat.le_of_ble_eq_true rfl) rfl rfl ?_
        refine y_if_eq (t := 57) (n := 40) ⟨dX11_here_37, rfl, rfl⟩ (fun h0 => ?_) (fun h0 => ?_)
        · have hc := bI_0 h0
          replace hf := i_f hc hf
          refine y_iconst (n := 58) (v := 0) ⟨dX11_here_57, rfl⟩ ki_0 ?_
          cases hf
          exact y_ireturn (n := 59) ⟨dX11_here_58, rfl⟩ rfl rfl hk
        · have hc := bI_1 h0
          replace hf := i_t hc hf
          refine y_iload (i := 5) (n := 42) ⟨dX11_here_40, rfl⟩ rfl ?_
          refine y_bipush (n := 44) (v := 24) ⟨dX11_here_42, rfl⟩ kb_24 ?_
          refine c_ax_within a5 24 M (n := 47) ⟨dX11_here_44, rfl⟩ klX11_91 rfl (by decide) (Nat.le_of_ble_eq_true rfl) rfl rfl ?_
          refine y_if_eq (t := 57) (n := 50) ⟨dX11_here_47, rfl, rfl⟩ (fun h0 => ?_) (fun h0 => ?_)
          · have hc := bI_0 h0
            replace hf := i_f hc hf
            refine y_iconst (n := 58) (v := 0) ⟨dX11_here_57, rfl⟩ ki_0 ?_
            cases hf
            exact y_ireturn (n := 59) ⟨dX11_here_58, rfl⟩ rfl rfl hk
          · have hc := bI_1 h0
            replace hf := i_t hc hf
            refine y_iload (i := 4) (n := 52) ⟨dX11_here_50, rfl⟩ rfl ?_
            refine y_iload (i := 5) (n := 54) ⟨dX11_here_52, rfl⟩ rfl ?_
            refine y_icmp_le (t := 59) (n := 57) ⟨dX11_here_54, rfl, rfl⟩ (fun (hc : a4 ≤ a5) => ?_) (fun (hc : ¬ (a4 ≤ a5)) => ?_)
            · replace hf := i_t hc hf
              refine y_aload_n (i := 0) (n := 60) ⟨dX11_here_59, rfl⟩ rfl ?_
              refine y_getR (n := 63) ⟨dX11_here_60, rfl⟩ kfX11_19 l_0 rfl r_0_1 ?_
              refine y_iload_n (i := 1) (n := 64) ⟨dX11_here_63, rfl⟩ rfl ?_
              refine y_iload_n (i := 2) (n := 65) ⟨dX11_here_64, rfl⟩ rfl ?_
              refine y_iload_n (i := 3) (n := 66) ⟨dX11_here_65, rfl⟩ rfl ?_
              refine y_iload (i := 4) (n := 68) ⟨dX11_here_66, rfl⟩ rfl ?_
              refine y_iload (i := 5) (n := 70) ⟨dX11_here_68, rfl⟩ rfl ?_
              refine c_ax_hoursFrom a4 a5 M (n := 73) ⟨dX11_here_70, rfl⟩ klX11_105 rfl (by decide) (Nat.le_of_ble_eq_true rfl) rfl rfl ?_
              obtain ⟨q1, hv2, hf⟩ := b_s hf
              refine c_li_tellLine a1 a2 a3 (f_ax_hoursFrom a4 a5) M (n := 76) ⟨dX11_here_73, rfl⟩ klX11_109 hv2 (by decide) (Nat.le_of_ble_eq_true rfl) rfl rfl ?_
              refine y_if_ne (t := 81) (n := 79) ⟨dX11_here_76, rfl, rfl⟩ (fun h0 => ?_) (fun h0 => ?_)
              · have hc := bI_1 h0
                replace hf := i_t hc hf
                refine y_aload_n (i := 0) (n := 82) ⟨dX11_here_81, rfl⟩ rfl ?_
                refine c_ax_changed q1.2 (n := 85) ⟨dX11_here_82, rfl⟩ klX11_99 rfl (by decide) (Nat.le_of_ble_eq_true rfl) rfl rfl ?_
                refine y_iconst (n := 86) (v := 1) ⟨dX11_here_85, rfl⟩ ki_1 ?_
                cases hf
                exact y_ireturn (n := 87) ⟨dX11_here_86, rfl⟩ rfl rfl hk
              · have hc := bI_0 h0
                replace hf := i_f hc hf
                refine y_iconst (n := 80) (v := 0) ⟨dX11_here_79, rfl⟩ ki_0 ?_
                cases hf
                exact y_ireturn (n := 81) ⟨dX11_here_80, rfl⟩ rfl rfl hk
            · replace hf := i_f hc hf
              refine y_iconst (n := 58) (v := 0) ⟨dX11_here_57, rfl⟩ ki_0 ?_
              cases hf
              exact y_ireturn (n := 59) ⟨dX11_here_58, rfl⟩ rfl rfl hk
      · have hc := bI_0 h0
        replace hf := i_f hc hf
        refine y_iconst (n := 29) (v := 0) ⟨dX11_here_28, rfl⟩ ki_0 ?_
        cases hf
        exact y_ireturn (n := 30) ⟨dX11_here_29, rfl⟩ rfl rfl hk
theorem c_ax_here (a1 : Int32) (a2 : Int32) (a3 : Int32) (a4 : Int32) (a5 : Int32) (M : dM) {o : (Bool × dM)} {y : mz_M} {d : Nat} {Q : mz_P} {pc n i : Nat} {L : List (Option Value)} {st : List Value} (h : mz_d y.2.1 pc n 3 (.invokevirtual i)) (hl : mz_ml y.1.cls i yX11_here) (hf : f_ax_here a1 a2 a3 a4 a5 M = some o) (hd : 3 + 1 ≤ d) (hsm : (st.map (fun v => v.category)).sum ≤ 8) (hLr : mz_rL 133 L = true) (hSr : mz_rS 133 st = true) (kk : mW y d Q n L (.int (bI o.1) :: st) o.2) : mW y d Q pc L (.int a5 :: .int a4 :: .int a3 :: .int a2 :: .int a1 :: .ref 0 :: st) M :=
  y_callV kmX11_here kvX11_here l_0 (by decide +kernel) (by decide +kernel) h hl (ok_ax_here a1 a2 a3 a4 a5 M hf) (vs := [.int a1, .int a2, .int a3, .int a4, .int a5]) rfl rfl hd hsm hLr hSr kk
noncomputable def f_ax_hasBit (a1 : Int64) (a2 : Int32) : Bool :=
  if ((a1 >>> (a2.toInt64 &&& 63)) &&& 1) = 0 then
    false
  else
    true
theorem ok_ax_hasBit (a1 : Int64) (a2 : Int32) (M : dM) {o : Bool} (hf : f_ax_hasBit a1 a2 = o) : mO mX11_hasBit 1 [.long a1, .int a2] M (some (.int (bI o))) M := by
  refine y_ok (by decide +kernel) (Nat.le_of_ble_eq_true rfl) (L0 := [some (.long a1), none, some (.int a2)]) rfl ?_
  have hk := mR_mQ (some (.int (bI o))) M
  generalize mQ _ _ = Q at hk ⊢
  unfold f_ax_hasBit at hf
  refine y_lload_n (i := 0) (n := 1) ⟨dX11_hasBit_0, rfl⟩ rfl ?_
  refine y_iload_n (i := 2) (n := 2) ⟨dX11_hasBit_1, rfl⟩ rfl ?_
  refine y_lshr (n := 3) ⟨dX11_hasBit_2, rfl⟩ ?_
  refine y_lconst (n := 4) (v := 1) ⟨dX11_hasBit_3, rfl⟩ kl_1 ?_
  refine y_land (n := 5) ⟨dX11_hasBit_4, rfl⟩ ?_
  refine y_lconst (n := 6) (v := 0) ⟨dX11_hasBit_5, rfl⟩ kl_0 ?_
  refine y_lcmp (n := 7) ⟨dX11_hasBit_6, rfl⟩ ?_
  refine y_if_eq (t := 14) (n := 10) ⟨dX11_hasBit_7, rfl, rfl⟩ (fun h0 => ?_) (fun h0 => ?_)
  · have hc : ((a1 >>> (a2.toInt64 &&& 63)) &&& 1) = 0 := (lc_eq _ _).mp h0
    replace hf := i_t hc hf
    refine y_iconst (n := 15) (v := 0) ⟨dX11_hasBit_14, rfl⟩ ki_0 ?_
    cases hf
    exact y_ireturn (n := 16) ⟨dX11_hasBit_15, rfl⟩ rfl rfl hk
  · have hc : ¬ (((a1 >>> (a2.toInt64 &&& 63)) &&& 1) = 0) := fun e => h0 ((lc_eq _ _).mpr e)
    replace hf := i_f hc hf
    refine y_iconst (n := 11) (v := 1) ⟨dX11_hasBit_10, rfl⟩ ki_1 ?_
    refine y_goto (t := 15) ⟨dX11_hasBit_11, rfl, rfl⟩ ?_
    cases hf
    exact y_ireturn (n := 16) ⟨dX11_hasBit_15, rfl⟩ rfl rfl hk
theorem c_ax_hasBit (a1 : Int64) (a2 : Int32) (M : dM) {o : Bool} {y : mz_M} {d : Nat} {Q : mz_P} {pc n i : Nat} {L : List (Option Value)} {st : List Value} (h : mz_d y.2.1 pc n 3 (.invokestatic i)) (hl : mz_ml y.1.cls i yX11_hasBit) (hf : f_ax_hasBit a1 a2 = o) (hd : 1 + 1 ≤ d) (hsm : (st.map (fun v => v.category)).sum ≤ 8) (hLr : mz_rL 133 L = true) (hSr : mz_rS 133 st = true) (kk : mW y d Q n L (.int (bI o) :: st) M) : mW y d Q pc L (.int a2 :: .long a1 :: st) M :=
  y_callS kmX11_hasBit ksX11_hasBit h hl (ok_ax_hasBit a1 a2 M hf) (vs := [.long a1, .int a2]) rfl rfl hd hsm hLr hSr kk
noncomputable def f_si_isTold (a1 : Int32) (a2 : Int32) (M : dM) : Option Bool :=
  gd (vp_in a1 8) <|
  some (f_ax_hasBit ((gI M 4 a1.toNatClampNeg).toInt64) a2)
theorem ok_si_isTold (a1 : Int32) (a2 : Int32) (M : dM) {o : Bool} (hf : f_si_isTold a1 a2 M = some o) : mO mX7_isTold 2 [.ref 1, .int a1, .int a2] M (some (.int (bI o))) M := by
  refine y_ok (by decide +kernel) (Nat.le_of_ble_eq_true rfl) (L0 := [some (.ref 1), some (.int a1), some (.int a2)]) rfl ?_
  have hk := mR_mQ (some (.int (bI o))) M
  generalize mQ _ _ = Q at hk ⊢
  unfold f_si_isTold at hf
  refine y_aload_n (i := 0) (n := 1) ⟨dX7_isTold_0, rfl⟩ rfl ?_
  refine y_getR (n := 4) ⟨dX7_isTold_1, rfl⟩ kfX7_18 l_1 rfl r_1_2 ?_
  refine y_iload_n (i := 1) (n := 5) ⟨dX7_isTold_4, rfl⟩ rfl ?_
  obtain ⟨hg1, hf⟩ := g_s hf
  refine y_iaload (n := 6) ⟨dX7_isTold_5, rfl⟩ l_4 hg1 ?_
  refine y_i2l (n := 7) ⟨dX7_isTold_6, rfl⟩ ?_
  refine y_iload_n (i := 2) (n := 8) ⟨dX7_isTold_7, rfl⟩ rfl ?_
  refine c_ax_hasBit ((gI M 4 a1.toNatClampNeg).toInt64) a2 M (n := 11) ⟨dX7_isTold_8, rfl⟩ klX7_24 rfl (by decide) (Nat.le_of_ble_eq_true rfl) rfl rfl ?_
  cases hf
  exact y_ireturn (n := 12) ⟨dX7_isTold_11, rfl⟩ rfl (bI_n _) hk
theorem c_si_isTold (a1 : Int32) (a2 : Int32) (M : dM) {o : Bool} {y : mz_M} {d : Nat} {Q : mz_P} {pc n i : Nat} {L : List (Option Value)} {st : List Value} (h : mz_d y.2.1 pc n 3 (.invokevirtual i)) (hl : mz_ml y.1.cls i yX7_isTold) (hf : f_si_isTold a1 a2 M = some o) (hd : 2 + 1 ≤ d) (hsm : (st.map (fun v => v.category)).sum ≤ 8) (hLr : mz_rL 133 L = true) (hSr : mz_rS 133 st = true) (kk : mW y d Q n L (.int (bI o) :: st) M) : mW y d Q pc L (.int a2 :: .int a1 :: .ref 1 :: st) M :=
  y_callV kmX7_isTold kvX7_isTold l_1 (by decide +kernel) (by decide +kernel) h hl (ok_si_isTold a1 a2 M hf) (vs := [.int a1, .int a2]) rfl rfl hd hsm hLr hSr kk
def K_li_whoAt_6 (Q : mz_P) (x1 : Int32) (x2 : Int32) (x3 : Int32) (M : dM) : ((Int32 × Int32) ⊕ Int32) → Prop
  | .inl s => mW mX4_whoAt 2 Q 6 [some (.ref 6), some (.int x1), some (.int x2), some (.int x3), some (.int s.1), some (.int s.2)] [] M
  | .inr r => mR Q (some (.int r)) M
noncomputable def b_li_whoAt_6_6 (x1 : Int32) (x2 : Int32) (x3 : Int32) (x4 : Int32) (x5 : Int32) (M : dM) : Option ((Int32 × Int32) ⊕ Int32) :=
  if (gI M 6 5) ≤ x5 then
    some (.inr x4)
  else
    gd (vp_in x5 80) <|
    if (gI M 8 x5.toNatClampNeg) = x1 then
      if (gI M 9 x5.toNatClampNeg) = x2 then
        if (f_ax_hasBit ((gI M 10 x5.toNatClampNeg).toInt64) x3) = true then
          some (.inl ((x4 ||| ((1 : Int32) <<< ((gI M 7 x5.toNatClampNeg) &&& 31))), (x5 + 1)))
        else
          some (.inl (x4, (x5 + 1)))
      else
        some (.inl (x4, (x5 + 1)))
    else
      some (.inl (x4, (x5 + 1)))
noncomputable def l_li_whoAt_6 (x1 : Int32) (x2 : Int32) (x3 : Int32) (x4 : Int32) (x5 : Int32) (M : dM) : Option Int32 := lpc (fun s => b_li_whoAt_6_6 x1 x2 x3 s.1 s.2 M) (x4, x5)
noncomputable def f_li_whoAt (a1 : Int32) (a2 : Int32) (a3 : Int32) (M : dM) : Option Int32 :=
  (l_li_whoAt_6 a1 a2 a3 0 0 M).bind fun r4 => some r4
theorem w_b_li_whoAt_6_6 (x1 : Int32) (x2 : Int32) (x3 : Int32) (x4 : Int32) (x5 : Int32)  (M : dM) {Q : mz_P} {o : ((Int32 × Int32) ⊕ Int32)} (hf : b_li_whoAt_6_6 x1 x2 x3 x4 x5 M = some o) (hk : K_li_whoAt_6 Q x1 x2 x3 M o) : mW mX4_whoAt 2 Q 6 [some (.ref 6), some (.int x1), some (.int x2), some (.int x3), some (.int x4), some (.int x5)] [] M := by
  unfold b_li_whoAt_6_6 at hf
  refine y_iload (i := 5) (n := 8) ⟨dX4_whoAt_6, rfl⟩ rfl ?_
  refine y_aload_n (i := 0) (n := 9) ⟨dX4_whoAt_8, rfl⟩ rfl ?_
  refine y_getI (n := 12) ⟨dX4_whoAt_9, rfl⟩ kfX4_27 l_6 rfl ?_
  refine y_icmp_ge (t := 72) (n := 15) ⟨dX4_whoAt_12, rfl, rfl⟩ (fun (hc : (gI M 6 5) ≤ x5) => ?_) (fun (hc : ¬ ((gI M 6 5) ≤ x5)) => ?_)
  · replace hf := i_t hc hf
    refine y_iload (i := 4) (n := 74) ⟨dX4_whoAt_72, rfl⟩ rfl ?_
    cases hf
    exact y_ireturn (n := 75) ⟨dX4_whoAt_74, rfl⟩ rfl rfl hk
  · replace hf := i_f hc hf
    refine y_aload_n (i := 0) (n := 16) ⟨dX4_whoAt_15, rfl⟩ rfl ?_
    refine y_getR (n := 19) ⟨dX4_whoAt_16, rfl⟩ kfX4_15 l_6 rfl r_6_1 ?_
    refine y_iload (i := 5) (n := 21) ⟨dX4_whoAt_19, rfl⟩ rfl ?_
    obtain ⟨hg1, hf⟩ := g_s hf
    refine y_iaload (n := 22) ⟨dX4_whoAt_21, rfl⟩ l_8 hg1 ?_
    refine y_iload_n (i := 1) (n := 23) ⟨dX4_whoAt_22, rfl⟩ rfl ?_
    refine y_icmp_ne (t := 66) (n := 26) ⟨dX4_whoAt_23, rfl, rfl⟩ (fun (hc : ¬ ((gI M 8 x5.toNatClampNeg) = x1)) => ?_) (fun (hc : (gI M 8 x5.toNatClampNeg) = x1) => ?_)
    · replace hf := i_f hc hf
      refine y_iinc (i := 5) (n := 69) (b := (x5 + 1)) (L2 := [some (.ref 6), some (.int x1), some (.int x2), some (.int x3), some (.int x4), some (.int (x5 + 1))]) ⟨dX4_whoAt_66, rfl⟩ rfl (by rw [ki_1]) (by decide) rfl rfl ?_
      refine y_goto (t := 6) ⟨dX4_whoAt_69, rfl, rfl⟩ ?_
      cases hf
      exact y_wk (L2 := [some (.ref 6), some (.int x1), some (.int x2), some (.int x3), some (.int x4), some (.int (x5 + 1))]) ⟨Or.inr rfl, Or.inr rfl, Or.inr rfl, Or.inr rfl, Or.inr rfl, Or.inr rfl, trivial⟩ hk
    · replace hf := i_t hc hf
      refine y_aload_n (i := 0) (n := 27) ⟨dX4_whoAt_26, rfl⟩ rfl ?_
      refine y_getR (n := 30) ⟨dX4_whoAt_27, rfl⟩ kfX4_18 l_6 rfl r_6_2 ?_
      refine y_iload (i := 5) (n := 32) ⟨dX4_whoAt_30, rfl⟩ rfl ?_
      refine y_iaload (n := 33) ⟨dX4_whoAt_32, rfl⟩ l_9 hg1 ?_
      refine y_iload_n (i := 2) (n := 34) ⟨dX4_whoAt_33, rfl⟩ rfl ?_
      refine y_icmp_ne (t := 66) (n := 37) ⟨dX4_whoAt_34, rfl, rfl⟩ (fun (hc : ¬ ((gI M 9 x5.toNatClampNeg) = x2)) => ?_) (fun (hc : (gI M 9 x5.toNatClampNeg) = x2) => ?_)
      · replace hf := i_f hc hf
        refine y_iinc (i := 5) (n := 69) (b := (x5 + 1)) (L2 := [some (.ref 6), some (.int x1), some (.int x2), some (.int x3), some (.int x4), some (.int (x5 + 1))]) ⟨dX4_whoAt_66, rfl⟩ rfl (by rw [ki_1]) (by decide) rfl rfl ?_
        refine y_goto (t := 6) ⟨dX4_whoAt_69, rfl, rfl⟩ ?_
        cases hf
        exact y_wk (L2 := [some (.ref 6), some (.int x1), some (.int x2), some (.int x3), some (.int x4), some (.int (x5 + 1))]) ⟨Or.inr rfl, Or.inr rfl, Or.inr rfl, Or.inr rfl, Or.inr rfl, Or.inr rfl, trivial⟩ hk
      · replace hf := i_t hc hf
        refine y_aload_n (i := 0) (n := 38) ⟨dX4_whoAt_37, rfl⟩ rfl ?_
        refine y_getR (n := 41) ⟨dX4_whoAt_38, rfl⟩ kfX4_21 l_6 rfl r_6_3 ?_
        refine y_iload (i := 5) (n := 43) ⟨dX4_whoAt_41, rfl⟩ rfl ?_
        refine y_iaload (n := 44) ⟨dX4_whoAt_43, rfl⟩ l_10 hg1 ?_
        refine y_i2l (n := 45) ⟨dX4_whoAt_44, rfl⟩ ?_
        refine y_iload_n (i := 3) (n := 46) ⟨dX4_whoAt_45, rfl⟩ rfl ?_
        refine c_ax_hasBit ((gI M 10 x5.toNatClampNeg).toInt64) x3 M (n := 49) ⟨dX4_whoAt_46, rfl⟩ klX4_39 rfl (by decide) (Nat.le_of_ble_eq_true rfl) rfl rfl ?_
        refine y_if_eq (t := 66) (n := 52) ⟨dX4_whoAt_49, rfl, rfl⟩ (fun h0 => ?_) (fun h0 => ?_)
        · have hc := bI_0 h0
          replace hf := i_f hc hf
          refine y_iinc (i := 5) (n := 69) (b := (x5 + 1)) (L2 := [some (.ref 6), some (.int x1), some (.int x2), some (.int x3), some (.int x4), some (.int (x5 + 1))]) ⟨dX4_whoAt_66, rfl⟩ rfl (by rw [ki_1]) (by decide) rfl rfl ?_
          refine y_goto (t := 6) ⟨dX4_whoAt_69, rfl, rfl⟩ ?_
          cases hf
          exact y_wk (L2 := [some (.ref 6), some (.int x1), some (.int x2), some (.int x3), some (.int x4), some (.int (x5 + 1))]) ⟨Or.inr rfl, Or.inr rfl, Or.inr rfl, Or.inr rfl, Or.inr rfl, Or.inr rfl, trivial⟩ hk
        · have hc := bI_1 h0
          replace hf := i_t hc hf
          refine y_iload (i := 4) (n := 54) ⟨dX4_whoAt_52, rfl⟩ rfl ?_
          refine y_iconst (n := 55) (v := 1) ⟨dX4_whoAt_54, rfl⟩ ki_1 ?_
          refine y_aload_n (i := 0) (n := 56) ⟨dX4_whoAt_55, rfl⟩ rfl ?_
          refine y_getR (n := 59) ⟨dX4_whoAt_56, rfl⟩ kfX4_9 l_6 rfl r_6_0 ?_
          refine y_iload (i := 5) (n := 61) ⟨dX4_whoAt_59, rfl⟩ rfl ?_
          refine y_iaload (n := 62) ⟨dX4_whoAt_61, rfl⟩ l_7 hg1 ?_
          refine y_ishl (n := 63) ⟨dX4_whoAt_62, rfl⟩ ?_
          refine y_ior (n := 64) ⟨dX4_whoAt_63, rfl⟩ ?_
          refine y_istore (i := 4) (n := 66) (L2 := [some (.ref 6), some (.int x1), some (.int x2), some (.int x3), some (.int (x4 ||| ((1 : Int32) <<< ((gI M 7 x5.toNatClampNeg) &&& 31)))), some (.int x5)]) ⟨dX4_whoAt_64, rfl⟩ (by decide) rfl rfl ?_
          refine y_iinc (i := 5) (n := 69) (b := (x5 + 1)) (L2 := [some (.ref 6), some (.int x1), some (.int x2), some (.int x3), some (.int (x4 ||| ((1 : Int32) <<< ((gI M 7 x5.toNatClampNeg) &&& 31)))), some (.int (x5 + 1))]) ⟨dX4_whoAt_66, rfl⟩ rfl (by rw [ki_1]) (by decide) rfl rfl ?_
          refine y_goto (t := 6) ⟨dX4_whoAt_69, rfl, rfl⟩ ?_
          cases hf
          exact y_wk (L2 := [some (.ref 6), some (.int x1), some (.int x2), some (.int x3), some (.int (x4 ||| ((1 : Int32) <<< ((gI M 7 x5.toNatClampNeg) &&& 31)))), some (.int (x5 + 1))]) ⟨Or.inr rfl, Or.inr rfl, Or.inr rfl, Or.inr rfl, Or.inr rfl, Or.inr rfl, trivial⟩ hk
theorem wl_li_whoAt_6 (x1 : Int32) (x2 : Int32) (x3 : Int32) (x4 : Int32) (x5 : Int32) (M : dM) {Q : mz_P} {x : Int32} (hf : l_li_whoAt_6 x1 x2 x3 x4 x5 M = some x) (hk : K_li_whoAt_6 Q x1 x2 x3 M (.inr x)) : mW mX4_whoAt 2 Q 6 [some (.ref 6), some (.int x1), some (.int x2), some (.int x3), some (.int x4), some (.int x5)] [] M :=
  lpc_wp (σ := (Int32 × Int32)) (ξ := Int32) (s := (x4, x5)) (Wh := fun s => mW mX4_whoAt 2 Q 6 [some (.ref 6), some (.int x1), some (.int x2), some (.int x3), some (.int s.1), some (.int s.2)] [] M) (K := K_li_whoAt_6 Q x1 x2 x3 M) (fun _ h => h) (fun s o hb hk => w_b_li_whoAt_6_6 x1 x2 x3 s.1 s.2 M hb hk) hf hk
theorem ok_li_whoAt (a1 : Int32) (a2 : Int32) (a3 : Int32) (M : dM) {o : Int32} (hf : f_li_whoAt a1 a2 a3 M = some o) : mO mX4_whoAt 2 [.ref 6, .int a1, .int a2, .int a3] M (some (.int o)) M := by
  refine y_ok (by decide +kernel) (Nat.le_of_ble_eq_true rfl) (L0 := [some (.ref 6), some (.int a1), some (.int a2), some (.int a3), none, none]) rfl ?_
  have hk := mR_mQ (some (.int o)) M
  generalize mQ _ _ = Q at hk ⊢
  unfold f_li_whoAt at hf
  refine y_iconst (n := 1) (v := 0) ⟨dX4_whoAt_0, rfl⟩ ki_0 ?_
  refine y_istore (i := 4) (n := 3) (L2 := [some (.ref 6), some (.int a1), some (.int a2), some (.int a3), some (.int 0), none]) ⟨dX4_whoAt_1, rfl⟩ (by decide) rfl rfl ?_
  refine y_iconst (n := 4) (v := 0) ⟨dX4_whoAt_3, rfl⟩ ki_0 ?_
  refine y_istore (i := 5) (n := 6) (L2 := [some (.ref 6), some (.int a1), some (.int a2), some (.int a3), some (.int 0), some (.int 0)]) ⟨dX4_whoAt_4, rfl⟩ (by decide) rfl rfl ?_
  obtain ⟨r4, hl3, hf⟩ := b_s hf
  cases hf
  exact y_wk (L2 := [some (.ref 6), some (.int a1), some (.int a2), some (.int a3), some (.int 0), some (.int 0)]) ⟨Or.inr rfl, Or.inr rfl, Or.inr rfl, Or.inr rfl, Or.inr rfl, Or.inr rfl, trivial⟩ (wl_li_whoAt_6 a1 a2 a3 0 0 M hl3 hk)
theorem c_li_whoAt (a1 : Int32) (a2 : Int32) (a3 : Int32) (M : dM) {o : Int32} {y : mz_M} {d : Nat} {Q : mz_P} {pc n i : Nat} {L : List (Option Value)} {st : List Value} (h : mz_d y.2.1 pc n 3 (.invokevirtual i)) (hl : mz_ml y.1.cls i yX4_whoAt) (hf : f_li_whoAt a1 a2 a3 M = some o) (hd : 2 + 1 ≤ d) (hsm : (st.map (fun v => v.category)).sum ≤ 8) (hLr : mz_rL 133 L = true) (hSr : mz_rS 133 st = true) (kk : mW y d Q n L (.int o :: st) M) : mW y d Q pc L (.int a3 :: .int a2 :: .int a1 :: .ref 6 :: st) M :=
  y_callV kmX4_whoAt kvX4_whoAt l_6 (by decide +kernel) (by decide +kernel) h hl (ok_li_whoAt a1 a2 a3 M hf) (vs := [.int a1, .int a2, .int a3]) rfl rfl hd hsm hLr hSr kk
noncomputable def t_to_tellFind_33 (x1 : Int32) (x2 : Int32) (x3 : Int32) (x4 : Int32) (x5 : Int32) (x6 : Int32) (x7 : Int32) (M : dM) : Option (Int32 × dM) :=
  gd (vp_in (gI M 12 7) 40) <|
  gd (vp_in (gI (sI M 13 (gI M 12 7).toNatClampNeg x1) 12 7) 40) <|
  gd (vp_in (gI (sI (sI M 13 (gI M 12 7).toNatClampNeg x1) 14 (gI (sI M 13 (gI M 12 7).toNatClampNeg x1) 12 7).toNatClampNeg x2) 12 7) 40) <|
  gd (vp_in (gI (sI (sI (sI M 13 (gI M 12 7).toNatClampNeg x1) 14 (gI (sI M 13 (gI M 12 7).toNatClampNeg x1) 12 7).toNatClampNeg x2) 15 (gI (sI (sI M 13 (gI M 12 7).toNatClampNeg x1) 14 (gI (sI M 13 (gI M 12 7).toNatClampNeg x1) 12 7).toNatClampNeg x2) 12 7).toNatClampNeg x3) 12 7) 40) <|
  gd (vp_in (gI (sI (sI (sI (sI M 13 (gI M 12 7).toNatClampNeg x1) 14 (gI (sI M 13 (gI M 12 7).toNatClampNeg x1) 12 7).toNatClampNeg x2) 15 (gI (sI (sI M 13 (gI M 12 7).toNatClampNeg x1) 14 (gI (sI M 13 (gI M 12 7).toNatClampNeg x1) 12 7).toNatClampNeg x2) 12 7).toNatClampNeg x3) 16 (gI (sI (sI (sI M 13 (gI M 12 7).toNatClampNeg x1) 14 (gI (sI M 13 (gI M 12 7).toNatClampNeg x1) 12 7).toNatClampNeg x2) 15 (gI (sI (sI M 13 (gI M 12 7).toNatClampNeg x1) 14 (gI (sI M 13 (gI M 12 7).toNatClampNeg x1) 12 7).toNatClampNeg x2) 12 7).toNatClampNeg x3) 12 7).toNatClampNeg x4) 12 7) 40) <|
  gd (vp_in (gI (sI (sI (sI (sI (sI M 13 (gI M 12 7).toNatClampNeg x1) 14 (gI (sI M 13 (gI M 12 7).toNatClampNeg x1) 12 7).toNatClampNeg x2) 15 (gI (sI (sI M 13 (gI M 12 7).toNatClampNeg x1) 14 (gI (sI M 13 (gI M 12 7).toNatClampNeg x1) 12 7).toNatClampNeg x2) 12 7).toNatClampNeg x3) 16 (gI (sI (sI (sI M 13 (gI M 12 7).toNatClampNeg x1) 14 (gI (sI M 13 (gI M 12 7).toNatClampNeg x1) 12 7).toNatClampNeg x2) 15 (gI (sI (sI M 13 (gI M 12 7).toNatClampNeg x1) 14 (gI (sI M 13 (gI M 12 7).toNatClampNeg x1) 12 7).toNatClampNeg x2) 12 7).toNatClampNeg x3) 12 7).toNatClampNeg x4) 17 (gI (sI (sI (sI (sI M 13 (gI M 12 7).toNatClampNeg x1) 14 (gI (sI M 13 (gI M 12 7).toNatClampNeg x1) 12 7).toNatClampNeg x2) 15 (gI (sI (sI M 13 (gI M 12 7).toNatClampNeg x1) 14 (gI (sI M 13 (gI M 12 7).toNatClampNeg x1) 12 7).toNatClampNeg x2) 12 7).toNatClampNeg x3) 16 (gI (sI (sI (sI M 13 (gI M 12 7).toNatClampNeg x1) 14 (gI (sI M 13 (gI M 12 7).toNatClampNeg x1) 12 7).toNatClampNeg x2) 15 (gI (sI (sI M 13 (gI M 12 7).toNatClampNeg x1) 14 (gI (sI M 13 (gI M 12 7).toNatClampNeg x1) 12 7).toNatClampNeg x2) 12 7).toNatClampNeg x3) 12 7).toNatClampNeg x4) 12 7).toNatClampNeg x5) 12 7) 40) <|
  gd (vp_in (gI (sI (sI (sI (sI (sI (sI M 13 (gI M 12 7).toNatClampNeg x1) 14 (gI (sI M 13 (gI M 12 7).toNatClampNeg x1) 12 7).toNatClampNeg x2) 15 (gI (sI (sI M 13 (gI M 12 7).toNatClampNeg x1) 14 (gI (sI M 13 (gI M 12 7).toNatClampNeg x1) 12 7).toNatClampNeg x2) 12 7).toNatClampNeg x3) 16 (gI (sI (sI (sI M 13 (gI M 12 7).toNatClampNeg x1) 14 (gI (sI M 13 (gI M 12 7).toNatClampNeg x1) 12 7).toNatClampNeg x2) 15 (gI (sI (sI M 13 (gI M 12 7).toNatClampNeg x1) 14 (gI (sI M 13 (gI M 12 7).toNatClampNeg x1) 12 7).toNatClampNeg x2) 12 7).toNatClampNeg x3) 12 7).toNatClampNeg x4) 17 (gI (sI (sI (sI (sI M 13 (gI M 12 7).toNatClampNeg x1) 14 (gI (sI M 13 (gI M 12 7).toNatClampNeg x1) 12 7).toNatClampNeg x2) 15 (gI (sI (sI M 13 (gI M 12 7).toNatClampNeg x1) 14 (gI (sI M 13 (gI M 12 7).toNatClampNeg x1) 12 7).toNatClampNeg x2) 12 7).toNatClampNeg x3) 16 (gI (sI (sI (sI M 13 (gI M 12 7).toNatClampNeg x1) 14 (gI (sI M 13 (gI M 12 7).toNatClampNeg x1) 12 7).toNatClampNeg x2) 15 (gI (sI (sI M 13 (gI M 12 7).toNatClampNeg x1) 14 (gI (sI M 13 (gI M 12 7).toNatClampNeg x1) 12 7).toNatClampNeg x2) 12 7).toNatClampNeg x3) 12 7).toNatClampNeg x4) 12 7).toNatClampNeg x5) 18 (gI (sI (sI (sI (sI (sI M 13 (gI M 12 7).toNatClampNeg x1) 14 (gI (sI M 13 (gI M 12 7).toNatClampNeg x1) 12 7).toNatClampNeg x2) 15 (gI (sI (sI M 13 (gI M 12 7).toNatClampNeg x1) 14 (gI (sI M 13 (gI M 12 7).toNatClampNeg x1) 12 7).toNatClampNeg x2) 12 7).toNatClampNeg x3) 16 (gI (sI (sI (sI M 13 (gI M 12 7).toNatClampNeg x1) 14 (gI (sI M 13 (gI M 12 7).toNatClampNeg x1) 12 7).toNatClampNeg x2) 15 (gI (sI (sI M 13 (gI M 12 7).toNatClampNeg x1) 14 (gI (sI M 13 (gI M 12 7).toNatClampNeg x1) 12 7).toNatClampNeg x2) 12 7).toNatClampNeg x3) 12 7).toNatClampNeg x4) 17 (gI (sI (sI (sI (sI M 13 (gI M 12 7).toNatClampNeg x1) 14 (gI (sI M 13 (gI M 12 7).toNatClampNeg x1) 12 7).toNatClampNeg x2) 15 (gI (sI (sI M 13 (gI M 12 7).toNatClampNeg x1) 14 (gI (sI M 13 (gI M 12 7).toNatClampNeg x1) 12 7).toNatClampNeg x2) 12 7).toNatClampNeg x3) 16 (gI (sI (sI (sI M 13 (gI M 12 7).toNatClampNeg x1) 14 (gI (sI M 13 (gI M 12 7).toNatClampNeg x1) 12 7).toNatClampNeg x2) 15 (gI (sI (sI M 13 (gI M 12 7).toNatClampNeg x1) 14 (gI (sI M 13 (gI M 12 7).toNatClampNeg x1) 12 7).toNatClampNeg x2) 12 7).toNatClampNeg x3) 12 7).toNatClampNeg x4) 12 7).toNatClampNeg x5) 12 7).toNatClampNeg x6) 12 7) 40) <|
  some (((gI (sI (sI (sI (sI (sI (sI (sI (sI M 13 (gI M 12 7).toNatClampNeg x1) 14 (gI (sI M 13 (gI M 12 7).toNatClampNeg x1) 12 7).toNatClampNeg x2) 15 (gI (sI (sI M 13 (gI M 12 7).toNatClampNeg x1) 14 (gI (sI M 13 (gI M 12 7).toNatClampNeg x1) 12 7).toNatClampNeg x2) 12 7).toNatClampNeg x3) 16 (gI (sI (sI (sI M 13 (gI M 12 7).toNatClampNeg x1) 14 (gI (sI M 13 (gI M 12 7).toNatClampNeg x1) 12 7).toNatClampNeg x2) 15 (gI (sI (sI M 13 (gI M 12 7).toNatClampNeg x1) 14 (gI (sI M 13 (gI M 12 7).toNatClampNeg x1) 12 7).toNatClampNeg x2) 12 7).toNatClampNeg x3) 12 7).toNatClampNeg x4) 17 (gI (sI (sI (sI (sI M 13 (gI M 12 7).toNatClampNeg x1) 14 (gI (sI M 13 (gI M 12 7).toNatClampNeg x1) 12 7).toNatClampNeg x2) 15 (gI (sI (sI M 13 (gI M 12 7).toNatClampNeg x1) 14 (gI (sI M 13 (gI M 12 7).toNatClampNeg x1) 12 7).toNatClampNeg x2) 12 7).toNatClampNeg x3) 16 (gI (sI (sI (sI M 13 (gI M 12 7).toNatClampNeg x1) 14 (gI (sI M 13 (gI M 12 7).toNatClampNeg x1) 12 7).toNatClampNeg x2) 15 (gI (sI (sI M 13 (gI M 12 7).toNatClampNeg x1) 14 (gI (sI M 13 (gI M 12 7).toNatClampNeg x1) 12 7).toNatClampNeg x2) 12 7).toNatClampNeg x3) 12 7).toNatClampNeg x4) 12 7).toNatClampNeg x5) 18 (gI (sI (sI (sI (sI (sI M 13 (gI M 12 7).toNatClampNeg x1) 14 (gI (sI M 13 (gI M 12 7).toNatClampNeg x1) 12 7).toNatClampNeg x2) 15 (gI (sI (sI M 13 (gI M 12 7).toNatClampNeg x1) 14 (gI (sI M 13 (gI M 12 7).toNatClampNeg x1) 12 7).toNatClampNeg x2) 12 7).toNatClampNeg x3) 16 (gI (sI (sI (sI M 13 (gI M 12 7).toNatClampNeg x1) 14 (gI (sI M 13 (gI M 12 7).toNatClampNeg x1) 12 7).toNatClampNeg x2) 15 (gI (sI (sI M 13 (gI M 12 7).toNatClampNeg x1) 14 (gI (sI M 13 (gI M 12 7).toNatClampNeg x1) 12 7).toNatClampNeg x2) 12 7).toNatClampNeg x3) 12 7).toNatClampNeg x4) 17 (gI (sI (sI (sI (sI M 13 (gI M 12 7).toNatClampNeg x1) 14 (gI (sI M 13 (gI M 12 7).toNatClampNeg x1) 12 7).toNatClampNeg x2) 15 (gI (sI (sI M 13 (gI M 12 7).toNatClampNeg x1) 14 (gI (sI M 13 (gI M 12 7).toNatClampNeg x1) 12 7).toNatClampNeg x2) 12 7).toNatClampNeg x3) 16 (gI (sI (sI (sI M 13 (gI M 12 7).toNatClampNeg x1) 14 (gI (sI M 13 (gI M 12 7).toNatClampNeg x1) 12 7).toNatClampNeg x2) 15 (gI (sI (sI M 13 (gI M 12 7).toNatClampNeg x1) 14 (gI (sI M 13 (gI M 12 7).toNatClampNeg x1) 12 7).toNatClampNeg x2) 12 7).toNatClampNeg x3) 12 7).toNatClampNeg x4) 12 7).toNatClampNeg x5) 12 7).toNatClampNeg x6) 19 (gI (sI (sI (sI (sI (sI (sI M 13 (gI M 12 7).toNatClampNeg x1) 14 (gI (sI M 13 (gI M 12 7).toNatClampNeg x1) 12 7).toNatClampNeg x2) 15 (gI (sI (sI M 13 (gI M 12 7).toNatClampNeg x1) 14 (gI (sI M 13 (gI M 12 7).toNatClampNeg x1) 12 7).toNatClampNeg x2) 12 7).toNatClampNeg x3) 16 (gI (sI (sI (sI M 13 (gI M 12 7).toNatClampNeg x1) 14 (gI (sI M 13 (gI M 12 7).toNatClampNeg x1) 12 7).toNatClampNeg x2) 15 (gI (sI (sI M 13 (gI M 12 7).toNatClampNeg x1) 14 (gI (sI M 13 (gI M 12 7).toNatClampNeg x1) 12 7).toNatClampNeg x2) 12 7).toNatClampNeg x3) 12 7).toNatClampNeg x4) 17 (gI (sI (sI (sI (sI M 13 (gI M 12 7).toNatClampNeg x1) 14 (gI (sI M 13 (gI M 12 7).toNatClampNeg x1) 12 7).toNatClampNeg x2) 15 (gI (sI (sI M 13 (gI M 12 7).toNatClampNeg x1) 14 (gI (sI M 13 (gI M 12 7).toNatClampNeg x1) 12 7).toNatClampNeg x2) 12 7).toNatClampNeg x3) 16 (gI (sI (sI (sI M 13 (gI M 12 7).toNatClampNeg x1) 14 (gI (sI M 13 (gI M 12 7).toNatClampNeg x1) 12 7).toNatClampNeg x2) 15 (gI (sI (sI M 13 (gI M 12 7).toNatClampNeg x1) 14 (gI (sI M 13 (gI M 12 7).toNatClampNeg x1) 12 7).toNatClampNeg x2) 12 7).toNatClampNeg x3) 12 7).toNatClampNeg x4) 12 7).toNatClampNeg x5) 18 (gI (sI (sI (sI (sI (sI M 13 (gI M 12 7).toNatClampNeg x1) 14 (gI (sI M 13 (gI M 12 7).toNatClampNeg x1) 12 7).toNatClampNeg x2) 15 (gI (sI (sI M 13 (gI M 12 7).toNatClampNeg x1) 14 (gI (sI M 13 (gI M 12 7).toNatClampNeg x1) 12 7).toNatClampNeg x2) 12 7).toNatClampNeg x3) 16 (gI (sI (sI (sI M 13 (gI M 12 7).toNatClampNeg x1) 14 (gI (sI M 13 (gI M 12 7).toNatClampNeg x1) 12 7).toNatClampNeg x2) 15 (gI (sI (sI M 13 (gI M 12 7).toNatClampNeg x1) 14 (gI (sI M 13 (gI M 12 7).toNatClampNeg x1) 12 7).toNatClampNeg x2) 12 7).toNatClampNeg x3) 12 7).toNatClampNeg x4) 17 (gI (sI (sI (sI (sI M 13 (gI M 12 7).toNatClampNeg x1) 14 (gI (sI M 13 (gI M 12 7).toNatClampNeg x1) 12 7).toNatClampNeg x2) 15 (gI (sI (sI M 13 (gI M 12 7).toNatClampNeg x1) 14 (gI (sI M 13 (gI M 12 7).toNatClampNeg x1) 12 7).toNatClampNeg x2) 12 7).toNatClampNeg x3) 16 (gI (sI (sI (sI M 13 (gI M 12 7).toNatClampNeg x1) 14 (gI (sI M 13 (gI M 12 7).toNatClampNeg x1) 12 7).toNatClampNeg x2) 15 (gI (sI (sI M 13 (gI M 12 7).toNatClampNeg x1) 14 (gI (sI M 13 (gI M 12 7).toNatClampNeg x1) 12 7).toNatClampNeg x2) 12 7).toNatClampNeg x3) 12 7).toNatClampNeg x4) 12 7).toNatClampNeg x5) 12 7).toNatClampNeg x6) 12 7).toNatClampNeg x7) 12 7 ((gI (sI (sI (sI (sI (sI (sI (sI M 13 (gI M 12 7).toNatClampNeg x1) 14 (gI (sI M 13 (gI M 12 7).toNatClampNeg x1) 12 7).toNatClampNeg x2) 15 (gI (sI (sI M 13 (gI M 12 7).toNatClampNeg x1) 14 (gI (sI M 13 (gI M 12 7).toNatClampNeg x1) 12 7).toNatClampNeg x2) 12 7).toNatClampNeg x3) 16 (gI (sI (sI (sI M 13 (gI M 12 7).toNatClampNeg x1) 14 (gI (sI M 13 (gI M 12 7).toNatClampNeg x1) 12 7).toNatClampNeg x2) 15 (gI (sI (sI M 13 (gI M 12 7).toNatClampNeg x1) 14 (gI (sI M 13 (gI M 12 7).toNatClampNeg x1) 12 7).toNatClampNeg x2) 12 7).toNatClampNeg x3) 12 7).toNatClampNeg x4) 17 (gI (sI (sI (sI (sI M 13 (gI M 12 7).toNatClampNeg x1) 14 (gI (sI M 13 (gI M 12 7).toNatClampNeg x1) 12 7).toNatClampNeg x2) 15 (gI (sI (sI M 13 (gI M 12 7).toNatClampNeg x1) 14 (gI (sI M 13 (gI M 12 7).toNatClampNeg x1) 12 7).toNatClampNeg x2) 12 7).toNatClampNeg x3) 16 (gI (sI (sI (sI M 13 (gI M 12 7).toNatClampNeg x1) 14 (gI (sI M 13 (gI M 12 7).toNatClampNeg x1) 12 7).toNatClampNeg x2) 15 (gI (sI (sI M 13 (gI M 12 7).toNatClampNeg x1) 14 (gI (sI M 13 (gI M 12 7).toNatClampNeg x1) 12 7).toNatClampNeg x2) 12 7).toNatClampNeg x3) 12 7).toNatClampNeg x4) 12 7).toNatClampNeg x5) 18 (gI (sI (sI (sI (sI (sI M 13 (gI M 12 7).toNatClampNeg x1) 14 (gI (sI M 13 (gI M 12 7).toNatClampNeg x1) 12 7).toNatClampNeg x2) 15 (gI (sI (sI M 13 (gI M 12 7).toNatClampNeg x1) 14 (gI (sI M 13 (gI M 12 7).toNatClampNeg x1) 12 7).toNatClampNeg x2) 12 7).toNatClampNeg x3) 16 (gI (sI (sI (sI M 13 (gI M 12 7).toNatClampNeg x1) 14 (gI (sI M 13 (gI M 12 7).toNatClampNeg x1) 12 7).toNatClampNeg x2) 15 (gI (sI (sI M 13 (gI M 12 7).toNatClampNeg x1) 14 (gI (sI M 13 (gI M 12 7).toNatClampNeg x1) 12 7).toNatClampNeg x2) 12 7).toNatClampNeg x3) 12 7).toNatClampNeg x4) 17 (gI (sI (sI (sI (sI M 13 (gI M 12 7).toNatClampNeg x1) 14 (gI (sI M 13 (gI M 12 7).toNatClampNeg x1) 12 7).toNatClampNeg x2) 15 (gI (sI (sI M 13 (gI M 12 7).toNatClampNeg x1) 14 (gI (sI M 13 (gI M 12 7).toNatClampNeg x1) 12 7).toNatClampNeg x2) 12 7).toNatClampNeg x3) 16 (gI (sI (sI (sI M 13 (gI M 12 7).toNatClampNeg x1) 14 (gI (sI M 13 (gI M 12 7).toNatClampNeg x1) 12 7).toNatClampNeg x2) 15 (gI (sI (sI M 13 (gI M 12 7).toNatClampNeg x1) 14 (gI (sI M 13 (gI M 12 7).toNatClampNeg x1) 12 7).toNatClampNeg x2) 12 7).toNatClampNeg x3) 12 7).toNatClampNeg x4) 12 7).toNatClampNeg x5) 12 7).toNatClampNeg x6) 19 (gI (sI (sI (sI (sI (sI (sI M 13 (gI M 12 7).toNatClampNeg x1) 14 (gI (sI M 13 (gI M 12 7).toNatClampNeg x1) 12 7).toNatClampNeg x2) 15 (gI (sI (sI M 13 (gI M 12 7).toNatClampNeg x1) 14 (gI (sI M 13 (gI M 12 7).toNatClampNeg x1) 12 7).toNatClampNeg x2) 12 7).toNatClampNeg x3) 16 (gI (sI (sI (sI M 13 (gI M 12 7).toNatClampNeg x1) 14 (gI (sI M 13 (gI M 12 7).toNatClampNeg x1) 12 7).toNatClampNeg x2) 15 (gI (sI (sI M 13 (gI M 12 7).toNatClampNeg x1) 14 (gI (sI M 13 (gI M 12 7).toNatClampNeg x1) 12 7).toNatClampNeg x2) 12 7).toNatClampNeg x3) 12 7).toNatClampNeg x4) 17 (gI (sI (sI (sI (sI M 13 (gI M 12 7).toNatClampNeg x1) 14 (gI (sI M 13 (gI M 12 7).toNatClampNeg x1) 12 7).toNatClampNeg x2) 15 (gI (sI (sI M 13 (gI M 12 7).toNatClampNeg x1) 14 (gI (sI M 13 (gI M 12 7).toNatClampNeg x1) 12 7).toNatClampNeg x2) 12 7).toNatClampNeg x3) 16 (gI (sI (sI (sI M 13 (gI M 12 7).toNatClampNeg x1) 14 (gI (sI M 13 (gI M 12 7).toNatClampNeg x1) 12 7).toNatClampNeg x2) 15 (gI (sI (sI M 13 (gI M 12 7).toNatClampNeg x1) 14 (gI (sI M 13 (gI M 12 7).toNatClampNeg x1) 12 7).toNatClampNeg x2) 12 7).toNatClampNeg x3) 12 7).toNatClampNeg x4) 12 7).toNatClampNeg x5) 18 (gI (sI (sI (sI (sI (sI M 13 (gI M 12 7).toNatClampNeg x1) 14 (gI (sI M 13 (gI M 12 7).toNatClampNeg x1) 12 7).toNatClampNeg x2) 15 (gI (sI (sI M 13 (gI M 12 7).toNatClampNeg x1) 14 (gI (sI M 13 (gI M 12 7).toNatClampNeg x1) 12 7).toNatClampNeg x2) 12 7).toNatClampNeg x3) 16 (gI (sI (sI (sI M 13 (gI M 12 7).toNatClampNeg x1) 14 (gI (sI M 13 (gI M 12 7).toNatClampNeg x1) 12 7).toNatClampNeg x2) 15 (gI (sI (sI M 13 (gI M 12 7).toNatClampNeg x1) 14 (gI (sI M 13 (gI M 12 7).toNatClampNeg x1) 12 7).toNatClampNeg x2) 12 7).toNatClampNeg x3) 12 7).toNatClampNeg x4) 17 (gI (sI (sI (sI (sI M 13 (gI M 12 7).toNatClampNeg x1) 14 (gI (sI M 13 (gI M 12 7).toNatClampNeg x1) 12 7).toNatClampNeg x2) 15 (gI (sI (sI M 13 (gI M 12 7).toNatClampNeg x1) 14 (gI (sI M 13 (gI M 12 7).toNatClampNeg x1) 12 7).toNatClampNeg x2) 12 7).toNatClampNeg x3) 16 (gI (sI (sI (sI M 13 (gI M 12 7).toNatClampNeg x1) 14 (gI (sI M 13 (gI M 12 7).toNatClampNeg x1) 12 7).toNatClampNeg x2) 15 (gI (sI (sI M 13 (gI M 12 7).toNatClampNeg x1) 14 (gI (sI M 13 (gI M 12 7).toNatClampNeg x1) 12 7).toNatClampNeg x2) 12 7).toNatClampNeg x3) 12 7).toNatClampNeg x4) 12 7).toNatClampNeg x5) 12 7).toNatClampNeg x6) 12 7).toNatClampNeg x7) 12 7) + 1)) 12 7) - 1), (sI (sI (sI (sI (sI (sI (sI (sI M 13 (gI M 12 7).toNatClampNeg x1) 14 (gI (sI M 13 (gI M 12 7).toNatClampNeg x1) 12 7).toNatClampNeg x2) 15 (gI (sI (sI M 13 (gI M 12 7).toNatClampNeg x1) 14 (gI (sI M 13 (gI M 12 7).toNatClampNeg x1) 12 7).toNatClampNeg x2) 12 7).toNatClampNeg x3) 16 (gI (sI (sI (sI M 13 (gI M 12 7).toNatClampNeg x1) 14 (gI (sI M 13 (gI M 12 7).toNatClampNeg x1) 12 7).toNatClampNeg x2) 15 (gI (sI (sI M 13 (gI M 12 7).toNatClampNeg x1) 14 (gI (sI M 13 (gI M 12 7).toNatClampNeg x1) 12 7).toNatClampNeg x2) 12 7).toNatClampNeg x3) 12 7).toNatClampNeg x4) 17 (gI (sI (sI (sI (sI M 13 (gI M 12 7).toNatClampNeg x1) 14 (gI (sI M 13 (gI M 12 7).toNatClampNeg x1) 12 7).toNatClampNeg x2) 15 (gI (sI (sI M 13 (gI M 12 7).toNatClampNeg x1) 14 (gI (sI M 13 (gI M 12 7).toNatClampNeg x1) 12 7).toNatClampNeg x2) 12 7).toNatClampNeg x3) 16 (gI (sI (sI (sI M 13 (gI M 12 7).toNatClampNeg x1) 14 (gI (sI M 13 (gI M 12 7).toNatClampNeg x1) 12 7).toNatClampNeg x2) 15 (gI (sI (sI M 13 (gI M 12 7).toNatClampNeg x1) 14 (gI (sI M 13 (gI M 12 7).toNatClampNeg x1) 12 7).toNatClampNeg x2) 12 7).toNatClampNeg x3) 12 7).toNatClampNeg x4) 12 7).toNatClampNeg x5) 18 (gI (sI (sI (sI (sI (sI M 13 (gI M 12 7).toNatClampNeg x1) 14 (gI (sI M 13 (gI M 12 7).toNatClampNeg x1) 12 7).toNatClampNeg x2) 15 (gI (sI (sI M 13 (gI M 12 7).toNatClampNeg x1) 14 (gI (sI M 13 (gI M 12 7).toNatClampNeg x1) 12 7).toNatClampNeg x2) 12 7).toNatClampNeg x3) 16 (gI (sI (sI (sI M 13 (gI M 12 7).toNatClampNeg x1) 14 (gI (sI M 13 (gI M 12 7).toNatClampNeg x1) 12 7).toNatClampNeg x2) 15 (gI (sI (sI M 13 (gI M 12 7).toNatClampNeg x1) 14 (gI (sI M 13 (gI M 12 7).toNatClampNeg x1) 12 7).toNatClampNeg x2) 12 7).toNatClampNeg x3) 12 7).toNatClampNeg x4) 17 (gI (sI (sI (sI (sI M 13 (gI M 12 7).toNatClampNeg x1) 14 (gI (sI M 13 (gI M 12 7).toNatClampNeg x1) 12 7).toNatClampNeg x2) 15 (gI (sI (sI M 13 (gI M 12 7).toNatClampNeg x1) 14 (gI (sI M 13 (gI M 12 7).toNatClampNeg x1) 12 7).toNatClampNeg x2) 12 7).toNatClampNeg x3) 16 (gI (sI (sI (sI M 13 (gI M 12 7).toNatClampNeg x1) 14 (gI (sI M 13 (gI M 12 7).toNatClampNeg x1) 12 7).toNatClampNeg x2) 15 (gI (sI (sI M 13 (gI M 12 7).toNatClampNeg x1) 14 (gI (sI M 13 (gI M 12 7).toNatClampNeg x1) 12 7).toNatClampNeg x2) 12 7).toNatClampNeg x3) 12 7).toNatClampNeg x4) 12 7).toNatClampNeg x5) 12 7).toNatClampNeg x6) 19 (gI (sI (sI (sI (sI (sI (sI M 13 (gI M 12 7).toNatClampNeg x1) 14 (gI (sI M 13 (gI M 12 7).toNatClampNeg x1) 12 7).toNatClampNeg x2) 15 (gI (sI (sI M 13 (gI M 12 7).toNatClampNeg x1) 14 (gI (sI M 13 (gI M 12 7).toNatClampNeg x1) 12 7).toNatClampNeg x2) 12 7).toNatClampNeg x3) 16 (gI (sI (sI (sI M 13 (gI M 12 7).toNatClampNeg x1) 14 (gI (sI M 13 (gI M 12 7).toNatClampNeg x1) 12 7).toNatClampNeg x2) 15 (gI (sI (sI M 13 (gI M 12 7).toNatClampNeg x1) 14 (gI (sI M 13 (gI M 12 7).toNatClampNeg x1) 12 7).toNatClampNeg x2) 12 7).toNatClampNeg x3) 12 7).toNatClampNeg x4) 17 (gI (sI (sI (sI (sI M 13 (gI M 12 7).toNatClampNeg x1) 14 (gI (sI M 13 (gI M 12 7).toNatClampNeg x1) 12 7).toNatClampNeg x2) 15 (gI (sI (sI M 13 (gI M 12 7).toNatClampNeg x1) 14 (gI (sI M 13 (gI M 12 7).toNatClampNeg x1) 12 7).toNatClampNeg x2) 12 7).toNatClampNeg x3) 16 (gI (sI (sI (sI M 13 (gI M 12 7).toNatClampNeg x1) 14 (gI (sI M 13 (gI M 12 7).toNatClampNeg x1) 12 7).toNatClampNeg x2) 15 (gI (sI (sI M 13 (gI M 12 7).toNatClampNeg x1) 14 (gI (sI M 13 (gI M 12 7).toNatClampNeg x1) 12 7).toNatClampNeg x2) 12 7).toNatClampNeg x3) 12 7).toNatClampNeg x4) 12 7).toNatClampNeg x5) 18 (gI (sI (sI (sI (sI (sI M 13 (gI M 12 7).toNatClampNeg x1) 14 (gI (sI M 13 (gI M 12 7).toNatClampNeg x1) 12 7).toNatClampNeg x2) 15 (gI (sI (sI M 13 (gI M 12 7).toNatClampNeg x1) 14 (gI (sI M 13 (gI M 12 7).toNatClampNeg x1) 12 7).toNatClampNeg x2) 12 7).toNatClampNeg x3) 16 (gI (sI (sI (sI M 13 (gI M 12 7).toNatClampNeg x1) 14 (gI (sI M 13 (gI M 12 7).toNatClampNeg x1) 12 7).toNatClampNeg x2) 15 (gI (sI (sI M 13 (gI M 12 7).toNatClampNeg x1) 14 (gI (sI M 13 (gI M 12 7).toNatClampNeg x1) 12 7).toNatClampNeg x2) 12 7).toNatClampNeg x3) 12 7).toNatClampNeg x4) 17 (gI (sI (sI (sI (sI M 13 (gI M 12 7).toNatClampNeg x1) 14 (gI (sI M 13 (gI M 12 7).toNatClampNeg x1) 12 7).toNatClampNeg x2) 15 (gI (sI (sI M 13 (gI M 12 7).toNatClampNeg x1) 14 (gI (sI M 13 (gI M 12 7).toNatClampNeg x1) 12 7).toNatClampNeg x2) 12 7).toNatClampNeg x3) 16 (gI (sI (sI (sI M 13 (gI M 12 7).toNatClampNeg x1) 14 (gI (sI M 13 (gI M 12 7).toNatClampNeg x1) 12 7).toNatClampNeg x2) 15 (gI (sI (sI M 13 (gI M 12 7).toNatClampNeg x1) 14 (gI (sI M 13 (gI M 12 7).toNatClampNeg x1) 12 7).toNatClampNeg x2) 12 7).toNatClampNeg x3) 12 7).toNatClampNeg x4) 12 7).toNatClampNeg x5) 12 7).toNatClampNeg x6) 12 7).toNatClampNeg x7) 12 7 ((gI (sI (sI (sI (sI (sI (sI (sI M 13 (gI M 12 7).toNatClampNeg x1) 14 (gI (sI M 13 (gI M 12 7).toNatClampNeg x1) 12 7).toNatClampNeg x2) 15 (gI (sI (sI M 13 (gI M 12 7).toNatClampNeg x1) 14 (gI (sI M 13 (gI M 12 7).toNatClampNeg x1) 12 7).toNatClampNeg x2) 12 7).toNatClampNeg x3) 16 (gI (sI (sI (sI M 13 (gI M 12 7).toNatClampNeg x1) 14 (gI (sI M 13 (gI M 12 7).toNatClampNeg x1) 12 7).toNatClampNeg x2) 15 (gI (sI (sI M 13 (gI M 12 7).toNatClampNeg x1) 14 (gI (sI M 13 (gI M 12 7).toNatClampNeg x1) 12 7).toNatClampNeg x2) 12 7).toNatClampNeg x3) 12 7).toNatClampNeg x4) 17 (gI (sI (sI (sI (sI M 13 (gI M 12 7).toNatClampNeg x1) 14 (gI (sI M 13 (gI M 12 7).toNatClampNeg x1) 12 7).toNatClampNeg x2) 15 (gI (sI (sI M 13 (gI M 12 7).toNatClampNeg x1) 14 (gI (sI M 13 (gI M 12 7).toNatClampNeg x1) 12 7).toNatClampNeg x2) 12 7).toNatClampNeg x3) 16 (gI (sI (sI (sI M 13 (gI M 12 7).toNatClampNeg x1) 14 (gI (sI M 13 (gI M 12 7).toNatClampNeg x1) 12 7).toNatClampNeg x2) 15 (gI (sI (sI M 13 (gI M 12 7).toNatClampNeg x1) 14 (gI (sI M 13 (gI M 12 7).toNatClampNeg x1) 12 7).toNatClampNeg x2) 12 7).toNatClampNeg x3) 12 7).toNatClampNeg x4) 12 7).toNatClampNeg x5) 18 (gI (sI (sI (sI (sI (sI M 13 (gI M 12 7).toNatClampNeg x1) 14 (gI (sI M 13 (gI M 12 7).toNatClampNeg x1) 12 7).toNatClampNeg x2) 15 (gI (sI (sI M 13 (gI M 12 7).toNatClampNeg x1) 14 (gI (sI M 13 (gI M 12 7).toNatClampNeg x1) 12 7).toNatClampNeg x2) 12 7).toNatClampNeg x3) 16 (gI (sI (sI (sI M 13 (gI M 12 7).toNatClampNeg x1) 14 (gI (sI M 13 (gI M 12 7).toNatClampNeg x1) 12 7).toNatClampNeg x2) 15 (gI (sI (sI M 13 (gI M 12 7).toNatClampNeg x1) 14 (gI (sI M 13 (gI M 12 7).toNatClampNeg x1) 12 7).toNatClampNeg x2) 12 7).toNatClampNeg x3) 12 7).toNatClampNeg x4) 17 (gI (sI (sI (sI (sI M 13 (gI M 12 7).toNatClampNeg x1) 14 (gI (sI M 13 (gI M 12 7).toNatClampNeg x1) 12 7).toNatClampNeg x2) 15 (gI (sI (sI M 13 (gI M 12 7).toNatClampNeg x1) 14 (gI (sI M 13 (gI M 12 7).toNatClampNeg x1) 12 7).toNatClampNeg x2) 12 7).toNatClampNeg x3) 16 (gI (sI (sI (sI M 13 (gI M 12 7).toNatClampNeg x1) 14 (gI (sI M 13 (gI M 12 7).toNatClampNeg x1) 12 7).toNatClampNeg x2) 15 (gI (sI (sI M 13 (gI M 12 7).toNatClampNeg x1) 14 (gI (sI M 13 (gI M 12 7).toNatClampNeg x1) 12 7).toNatClampNeg x2) 12 7).toNatClampNeg x3) 12 7).toNatClampNeg x4) 12 7).toNatClampNeg x5) 12 7).toNatClampNeg x6) 19 (gI (sI (sI (sI (sI (sI (sI M 13 (gI M 12 7).toNatClampNeg x1) 14 (gI (sI M 13 (gI M 12 7).toNatClampNeg x1) 12 7).toNatClampNeg x2) 15 (gI (sI (sI M 13 (gI M 12 7).toNatClampNeg x1) 14 (gI (sI M 13 (gI M 12 7).toNatClampNeg x1) 12 7).toNatClampNeg x2) 12 7).toNatClampNeg x3) 16 (gI (sI (sI (sI M 13 (gI M 12 7).toNatClampNeg x1) 14 (gI (sI M 13 (gI M 12 7).toNatClampNeg x1) 12 7).toNatClampNeg x2) 15 (gI (sI (sI M 13 (gI M 12 7).toNatClampNeg x1) 14 (gI (sI M 13 (gI M 12 7).toNatClampNeg x1) 12 7).toNatClampNeg x2) 12 7).toNatClampNeg x3) 12 7).toNatClampNeg x4) 17 (gI (sI (sI (sI (sI M 13 (gI M 12 7).toNatClampNeg x1) 14 (gI (sI M 13 (gI M 12 7).toNatClampNeg x1) 12 7).toNatClampNeg x2) 15 (gI (sI (sI M 13 (gI M 12 7).toNatClampNeg x1) 14 (gI (sI M 13 (gI M 12 7).toNatClampNeg x1) 12 7).toNatClampNeg x2) 12 7).toNatClampNeg x3) 16 (gI (sI (sI (sI M 13 (gI M 12 7).toNatClampNeg x1) 14 (gI (sI M 13 (gI M 12 7).toNatClampNeg x1) 12 7).toNatClampNeg x2) 15 (gI (sI (sI M 13 (gI M 12 7).toNatClampNeg x1) 14 (gI (sI M 13 (gI M 12 7).toNatClampNeg x1) 12 7).toNatClampNeg x2) 12 7).toNatClampNeg x3) 12 7).toNatClampNeg x4) 12 7).toNatClampNeg x5) 18 (gI (sI (sI (sI (sI (sI M 13 (gI M 12 7).toNatClampNeg x1) 14 (gI (sI M 13 (gI M 12 7).toNatClampNeg x1) 12 7).toNatClampNeg x2) 15 (gI (sI (sI M 13 (gI M 12 7).toNatClampNeg x1) 14 (gI (sI M 13 (gI M 12 7).toNatClampNeg x1) 12 7).toNatClampNeg x2) 12 7).toNatClampNeg x3) 16 (gI (sI (sI (sI M 13 (gI M 12 7).toNatClampNeg x1) 14 (gI (sI M 13 (gI M 12 7).toNatClampNeg x1) 12 7).toNatClampNeg x2) 15 (gI (sI (sI M 13 (gI M 12 7).toNatClampNeg x1) 14 (gI (sI M 13 (gI M 12 7).toNatClampNeg x1) 12 7).toNatClampNeg x2) 12 7).toNatClampNeg x3) 12 7).toNatClampNeg x4) 17 (gI (sI (sI (sI (sI M 13 (gI M 12 7).toNatClampNeg x1) 14 (gI (sI M 13 (gI M 12 7).toNatClampNeg x1) 12 7).toNatClampNeg x2) 15 (gI (sI (sI M 13 (gI M 12 7).toNatClampNeg x1) 14 (gI (sI M 13 (gI M 12 7).toNatClampNeg x1) 12 7).toNatClampNeg x2) 12 7).toNatClampNeg x3) 16 (gI (sI (sI (sI M 13 (gI M 12 7).toNatClampNeg x1) 14 (gI (sI M 13 (gI M 12 7).toNatClampNeg x1) 12 7).toNatClampNeg x2) 15 (gI (sI (sI M 13 (gI M 12 7).toNatClampNeg x1) 14 (gI (sI M 13 (gI M 12 7).toNatClampNeg x1) 12 7).toNatClampNeg x2) 12 7).toNatClampNeg x3) 12 7).toNatClampNeg x4) 12 7).toNatClampNeg x5) 12 7).toNatClampNeg x6) 12 7).toNatClampNeg x7) 12 7) + 1)))
noncomputable def f_to_tellFind (a1 : Int32) (a2 : Int32) (a3 : Int32) (a4 : Int32) (a5 : Int32) (a6 : Int32) (a7 : Int32) (M : dM) : Option (Int32 × dM) :=
  if (40 : Int32) ≤ (gI M 12 7) then
    some ((-1), M)
  else
    if (gI M 12 7) ≤ 0 then
      t_to_tellFind_33 a1 a2 a3 a4 a5 a6 a7 M
    else
      gd (vp_in ((gI M 12 7) - 1) 40) <|
      if (gI M 15 ((gI M 12 7) - 1).toNatClampNeg) ≤ a3 then
        t_to_tellFind_33 a1 a2 a3 a4 a5 a6 a7 M
      else
        some ((-1), M)
theorem w_t_to_tellFind_33 (x1 : Int32) (x2 : Int32) (x3 : Int32) (x4 : Int32) (x5 : Int32) (x6 : Int32) (x7 : Int32) (M : dM) {Q : mz_P} {o : (Int32 × dM)} (hf : t_to_tellFind_33 x1 x2 x3 x4 x5 x6 x7 M = some o) (hk : mR Q (some (.int o.1)) o.2) : mW mX9_tellFind 1 Q 33 [some (.ref 12), some (.int x1), some (.int x2), some (.int x3), some (.int x4), some (.int x5), some (.int x6), some (.int x7)] [] M := by
  unfold t_to_tellFind_33 at hf
  refine y_aload_n (i := 0) (n := 34) ⟨dX9_tellFind_33, rfl⟩ rfl ?_
  refine y_getR (n := 37) ⟨dX9_tellFind_34, rfl⟩ kfX9_9 l_12 rfl r_12_0 ?_
  refine y_aload_n (i := 0) (n := 38) ⟨dX9_tellFind_37, rfl⟩ rfl ?_
  refine y_getI (n := 41) ⟨dX9_tellFind_38, rfl⟩ kfX9_45 l_12 rfl ?_
  refine y_iload_n (i := 1) (n := 42) ⟨dX9_tellFind_41, rfl⟩ rfl ?_
  obtain ⟨hg1, hf⟩ := g_s hf
  refine y_iastore (n := 43) ⟨dX9_tellFind_42, rfl⟩ l_13 hg1 ?_
  refine y_aload_n (i := 0) (n := 44) ⟨dX9_tellFind_43, rfl⟩ rfl ?_
  refine y_getR (n := 47) ⟨dX9_tellFind_44, rfl⟩ kfX9_15 l_12 rfl r_12_1 ?_
  refine y_aload_n (i := 0) (n := 48) ⟨dX9_tellFind_47, rfl⟩ rfl ?_
  refine y_getI (n := 51) ⟨dX9_tellFind_48, rfl⟩ kfX9_45 l_12 rfl ?_
  refine y_iload_n (i := 2) (n := 52) ⟨dX9_tellFind_51, rfl⟩ rfl ?_
  obtain ⟨hg2, hf⟩ := g_s hf
  refine y_iastore (n := 53) ⟨dX9_tellFind_52, rfl⟩ l_14 hg2 ?_
  refine y_aload_n (i := 0) (n := 54) ⟨dX9_tellFind_53, rfl⟩ rfl ?_
  refine y_getR (n := 57) ⟨dX9_tellFind_54, rfl⟩ kfX9_18 l_12 rfl r_12_2 ?_
  refine y_aload_n (i := 0) (n := 58) ⟨dX9_tellFind_57, rfl⟩ rfl ?_
  refine y_getI (n := 61) ⟨dX9_tellFind_58, rfl⟩ kfX9_45 l_12 rfl ?_
  refine y_iload_n (i := 3) (n := 62) ⟨dX9_tellFind_61, rfl⟩ rfl ?_
  obtain ⟨hg3, hf⟩ := g_s hf
  refine y_iastore (n := 63) ⟨dX9_tellFind_62, rfl⟩ l_15 hg3 ?_
  refine y_aload_n (i := 0) (n := 64) ⟨dX9_tellFind_63, rfl⟩ rfl ?_
  refine y_getR (n := 67) ⟨dX9_tellFind_64, rfl⟩ kfX9_21 l_12 rfl r_12_3 ?_
  refine y_aload_n (i := 0) (n := 68) ⟨dX9_tellFind_67, rfl⟩ rfl ?_
  refine y_getI (n := 71) ⟨dX9_tellFind_68, rfl⟩ kfX9_45 l_12 rfl ?_
  refine y_iload (i := 4) (n := 73) ⟨dX9_tellFind_71, rfl⟩ rfl ?_
  obtain ⟨hg4, hf⟩ := g_s hf
  refine y_iastore (n := 74) ⟨dX9_tellFind_73, rfl⟩ l_16 hg4 ?_
  refine y_aload_n (i := 0) (n := 75) ⟨dX9_tellFind_74, rfl⟩ rfl ?_
  refine y_getR (n := 78) ⟨dX9_tellFind_75, rfl⟩ kfX9_24 l_12 rfl r_12_4 ?_
  refine y_aload_n (i := 0) (n := 79) ⟨dX9_tellFind_78, rfl⟩ rfl ?_
  refine y_getI (n := 82) ⟨dX9_tellFind_79, rfl⟩ kfX9_45 l_12 rfl ?_
  refine y_iload (i := 5) (n := 84) ⟨dX9_tellFind_82, rfl⟩ rfl ?_
  obtain ⟨hg5, hf⟩ := g_s hf
  refine y_iastore (n := 85) ⟨dX9_tellFind_84, rfl⟩ l_17 hg5 ?_
  refine y_aload_n (i := 0) (n := 86) ⟨dX9_tellFind_85, rfl⟩ rfl ?_
  refine y_getR (n := 89) ⟨dX9_tellFind_86, rfl⟩ kfX9_27 l_12 rfl r_12_5 ?_
  refine y_aload_n (i := 0) (n := 90) ⟨dX9_tellFind_89, rfl⟩ rfl ?_
  refine y_getI (n := 93) ⟨dX9_tellFind_90, rfl⟩ kfX9_45 l_12 rfl ?_
  refine y_iload (i := 6) (n := 95) ⟨dX9_tellFind_93, rfl⟩ rfl ?_
  obtain ⟨hg6, hf⟩ := g_s hf
  refine y_iastore (n := 96) ⟨dX9_tellFind_95, rfl⟩ l_18 hg6 ?_
  refine y_aload_n (i := 0) (n := 97) ⟨dX9_tellFind_96, rfl⟩ rfl ?_
  refine y_getR (n := 100) ⟨dX9_tellFind_97, rfl⟩ kfX9_30 l_12 rfl r_12_6 ?_
  refine y_aload_n (i := 0) (n := 101) ⟨dX9_tellFind_100, rfl⟩ rfl ?_
  refine y_getI (n := 104) ⟨dX9_tellFind_101, rfl⟩ kfX9_45 l_12 rfl ?_
  refine y_iload (i := 7) (n := 106) ⟨dX9_tellFind_104, rfl⟩ rfl ?_
  obtain ⟨hg7, hf⟩ := g_s hf
  refine y_iastore (n := 107) ⟨dX9_tellFind_106, rfl⟩ l_19 hg7 ?_
  refine y_aload_n (i := 0) (n := 108) ⟨dX9_tellFind_107, rfl⟩ rfl ?_
  refine y_dup_r (n := 109) ⟨dX9_tellFind_108, rfl⟩ ?_
  refine y_getI (n := 112) ⟨dX9_tellFind_109, rfl⟩ kfX9_45 l_12 rfl ?_
  refine y_iconst (n := 113) (v := 1) ⟨dX9_tellFind_112, rfl⟩ ki_1 ?_
  refine y_iadd (n := 114) ⟨dX9_tellFind_113, rfl⟩ ?_
  refine y_putI (n := 117) ⟨dX9_tellFind_114, rfl⟩ kfX9_45 l_12 (by decide +kernel) rfl ?_
  refine y_aload_n (i := 0) (n := 118) ⟨dX9_tellFind_117, rfl⟩ rfl ?_
  refine y_getI (n := 121) ⟨dX9_tellFind_118, rfl⟩ kfX9_45 l_12 rfl ?_
  refine y_iconst (n := 122) (v := 1) ⟨dX9_tellFind_121, rfl⟩ ki_1 ?_
  refine y_isub (n := 123) ⟨dX9_tellFind_122, rfl⟩ ?_
  cases hf
  exact y_ireturn (n := 124) ⟨dX9_tellFind_123, rfl⟩ rfl rfl hk
theorem ok_to_tellFind (a1 : Int32) (a2 : Int32) (a3 : Int32) (a4 : Int32) (a5 : Int32) (a6 : Int32) (a7 : Int32) (M : dM) {o : (Int32 × dM)} (hf : f_to_tellFind a1 a2 a3 a4 a5 a6 a7 M = some o) : mO mX9_tellFind 1 [.ref 12, .int a1, .int a2, .int a3, .int a4, .int a5, .int a6, .int a7] M (some (.int o.1)) o.2 := by
  refine y_ok (by decide +kernel) (Nat.le_of_ble_eq_true rfl) (L0 := [some (.ref 12), some (.int a1), some (.int a2), some (.int a3), some (.int a4), some (.int a5), some (.int a6), some (.int a7)]) rfl ?_
  have hk := mR_mQ (some (.int o.1)) o.2
  generalize mQ _ _ = Q at hk ⊢
  unfold f_to_tellFind at hf
  refine y_aload_n (i := 0) (n := 1) ⟨dX9_tellFind_0, rfl⟩ rfl ?_
  refine y_getI (n := 4) ⟨dX9_tellFind_1, rfl⟩ kfX9_45 l_12 rfl ?_
  refine y_bipush (n := 6) (v := 40) ⟨dX9_tellFind_4, rfl⟩ kb_40 ?_
  refine y_icmp_ge (t := 31) (n := 9) ⟨dX9_tellFind_6, rfl, rfl⟩ (fun (hc : (40 : Int32) ≤ (gI M 12 7)) => ?_) (fun (hc : ¬ ((40 : Int32) ≤ (gI M 12 7))) => ?_)
  · replace hf := i_t hc hf
    refine y_iconst (n := 32) (v := (-1)) ⟨dX9_tellFind_31, rfl⟩ ki_m1 ?_
    cases hf
    exact y_ireturn (n := 33) ⟨dX9_tellFind_32, rfl⟩ rfl rfl hk
  · replace hf := i_f hc hf
    refine y_aload_n (i := 0) (n := 10) ⟨dX9_tellFind_9, rfl⟩ rfl ?_
    refine y_getI (n := 13) ⟨dX9_tellFind_10, rfl⟩ kfX9_45 l_12 rfl ?_
    refine y_if_le (t := 33) (n := 16) ⟨dX9_tellFind_13, rfl, rfl⟩ (fun (hc : (gI M 12 7) ≤ 0) => ?_) (fun (hc : ¬ ((gI M 12 7) ≤ 0)) => ?_)
    · replace hf := i_t hc hf
      exact y_wk (L2 := [some (.ref 12), some (.int a1), some (.int a2), some (.int a3), some (.int a4), some (.int a5), some (.int a6), some (.int a7)]) ⟨Or.inr rfl, Or.inr rfl, Or.inr rfl, Or.inr rfl, Or.inr rfl, Or.inr rfl, Or.inr rfl, Or.inr rfl, trivial⟩ (w_t_to_tellFind_33 a1 a2 a3 a4 a5 a6 a7 M hf hk)
    · replace hf := i_f hc hf
      refine y_iload_n (i := 3) (n := 17) ⟨dX9_tellFind_16, rfl⟩ rfl ?_
      refine y_aload_n (i := 0) (n := 18) ⟨dX9_tellFind_17, rfl⟩ rfl ?_
      refine y_getR (n := 21) ⟨dX9_tellFind_18, rfl⟩ kfX9_18 l_12 rfl r_12_2 ?_
      refine y_aload_n (i := 0) (n := 22) ⟨dX9_tellFind_21, rfl⟩ rfl ?_
      refine y_getI (n := 25) ⟨dX9_tellFind_22, rfl⟩ kfX9_45 l_12 rfl ?_
      refine y_iconst (n := 26) (v := 1) ⟨dX9_tellFind_25, rfl⟩ ki_1 ?_
      refine y_isub (n := 27) ⟨dX9_tellFind_26, rfl⟩ ?_
      obtain ⟨hg8, hf⟩ := g_s hf
      refine y_iaload (n := 28) ⟨dX9_tellFind_27, rfl⟩ l_15 hg8 ?_
      refine y_icmp_ge (t := 33) (n := 31) ⟨dX9_tellFind_28, rfl, rfl⟩ (fun (hc : (gI M 15 ((gI M 12 7) - 1).toNatClampNeg) ≤ a3) => ?_) (fun (hc : ¬ ((gI M 15 ((gI M 12 7) - 1).toNatClampNeg) ≤ a3)) => ?_)
      · replace hf := i_t hc hf
        exact y_wk (L2 := [some (.ref 12), some (.int a1), some (.int a2), some (.int a3), some (.int a4), some (.int a5), some (.int a6), some (.int a7)]) ⟨Or.inr rfl, Or.inr rfl, Or.inr rfl, Or.inr rfl, Or.inr rfl, Or.inr rfl, Or.inr rfl, Or.inr rfl, trivial⟩ (w_t_to_tellFind_33 a1 a2 a3 a4 a5 a6 a7 M hf hk)
      · replace hf := i_f hc hf
        refine y_iconst (n := 32) (v := (-1)) ⟨dX9_tellFind_31, rfl⟩ ki_m1 ?_
        cases hf
        exact y_ireturn (n := 33) ⟨dX9_tellFind_32, rfl⟩ rfl rfl hk
theorem c_to_tellFind (a1 : Int32) (a2 : Int32) (a3 : Int32) (a4 : Int32) (a5 : Int32) (a6 : Int32) (a7 : Int32) (M : dM) {o : (Int32 × dM)} {y : mz_M} {d : Nat} {Q : mz_P} {pc n i : Nat} {L : List (Option Value)} {st : List Value} (h : mz_d y.2.1 pc n 3 (.invokevirtual i)) (hl : mz_ml y.1.cls i yX9_tellFind) (hf : f_to_tellFind a1 a2 a3 a4 a5 a6 a7 M = some o) (hd : 1 + 1 ≤ d) (hsm : (st.map (fun v => v.category)).sum ≤ 8) (hLr : mz_rL 133 L = true) (hSr : mz_rS 133 st = true) (kk : mW y d Q n L (.int o.1 :: st) o.2) : mW y d Q pc L (.int a7 :: .int a6 :: .int a5 :: .int a4 :: .int a3 :: .int a2 :: .int a1 :: .ref 12 :: st) M :=
  y_callV kmX9_tellFind kvX9_tellFind l_12 (by decide +kernel) (by decide +kernel) h hl (ok_to_tellFind a1 a2 a3 a4 a5 a6 a7 M hf) (vs := [.int a1, .int a2, .int a3, .int a4, .int a5, .int a6, .int a7]) rfl rfl hd hsm hLr hSr kk
noncomputable def f_ax_find (a1 : Int32) (a2 : Int32) (a3 : Int32) (a4 : Int32) (a5 : Int32) (a6 : Int32) (a7 : Int32) (M : dM) : Option (Int32 × dM) :=
  if (f_ax_within a1 8) = true then
    if (f_ax_within a2 10) = true then
      if (f_ax_within a3 1000) = true then
        if (f_ax_within a4 24) = true then
          if (f_ax_within a5 10) = true then
            if (f_ax_within a6 256) = true then
              if (f_ax_within a7 100) = true then
                (f_si_isTold a1 a2 M).bind fun v1 =>
                if v1 = true then
                  (f_li_whoAt a1 a3 a4 M).bind fun v3 =>
                  if (f_ax_hasBit v3.toInt64 a5) = true then
                    (f_to_tellFind a1 a2 a3 a4 a5 a6 a7 M).bind fun q5 =>
                    if q5.1 = (-1) then
                      some (q5.1, q5.2)
                    else
                      some (q5.1, (f_ax_changed q5.2))
                  else
                    some ((-1), M)
                else
                  some ((-1), M)
              else
                some ((-1), M)
            else
              some ((-1), M)
          else
            some ((-1), M)
        else
          some ((-1), M)
      else
        some ((-1), M)
    else
      some ((-1), M)
  else
    some ((-1), M)
theorem ok_ax_find (a1 : Int32) (a2 : Int32) (a3 : Int32) (a4 : Int32) (a5 : Int32) (a6 : Int32) (a7 : Int32) (M : dM) {o : (Int32 × dM)} (hf : f_ax_find a1 a2 a3 a4 a5 a6 a7 M = some o) : mO mX11_find 3 [.ref 0, .int a1, .int a2, .int a3, .int a4, .int a5, .int a6, .int a7] M (some (.int o.1)) o.2 := by
  refine y_ok (by decide +kernel) (Nat.le_of_ble_eq_true rfl) (L0 := [some (.ref 0), some (.int a1), some (.int a2), some (.int a3), some (.int a4), some (.int a5), some (.int a6), some (.int a7), none]) rfl ?_
  have hk := mR_mQ (some (.int o.1)) o.2
  generalize mQ _ _ = Q at hk ⊢
  unfold f_ax_find at hf
  refine y_iload_n (i := 1) (n := 1) ⟨dX11_find_0, rfl⟩ rfl ?_
  refine y_bipush (n := 3) (v := 8) ⟨dX11_find_1, rfl⟩ kb_8 ?_
  refine c_ax_within a1 8 M (n := 6) ⟨dX11_find_3, rfl⟩ klX11_91 rfl (by decide) (Nat.le_of_ble_eq_true rfl) rfl rfl ?_
  refine y_if_eq (t := 28) (n := 9) ⟨dX11_find_6, rfl, rfl⟩ (fun h0 => ?_) (fun h0 => ?_)
  · have hc := bI_0 h0
    replace hf := i_f hc hf
    refine y_iconst (n := 29) (v := (-1)) ⟨dX11_find_28, rfl⟩ ki_m1 ?_
    cases hf
    exact y_ireturn (n := 30) ⟨dX11_find_29, rfl⟩ rfl rfl hk
  · have hc := bI_1 h0
    replace hf := i_t hc hf
    refine y_iload_n (i := 2) (n := 10) ⟨dX11_find_9, rfl⟩ rfl ?_
    refine y_bipush (n := 12) (v := 10) ⟨dX11_find_10, rfl⟩ kb_10 ?_
    refine c_ax_within a2 10 M (n := 15) ⟨dX11_find_12, rfl⟩ klX11_91 rfl (by decide) (Nat.le_of_ble_eq_true rfl) rfl rfl ?_
    refine y_if_eq (t := 28) (n := 18) ⟨dX11_find_15, rfl, rfl⟩ (fun h0 => ?_) (fun h0 => ?_)
    · have hc := bI_0 h0
      replace hf := i_f hc hf
      refine y_iconst (n := 29) (v := (-1)) ⟨dX11_find_28, rfl⟩ ki_m1 ?_
      cases hf
      exact y_ireturn (n := 30) ⟨dX11_find_29, rfl⟩ rfl rfl hk
    · have hc := bI_1 h0
      replace hf := i_t hc hf
      refine y_iload_n (i := 3) (n := 19) ⟨dX11_find_18, rfl⟩ rfl ?_
      refine y_sipush (n := 22) (v := 1000) ⟨dX11_find_19, rfl⟩ ks_1000 ?_
      refine c_ax_within a3 1000 M (n := 25) ⟨dX11_find_22, rfl⟩ klX11_91 rfl (by decide) (Nat.le_of_ble_eq_true rfl) rfl rfl ?_
      refine y_if_ne (t := 30) (n := 28) ⟨dX11_find_25, rfl, rfl⟩ (fun h0 => ?_) (fun h0 => ?_)
      · have hc := bI_1 h0
        replace hf := i_t hc hf
        refine y_iload (i := 4) (n := 32) ⟨dX11_find_30, rfl⟩ rfl ?_
        refine y_bipush (n := 34) (v := 24) ⟨dX11_find_32, rfl⟩ kb_24 ?_
        refine c_ax_within a4 24 M (n := 37) ⟨dX11_find_34, rfl⟩ klX11_91 rfl (by decide) (Nat.le_of_ble_eq_true rfl) rfl rfl ?_
        refine y_if_eq (t := 50) (n := 40) ⟨dX11_find_37, rfl, rfl⟩ (fun h0 => ?_) (fun h0 => ?_)
        · have hc := bI_0 h0
          replace hf := i_f hc hf
          refine y_iconst (n := 51) (v := (-1)) ⟨dX11_find_50, rfl⟩ ki_m1 ?_
          cases hf
          exact y_ireturn (n := 52) ⟨dX11_find_51, rfl⟩ rfl rfl hk
        · have hc := bI_1 h0
          replace hf := i_t hc hf
          refine y_iload (i := 5) (n := 42) ⟨dX11_find_40, rfl⟩ rfl ?_
          refine y_bipush (n := 44) (v := 10) ⟨dX11_find_42, rfl⟩ kb_10 ?_
          refine c_ax_within a5 10 M (n := 47) ⟨dX11_find_44, rfl⟩ klX11_91 rfl (by decide) (Nat.le_of_ble_eq_true rfl) rfl rfl ?_
          refine y_if_ne (t := 52) (n := 50) ⟨dX11_find_47, rfl, rfl⟩ (fun h0 => ?_) (fun h0 => ?_)
          · have hc := bI_1 h0
            replace hf := i_t hc hf
            refine y_iload (i := 6) (n := 54) ⟨dX11_find_52, rfl⟩ rfl ?_
            refine y_sipush (n := 57) (v := 256) ⟨dX11_find_54, rfl⟩ ks_256 ?_
            refine c_ax_within a6 256 M (n := 60) ⟨dX11_find_57, rfl⟩ klX11_91 rfl (by decide) (Nat.le_of_ble_eq_true rfl) rfl rfl ?_
            refine y_if_eq (t := 73) (n := 63) ⟨dX11_find_60, rfl, rfl⟩ (fun h0 => ?_) (fun h0 => ?_)
            · have hc := bI_0 h0
              replace hf := i_f hc hf
              refine y_iconst (n := 74) (v := (-1)) ⟨dX11_find_73, rfl⟩ ki_m1 ?_
              cases hf
              exact y_ireturn (n := 75) ⟨dX11_find_74, rfl⟩ rfl rfl hk
            · have hc := bI_1 h0
              replace hf := i_t hc hf
              refine y_iload (i := 7) (n := 65) ⟨dX11_find_63, rfl⟩ rfl ?_
              refine y_bipush (n := 67) (v := 100) ⟨dX11_find_65, rfl⟩ kb_100 ?_
              refine c_ax_within a7 100 M (n := 70) ⟨dX11_find_67, rfl⟩ klX11_91 rfl (by decide) (Nat.le_of_ble_eq_true rfl) rfl rfl ?_
              refine y_if_ne (t := 75) (n := 73) ⟨dX11_find_70, rfl, rfl⟩ (fun h0 => ?_) (fun h0 => ?_)
              · have hc := bI_1 h0
                replace hf := i_t hc hf
                refine y_aload_n (i := 0) (n := 76) ⟨dX11_find_75, rfl⟩ rfl ?_
                refine y_getR (n := 79) ⟨dX11_find_76, rfl⟩ kfX11_10 l_0 rfl r_0_0 ?_
                refine y_iload_n (i := 1) (n := 80) ⟨dX11_find_79, rfl⟩ rfl ?_
                refine y_iload_n (i := 2) (n := 81) ⟨dX11_find_80, rfl⟩ rfl ?_
                obtain ⟨v1, hv2, hf⟩ := b_s hf
                refine c_si_isTold a1 a2 M (n := 84) ⟨dX11_find_81, rfl⟩ klX11_113 hv2 (by decide) (Nat.le_of_ble_eq_true rfl) rfl rfl ?_
                refine y_if_eq (t := 107) (n := 87) ⟨dX11_find_84, rfl, rfl⟩ (fun h0 => ?_) (fun h0 => ?_)
                · have hc := bI_0 h0
                  replace hf := i_f hc hf
                  refine y_iconst (n := 108) (v := (-1)) ⟨dX11_find_107, rfl⟩ ki_m1 ?_
                  cases hf
                  exact y_ireturn (n := 109) ⟨dX11_find_108, rfl⟩ rfl rfl hk
                · have hc := bI_1 h0
                  replace hf := i_t hc hf
                  refine y_aload_n (i := 0) (n := 88) ⟨dX11_find_87, rfl⟩ rfl ?_
                  refine y_getR (n := 91) ⟨dX11_find_88, rfl⟩ kfX11_19 l_0 rfl r_0_1 ?_
                  refine y_iload_n (i := 1) (n := 92) ⟨dX11_find_91, rfl⟩ rfl ?_
                  refine y_iload_n (i := 3) (n := 93) ⟨dX11_find_92, rfl⟩ rfl ?_
                  refine y_iload (i := 4) (n := 95) ⟨dX11_find_93, rfl⟩ rfl ?_
                  obtain ⟨v3, hv4, hf⟩ := b_s hf
                  refine c_li_whoAt a1 a3 a4 M (n := 98) ⟨dX11_find_95, rfl⟩ klX11_116 hv4 (by decide) (Nat.le_of_ble_eq_true rfl) rfl rfl ?_
                  refine y_i2l (n := 99) ⟨dX11_find_98, rfl⟩ ?_
                  refine y_iload (i := 5) (n := 101) ⟨dX11_find_99, rfl⟩ rfl ?_
                  refine c_ax_hasBit v3.toInt64 a5 M (n := 104) ⟨dX11_find_101, rfl⟩ klX11_120 rfl (by decide) (Nat.le_of_ble_eq_true rfl) rfl rfl ?_
                  refine y_if_ne (t := 109) (n := 107) ⟨dX11_find_104, rfl, rfl⟩ (fun h0 => ?_) (fun h0 => ?_)
                  · have hc := bI_1 h0
                    replace hf := i_t hc hf
                    refine y_aload_n (i := 0) (n := 110) ⟨dX11_find_109, rfl⟩ rfl ?_
                    refine y_getR (n := 113) ⟨dX11_find_110, rfl⟩ kfX11_26 l_0 rfl r_0_2 ?_
                    refine y_iload_n (i := 1) (n := 114) ⟨dX11_find_113, rfl⟩ rfl ?_
                    refine y_iload_n (i := 2) (n := 115) ⟨dX11_find_114, rfl⟩ rfl ?_
                    refine y_iload_n (i := 3) (n := 116) ⟨dX11_find_115, rfl⟩ rfl ?_
                    refine y_iload (i := 4) (n := 118) ⟨dX11_find_116, rfl⟩ rfl ?_
                    refine y_iload (i := 5) (n := 120) ⟨dX11_find_118, rfl⟩ rfl ?_
                    refine y_iload (i := 6) (n := 122) ⟨dX11_find_120, rfl⟩ rfl ?_
                    refine y_iload (i := 7) (n := 124) ⟨dX11_find_122, rfl⟩ rfl ?_
                    obtain ⟨q5, hv6, hf⟩ := b_s hf
                    refine c_to_tellFind a1 a2 a3 a4 a5 a6 a7 M (n := 127) ⟨dX11_find_124, rfl⟩ klX11_124 hv6 (by decide) (Nat.le_of_ble_eq_true rfl) rfl rfl ?_
                    refine y_istore (i := 8) (n := 129) (L2 := [some (.ref 0), some (.int a1), some (.int a2), some (.int a3), some (.int a4), some (.int a5), some (.int a6), some (.int a7), some (.int q5.1)]) ⟨dX11_find_127, rfl⟩ (by decide) rfl rfl ?_
                    refine y_iload (i := 8) (n := 131) ⟨dX11_find_129, rfl⟩ rfl ?_
                    refine y_iconst (n := 132) (v := (-1)) ⟨dX11_find_131, rfl⟩ ki_m1 ?_
                    refine y_icmp_eq (t := 139) (n := 135) ⟨dX11_find_132, rfl, rfl⟩ (fun (hc : q5.1 = (-1)) => ?_) (fun (hc : ¬ (q5.1 = (-1))) => ?_)
                    · replace hf := i_t hc hf
                      refine y_iload (i := 8) (n := 141) ⟨dX11_find_139, rfl⟩ rfl ?_
                      cases hf
                      exact y_ireturn (n := 142) ⟨dX11_find_141, rfl⟩ rfl rfl hk
                    · replace hf := i_f hc hf
                      refine y_aload_n (i := 0) (n := 136) ⟨dX11_find_135, rfl⟩ rfl ?_
                      refine c_ax_changed q5.2 (n := 139) ⟨dX11_find_136, rfl⟩ klX11_99 rfl (by decide) (Nat.le_of_ble_eq_true rfl) rfl rfl ?_
                      refine y_iload (i := 8) (n := 141) ⟨dX11_find_139, rfl⟩ rfl ?_
                      cases hf
                      exact y_ireturn (n := 142) ⟨dX11_find_141, rfl⟩ rfl rfl hk
                  · have hc := bI_0 h0
                    replace hf := i_f hc hf
                    refine y_iconst (n := 108) (v := (-1)) ⟨dX11_find_107, rfl⟩ ki_m1 ?_
                    cases hf
                    exact y_ireturn (n := 109) ⟨dX11_find_108, rfl⟩ rfl rfl hk
              · have hc := bI_0 h0
                replace hf := i_f hc hf
                refine y_iconst (n := 74) (v := (-1)) ⟨dX11_find_73, rfl⟩ ki_m1 ?_
                cases hf
                exact y_ireturn (n := 75) ⟨dX11_find_74, rfl⟩ rfl rfl hk
          · have hc := bI_0 h0
            replace hf := i_f hc hf
            refine y_iconst (n := 51) (v := (-1)) ⟨dX11_find_50, rfl⟩ ki_m1 ?_
            cases hf
            exact y_ireturn (n := 52) ⟨dX11_find_51, rfl⟩ rfl rfl hk
      · have hc := bI_0 h0
        replace hf := i_f hc hf
        refine y_iconst (n := 29) (v := (-1)) ⟨dX11_find_28, rfl⟩ ki_m1 ?_
        cases hf
        exact y_ireturn (n := 30) ⟨dX11_find_29, rfl⟩ rfl rfl hk
theorem c_ax_find (a1 : Int32) (a2 : Int32) (a3 : Int32) (a4 : Int32) (a5 : Int32) (a6 : Int32) (a7 : Int32) (M : dM) {o : (Int32 × dM)} {y : mz_M} {d : Nat} {Q : mz_P} {pc n i : Nat} {L : List (Option Value)} {st : List Value} (h : mz_d y.2.1 pc n 3 (.invokevirtual i)) (hl : mz_ml y.1.cls i yX11_find) (hf : f_ax_find a1 a2 a3 a4 a5 a6 a7 M = some o) (hd : 3 + 1 ≤ d) (hsm : (st.map (fun v => v.category)).sum ≤ 8) (hLr : mz_rL 133 L = true) (hSr : mz_rS 133 st = true) (kk : mW y d Q n L (.int o.1 :: st) o.2) : mW y d Q pc L (.int a7 :: .int a6 :: .int a5 :: .int a4 :: .int a3 :: .int a2 :: .int a1 :: .ref 0 :: st) M :=
  y_callV kmX11_find kvX11_find l_0 (by decide +kernel) (by decide +kernel) h hl (ok_ax_find a1 a2 a3 a4 a5 a6 a7 M hf) (vs := [.int a1, .int a2, .int a3, .int a4, .int a5, .int a6, .int a7]) rfl rfl hd hsm hLr hSr kk
def K_re_takeSigns_3 (Q : mz_P) (x1 : Int64) : ((Int32 × dM) ⊕ dM) → Prop
  | .inl s => mW mX6_takeSigns 1 Q 3 [some (.ref 32), some (.long x1), none, some (.int s.1), none] [] s.2
  | .inr r => mR Q none r
noncomputable def b_re_takeSigns_3_38 (x1 : Int64) (x3 : Int32) (x4 : Int32) (M : dM) : Option ((Int32 × dM) ⊕ dM) :=
  if (1000 : Int32) ≤ (gI M 32 1) then
    some (.inl ((x3 + (-8)), M))
  else
    gd (vp_in (gI M 32 1) 1000) <|
    some (.inl ((x3 + (-8)), (sI (sI M 33 (gI M 32 1).toNatClampNeg (vp_nar .char ((x4.toUInt32 % 65536).toInt32))) 32 1 ((gI (sI M 33 (gI M 32 1).toNatClampNeg (vp_nar .char ((x4.toUInt32 % 65536).toInt32))) 32 1) + 1))))
noncomputable def b_re_takeSigns_3_3 (x1 : Int64) (x3 : Int32) (M : dM) : Option ((Int32 × dM) ⊕ dM) :=
  if x3 < 0 then
    some (.inr M)
  else
    if ((x1 >>> (x3.toInt64 &&& 63)) &&& 255).toInt32 = 10 then
      b_re_takeSigns_3_38 x1 x3 (((x1 >>> (x3.toInt64 &&& 63)) &&& 255).toInt32) M
    else
      if ((x1 >>> (x3.toInt64 &&& 63)) &&& 255).toInt32 < 32 then
        some (.inl ((x3 + (-8)), M))
      else
        if 126 < ((x1 >>> (x3.toInt64 &&& 63)) &&& 255).toInt32 then
          some (.inl ((x3 + (-8)), M))
        else
          b_re_takeSigns_3_38 x1 x3 (((x1 >>> (x3.toInt64 &&& 63)) &&& 255).toInt32) M
noncomputable def l_re_takeSigns_3 (x1 : Int64) (x3 : Int32) (M : dM) : Option dM := lpc (fun s => b_re_takeSigns_3_3 x1 s.1 s.2) (x3, M)
noncomputable def f_re_takeSigns (a1 : Int64) (M : dM) : Option dM :=
  (l_re_takeSigns_3 a1 56 M).bind fun r4 => some r4
theorem w_b_re_takeSigns_3_38 (x1 : Int64) (x3 : Int32) (x4 : Int32)  (M : dM) {Q : mz_P} {o : ((Int32 × dM) ⊕ dM)} (hf : b_re_takeSigns_3_38 x1 x3 x4 M = some o) (hk : K_re_takeSigns_3 Q x1 o) : mW mX6_takeSigns 1 Q 38 [some (.ref 32), some (.long x1), none, some (.int x3), some (.int x4)] [] M := by
  unfold b_re_takeSigns_3_38 at hf
  refine y_aload_n (i := 0) (n := 39) ⟨dX6_takeSigns_38, rfl⟩ rfl ?_
  refine y_getI (n := 42) ⟨dX6_takeSigns_39, rfl⟩ kfX6_30 l_32 rfl ?_
  refine y_sipush (n := 45) (v := 1000) ⟨dX6_takeSigns_42, rfl⟩ ks_1000 ?_
  refine y_icmp_ge (t := 70) (n := 48) ⟨dX6_takeSigns_45, rfl, rfl⟩ (fun (hc : (1000 : Int32) ≤ (gI M 32 1)) => ?_) (fun (hc : ¬ ((1000 : Int32) ≤ (gI M 32 1))) => ?_)
  · replace hf := i_t hc hf
    refine y_iinc (i := 3) (n := 73) (b := (x3 + (-8))) (L2 := [some (.ref 32), some (.long x1), none, some (.int (x3 + (-8))), some (.int x4)]) ⟨dX6_takeSigns_70, rfl⟩ rfl (by rw [ki_m8]) (by decide) rfl rfl ?_
    refine y_goto (t := 3) ⟨dX6_takeSigns_73, rfl, rfl⟩ ?_
    cases hf
    exact y_wk (L2 := [some (.ref 32), some (.long x1), none, some (.int (x3 + (-8))), none]) ⟨Or.inr rfl, Or.inr rfl, Or.inr rfl, Or.inr rfl, Or.inl rfl, trivial⟩ hk
  · replace hf := i_f hc hf
    refine y_aload_n (i := 0) (n := 49) ⟨dX6_takeSigns_48, rfl⟩ rfl ?_
    refine y_getR (n := 52) ⟨dX6_takeSigns_49, rfl⟩ kfX6_9 l_32 rfl r_32_0 ?_
    refine y_aload_n (i := 0) (n := 53) ⟨dX6_takeSigns_52, rfl⟩ rfl ?_
    refine y_getI (n := 56) ⟨dX6_takeSigns_53, rfl⟩ kfX6_30 l_32 rfl ?_
    refine y_iload (i := 4) (n := 58) ⟨dX6_takeSigns_56, rfl⟩ rfl ?_
    refine y_i2c (n := 59) ⟨dX6_takeSigns_58, rfl⟩ ?_
    obtain ⟨hg1, hf⟩ := g_s hf
    refine y_castore (n := 60) ⟨dX6_takeSigns_59, rfl⟩ l_33 hg1 ?_
    refine y_aload_n (i := 0) (n := 61) ⟨dX6_takeSigns_60, rfl⟩ rfl ?_
    refine y_dup_r (n := 62) ⟨dX6_takeSigns_61, rfl⟩ ?_
    refine y_getI (n := 65) ⟨dX6_takeSigns_62, rfl⟩ kfX6_30 l_32 rfl ?_
    refine y_iconst (n := 66) (v := 1) ⟨dX6_takeSigns_65, rfl⟩ ki_1 ?_
    refine y_iadd (n := 67) ⟨dX6_takeSigns_66, rfl⟩ ?_
    refine y_putI (n := 70) ⟨dX6_takeSigns_67, rfl⟩ kfX6_30 l_32 (by decide +kernel) rfl ?_
    refine y_iinc (i := 3) (n := 73) (b := (x3 + (-8))) (L2 := [some (.ref 32), some (.long x1), none, some (.int (x3 + (-8))), some (.int x4)]) ⟨dX6_takeSigns_70, rfl⟩ rfl (by rw [ki_m8]) (by decide) rfl rfl ?_
    refine y_goto (t := 3) ⟨dX6_takeSigns_73, rfl, rfl⟩ ?_
    cases hf
    exact y_wk (L2 := [some (.ref 32), some (.long x1), none, some (.int (x3 + (-8))), none]) ⟨Or.inr rfl, Or.inr rfl, Or.inr rfl, Or.inr rfl, Or.inl rfl, trivial⟩ hk
theorem w_b_re_takeSigns_3_3 (x1 : Int64) (x3 : Int32)  (M : dM) {Q : mz_P} {o : ((Int32 × dM) ⊕ dM)} (hf : b_re_takeSigns_3_3 x1 x3 M = some o) (hk : K_re_takeSigns_3 Q x1 o) : mW mX6_takeSigns 1 Q 3 [some (.ref 32), some (.long x1), none, some (.int x3), none] [] M := by
  unfold b_re_takeSigns_3_3 at hf
  refine y_iload_n (i := 3) (n := 4) ⟨dX6_takeSigns_3, rfl⟩ rfl ?_
  refine y_if_lt (t := 76) (n := 7) ⟨dX6_takeSigns_4, rfl, rfl⟩ (fun (hc : x3 < 0) => ?_) (fun (hc : ¬ (x3 < 0)) => ?_)
  · replace hf := i_t hc hf
    cases hf
    exact y_return (n := 77) ⟨dX6_takeSigns_76, rfl⟩ rfl hk
  · replace hf := i_f hc hf
    refine y_lload_n (i := 1) (n := 8) ⟨dX6_takeSigns_7, rfl⟩ rfl ?_
    refine y_iload_n (i := 3) (n := 9) ⟨dX6_takeSigns_8, rfl⟩ rfl ?_
    refine y_lshr (n := 10) ⟨dX6_takeSigns_9, rfl⟩ ?_
    refine y_ldc2 (n := 13) ⟨dX6_takeSigns_10, rfl⟩ kcX6_28 ?_
    refine y_land (n := 14) ⟨dX6_takeSigns_13, rfl⟩ ?_
    refine y_l2i (n := 15) ⟨dX6_takeSigns_14, rfl⟩ ?_
    refine y_istore (i := 4) (n := 17) (L2 := [some (.ref 32), some (.long x1), none, some (.int x3), some (.int (((x1 >>> (x3.toInt64 &&& 63)) &&& 255).toInt32))]) ⟨dX6_takeSigns_15, rfl⟩ (by decide) rfl rfl ?_
    refine y_iload (i := 4) (n := 19) ⟨dX6_takeSigns_17, rfl⟩ rfl ?_
    refine y_bipush (n := 21) (v := 10) ⟨dX6_takeSigns_19, rfl⟩ kb_10 ?_
    refine y_icmp_eq (t := 38) (n := 24) ⟨dX6_takeSigns_21, rfl, rfl⟩ (fun (hc : ((x1 >>> (x3.toInt64 &&& 63)) &&& 255).toInt32 = 10) => ?_) (fun (hc : ¬ (((x1 >>> (x3.toInt64 &&& 63)) &&& 255).toInt32 = 10)) => ?_)
    · replace hf := i_t hc hf
      exact y_wk (L2 := [some (.ref 32), some (.long x1), none, some (.int x3), some (.int (((x1 >>> (x3.toInt64 &&& 63)) &&& 255).toInt32))]) ⟨Or.inr rfl, Or.inr rfl, Or.inr rfl, Or.inr rfl, Or.inr rfl, trivial⟩ (w_b_re_takeSigns_3_38 x1 x3 (((x1 >>> (x3.toInt64 &&& 63)) &&& 255).toInt32) M hf hk)
    · replace hf := i_f hc hf
      refine y_iload (i := 4) (n := 26) ⟨dX6_takeSigns_24, rfl⟩ rfl ?_
      refine y_bipush (n := 28) (v := 32) ⟨dX6_takeSigns_26, rfl⟩ kb_32 ?_
      refine y_icmp_lt (t := 70) (n := 31) ⟨dX6_takeSigns_28, rfl, rfl⟩ (fun (hc : ((x1 >>> (x3.toInt64 &&& 63)) &&& 255).toInt32 < 32) => ?_) (fun (hc : ¬ (((x1 >>> (x3.toInt64 &&& 63)) &&& 255).toInt32 < 32)) => ?_)
      · replace hf := i_t hc hf
        refine y_iinc (i := 3) (n := 73) (b := (x3 + (-8))) (L2 := [some (.ref 32), some (.long x1), none, some (.int (x3 + (-8))), some (.int (((x1 >>> (x3.toInt64 &&& 63)) &&& 255).toInt32))]) ⟨dX6_takeSigns_70, rfl⟩ rfl (by rw [ki_m8]) (by decide) rfl rfl ?_
        refine y_goto (t := 3) ⟨dX6_takeSigns_73, rfl, rfl⟩ ?_
        cases hf
        exact y_wk (L2 := [some (.ref 32), some (.long x1), none, some (.int (x3 + (-8))), none]) ⟨Or.inr rfl, Or.inr rfl, Or.inr rfl, Or.inr rfl, Or.inl rfl, trivial⟩ hk
      · replace hf := i_f hc hf
        refine y_iload (i := 4) (n := 33) ⟨dX6_takeSigns_31, rfl⟩ rfl ?_
        refine y_bipush (n := 35) (v := 126) ⟨dX6_takeSigns_33, rfl⟩ kb_126 ?_
        refine y_icmp_gt (t := 70) (n := 38) ⟨dX6_takeSigns_35, rfl, rfl⟩ (fun (hc : 126 < ((x1 >>> (x3.toInt64 &&& 63)) &&& 255).toInt32) => ?_) (fun (hc : ¬ (126 < ((x1 >>> (x3.toInt64 &&& 63)) &&& 255).toInt32)) => ?_)
        · replace hf := i_t hc hf
          refine y_iinc (i := 3) (n := 73) (b := (x3 + (-8))) (L2 := [some (.ref 32), some (.long x1), none, some (.int (x3 + (-8))), some (.int (((x1 >>> (x3.toInt64 &&& 63)) &&& 255).toInt32))]) ⟨dX6_takeSigns_70, rfl⟩ rfl (by rw [ki_m8]) (by decide) rfl rfl ?_
          refine y_goto (t := 3) ⟨dX6_takeSigns_73, rfl, rfl⟩ ?_
          cases hf
          exact y_wk (L2 := [some (.ref 32), some (.long x1), none, some (.int (x3 + (-8))), none]) ⟨Or.inr rfl, Or.inr rfl, Or.inr rfl, Or.inr rfl, Or.inl rfl, trivial⟩ hk
        · replace hf := i_f hc hf
          exact y_wk (L2 := [some (.ref 32), some (.long x1), none, some (.int x3), some (.int (((x1 >>> (x3.toInt64 &&& 63)) &&& 255).toInt32))]) ⟨Or.inr rfl, Or.inr rfl, Or.inr rfl, Or.inr rfl, Or.inr rfl, trivial⟩ (w_b_re_takeSigns_3_38 x1 x3 (((x1 >>> (x3.toInt64 &&& 63)) &&& 255).toInt32) M hf hk)
theorem wl_re_takeSigns_3 (x1 : Int64) (x3 : Int32) (M : dM) {Q : mz_P} {x : dM} (hf : l_re_takeSigns_3 x1 x3 M = some x) (hk : K_re_takeSigns_3 Q x1 (.inr x)) : mW mX6_takeSigns 1 Q 3 [some (.ref 32), some (.long x1), none, some (.int x3), none] [] M :=
  lpc_wp (σ := (Int32 × dM)) (ξ := dM) (s := (x3, M)) (Wh := fun s => mW mX6_takeSigns 1 Q 3 [some (.ref 32), some (.long x1), none, some (.int s.1), none] [] s.2) (K := K_re_takeSigns_3 Q x1) (fun _ h => h) (fun s o hb hk => w_b_re_takeSigns_3_3 x1 s.1 s.2 hb hk) hf hk
theorem ok_re_takeSigns (a1 : Int64) (M : dM) {o : dM} (hf : f_re_takeSigns a1 M = some o) : mO mX6_takeSigns 1 [.ref 32, .long a1] M none o := by
  refine y_ok (by decide +kernel) (Nat.le_of_ble_eq_true rfl) (L0 := [some (.ref 32), some (.long a1), none, none, none]) rfl ?_
  have hk := mR_mQ none o
  generalize mQ _ _ = Q at hk ⊢
  unfold f_re_takeSigns at hf
  refine y_bipush (n := 2) (v := 56) ⟨dX6_takeSigns_0, rfl⟩ kb_56 ?_
  refine y_istore_n (i := 3) (n := 3) (L2 := [some (.ref 32), some (.long a1), none, some (.int 56), none]) ⟨dX6_takeSigns_2, rfl⟩ (by decide) rfl rfl ?_
  obtain ⟨r4, hl3, hf⟩ := b_s hf
  cases hf
  exact y_wk (L2 := [some (.ref 32), some (.long a1), none, some (.int 56), none]) ⟨Or.inr rfl, Or.inr rfl, Or.inr rfl, Or.inr rfl, Or.inr rfl, trivial⟩ (wl_re_takeSigns_3 a1 56 M hl3 hk)
theorem c_re_takeSigns (a1 : Int64) (M : dM) {o : dM} {y : mz_M} {d : Nat} {Q : mz_P} {pc n i : Nat} {L : List (Option Value)} {st : List Value} (h : mz_d y.2.1 pc n 3 (.invokevirtual i)) (hl : mz_ml y.1.cls i yX6_takeSigns) (hf : f_re_takeSigns a1 M = some o) (hd : 1 + 1 ≤ d) (hsm : (st.map (fun v => v.category)).sum ≤ 8) (hLr : mz_rL 133 L = true) (hSr : mz_rS 133 st = true) (kk : mW y d Q n L st o) : mW y d Q pc L (.long a1 :: .ref 32 :: st) M :=
  y_callV kmX6_takeSigns kvX6_takeSigns l_32 (by decide +kernel) (by decide +kernel) h hl (ok_re_takeSigns a1 M hf) (vs := [.long a1]) rfl rfl hd hsm hLr hSr kk
noncomputable def f_ax_feed (a1 : Int64) (a2 : Int64) (a3 : Int64) (M : dM) : Option (Int32 × dM) :=
  (f_re_takeSigns a1 M).bind fun q1 =>
  (f_re_takeSigns a2 q1).bind fun q3 =>
  (f_re_takeSigns a3 q3).bind fun q5 =>
  some ((gI q5 32 1), q5)
theorem ok_ax_feed (a1 : Int64) (a2 : Int64) (a3 : Int64) (M : dM) {o : (Int32 × dM)} (hf : f_ax_feed a1 a2 a3 M = some o) : mO mX11_feed 2 [.ref 0, .long a1, .long a2, .long a3] M (some (.int o.1)) o.2 := by
  refine y_ok (by decide +kernel) (Nat.le_of_ble_eq_true rfl) (L0 := [some (.ref 0), some (.long a1), none, some (.long a2), none, some (.long a3), none]) rfl ?_
  have hk := mR_mQ (some (.int o.1)) o.2
  generalize mQ _ _ = Q at hk ⊢
  unfold f_ax_feed at hf
  refine y_aload_n (i := 0) (n := 1) ⟨dX11_feed_0, rfl⟩ rfl ?_
  refine y_getR (n := 4) ⟨dX11_feed_1, rfl⟩ kfX11_47 l_0 rfl r_0_5 ?_
  refine y_lload_n (i := 1) (n := 5) ⟨dX11_feed_4, rfl⟩ rfl ?_
  obtain ⟨q1, hv2, hf⟩ := b_s hf
  refine c_re_takeSigns a1 M (n := 8) ⟨dX11_feed_5, rfl⟩ klX11_128 hv2 (by decide) (Nat.le_of_ble_eq_true rfl) rfl rfl ?_
  refine y_aload_n (i := 0) (n := 9) ⟨dX11_feed_8, rfl⟩ rfl ?_
  refine y_getR (n := 12) ⟨dX11_feed_9, rfl⟩ kfX11_47 l_0 rfl r_0_5 ?_
  refine y_lload_n (i := 3) (n := 13) ⟨dX11_feed_12, rfl⟩ rfl ?_
  obtain ⟨q3, hv4, hf⟩ := b_s hf
  refine c_re_takeSigns a2 q1 (n := 16) ⟨dX11_feed_13, rfl⟩ klX11_128 hv4 (by decide) (Nat.le_of_ble_eq_true rfl) rfl rfl ?_
  refine y_aload_n (i := 0) (n := 17) ⟨dX11_feed_16, rfl⟩ rfl ?_
  refine y_getR (n := 20) ⟨dX11_feed_17, rfl⟩ kfX11_47 l_0 rfl r_0_5 ?_
  refine y_lload (i := 5) (n := 22) ⟨dX11_feed_20, rfl⟩ rfl ?_
  obtain ⟨q5, hv6, hf⟩ := b_s hf
  refine c_re_takeSigns a3 q3 (n := 25) ⟨dX11_feed_22, rfl⟩ klX11_128 hv6 (by decide) (Nat.le_of_ble_eq_true rfl) rfl rfl ?_
  refine y_aload_n (i := 0) (n := 26) ⟨dX11_feed_25, rfl⟩ rfl ?_
  refine y_getR (n := 29) ⟨dX11_feed_26, rfl⟩ kfX11_47 l_0 rfl r_0_5 ?_
  refine y_getI (n := 32) ⟨dX11_feed_29, rfl⟩ kfX11_132 l_32 rfl ?_
  cases hf
  exact y_ireturn (n := 33) ⟨dX11_feed_32, rfl⟩ rfl rfl hk
theorem c_ax_feed (a1 : Int64) (a2 : Int64) (a3 : Int64) (M : dM) {o : (Int32 × dM)} {y : mz_M} {d : Nat} {Q : mz_P} {pc n i : Nat} {L : List (Option Value)} {st : List Value} (h : mz_d y.2.1 pc n 3 (.invokevirtual i)) (hl : mz_ml y.1.cls i yX11_feed) (hf : f_ax_feed a1 a2 a3 M = some o) (hd : 2 + 1 ≤ d) (hsm : (st.map (fun v => v.category)).sum ≤ 8) (hLr : mz_rL 133 L = true) (hSr : mz_rS 133 st = true) (kk : mW y d Q n L (.int o.1 :: st) o.2) : mW y d Q pc L (.long a3 :: .long a2 :: .long a1 :: .ref 0 :: st) M :=
  y_callV kmX11_feed kvX11_feed l_0 (by decide +kernel) (by decide +kernel) h hl (ok_ax_feed a1 a2 a3 M hf) (vs := [.long a1, .long a2, .long a3]) rfl rfl hd hsm hLr hSr kk
def K_jd_fill_36_5 (Q : mz_P) (x1 : Int32) (x3 : Int32) : ((Int32 × dM) ⊕ dM) → Prop
  | .inl s => mW mJ7_fill_53178 1 Q 5 [some (.ref 36), some (.int x1), some (.int s.1), some (.int x3)] [] s.2
  | .inr r => mR Q none r
noncomputable def b_jd_fill_36_5_5 (x1 : Int32) (x2 : Int32) (x3 : Int32) (M : dM) : Option ((Int32 × dM) ⊕ dM) :=
  if x3 ≤ x2 then
    some (.inr M)
  else
    gd (vp_in x2 21) <|
    some (.inl ((x2 + 1), (sI M 36 x2.toNatClampNeg x1)))
noncomputable def l_jd_fill_36_5 (x1 : Int32) (x2 : Int32) (x3 : Int32) (M : dM) : Option dM := lpc (fun s => b_jd_fill_36_5_5 x1 s.1 x3 s.2) (x2, M)
noncomputable def f_jd_fill_36 (a2 : Int32) (M : dM) : Option dM :=
  (l_jd_fill_36_5 a2 0 21 M).bind fun r4 => some r4
theorem w_b_jd_fill_36_5_5 (x1 : Int32) (x2 : Int32) (x3 : Int32)  (M : dM) {Q : mz_P} {o : ((Int32 × dM) ⊕ dM)} (hf : b_jd_fill_36_5_5 x1 x2 x3 M = some o) (hk : K_jd_fill_36_5 Q x1 x3 o) : mW mJ7_fill_53178 1 Q 5 [some (.ref 36), some (.int x1), some (.int x2), some (.int x3)] [] M := by
  unfold b_jd_fill_36_5_5 at hf
  refine y_iload_n (i := 2) (n := 6) ⟨dJ7_fill_53178_5, rfl⟩ rfl ?_
  refine y_iload_n (i := 3) (n := 7) ⟨dJ7_fill_53178_6, rfl⟩ rfl ?_
  refine y_icmp_ge (t := 20) (n := 10) ⟨dJ7_fill_53178_7, rfl, rfl⟩ (fun (hc : x3 ≤ x2) => ?_) (fun (hc : ¬ (x3 ≤ x2)) => ?_)
  · replace hf := i_t hc hf
    cases hf
    exact y_return (n := 21) ⟨dJ7_fill_53178_20, rfl⟩ rfl hk
  · replace hf := i_f hc hf
    refine y_aload_n (i := 0) (n := 11) ⟨dJ7_fill_53178_10, rfl⟩ rfl ?_
    refine y_iload_n (i := 2) (n := 12) ⟨dJ7_fill_53178_11, rfl⟩ rfl ?_
    refine y_iload_n (i := 1) (n := 13) ⟨dJ7_fill_53178_12, rfl⟩ rfl ?_
    obtain ⟨hg1, hf⟩ := g_s hf
    refine y_iastore (n := 14) ⟨dJ7_fill_53178_13, rfl⟩ l_36 hg1 ?_
    refine y_iinc (i := 2) (n := 17) (b := (x2 + 1)) (L2 := [some (.ref 36), some (.int x1), some (.int (x2 + 1)), some (.int x3)]) ⟨dJ7_fill_53178_14, rfl⟩ rfl (by rw [ki_1]) (by decide) rfl rfl ?_
    refine y_goto (t := 5) ⟨dJ7_fill_53178_17, rfl, rfl⟩ ?_
    cases hf
    exact y_wk (L2 := [some (.ref 36), some (.int x1), some (.int (x2 + 1)), some (.int x3)]) ⟨Or.inr rfl, Or.inr rfl, Or.inr rfl, Or.inr rfl, trivial⟩ hk
theorem wl_jd_fill_36_5 (x1 : Int32) (x2 : Int32) (x3 : Int32) (M : dM) {Q : mz_P} {x : dM} (hf : l_jd_fill_36_5 x1 x2 x3 M = some x) (hk : K_jd_fill_36_5 Q x1 x3 (.inr x)) : mW mJ7_fill_53178 1 Q 5 [some (.ref 36), some (.int x1), some (.int x2), some (.int x3)] [] M :=
  lpc_wp (σ := (Int32 × dM)) (ξ := dM) (s := (x2, M)) (Wh := fun s => mW mJ7_fill_53178 1 Q 5 [some (.ref 36), some (.int x1), some (.int s.1), some (.int x3)] [] s.2) (K := K_jd_fill_36_5 Q x1 x3) (fun _ h => h) (fun s o hb hk => w_b_jd_fill_36_5_5 x1 s.1 x3 s.2 hb hk) hf hk
theorem ok_jd_fill_36 (a2 : Int32) (M : dM) {o : dM} (hf : f_jd_fill_36 a2 M = some o) : mO mJ7_fill_53178 1 [.ref 36, .int a2] M none o := by
  refine y_ok (by decide +kernel) (Nat.le_of_ble_eq_true rfl) (L0 := [some (.ref 36), some (.int a2), none, none]) rfl ?_
  have hk := mR_mQ none o
  generalize mQ _ _ = Q at hk ⊢
  unfold f_jd_fill_36 at hf
  refine y_iconst (n := 1) (v := 0) ⟨dJ7_fill_53178_0, rfl⟩ ki_0 ?_
  refine y_istore_n (i := 2) (n := 2) (L2 := [some (.ref 36), some (.int a2), some (.int 0), none]) ⟨dJ7_fill_53178_1, rfl⟩ (by decide) rfl rfl ?_
  refine y_aload_n (i := 0) (n := 3) ⟨dJ7_fill_53178_2, rfl⟩ rfl ?_
  refine y_alen (n := 4) (v := 21) ⟨dJ7_fill_53178_3, rfl⟩ l_36 (fun _ => rfl) (by decide) ?_
  refine y_istore_n (i := 3) (n := 5) (L2 := [some (.ref 36), some (.int a2), some (.int 0), some (.int 21)]) ⟨dJ7_fill_53178_4, rfl⟩ (by decide) rfl rfl ?_
  obtain ⟨r4, hl3, hf⟩ := b_s hf
  cases hf
  exact y_wk (L2 := [some (.ref 36), some (.int a2), some (.int 0), some (.int 21)]) ⟨Or.inr rfl, Or.inr rfl, Or.inr rfl, Or.inr rfl, trivial⟩ (wl_jd_fill_36_5 a2 0 21 M hl3 hk)
theorem c_jd_fill_36 (a2 : Int32) (M : dM) {o : dM} {y : mz_M} {d : Nat} {Q : mz_P} {pc n i : Nat} {L : List (Option Value)} {st : List Value} (h : mz_d y.2.1 pc n 3 (.invokestatic i)) (hl : mz_ml y.1.cls i yJ7_fill_53178) (hf : f_jd_fill_36 a2 M = some o) (hd : 1 + 1 ≤ d) (hsm : (st.map (fun v => v.category)).sum ≤ 8) (hLr : mz_rL 133 L = true) (hSr : mz_rS 133 st = true) (kk : mW y d Q n L st o) : mW y d Q pc L (.int a2 :: .ref 36 :: st) M :=
  y_callS kmJ7_fill_53178 ksJ7_fill_53178 h hl (ok_jd_fill_36 a2 M hf) (vs := [.ref 36, .int a2]) rfl rfl hd hsm hLr hSr kk
def K_jd_fill_37_5 (Q : mz_P) (x1 : Int32) (x3 : Int32) : ((Int32 × dM) ⊕ dM) → Prop
  | .inl s => mW mJ7_fill_53178 1 Q 5 [some (.ref 37), some (.int x1), some (.int s.1), some (.int x3)] [] s.2
  | .inr r => mR Q none r
noncomputable def b_jd_fill_37_5_5 (x1 : Int32) (x2 : Int32) (x3 : Int32) (M : dM) : Option ((Int32 × dM) ⊕ dM) :=
  if x3 ≤ x2 then
    some (.inr M)
  else
    gd (vp_in x2 21) <|
    some (.inl ((x2 + 1), (sI M 37 x2.toNatClampNeg x1)))
noncomputable def l_jd_fill_37_5 (x1 : Int32) (x2 : Int32) (x3 : Int32) (M : dM) : Option dM := lpc (fun s => b_jd_fill_37_5_5 x1 s.1 x3 s.2) (x2, M)
noncomputable def f_jd_fill_37 (a2 : Int32) (M : dM) : Option dM :=
  (l_jd_fill_37_5 a2 0 21 M).bind fun r4 => some r4
theorem w_b_jd_fill_37_5_5 (x1 : Int32) (x2 : Int32) (x3 : Int32)  (M : dM) {Q : mz_P} {o : ((Int32 × dM) ⊕ dM)} (hf : b_jd_fill_37_5_5 x1 x2 x3 M = some o) (hk : K_jd_fill_37_5 Q x1 x3 o) : mW mJ7_fill_53178 1 Q 5 [some (.ref 37), some (.int x1), some (.int x2), some (.int x3)] [] M := by
  unfold b_jd_fill_37_5_5 at hf
  refine y_iload_n (i := 2) (n := 6) ⟨dJ7_fill_53178_5, rfl⟩ rfl ?_
  refine y_iload_n (i := 3) (n := 7) ⟨dJ7_fill_53178_6, rfl⟩ rfl ?_
  refine y_icmp_ge (t := 20) (n := 10) ⟨dJ7_fill_53178_7, rfl, rfl⟩ (fun (hc : x3 ≤ x2) => ?_) (fun (hc : ¬ (x3 ≤ x2)) => ?_)
  · replace hf := i_t hc hf
    cases hf
    exact y_return (n := 21) ⟨dJ7_fill_53178_20, rfl⟩ rfl hk
  · replace hf := i_f hc hf
    refine y_aload_n (i := 0) (n := 11) ⟨dJ7_fill_53178_10, rfl⟩ rfl ?_
    refine y_iload_n (i := 2) (n := 12) ⟨dJ7_fill_53178_11, rfl⟩ rfl ?_
    refine y_iload_n (i := 1) (n := 13) ⟨dJ7_fill_53178_12, rfl⟩ rfl ?_
    obtain ⟨hg1, hf⟩ := g_s hf
    refine y_iastore (n := 14) ⟨dJ7_fill_53178_13, rfl⟩ l_37 hg1 ?_
    refine y_iinc (i := 2) (n := 17) (b := (x2 + 1)) (L2 := [some (.ref 37), some (.int x1), some (.int (x2 + 1)), some (.int x3)]) ⟨dJ7_fill_53178_14, rfl⟩ rfl (by rw [ki_1]) (by decide) rfl rfl ?_
    refine y_goto (t := 5) ⟨dJ7_fill_53178_17, rfl, rfl⟩ ?_
    cases hf
    exact y_wk (L2 := [some (.ref 37), some (.int x1), some (.int (x2 + 1)), some (.int x3)]) ⟨Or.inr rfl, Or.inr rfl, Or.inr rfl, Or.inr rfl, trivial⟩ hk
theorem wl_jd_fill_37_5 (x1 : Int32) (x2 : Int32) (x3 : Int32) (M : dM) {Q : mz_P} {x : dM} (hf : l_jd_fill_37_5 x1 x2 x3 M = some x) (hk : K_jd_fill_37_5 Q x1 x3 (.inr x)) : mW mJ7_fill_53178 1 Q 5 [some (.ref 37), some (.int x1), some (.int x2), some (.int x3)] [] M :=
  lpc_wp (σ := (Int32 × dM)) (ξ := dM) (s := (x2, M)) (Wh := fun s => mW mJ7_fill_53178 1 Q 5 [some (.ref 37), some (.int x1), some (.int s.1), some (.int x3)] [] s.2) (K := K_jd_fill_37_5 Q x1 x3) (fun _ h => h) (fun s o hb hk => w_b_jd_fill_37_5_5 x1 s.1 x3 s.2 hb hk) hf hk
theorem ok_jd_fill_37 (a2 : Int32) (M : dM) {o : dM} (hf : f_jd_fill_37 a2 M = some o) : mO mJ7_fill_53178 1 [.ref 37, .int a2] M none o := by
  refine y_ok (by decide +kernel) (Nat.le_of_ble_eq_true rfl) (L0 := [some (.ref 37), some (.int a2), none, none]) rfl ?_
  have hk := mR_mQ none o
  generalize mQ _ _ = Q at hk ⊢
  unfold f_jd_fill_37 at hf
  refine y_iconst (n := 1) (v := 0) ⟨dJ7_fill_53178_0, rfl⟩ ki_0 ?_
  refine y_istore_n (i := 2) (n := 2) (L2 := [some (.ref 37), some (.int a2), some (.int 0), none]) ⟨dJ7_fill_53178_1, rfl⟩ (by decide) rfl rfl ?_
  refine y_aload_n (i := 0) (n := 3) ⟨dJ7_fill_53178_2, rfl⟩ rfl ?_
  refine y_alen (n := 4) (v := 21) ⟨dJ7_fill_53178_3, rfl⟩ l_37 (fun _ => rfl) (by decide) ?_
  refine y_istore_n (i := 3) (n := 5) (L2 := [some (.ref 37), some (.int a2), some (.int 0), some (.int 21)]) ⟨dJ7_fill_53178_4, rfl⟩ (by decide) rfl rfl ?_
  obtain ⟨r4, hl3, hf⟩ := b_s hf
  cases hf
  exact y_wk (L2 := [some (.ref 37), some (.int a2), some (.int 0), some (.int 21)]) ⟨Or.inr rfl, Or.inr rfl, Or.inr rfl, Or.inr rfl, trivial⟩ (wl_jd_fill_37_5 a2 0 21 M hl3 hk)
theorem c_jd_fill_37 (a2 : Int32) (M : dM) {o : dM} {y : mz_M} {d : Nat} {Q : mz_P} {pc n i : Nat} {L : List (Option Value)} {st : List Value} (h : mz_d y.2.1 pc n 3 (.invokestatic i)) (hl : mz_ml y.1.cls i yJ7_fill_53178) (hf : f_jd_fill_37 a2 M = some o) (hd : 1 + 1 ≤ d) (hsm : (st.map (fun v => v.category)).sum ≤ 8) (hLr : mz_rL 133 L = true) (hSr : mz_rS 133 st = true) (kk : mW y d Q n L st o) : mW y d Q pc L (.int a2 :: .ref 37 :: st) M :=
  y_callS kmJ7_fill_53178 ksJ7_fill_53178 h hl (ok_jd_fill_37 a2 M hf) (vs := [.ref 37, .int a2]) rfl rfl hd hsm hLr hSr kk
noncomputable def f_la_empty (M : dM) : Option dM :=
  (f_jd_fill_36 0 (sI M 34 1 0)).bind fun q1 =>
  (f_jd_fill_37 0 q1).bind fun q3 =>
  some (sI (sI (sI (sI q3 34 4 0) 34 5 0) 34 6 3) 34 7 100)
theorem ok_la_empty  (M : dM) {o : dM} (hf : f_la_empty M = some o) : mO mX3_empty 2 [.ref 34] M none o := by
  refine y_ok (by decide +kernel) (Nat.le_of_ble_eq_true rfl) (L0 := [some (.ref 34)]) rfl ?_
  have hk := mR_mQ none o
  generalize mQ _ _ = Q at hk ⊢
  unfold f_la_empty at hf
  refine y_aload_n (i := 0) (n := 1) ⟨dX3_empty_0, rfl⟩ rfl ?_
  refine y_iconst (n := 2) (v := 0) ⟨dX3_empty_1, rfl⟩ ki_0 ?_
  refine y_putI (n := 5) ⟨dX3_empty_2, rfl⟩ kfX3_31 l_34 (by decide +kernel) rfl ?_
  refine y_aload_n (i := 0) (n := 6) ⟨dX3_empty_5, rfl⟩ rfl ?_
  refine y_getR (n := 9) ⟨dX3_empty_6, rfl⟩ kfX3_15 l_34 rfl r_34_2 ?_
  refine y_iconst (n := 10) (v := 0) ⟨dX3_empty_9, rfl⟩ ki_0 ?_
  obtain ⟨q1, hv2, hf⟩ := b_s hf
  refine c_jd_fill_36 0 (sI M 34 1 0) (n := 13) ⟨dX3_empty_10, rfl⟩ klX3_34 hv2 (by decide) (Nat.le_of_ble_eq_true rfl) rfl rfl ?_
  refine y_aload_n (i := 0) (n := 14) ⟨dX3_empty_13, rfl⟩ rfl ?_
  refine y_getR (n := 17) ⟨dX3_empty_14, rfl⟩ kfX3_18 l_34 rfl r_34_3 ?_
  refine y_iconst (n := 18) (v := 0) ⟨dX3_empty_17, rfl⟩ ki_0 ?_
  obtain ⟨q3, hv4, hf⟩ := b_s hf
  refine c_jd_fill_37 0 q1 (n := 21) ⟨dX3_empty_18, rfl⟩ klX3_34 hv4 (by decide) (Nat.le_of_ble_eq_true rfl) rfl rfl ?_
  refine y_aload_n (i := 0) (n := 22) ⟨dX3_empty_21, rfl⟩ rfl ?_
  refine y_iconst (n := 23) (v := 0) ⟨dX3_empty_22, rfl⟩ ki_0 ?_
  refine y_putI (n := 26) ⟨dX3_empty_23, rfl⟩ kfX3_40 l_34 (by decide +kernel) rfl ?_
  refine y_aload_n (i := 0) (n := 27) ⟨dX3_empty_26, rfl⟩ rfl ?_
  refine y_iconst (n := 28) (v := 0) ⟨dX3_empty_27, rfl⟩ ki_0 ?_
  refine y_putI (n := 31) ⟨dX3_empty_28, rfl⟩ kfX3_43 l_34 (by decide +kernel) rfl ?_
  refine y_aload_n (i := 0) (n := 32) ⟨dX3_empty_31, rfl⟩ rfl ?_
  refine y_iconst (n := 33) (v := 3) ⟨dX3_empty_32, rfl⟩ ki_3 ?_
  refine y_putI (n := 36) ⟨dX3_empty_33, rfl⟩ kfX3_21 l_34 (by decide +kernel) rfl ?_
  refine y_aload_n (i := 0) (n := 37) ⟨dX3_empty_36, rfl⟩ rfl ?_
  refine y_bipush (n := 39) (v := 100) ⟨dX3_empty_37, rfl⟩ kb_100 ?_
  refine y_putI (n := 42) ⟨dX3_empty_39, rfl⟩ kfX3_25 l_34 (by decide +kernel) rfl ?_
  cases hf
  exact y_return (n := 43) ⟨dX3_empty_42, rfl⟩ rfl hk
theorem c_la_empty  (M : dM) {o : dM} {y : mz_M} {d : Nat} {Q : mz_P} {pc n i : Nat} {L : List (Option Value)} {st : List Value} (h : mz_d y.2.1 pc n 3 (.invokevirtual i)) (hl : mz_ml y.1.cls i yX3_empty) (hf : f_la_empty M = some o) (hd : 2 + 1 ≤ d) (hsm : (st.map (fun v => v.category)).sum ≤ 8) (hLr : mz_rL 133 L = true) (hSr : mz_rS 133 st = true) (kk : mW y d Q n L st o) : mW y d Q pc L (.ref 34 :: st) M :=
  y_callV kmX3_empty kvX3_empty l_34 (by decide +kernel) (by decide +kernel) h hl (ok_la_empty  M hf) (vs := []) rfl rfl hd hsm hLr hSr kk
def K_re_readWord_0 (Q : mz_P)  : (dM ⊕ dM) → Prop
  | .inl s => mW mX6_readWord 1 Q 0 [some (.ref 32)] [] s
  | .inr t => mW mX6_readWord 1 Q 52 [some (.ref 32)] [] t
noncomputable def b_re_readWord_0_0 (M : dM) : Option (dM ⊕ dM) :=
  if (gI M 32 1) ≤ (gI M 32 5) then
    some (.inr M)
  else
    gd (vp_in (gI M 32 5) 1000) <|
    if (gI M 33 (gI M 32 5).toNatClampNeg) < 97 then
      some (.inr M)
    else
      if 122 < (gI M 33 (gI M 32 5).toNatClampNeg) then
        some (.inr M)
      else
        some (.inl (sI M 32 5 ((gI M 32 5) + 1)))
noncomputable def l_re_readWord_0 (M : dM) : Option dM := lpc (fun s => b_re_readWord_0_0 s) M
noncomputable def t_re_readWord_72 (y1 : Int32) (M : dM) : Option dM :=
  some (sI M 32 3 y1)
noncomputable def t_re_readWord_52 (M : dM) : Option dM :=
  if 8 < ((gI M 32 5) - (gI M 32 4)) then
    t_re_readWord_72 4 M
  else
    t_re_readWord_72 1 M
noncomputable def f_re_readWord (M : dM) : Option dM :=
  (l_re_readWord_0 M).bind fun t2 =>
    t_re_readWord_52 t2
theorem w_b_re_readWord_0_0   (M : dM) {Q : mz_P} {o : (dM ⊕ dM)} (hf : b_re_readWord_0_0 M = some o) (hk : K_re_readWord_0 Q  o) : mW mX6_readWord 1 Q 0 [some (.ref 32)] [] M := by
  unfold b_re_readWord_0_0 at hf
  refine y_aload_n (i := 0) (n := 1) ⟨dX6_readWord_0, rfl⟩ rfl ?_
  refine y_getI (n := 4) ⟨dX6_readWord_1, rfl⟩ kfX6_47 l_32 rfl ?_
  refine y_aload_n (i := 0) (n := 5) ⟨dX6_readWord_4, rfl⟩ rfl ?_
  refine y_getI (n := 8) ⟨dX6_readWord_5, rfl⟩ kfX6_30 l_32 rfl ?_
  refine y_icmp_ge (t := 52) (n := 11) ⟨dX6_readWord_8, rfl, rfl⟩ (fun (hc : (gI M 32 1) ≤ (gI M 32 5)) => ?_) (fun (hc : ¬ ((gI M 32 1) ≤ (gI M 32 5))) => ?_)
  · replace hf := i_t hc hf
    cases hf
    exact y_wk (L2 := [some (.ref 32)]) ⟨Or.inr rfl, trivial⟩ hk
  · replace hf := i_f hc hf
    refine y_aload_n (i := 0) (n := 12) ⟨dX6_readWord_11, rfl⟩ rfl ?_
    refine y_getR (n := 15) ⟨dX6_readWord_12, rfl⟩ kfX6_9 l_32 rfl r_32_0 ?_
    refine y_aload_n (i := 0) (n := 16) ⟨dX6_readWord_15, rfl⟩ rfl ?_
    refine y_getI (n := 19) ⟨dX6_readWord_16, rfl⟩ kfX6_47 l_32 rfl ?_
    obtain ⟨hg1, hf⟩ := g_s hf
    refine y_caload (n := 20) ⟨dX6_readWord_19, rfl⟩ l_33 hg1 ?_
    refine y_bipush (n := 22) (v := 97) ⟨dX6_readWord_20, rfl⟩ kb_97 ?_
    refine y_icmp_lt (t := 52) (n := 25) ⟨dX6_readWord_22, rfl, rfl⟩ (fun (hc : (gI M 33 (gI M 32 5).toNatClampNeg) < 97) => ?_) (fun (hc : ¬ ((gI M 33 (gI M 32 5).toNatClampNeg) < 97)) => ?_)
    · replace hf := i_t hc hf
      cases hf
      exact y_wk (L2 := [some (.ref 32)]) ⟨Or.inr rfl, trivial⟩ hk
    · replace hf := i_f hc hf
      refine y_aload_n (i := 0) (n := 26) ⟨dX6_readWord_25, rfl⟩ rfl ?_
      refine y_getR (n := 29) ⟨dX6_readWord_26, rfl⟩ kfX6_9 l_32 rfl r_32_0 ?_
      refine y_aload_n (i := 0) (n := 30) ⟨dX6_readWord_29, rfl⟩ rfl ?_
      refine y_getI (n := 33) ⟨dX6_readWord_30, rfl⟩ kfX6_47 l_32 rfl ?_
      refine y_caload (n := 34) ⟨dX6_readWord_33, rfl⟩ l_33 hg1 ?_
      refine y_bipush (n := 36) (v := 122) ⟨dX6_readWord_34, rfl⟩ kb_122 ?_
      refine y_icmp_gt (t := 52) (n := 39) ⟨dX6_readWord_36, rfl, rfl⟩ (fun (hc : 122 < (gI M 33 (gI M 32 5).toNatClampNeg)) => ?_) (fun (hc : ¬ (122 < (gI M 33 (gI M 32 5).toNatClampNeg))) => ?_)
      · replace hf := i_t hc hf
        cases hf
        exact y_wk (L2 := [some (.ref 32)]) ⟨Or.inr rfl, trivial⟩ hk
      · replace hf := i_f hc hf
        refine y_aload_n (i := 0) (n := 40) ⟨dX6_readWord_39, rfl⟩ rfl ?_
        refine y_dup_r (n := 41) ⟨dX6_readWord_40, rfl⟩ ?_
        refine y_getI (n := 44) ⟨dX6_readWord_41, rfl⟩ kfX6_47 l_32 rfl ?_
        refine y_iconst (n := 45) (v := 1) ⟨dX6_readWord_44, rfl⟩ ki_1 ?_
        refine y_iadd (n := 46) ⟨dX6_readWord_45, rfl⟩ ?_
        refine y_putI (n := 49) ⟨dX6_readWord_46, rfl⟩ kfX6_47 l_32 (by decide +kernel) rfl ?_
        refine y_goto (t := 0) ⟨dX6_readWord_49, rfl, rfl⟩ ?_
        cases hf
        exact y_wk (L2 := [some (.ref 32)]) ⟨Or.inr rfl, trivial⟩ hk
theorem wl_re_readWord_0  (M : dM) {Q : mz_P} {x : dM} (hf : l_re_readWord_0 M = some x) (hk : K_re_readWord_0 Q  (.inr x)) : mW mX6_readWord 1 Q 0 [some (.ref 32)] [] M :=
  lpc_wp (σ := dM) (ξ := dM) (s := M) (Wh := fun s => mW mX6_readWord 1 Q 0 [some (.ref 32)] [] s) (K := K_re_readWord_0 Q ) (fun _ h => h) (fun s o hb hk => w_b_re_readWord_0_0 s hb hk) hf hk
theorem w_t_re_readWord_72 (y1 : Int32) (M : dM) {Q : mz_P} {o : dM} (hf : t_re_readWord_72 y1 M = some o) (hk : mR Q none o) : mW mX6_readWord 1 Q 72 [none] [.int y1, .ref 32] M := by
  unfold t_re_readWord_72 at hf
  refine y_putI (n := 75) ⟨dX6_readWord_72, rfl⟩ kfX6_53 l_32 (by decide +kernel) rfl ?_
  cases hf
  exact y_return (n := 76) ⟨dX6_readWord_75, rfl⟩ rfl hk
theorem w_t_re_readWord_52  (M : dM) {Q : mz_P} {o : dM} (hf : t_re_readWord_52 M = some o) (hk : mR Q none o) : mW mX6_readWord 1 Q 52 [some (.ref 32)] [] M := by
  unfold t_re_readWord_52 at hf
  refine y_aload_n (i := 0) (n := 53) ⟨dX6_readWord_52, rfl⟩ rfl ?_
  refine y_aload_n (i := 0) (n := 54) ⟨dX6_readWord_53, rfl⟩ rfl ?_
  refine y_getI (n := 57) ⟨dX6_readWord_54, rfl⟩ kfX6_47 l_32 rfl ?_
  refine y_aload_n (i := 0) (n := 58) ⟨dX6_readWord_57, rfl⟩ rfl ?_
  refine y_getI (n := 61) ⟨dX6_readWord_58, rfl⟩ kfX6_158 l_32 rfl ?_
  refine y_isub (n := 62) ⟨dX6_readWord_61, rfl⟩ ?_
  refine y_bipush (n := 64) (v := 8) ⟨dX6_readWord_62, rfl⟩ kb_8 ?_
  refine y_icmp_gt (t := 71) (n := 67) ⟨dX6_readWord_64, rfl, rfl⟩ (fun (hc : 8 < ((gI M 32 5) - (gI M 32 4))) => ?_) (fun (hc : ¬ (8 < ((gI M 32 5) - (gI M 32 4)))) => ?_)
  · replace hf := i_t hc hf
    refine y_iconst (n := 72) (v := 4) ⟨dX6_readWord_71, rfl⟩ ki_4 ?_
    exact y_wk (L2 := [none]) ⟨Or.inl rfl, trivial⟩ (w_t_re_readWord_72 4 M hf hk)
  · replace hf := i_f hc hf
    refine y_iconst (n := 68) (v := 1) ⟨dX6_readWord_67, rfl⟩ ki_1 ?_
    refine y_goto (t := 72) ⟨dX6_readWord_68, rfl, rfl⟩ ?_
    exact y_wk (L2 := [none]) ⟨Or.inl rfl, trivial⟩ (w_t_re_readWord_72 1 M hf hk)
theorem ok_re_readWord  (M : dM) {o : dM} (hf : f_re_readWord M = some o) : mO mX6_readWord 1 [.ref 32] M none o := by
  refine y_ok (by decide +kernel) (Nat.le_of_ble_eq_true rfl) (L0 := [some (.ref 32)]) rfl ?_
  have hk := mR_mQ none o
  generalize mQ _ _ = Q at hk ⊢
  unfold f_re_readWord at hf
  obtain ⟨t2, hl3, hf⟩ := b_s hf
  refine y_wk (L2 := [some (.ref 32)]) ⟨Or.inr rfl, trivial⟩ (wl_re_readWord_0 M hl3 ?_)
  show mW mX6_readWord 1 Q 52 [some (.ref 32)] [] t2
  exact y_wk (L2 := [some (.ref 32)]) ⟨Or.inr rfl, trivial⟩ (w_t_re_readWord_52 t2 hf hk)
theorem c_re_readWord  (M : dM) {o : dM} {y : mz_M} {d : Nat} {Q : mz_P} {pc n i : Nat} {L : List (Option Value)} {st : List Value} (h : mz_d y.2.1 pc n 3 (.invokevirtual i)) (hl : mz_ml y.1.cls i yX6_readWord) (hf : f_re_readWord M = some o) (hd : 1 + 1 ≤ d) (hsm : (st.map (fun v => v.category)).sum ≤ 8) (hLr : mz_rL 133 L = true) (hSr : mz_rS 133 st = true) (kk : mW y d Q n L st o) : mW y d Q pc L (.ref 32 :: st) M :=
  y_callV kmX6_readWord kvX6_readWord l_32 (by decide +kernel) (by decide +kernel) h hl (ok_re_readWord  M hf) (vs := []) rfl rfl hd hsm hLr hSr kk
def K_re_readNumber_5 (Q : mz_P)  : (dM ⊕ dM) → Prop
  | .inl s => mW mX6_readNumber 1 Q 5 [some (.ref 32)] [] s
  | .inr t => mW mX6_readNumber 1 Q 81 [some (.ref 32)] [] t
noncomputable def b_re_readNumber_5_5 (M : dM) : Option (dM ⊕ dM) :=
  if (gI M 32 1) ≤ (gI M 32 5) then
    some (.inr M)
  else
    gd (vp_in (gI M 32 5) 1000) <|
    if (gI M 33 (gI M 32 5).toNatClampNeg) < 48 then
      some (.inr M)
    else
      if 57 < (gI M 33 (gI M 32 5).toNatClampNeg) then
        some (.inr M)
      else
        some (.inl (sI (sI M 32 6 ((((gI M 32 6) * 10) + (gI M 33 (gI M 32 5).toNatClampNeg)) - 48)) 32 5 ((gI (sI M 32 6 ((((gI M 32 6) * 10) + (gI M 33 (gI M 32 5).toNatClampNeg)) - 48)) 32 5) + 1)))
noncomputable def l_re_readNumber_5 (M : dM) : Option dM := lpc (fun s => b_re_readNumber_5_5 s) M
noncomputable def t_re_readNumber_100 (y1 : Int32) (M : dM) : Option dM :=
  some (sI M 32 3 y1)
noncomputable def t_re_readNumber_81 (M : dM) : Option dM :=
  if 4 < ((gI M 32 5) - (gI M 32 4)) then
    t_re_readNumber_100 4 M
  else
    t_re_readNumber_100 2 M
noncomputable def f_re_readNumber (M : dM) : Option dM :=
  (l_re_readNumber_5 (sI M 32 6 0)).bind fun t2 =>
    t_re_readNumber_81 t2
theorem w_b_re_readNumber_5_5   (M : dM) {Q : mz_P} {o : (dM ⊕ dM)} (hf : b_re_readNumber_5_5 M = some o) (hk : K_re_readNumber_5 Q  o) : mW mX6_readNumber 1 Q 5 [some (.ref 32)] [] M := by
  unfold b_re_readNumber_5_5 at hf
  refine y_aload_n (i := 0) (n := 6) ⟨dX6_readNumber_5, rfl⟩ rfl ?_
  refine y_getI (n := 9) ⟨dX6_readNumber_6, rfl⟩ kfX6_47 l_32 rfl ?_
  refine y_aload_n (i := 0) (n := 10) ⟨dX6_readNumber_9, rfl⟩ rfl ?_
  refine y_getI (n := 13) ⟨dX6_readNumber_10, rfl⟩ kfX6_30 l_32 rfl ?_
  refine y_icmp_ge (t := 81) (n := 16) ⟨dX6_readNumber_13, rfl, rfl⟩ (fun (hc : (gI M 32 1) ≤ (gI M 32 5)) => ?_) (fun (hc : ¬ ((gI M 32 1) ≤ (gI M 32 5))) => ?_)
  · replace hf := i_t hc hf
    cases hf
    exact y_wk (L2 := [some (.ref 32)]) ⟨Or.inr rfl, trivial⟩ hk
  · replace hf := i_f hc hf
    refine y_aload_n (i := 0) (n := 17) ⟨dX6_readNumber_16, rfl⟩ rfl ?_
    refine y_getR (n := 20) ⟨dX6_readNumber_17, rfl⟩ kfX6_9 l_32 rfl r_32_0 ?_
    refine y_aload_n (i := 0) (n := 21) ⟨dX6_readNumber_20, rfl⟩ rfl ?_
    refine y_getI (n := 24) ⟨dX6_readNumber_21, rfl⟩ kfX6_47 l_32 rfl ?_
    obtain ⟨hg1, hf⟩ := g_s hf
    refine y_caload (n := 25) ⟨dX6_readNumber_24, rfl⟩ l_33 hg1 ?_
    refine y_bipush (n := 27) (v := 48) ⟨dX6_readNumber_25, rfl⟩ kb_48 ?_
    refine y_icmp_lt (t := 81) (n := 30) ⟨dX6_readNumber_27, rfl, rfl⟩ (fun (hc : (gI M 33 (gI M 32 5).toNatClampNeg) < 48) => ?_) (fun (hc : ¬ ((gI M 33 (gI M 32 5).toNatClampNeg) < 48)) => ?_)
    · replace hf := i_t hc hf
      cases hf
      exact y_wk (L2 := [some (.ref 32)]) ⟨Or.inr rfl, trivial⟩ hk
    · replace hf := i_f hc hf
      refine y_aload_n (i := 0) (n := 31) ⟨dX6_readNumber_30, rfl⟩ rfl ?_
      refine y_getR (n := 34) ⟨dX6_readNumber_31, rfl⟩ kfX6_9 l_32 rfl r_32_0 ?_
      refine y_aload_n (i := 0) (n := 35) ⟨dX6_readNumber_34, rfl⟩ rfl ?_
      refine y_getI (n := 38) ⟨dX6_readNumber_35, rfl⟩ kfX6_47 l_32 rfl ?_
      refine y_caload (n := 39) ⟨dX6_readNumber_38, rfl⟩ l_33 hg1 ?_
      refine y_bipush (n := 41) (v := 57) ⟨dX6_readNumber_39, rfl⟩ kb_57 ?_
      refine y_icmp_gt (t := 81) (n := 44) ⟨dX6_readNumber_41, rfl, rfl⟩ (fun (hc : 57 < (gI M 33 (gI M 32 5).toNatClampNeg)) => ?_) (fun (hc : ¬ (57 < (gI M 33 (gI M 32 5).toNatClampNeg))) => ?_)
      · replace hf := i_t hc hf
        cases hf
        exact y_wk (L2 := [some (.ref 32)]) ⟨Or.inr rfl, trivial⟩ hk
      · replace hf := i_f hc hf
        refine y_aload_n (i := 0) (n := 45) ⟨dX6_readNumber_44, rfl⟩ rfl ?_
        refine y_aload_n (i := 0) (n := 46) ⟨dX6_readNumber_45, rfl⟩ rfl ?_
        refine y_getI (n := 49) ⟨dX6_readNumber_46, rfl⟩ kfX6_104 l_32 rfl ?_
        refine y_bipush (n := 51) (v := 10) ⟨dX6_readNumber_49, rfl⟩ kb_10 ?_
        refine y_imul (n := 52) ⟨dX6_readNumber_51, rfl⟩ ?_
        refine y_aload_n (i := 0) (n := 53) ⟨dX6_readNumber_52, rfl⟩ rfl ?_
        refine y_getR (n := 56) ⟨dX6_readNumber_53, rfl⟩ kfX6_9 l_32 rfl r_32_0 ?_
        refine y_aload_n (i := 0) (n := 57) ⟨dX6_readNumber_56, rfl⟩ rfl ?_
        refine y_getI (n := 60) ⟨dX6_readNumber_57, rfl⟩ kfX6_47 l_32 rfl ?_
        refine y_caload (n := 61) ⟨dX6_readNumber_60, rfl⟩ l_33 hg1 ?_
        refine y_iadd (n := 62) ⟨dX6_readNumber_61, rfl⟩ ?_
        refine y_bipush (n := 64) (v := 48) ⟨dX6_readNumber_62, rfl⟩ kb_48 ?_
        refine y_isub (n := 65) ⟨dX6_readNumber_64, rfl⟩ ?_
        refine y_putI (n := 68) ⟨dX6_readNumber_65, rfl⟩ kfX6_104 l_32 (by decide +kernel) rfl ?_
        refine y_aload_n (i := 0) (n := 69) ⟨dX6_readNumber_68, rfl⟩ rfl ?_
        refine y_dup_r (n := 70) ⟨dX6_readNumber_69, rfl⟩ ?_
        refine y_getI (n := 73) ⟨dX6_readNumber_70, rfl⟩ kfX6_47 l_32 rfl ?_
        refine y_iconst (n := 74) (v := 1) ⟨dX6_readNumber_73, rfl⟩ ki_1 ?_
        refine y_iadd (n := 75) ⟨dX6_readNumber_74, rfl⟩ ?_
        refine y_putI (n := 78) ⟨dX6_readNumber_75, rfl⟩ kfX6_47 l_32 (by decide +kernel) rfl ?_
        refine y_goto (t := 5) ⟨dX6_readNumber_78, rfl, rfl⟩ ?_
        cases hf
        exact y_wk (L2 := [some (.ref 32)]) ⟨Or.inr rfl, trivial⟩ hk
theorem wl_re_readNumber_5  (M : dM) {Q : mz_P} {x : dM} (hf : l_re_readNumber_5 M = some x) (hk : K_re_readNumber_5 Q  (.inr x)) : mW mX6_readNumber 1 Q 5 [some (.ref 32)] [] M :=
  lpc_wp (σ := dM) (ξ := dM) (s := M) (Wh := fun s => mW mX6_readNumber 1 Q 5 [some (.ref 32)] [] s) (K := K_re_readNumber_5 Q ) (fun _ h => h) (fun s o hb hk => w_b_re_readNumber_5_5 s hb hk) hf hk
theorem w_t_re_readNumber_100 (y1 : Int32) (M : dM) {Q : mz_P} {o : dM} (hf : t_re_readNumber_100 y1 M = some o) (hk : mR Q none o) : mW mX6_readNumber 1 Q 100 [none] [.int y1, .ref 32] M := by
  unfold t_re_readNumber_100 at hf
  refine y_putI (n := 103) ⟨dX6_readNumber_100, rfl⟩ kfX6_53 l_32 (by decide +kernel) rfl ?_
  cases hf
  exact y_return (n := 104) ⟨dX6_readNumber_103, rfl⟩ rfl hk
theorem w_t_re_readNumber_81  (M : dM) {Q : mz_P} {o : dM} (hf : t_re_readNumber_81 M = some o) (hk : mR Q none o) : mW mX6_readNumber 1 Q 81 [some (.ref 32)] [] M := by
  unfold t_re_readNumber_81 at hf
  refine y_aload_n (i := 0) (n := 82) ⟨dX6_readNumber_81, rfl⟩ rfl ?_
  refine y_aload_n (i := 0) (n := 83) ⟨dX6_readNumber_82, rfl⟩ rfl ?_
  refine y_getI (n := 86) ⟨dX6_readNumber_83, rfl⟩ kfX6_47 l_32 rfl ?_
  refine y_aload_n (i := 0) (n := 87) ⟨dX6_readNumber_86, rfl⟩ rfl ?_
  refine y_getI (n := 90) ⟨dX6_readNumber_87, rfl⟩ kfX6_158 l_32 rfl ?_
  refine y_isub (n := 91) ⟨dX6_readNumber_90, rfl⟩ ?_
  refine y_iconst (n := 92) (v := 4) ⟨dX6_readNumber_91, rfl⟩ ki_4 ?_
  refine y_icmp_gt (t := 99) (n := 95) ⟨dX6_readNumber_92, rfl, rfl⟩ (fun (hc : 4 < ((gI M 32 5) - (gI M 32 4))) => ?_) (fun (hc : ¬ (4 < ((gI M 32 5) - (gI M 32 4)))) => ?_)
  · replace hf := i_t hc hf
    refine y_iconst (n := 100) (v := 4) ⟨dX6_readNumber_99, rfl⟩ ki_4 ?_
    exact y_wk (L2 := [none]) ⟨Or.inl rfl, trivial⟩ (w_t_re_readNumber_100 4 M hf hk)
  · replace hf := i_f hc hf
    refine y_iconst (n := 96) (v := 2) ⟨dX6_readNumber_95, rfl⟩ ki_2 ?_
    refine y_goto (t := 100) ⟨dX6_readNumber_96, rfl, rfl⟩ ?_
    exact y_wk (L2 := [none]) ⟨Or.inl rfl, trivial⟩ (w_t_re_readNumber_100 2 M hf hk)
theorem ok_re_readNumber  (M : dM) {o : dM} (hf : f_re_readNumber M = some o) : mO mX6_readNumber 1 [.ref 32] M none o := by
  refine y_ok (by decide +kernel) (Nat.le_of_ble_eq_true rfl) (L0 := [some (.ref 32)]) rfl ?_
  have hk := mR_mQ none o
  generalize mQ _ _ = Q at hk ⊢
  unfold f_re_readNumber at hf
  refine y_aload_n (i := 0) (n := 1) ⟨dX6_readNumber_0, rfl⟩ rfl ?_
  refine y_iconst (n := 2) (v := 0) ⟨dX6_readNumber_1, rfl⟩ ki_0 ?_
  refine y_putI (n := 5) ⟨dX6_readNumber_2, rfl⟩ kfX6_104 l_32 (by decide +kernel) rfl ?_
  obtain ⟨t2, hl3, hf⟩ := b_s hf
  refine y_wk (L2 := [some (.ref 32)]) ⟨Or.inr rfl, trivial⟩ (wl_re_readNumber_5 (sI M 32 6 0) hl3 ?_)
  show mW mX6_readNumber 1 Q 81 [some (.ref 32)] [] t2
  exact y_wk (L2 := [some (.ref 32)]) ⟨Or.inr rfl, trivial⟩ (w_t_re_readNumber_81 t2 hf hk)
theorem c_re_readNumber  (M : dM) {o : dM} {y : mz_M} {d : Nat} {Q : mz_P} {pc n i : Nat} {L : List (Option Value)} {st : List Value} (h : mz_d y.2.1 pc n 3 (.invokevirtual i)) (hl : mz_ml y.1.cls i yX6_readNumber) (hf : f_re_readNumber M = some o) (hd : 1 + 1 ≤ d) (hsm : (st.map (fun v => v.category)).sum ≤ 8) (hLr : mz_rL 133 L = true) (hSr : mz_rS 133 st = true) (kk : mW y d Q n L st o) : mW y d Q pc L (.ref 32 :: st) M :=
  y_callV kmX6_readNumber kvX6_readNumber l_32 (by decide +kernel) (by decide +kernel) h hl (ok_re_readNumber  M hf) (vs := []) rfl rfl hd hsm hLr hSr kk
noncomputable def f_jd_isLatin1 (s0 : Nat) : Option Bool :=
  if (1 : Int32) = 0 then
    some false
  else
    gd (s0 < 10) <|
    if (0 : Int32) = 0 then
      some true
    else
      some false
theorem ok_jd_isLatin1 (s0 : Nat) (M : dM) {o : Bool} (hf : f_jd_isLatin1 s0 = some o) : mO mJ0_isLatin1_aae02 1 [.ref (1000000 + s0)] M (some (.int (bI o))) M := by
  refine y_ok (by decide +kernel) (Nat.le_of_ble_eq_true rfl) (L0 := [some (.ref (1000000 + s0))]) rfl ?_
  have hk := mR_mQ (some (.int (bI o))) M
  generalize mQ _ _ = Q at hk ⊢
  unfold f_jd_isLatin1 at hf
  refine y_CS (n := 3) ⟨dJ0_isLatin1_aae02_0, rfl⟩ (mz_in 745 (by decide +kernel) (by decide +kernel)) ?_
  refine y_if_eq (t := 17) (n := 6) ⟨dJ0_isLatin1_aae02_3, rfl, rfl⟩ (fun (hc : (1 : Int32) = 0) => ?_) (fun (hc : ¬ ((1 : Int32) = 0)) => ?_)
  · replace hf := i_t hc hf
    refine y_iconst (n := 18) (v := 0) ⟨dJ0_isLatin1_aae02_17, rfl⟩ ki_0 ?_
    cases hf
    exact y_ireturn (n := 19) ⟨dJ0_isLatin1_aae02_18, rfl⟩ rfl rfl hk
  · replace hf := i_f hc hf
    refine y_aload_n (i := 0) (n := 7) ⟨dJ0_isLatin1_aae02_6, rfl⟩ rfl ?_
    obtain ⟨hg1, hf⟩ := g_s hf
    refine y_strC hg1 (n := 10) ⟨dJ0_isLatin1_aae02_7, rfl⟩ (mz_in 2237 (by decide +kernel) (by decide +kernel)) ?_
    refine y_if_ne (t := 17) (n := 13) ⟨dJ0_isLatin1_aae02_10, rfl, rfl⟩ (fun (hc : ¬ ((0 : Int32) = 0)) => ?_) (fun (hc : (0 : Int32) = 0) => ?_)
    · replace hf := i_f hc hf
      refine y_iconst (n := 18) (v := 0) ⟨dJ0_isLatin1_aae02_17, rfl⟩ ki_0 ?_
      cases hf
      exact y_ireturn (n := 19) ⟨dJ0_isLatin1_aae02_18, rfl⟩ rfl rfl hk
    · replace hf := i_t hc hf
      refine y_iconst (n := 14) (v := 1) ⟨dJ0_isLatin1_aae02_13, rfl⟩ ki_1 ?_
      refine y_goto (t := 18) ⟨dJ0_isLatin1_aae02_14, rfl, rfl⟩ ?_
      cases hf
      exact y_ireturn (n := 19) ⟨dJ0_isLatin1_aae02_18, rfl⟩ rfl rfl hk
theorem c_jd_isLatin1 (s0 : Nat) (M : dM) {o : Bool} (hs : s0 < 10) {y : mz_M} {d : Nat} {Q : mz_P} {pc n i : Nat} {L : List (Option Value)} {st : List Value} (h : mz_d y.2.1 pc n 3 (.invokevirtual i)) (hl : mz_ml y.1.cls i yJ0_isLatin1_aae02) (hf : f_jd_isLatin1 s0 = some o) (hd : 1 + 1 ≤ d) (hsm : (st.map (fun v => v.category)).sum ≤ 8) (hLr : mz_rL 133 L = true) (hSr : mz_rS 133 st = true) (kk : mW y d Q n L (.int (bI o) :: st) M) : mW y d Q pc L (.ref (1000000 + s0) :: st) M :=
  y_callT kmJ0_isLatin1_aae02 kvJ0_isLatin1_aae02 hs rfl h hl (ok_jd_isLatin1 s0 M hf) (vs := []) rfl rfl hd hsm hLr hSr kk
noncomputable def f_jd_coder (s0 : Nat) : Option Int32 :=
  if (1 : Int32) = 0 then
    some 1
  else
    gd (s0 < 10) <|
    some 0
theorem ok_jd_coder (s0 : Nat) (M : dM) {o : Int32} (hf : f_jd_coder s0 = some o) : mO mJ0_coder_7d493 1 [.ref (1000000 + s0)] M (some (.int o)) M := by
  refine y_ok (by decide +kernel) (Nat.le_of_ble_eq_true rfl) (L0 := [some (.ref (1000000 + s0))]) rfl ?_
  have hk := mR_mQ (some (.int o)) M
  generalize mQ _ _ = Q at hk ⊢
  unfold f_jd_coder at hf
  refine y_CS (n := 3) ⟨dJ0_coder_7d493_0, rfl⟩ (mz_in 745 (by decide +kernel) (by decide +kernel)) ?_
  refine y_if_eq (t := 13) (n := 6) ⟨dJ0_coder_7d493_3, rfl, rfl⟩ (fun (hc : (1 : Int32) = 0) => ?_) (fun (hc : ¬ ((1 : Int32) = 0)) => ?_)
  · replace hf := i_t hc hf
    refine y_iconst (n := 14) (v := 1) ⟨dJ0_coder_7d493_13, rfl⟩ ki_1 ?_
    cases hf
    exact y_ireturn (n := 15) ⟨dJ0_coder_7d493_14, rfl⟩ rfl rfl hk
  · replace hf := i_f hc hf
    refine y_aload_n (i := 0) (n := 7) ⟨dJ0_coder_7d493_6, rfl⟩ rfl ?_
    obtain ⟨hg1, hf⟩ := g_s hf
    refine y_strC hg1 (n := 10) ⟨dJ0_coder_7d493_7, rfl⟩ (mz_in 2237 (by decide +kernel) (by decide +kernel)) ?_
    refine y_goto (t := 14) ⟨dJ0_coder_7d493_10, rfl, rfl⟩ ?_
    cases hf
    exact y_ireturn (n := 15) ⟨dJ0_coder_7d493_14, rfl⟩ rfl rfl hk
theorem c_jd_coder (s0 : Nat) (M : dM) {o : Int32} (hs : s0 < 10) {y : mz_M} {d : Nat} {Q : mz_P} {pc n i : Nat} {L : List (Option Value)} {st : List Value} (h : mz_d y.2.1 pc n 3 (.invokevirtual i)) (hl : mz_ml y.1.cls i yJ0_coder_7d493) (hf : f_jd_coder s0 = some o) (hd : 1 + 1 ≤ d) (hsm : (st.map (fun v => v.category)).sum ≤ 8) (hLr : mz_rL 133 L = true) (hSr : mz_rS 133 st = true) (kk : mW y d Q n L (.int o :: st) M) : mW y d Q pc L (.ref (1000000 + s0) :: st) M :=
  y_callT kmJ0_coder_7d493 kvJ0_coder_7d493 hs rfl h hl (ok_jd_coder s0 M hf) (vs := []) rfl rfl hd hsm hLr hSr kk
noncomputable def f_jd_length (s0 : Nat) : Option Int32 :=
  gd (s0 < 10) <|
  (f_jd_coder s0).bind fun v2 =>
  some ((nI (mz_len.getD s0 0)) >>> (v2 &&& 31))
theorem ok_jd_length (s0 : Nat) (M : dM) {o : Int32} (hf : f_jd_length s0 = some o) : mO mJ0_length_8abf5 2 [.ref (1000000 + s0)] M (some (.int o)) M := by
  refine y_ok (by decide +kernel) (Nat.le_of_ble_eq_true rfl) (L0 := [some (.ref (1000000 + s0))]) rfl ?_
  have hk := mR_mQ (some (.int o)) M
  generalize mQ _ _ = Q at hk ⊢
  unfold f_jd_length at hf
  refine y_aload_n (i := 0) (n := 1) ⟨dJ0_length_8abf5_0, rfl⟩ rfl ?_
  obtain ⟨hg1, hf⟩ := g_s hf
  refine y_strV hg1 (n := 4) ⟨dJ0_length_8abf5_1, rfl⟩ (mz_in 2238 (by decide +kernel) (by decide +kernel)) ?_
  refine y_btlen hg1 (n := 5) ⟨dJ0_length_8abf5_4, rfl⟩ ?_
  refine y_aload_n (i := 0) (n := 6) ⟨dJ0_length_8abf5_5, rfl⟩ rfl ?_
  obtain ⟨v2, hv3, hf⟩ := b_s hf
  refine c_jd_coder s0 M hg1 (n := 9) ⟨dJ0_length_8abf5_6, rfl⟩ klJ0_335 hv3 (by decide) (Nat.le_of_ble_eq_true rfl) (rL_c (ro_s _ _) rfl) rfl ?_
  refine y_ishr (n := 10) ⟨dJ0_length_8abf5_9, rfl⟩ ?_
  cases hf
  exact y_ireturn (n := 11) ⟨dJ0_length_8abf5_10, rfl⟩ rfl rfl hk
theorem c_jd_length (s0 : Nat) (M : dM) {o : Int32} (hs : s0 < 10) {y : mz_M} {d : Nat} {Q : mz_P} {pc n i : Nat} {L : List (Option Value)} {st : List Value} (h : mz_d y.2.1 pc n 3 (.invokevirtual i)) (hl : mz_ml y.1.cls i yJ0_length_8abf5) (hf : f_jd_length s0 = some o) (hd : 2 + 1 ≤ d) (hsm : (st.map (fun v => v.category)).sum ≤ 8) (hLr : mz_rL 133 L = true) (hSr : mz_rS 133 st = true) (kk : mW y d Q n L (.int o :: st) M) : mW y d Q pc L (.ref (1000000 + s0) :: st) M :=
  y_callT kmJ0_length_8abf5 kvJ0_length_8abf5 hs rfl h hl (ok_jd_length s0 M hf) (vs := []) rfl rfl hd hsm hLr hSr kk
noncomputable def f_jd_canEncode (a1 : Int32) : Bool :=
  if a1 < 0 then
    false
  else
    if 255 < a1 then
      false
    else
      true
theorem ok_jd_canEncode (a1 : Int32) (M : dM) {o : Bool} (hf : f_jd_canEncode a1 = o) : mO mJ1_canEncode_9a6ad 1 [.int a1] M (some (.int (bI o))) M := by
  refine y_ok (by decide +kernel) (Nat.le_of_ble_eq_true rfl) (L0 := [some (.int a1)]) rfl ?_
  have hk := mR_mQ (some (.int (bI o))) M
  generalize mQ _ _ = Q at hk ⊢
  unfold f_jd_canEncode at hf
  refine y_iload_n (i := 0) (n := 1) ⟨dJ1_canEncode_9a6ad_0, rfl⟩ rfl ?_
  refine y_if_lt (t := 15) (n := 4) ⟨dJ1_canEncode_9a6ad_1, rfl, rfl⟩ (fun (hc : a1 < 0) => ?_) (fun (hc : ¬ (a1 < 0)) => ?_)
  · replace hf := i_t hc hf
    refine y_iconst (n := 16) (v := 0) ⟨dJ1_canEncode_9a6ad_15, rfl⟩ ki_0 ?_
    cases hf
    exact y_ireturn (n := 17) ⟨dJ1_canEncode_9a6ad_16, rfl⟩ rfl rfl hk
  · replace hf := i_f hc hf
    refine y_iload_n (i := 0) (n := 5) ⟨dJ1_canEncode_9a6ad_4, rfl⟩ rfl ?_
    refine y_sipush (n := 8) (v := 255) ⟨dJ1_canEncode_9a6ad_5, rfl⟩ ks_255 ?_
    refine y_icmp_gt (t := 15) (n := 11) ⟨dJ1_canEncode_9a6ad_8, rfl, rfl⟩ (fun (hc : 255 < a1) => ?_) (fun (hc : ¬ (255 < a1)) => ?_)
    · replace hf := i_t hc hf
      refine y_iconst (n := 16) (v := 0) ⟨dJ1_canEncode_9a6ad_15, rfl⟩ ki_0 ?_
      cases hf
      exact y_ireturn (n := 17) ⟨dJ1_canEncode_9a6ad_16, rfl⟩ rfl rfl hk
    · replace hf := i_f hc hf
      refine y_iconst (n := 12) (v := 1) ⟨dJ1_canEncode_9a6ad_11, rfl⟩ ki_1 ?_
      refine y_goto (t := 16) ⟨dJ1_canEncode_9a6ad_12, rfl, rfl⟩ ?_
      cases hf
      exact y_ireturn (n := 17) ⟨dJ1_canEncode_9a6ad_16, rfl⟩ rfl rfl hk
theorem c_jd_canEncode (a1 : Int32) (M : dM) {o : Bool} {y : mz_M} {d : Nat} {Q : mz_P} {pc n i : Nat} {L : List (Option Value)} {st : List Value} (h : mz_d y.2.1 pc n 3 (.invokestatic i)) (hl : mz_ml y.1.cls i yJ1_canEncode_9a6ad) (hf : f_jd_canEncode a1 = o) (hd : 1 + 1 ≤ d) (hsm : (st.map (fun v => v.category)).sum ≤ 8) (hLr : mz_rL 133 L = true) (hSr : mz_rS 133 st = true) (kk : mW y d Q n L (.int (bI o) :: st) M) : mW y d Q pc L (.int a1 :: st) M :=
  y_callS kmJ1_canEncode_9a6ad ksJ1_canEncode_9a6ad h hl (ok_jd_canEncode a1 M hf) (vs := [.int a1]) rfl rfl hd hsm hLr hSr kk
def K_jd_indexOfChar_7 (Q : mz_P) (x0 : Nat) (x3 : Int32) (x4 : Int32) (M : dM) : (Int32 ⊕ Int32) → Prop
  | .inl s => mW mJ1_indexOfChar_4cfef 1 Q 7 [some (.ref (2000000 + x0)), none, none, some (.int x3), some (.int x4), some (.int s)] [] M
  | .inr r => mR Q (some (.int r)) M
noncomputable def b_jd_indexOfChar_7_7 (x0 : Nat) (x3 : Int32) (x4 : Int32) (x5 : Int32) (M : dM) : Option (Int32 ⊕ Int32) :=
  if x3 ≤ x5 then
    some (.inr (-1))
  else
    gd (x0 < 10) <|
    gd (vp_in x5 (mz_len.getD x0 0)) <|
    if ((mz_byt.getD x0 []).getD x5.toNatClampNeg 0) = x4 then
      some (.inr x5)
    else
      some (.inl (x5 + 1))
noncomputable def l_jd_indexOfChar_7 (x0 : Nat) (x3 : Int32) (x4 : Int32) (x5 : Int32) (M : dM) : Option Int32 := lpc (fun s => b_jd_indexOfChar_7_7 x0 x3 x4 s M) x5
noncomputable def f_jd_indexOfChar (s0 : Nat) (a2 : Int32) (a3 : Int32) (a4 : Int32) (M : dM) : Option Int32 :=
  (l_jd_indexOfChar_7 s0 a4 a2.toInt8.toInt32 a3 M).bind fun r5 => some r5
theorem w_b_jd_indexOfChar_7_7 (x0 : Nat) (x3 : Int32) (x4 : Int32) (x5 : Int32)  (M : dM) {Q : mz_P} {o : (Int32 ⊕ Int32)} (hf : b_jd_indexOfChar_7_7 x0 x3 x4 x5 M = some o) (hk : K_jd_indexOfChar_7 Q x0 x3 x4 M o) : mW mJ1_indexOfChar_4cfef 1 Q 7 [some (.ref (2000000 + x0)), none, none, some (.int x3), some (.int x4), some (.int x5)] [] M := by
  unfold b_jd_indexOfChar_7_7 at hf
  refine y_iload (i := 5) (n := 9) ⟨dJ1_indexOfChar_4cfef_7, rfl⟩ rfl ?_
  refine y_iload_n (i := 3) (n := 10) ⟨dJ1_indexOfChar_4cfef_9, rfl⟩ rfl ?_
  refine y_icmp_ge (t := 31) (n := 13) ⟨dJ1_indexOfChar_4cfef_10, rfl, rfl⟩ (fun (hc : x3 ≤ x5) => ?_) (fun (hc : ¬ (x3 ≤ x5)) => ?_)
  · replace hf := i_t hc hf
    refine y_iconst (n := 32) (v := (-1)) ⟨dJ1_indexOfChar_4cfef_31, rfl⟩ ki_m1 ?_
    cases hf
    exact y_ireturn (n := 33) ⟨dJ1_indexOfChar_4cfef_32, rfl⟩ rfl rfl hk
  · replace hf := i_f hc hf
    refine y_aload_n (i := 0) (n := 14) ⟨dJ1_indexOfChar_4cfef_13, rfl⟩ rfl ?_
    refine y_iload (i := 5) (n := 16) ⟨dJ1_indexOfChar_4cfef_14, rfl⟩ rfl ?_
    obtain ⟨hg1, hf⟩ := g_s hf
    obtain ⟨hg2, hf⟩ := g_s hf
    refine y_btld hg1 hg2 (n := 17) ⟨dJ1_indexOfChar_4cfef_16, rfl⟩ ?_
    refine y_iload (i := 4) (n := 19) ⟨dJ1_indexOfChar_4cfef_17, rfl⟩ rfl ?_
    refine y_icmp_ne (t := 25) (n := 22) ⟨dJ1_indexOfChar_4cfef_19, rfl, rfl⟩ (fun (hc : ¬ (((mz_byt.getD x0 []).getD x5.toNatClampNeg 0) = x4)) => ?_) (fun (hc : ((mz_byt.getD x0 []).getD x5.toNatClampNeg 0) = x4) => ?_)
    · replace hf := i_f hc hf
      refine y_iinc (i := 5) (n := 28) (b := (x5 + 1)) (L2 := [some (.ref (2000000 + x0)), none, none, some (.int x3), some (.int x4), some (.int (x5 + 1))]) ⟨dJ1_indexOfChar_4cfef_25, rfl⟩ rfl (by rw [ki_1]) (by decide) rfl rfl ?_
      refine y_goto (t := 7) ⟨dJ1_indexOfChar_4cfef_28, rfl, rfl⟩ ?_
      cases hf
      exact y_wk (L2 := [some (.ref (2000000 + x0)), none, none, some (.int x3), some (.int x4), some (.int (x5 + 1))]) ⟨Or.inr rfl, Or.inr rfl, Or.inr rfl, Or.inr rfl, Or.inr rfl, Or.inr rfl, trivial⟩ hk
    · replace hf := i_t hc hf
      refine y_iload (i := 5) (n := 24) ⟨dJ1_indexOfChar_4cfef_22, rfl⟩ rfl ?_
      cases hf
      exact y_ireturn (n := 25) ⟨dJ1_indexOfChar_4cfef_24, rfl⟩ rfl rfl hk
theorem wl_jd_indexOfChar_7 (x0 : Nat) (x3 : Int32) (x4 : Int32) (x5 : Int32) (M : dM) {Q : mz_P} {x : Int32} (hf : l_jd_indexOfChar_7 x0 x3 x4 x5 M = some x) (hk : K_jd_indexOfChar_7 Q x0 x3 x4 M (.inr x)) : mW mJ1_indexOfChar_4cfef 1 Q 7 [some (.ref (2000000 + x0)), none, none, some (.int x3), some (.int x4), some (.int x5)] [] M :=
  lpc_wp (σ := Int32) (ξ := Int32) (s := x5) (Wh := fun s => mW mJ1_indexOfChar_4cfef 1 Q 7 [some (.ref (2000000 + x0)), none, none, some (.int x3), some (.int x4), some (.int s)] [] M) (K := K_jd_indexOfChar_7 Q x0 x3 x4 M) (fun _ h => h) (fun s o hb hk => w_b_jd_indexOfChar_7_7 x0 x3 x4 s M hb hk) hf hk
theorem ok_jd_indexOfChar (s0 : Nat) (a2 : Int32) (a3 : Int32) (a4 : Int32) (M : dM) {o : Int32} (hf : f_jd_indexOfChar s0 a2 a3 a4 M = some o) : mO mJ1_indexOfChar_4cfef 1 [.ref (2000000 + s0), .int a2, .int a3, .int a4] M (some (.int o)) M := by
  refine y_ok (by decide +kernel) (Nat.le_of_ble_eq_true rfl) (L0 := [some (.ref (2000000 + s0)), some (.int a2), some (.int a3), some (.int a4), none, none]) rfl ?_
  have hk := mR_mQ (some (.int o)) M
  generalize mQ _ _ = Q at hk ⊢
  unfold f_jd_indexOfChar at hf
  refine y_iload_n (i := 1) (n := 1) ⟨dJ1_indexOfChar_4cfef_0, rfl⟩ rfl ?_
  refine y_i2b (n := 2) ⟨dJ1_indexOfChar_4cfef_1, rfl⟩ ?_
  refine y_istore (i := 4) (n := 4) (L2 := [some (.ref (2000000 + s0)), some (.int a2), some (.int a3), some (.int a4), some (.int a2.toInt8.toInt32), none]) ⟨dJ1_indexOfChar_4cfef_2, rfl⟩ (by decide) rfl rfl ?_
  refine y_iload_n (i := 2) (n := 5) ⟨dJ1_indexOfChar_4cfef_4, rfl⟩ rfl ?_
  refine y_istore (i := 5) (n := 7) (L2 := [some (.ref (2000000 + s0)), some (.int a2), some (.int a3), some (.int a4), some (.int a2.toInt8.toInt32), some (.int a3)]) ⟨dJ1_indexOfChar_4cfef_5, rfl⟩ (by decide) rfl rfl ?_
  obtain ⟨r5, hl4, hf⟩ := b_s hf
  cases hf
  exact y_wk (L2 := [some (.ref (2000000 + s0)), none, none, some (.int a4), some (.int a2.toInt8.toInt32), some (.int a3)]) ⟨Or.inr rfl, Or.inl rfl, Or.inl rfl, Or.inr rfl, Or.inr rfl, Or.inr rfl, trivial⟩ (wl_jd_indexOfChar_7 s0 a4 a2.toInt8.toInt32 a3 M hl4 hk)
theorem c_jd_indexOfChar (s0 : Nat) (a2 : Int32) (a3 : Int32) (a4 : Int32) (M : dM) {o : Int32} {y : mz_M} {d : Nat} {Q : mz_P} {pc n i : Nat} {L : List (Option Value)} {st : List Value} (h : mz_d y.2.1 pc n 3 (.invokestatic i)) (hl : mz_ml y.1.cls i yJ1_indexOfChar_4cfef) (hf : f_jd_indexOfChar s0 a2 a3 a4 M = some o) (hd : 1 + 1 ≤ d) (hsm : (st.map (fun v => v.category)).sum ≤ 8) (hLr : mz_rL 133 L = true) (hSr : mz_rS 133 st = true) (kk : mW y d Q n L (.int o :: st) M) : mW y d Q pc L (.int a4 :: .int a3 :: .int a2 :: .ref (2000000 + s0) :: st) M :=
  y_callS kmJ1_indexOfChar_4cfef ksJ1_indexOfChar_4cfef h hl (ok_jd_indexOfChar s0 a2 a3 a4 M hf) (vs := [.ref (2000000 + s0), .int a2, .int a3, .int a4]) rfl rfl hd hsm hLr hSr kk
