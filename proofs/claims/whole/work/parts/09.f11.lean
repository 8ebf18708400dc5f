def K_mo_judged_2 (Q : mz_P)  : ((Int32 × dM) ⊕ (dM ⊕ (Int32 × dM))) → Prop
  | .inl s => mW mX12_judged 4 Q 2 [some (.ref 66), some (.int s.1)] [] s.2
  | .inr (.inl t) => mW mX12_judged 4 Q 33 [some (.ref 66), none] [] t
  | .inr (.inr r) => mR Q (some (.int r.1)) r.2
noncomputable def b_mo_judged_2_2 (x1 : Int32) (M : dM) : Option ((Int32 × dM) ⊕ (dM ⊕ (Int32 × dM))) :=
  if 6 ≤ x1 then
    some (.inr (.inl M))
  else
    gd (vp_in x1 21) <|
    if (gI M 82 x1.toNatClampNeg) = 0 then
      some (.inl ((x1 + 1), M))
    else
      (f_mo_worth x1 M).bind fun q2 =>
      if q2.1 = 0 then
        some (.inl ((x1 + 1), q2.2))
      else
        some (.inr (.inr (2, q2.2)))
noncomputable def l_mo_judged_2 (x1 : Int32) (M : dM) : Option (dM ⊕ (Int32 × dM)) := lpc (fun s => b_mo_judged_2_2 s.1 s.2) (x1, M)
def K_mo_judged_36 (Q : mz_P)  : ((Int32 × dM) ⊕ (Int32 × dM)) → Prop
  | .inl s => mW mX12_judged 4 Q 36 [some (.ref 66), some (.int s.1)] [] s.2
  | .inr r => mR Q (some (.int r.1)) r.2
noncomputable def b_mo_judged_36_36 (x1 : Int32) (M : dM) : Option ((Int32 × dM) ⊕ (Int32 × dM)) :=
  if 12 ≤ x1 then
    some (.inr (0, M))
  else
    gd (vp_in x1 21) <|
    if (gI M 82 x1.toNatClampNeg) = 0 then
      some (.inl ((x1 + 1), M))
    else
      (f_mo_worth x1 M).bind fun q8 =>
      if q8.1 = 0 then
        some (.inl ((x1 + 1), q8.2))
      else
        some (.inr (1, q8.2))
noncomputable def l_mo_judged_36 (x1 : Int32) (M : dM) : Option (Int32 × dM) := lpc (fun s => b_mo_judged_36_36 s.1 s.2) (x1, M)
noncomputable def f_mo_judged (M : dM) : Option (Int32 × dM) :=
  (l_mo_judged_2 0 M).bind (Sum.elim (fun t4 =>
      (l_mo_judged_36 6 t4).bind fun r12 => some r12
    ) (fun r6 => some r6))
theorem w_b_mo_judged_2_2 (x1 : Int32)  (M : dM) {Q : mz_P} {o : ((Int32 × dM) ⊕ (dM ⊕ (Int32 × dM)))} (hf : b_mo_judged_2_2 x1 M = some o) (hk : K_mo_judged_2 Q  o) : mW mX12_judged 4 Q 2 [some (.ref 66), some (.int x1)] [] M := by
  unfold b_mo_judged_2_2 at hf
  refine y_iload_n (i := 1) (n := 3) ⟨dX12_judged_2, rfl⟩ rfl ?_
  refine y_bipush (n := 5) (v := 6) ⟨dX12_judged_3, rfl⟩ kb_6 ?_
  refine y_icmp_ge (t := 33) (n := 8) ⟨dX12_judged_5, rfl, rfl⟩ (fun (hc : 6 ≤ x1) => ?_) (fun (hc : ¬ (6 ≤ x1)) => ?_)
  · replace hf := i_t hc hf
    cases hf
    exact y_wk (L2 := [some (.ref 66), none]) ⟨Or.inr rfl, Or.inl rfl, trivial⟩ hk
  · replace hf := i_f hc hf
    refine y_aload_n (i := 0) (n := 9) ⟨dX12_judged_8, rfl⟩ rfl ?_
    refine y_getR (n := 12) ⟨dX12_judged_9, rfl⟩ kfX12_55 l_66 rfl r_66_26 ?_
    refine y_iload_n (i := 1) (n := 13) ⟨dX12_judged_12, rfl⟩ rfl ?_
    obtain ⟨hg1, hf⟩ := g_s hf
    refine y_baload (n := 14) ⟨dX12_judged_13, rfl⟩ l_82 hg1 ?_
    refine y_if_eq (t := 27) (n := 17) ⟨dX12_judged_14, rfl, rfl⟩ (fun (hc : (gI M 82 x1.toNatClampNeg) = 0) => ?_) (fun (hc : ¬ ((gI M 82 x1.toNatClampNeg) = 0)) => ?_)
    · replace hf := i_t hc hf
      refine y_iinc (i := 1) (n := 30) (b := (x1 + 1)) (L2 := [some (.ref 66), some (.int (x1 + 1))]) ⟨dX12_judged_27, rfl⟩ rfl (by rw [ki_1]) (by decide) rfl rfl ?_
      refine y_goto (t := 2) ⟨dX12_judged_30, rfl, rfl⟩ ?_
      cases hf
      exact y_wk (L2 := [some (.ref 66), some (.int (x1 + 1))]) ⟨Or.inr rfl, Or.inr rfl, trivial⟩ hk
    · replace hf := i_f hc hf
      refine y_aload_n (i := 0) (n := 18) ⟨dX12_judged_17, rfl⟩ rfl ?_
      refine y_iload_n (i := 1) (n := 19) ⟨dX12_judged_18, rfl⟩ rfl ?_
      obtain ⟨q2, hv3, hf⟩ := b_s hf
      refine c_mo_worth x1 M (n := 22) ⟨dX12_judged_19, rfl⟩ klX12_435 hv3 (by decide) (Nat.le_of_ble_eq_true rfl) rfl rfl ?_
      refine y_if_eq (t := 27) (n := 25) ⟨dX12_judged_22, rfl, rfl⟩ (fun (hc : q2.1 = 0) => ?_) (fun (hc : ¬ (q2.1 = 0)) => ?_)
      · replace hf := i_t hc hf
        refine y_iinc (i := 1) (n := 30) (b := (x1 + 1)) (L2 := [some (.ref 66), some (.int (x1 + 1))]) ⟨dX12_judged_27, rfl⟩ rfl (by rw [ki_1]) (by decide) rfl rfl ?_
        refine y_goto (t := 2) ⟨dX12_judged_30, rfl, rfl⟩ ?_
        cases hf
        exact y_wk (L2 := [some (.ref 66), some (.int (x1 + 1))]) ⟨Or.inr rfl, Or.inr rfl, trivial⟩ hk
      · replace hf := i_f hc hf
        refine y_iconst (n := 26) (v := 2) ⟨dX12_judged_25, rfl⟩ ki_2 ?_
        cases hf
        exact y_ireturn (n := 27) ⟨dX12_judged_26, rfl⟩ rfl rfl hk
theorem wl_mo_judged_2 (x1 : Int32) (M : dM) {Q : mz_P} {x : (dM ⊕ (Int32 × dM))} (hf : l_mo_judged_2 x1 M = some x) (hk : K_mo_judged_2 Q  (.inr x)) : mW mX12_judged 4 Q 2 [some (.ref 66), some (.int x1)] [] M :=
  lpc_wp (σ := (Int32 × dM)) (ξ := (dM ⊕ (Int32 × dM))) (s := (x1, M)) (Wh := fun s => mW mX12_judged 4 Q 2 [some (.ref 66), some (.int s.1)] [] s.2) (K := K_mo_judged_2 Q ) (fun _ h => h) (fun s o hb hk => w_b_mo_judged_2_2 s.1 s.2 hb hk) hf hk
theorem w_b_mo_judged_36_36 (x1 : Int32)  (M : dM) {Q : mz_P} {o : ((Int32 × dM) ⊕ (Int32 × dM))} (hf : b_mo_judged_36_36 x1 M = some o) (hk : K_mo_judged_36 Q  o) : mW mX12_judged 4 Q 36 [some (.ref 66), some (.int x1)] [] M := by
  unfold b_mo_judged_36_36 at hf
  refine y_iload_n (i := 1) (n := 37) ⟨dX12_judged_36, rfl⟩ rfl ?_
  refine y_bipush (n := 39) (v := 12) ⟨dX12_judged_37, rfl⟩ kb_12 ?_
  refine y_icmp_ge (t := 67) (n := 42) ⟨dX12_judged_39, rfl, rfl⟩ (fun (hc : 12 ≤ x1) => ?_) (fun (hc : ¬ (12 ≤ x1)) => ?_)
  · replace hf := i_t hc hf
    refine y_iconst (n := 68) (v := 0) ⟨dX12_judged_67, rfl⟩ ki_0 ?_
    cases hf
    exact y_ireturn (n := 69) ⟨dX12_judged_68, rfl⟩ rfl rfl hk
  · replace hf := i_f hc hf
    refine y_aload_n (i := 0) (n := 43) ⟨dX12_judged_42, rfl⟩ rfl ?_
    refine y_getR (n := 46) ⟨dX12_judged_43, rfl⟩ kfX12_55 l_66 rfl r_66_26 ?_
    refine y_iload_n (i := 1) (n := 47) ⟨dX12_judged_46, rfl⟩ rfl ?_
    obtain ⟨hg7, hf⟩ := g_s hf
    refine y_baload (n := 48) ⟨dX12_judged_47, rfl⟩ l_82 hg7 ?_
    refine y_if_eq (t := 61) (n := 51) ⟨dX12_judged_48, rfl, rfl⟩ (fun (hc : (gI M 82 x1.toNatClampNeg) = 0) => ?_) (fun (hc : ¬ ((gI M 82 x1.toNatClampNeg) = 0)) => ?_)
    · replace hf := i_t hc hf
      refine y_iinc (i := 1) (n := 64) (b := (x1 + 1)) (L2 := [some (.ref 66), some (.int (x1 + 1))]) ⟨dX12_judged_61, rfl⟩ rfl (by rw [ki_1]) (by decide) rfl rfl ?_
      refine y_goto (t := 36) ⟨dX12_judged_64, rfl, rfl⟩ ?_
      cases hf
      exact y_wk (L2 := [some (.ref 66), some (.int (x1 + 1))]) ⟨Or.inr rfl, Or.inr rfl, trivial⟩ hk
    · replace hf := i_f hc hf
      refine y_aload_n (i := 0) (n := 52) ⟨dX12_judged_51, rfl⟩ rfl ?_
      refine y_iload_n (i := 1) (n := 53) ⟨dX12_judged_52, rfl⟩ rfl ?_
      obtain ⟨q8, hv9, hf⟩ := b_s hf
      refine c_mo_worth x1 M (n := 56) ⟨dX12_judged_53, rfl⟩ klX12_435 hv9 (by decide) (Nat.le_of_ble_eq_true rfl) rfl rfl ?_
      refine y_if_eq (t := 61) (n := 59) ⟨dX12_judged_56, rfl, rfl⟩ (fun (hc : q8.1 = 0) => ?_) (fun (hc : ¬ (q8.1 = 0)) => ?_)
      · replace hf := i_t hc hf
        refine y_iinc (i := 1) (n := 64) (b := (x1 + 1)) (L2 := [some (.ref 66), some (.int (x1 + 1))]) ⟨dX12_judged_61, rfl⟩ rfl (by rw [ki_1]) (by decide) rfl rfl ?_
        refine y_goto (t := 36) ⟨dX12_judged_64, rfl, rfl⟩ ?_
        cases hf
        exact y_wk (L2 := [some (.ref 66), some (.int (x1 + 1))]) ⟨Or.inr rfl, Or.inr rfl, trivial⟩ hk
      · replace hf := i_f hc hf
        refine y_iconst (n := 60) (v := 1) ⟨dX12_judged_59, rfl⟩ ki_1 ?_
        cases hf
        exact y_ireturn (n := 61) ⟨dX12_judged_60, rfl⟩ rfl rfl hk
theorem wl_mo_judged_36 (x1 : Int32) (M : dM) {Q : mz_P} {x : (Int32 × dM)} (hf : l_mo_judged_36 x1 M = some x) (hk : K_mo_judged_36 Q  (.inr x)) : mW mX12_judged 4 Q 36 [some (.ref 66), some (.int x1)] [] M :=
  lpc_wp (σ := (Int32 × dM)) (ξ := (Int32 × dM)) (s := (x1, M)) (Wh := fun s => mW mX12_judged 4 Q 36 [some (.ref 66), some (.int s.1)] [] s.2) (K := K_mo_judged_36 Q ) (fun _ h => h) (fun s o hb hk => w_b_mo_judged_36_36 s.1 s.2 hb hk) hf hk
theorem ok_mo_judged  (M : dM) {o : (Int32 × dM)} (hf : f_mo_judged M = some o) : mO mX12_judged 4 [.ref 66] M (some (.int o.1)) o.2 := by
  refine y_ok (by decide +kernel) (Nat.le_of_ble_eq_true rfl) (L0 := [some (.ref 66), none]) rfl ?_
  have hk := mR_mQ (some (.int o.1)) o.2
  generalize mQ _ _ = Q at hk ⊢
  unfold f_mo_judged at hf
  refine y_iconst (n := 1) (v := 0) ⟨dX12_judged_0, rfl⟩ ki_0 ?_
  refine y_istore_n (i := 1) (n := 2) (L2 := [some (.ref 66), some (.int 0)]) ⟨dX12_judged_1, rfl⟩ (by decide) rfl rfl ?_
  obtain ⟨z13, hl5, hf⟩ := b_s hf
  refine y_wk (L2 := [some (.ref 66), some (.int 0)]) ⟨Or.inr rfl, Or.inr rfl, trivial⟩ (wl_mo_judged_2 0 M hl5 ?_)
  rcases z13 with t4 | r6
  · show mW mX12_judged 4 Q 33 [some (.ref 66), none] [] t4
    refine y_bipush (n := 35) (v := 6) ⟨dX12_judged_33, rfl⟩ kb_6 ?_
    refine y_istore_n (i := 1) (n := 36) (L2 := [some (.ref 66), some (.int 6)]) ⟨dX12_judged_35, rfl⟩ (by decide) rfl rfl ?_
    obtain ⟨r12, hl11, hf⟩ := b_s hf
    cases hf
    exact y_wk (L2 := [some (.ref 66), some (.int 6)]) ⟨Or.inr rfl, Or.inr rfl, trivial⟩ (wl_mo_judged_36 6 t4 hl11 hk)
  · cases hf
    exact hk
theorem c_mo_judged  (M : dM) {o : (Int32 × dM)} {y : mz_M} {d : Nat} {Q : mz_P} {pc n i : Nat} {L : List (Option Value)} {st : List Value} (h : mz_d y.2.1 pc n 3 (.invokevirtual i)) (hl : mz_ml y.1.cls i yX12_judged) (hf : f_mo_judged M = some o) (hd : 4 + 1 ≤ d) (hsm : (st.map (fun v => v.category)).sum ≤ 8) (hLr : mz_rL 133 L = true) (hSr : mz_rS 133 st = true) (kk : mW y d Q n L (.int o.1 :: st) o.2) : mW y d Q pc L (.ref 66 :: st) M :=
  y_callV kmX12_judged kvX12_judged l_66 (by decide +kernel) (by decide +kernel) h hl (ok_mo_judged  M hf) (vs := []) rfl rfl hd hsm hLr hSr kk
noncomputable def f_mo_eachOf (a1 : Int32) (M : dM) : Option (Int32 × dM) :=
  (f_mo_lays a1 M).bind fun q1 =>
  (f_mo_judged q1).bind fun q3 =>
  some (q3.1, q3.2)
theorem ok_mo_eachOf (a1 : Int32) (M : dM) {o : (Int32 × dM)} (hf : f_mo_eachOf a1 M = some o) : mO mX12_eachOf 5 [.ref 66, .int a1] M (some (.int o.1)) o.2 := by
  refine y_ok (by decide +kernel) (Nat.le_of_ble_eq_true rfl) (L0 := [some (.ref 66), some (.int a1)]) rfl ?_
  have hk := mR_mQ (some (.int o.1)) o.2
  generalize mQ _ _ = Q at hk ⊢
  unfold f_mo_eachOf at hf
  refine y_aload_n (i := 0) (n := 1) ⟨dX12_eachOf_0, rfl⟩ rfl ?_
  refine y_iload_n (i := 1) (n := 2) ⟨dX12_eachOf_1, rfl⟩ rfl ?_
  obtain ⟨q1, hv2, hf⟩ := b_s hf
  refine c_mo_lays a1 M (n := 5) ⟨dX12_eachOf_2, rfl⟩ klX12_429 hv2 (by decide) (Nat.le_of_ble_eq_true rfl) rfl rfl ?_
  refine y_aload_n (i := 0) (n := 6) ⟨dX12_eachOf_5, rfl⟩ rfl ?_
  obtain ⟨q3, hv4, hf⟩ := b_s hf
  refine c_mo_judged q1 (n := 9) ⟨dX12_eachOf_6, rfl⟩ klX12_432 hv4 (by decide) (Nat.le_of_ble_eq_true rfl) rfl rfl ?_
  cases hf
  exact y_ireturn (n := 10) ⟨dX12_eachOf_9, rfl⟩ rfl rfl hk
theorem c_mo_eachOf (a1 : Int32) (M : dM) {o : (Int32 × dM)} {y : mz_M} {d : Nat} {Q : mz_P} {pc n i : Nat} {L : List (Option Value)} {st : List Value} (h : mz_d y.2.1 pc n 3 (.invokevirtual i)) (hl : mz_ml y.1.cls i yX12_eachOf) (hf : f_mo_eachOf a1 M = some o) (hd : 5 + 1 ≤ d) (hsm : (st.map (fun v => v.category)).sum ≤ 8) (hLr : mz_rL 133 L = true) (hSr : mz_rS 133 st = true) (kk : mW y d Q n L (.int o.1 :: st) o.2) : mW y d Q pc L (.int a1 :: .ref 66 :: st) M :=
  y_callV kmX12_eachOf kvX12_eachOf l_66 (by decide +kernel) (by decide +kernel) h hl (ok_mo_eachOf a1 M hf) (vs := [.int a1]) rfl rfl hd hsm hLr hSr kk
noncomputable def f_mo_each (a1 : Int32) (M : dM) : Option (Int32 × dM) :=
  if (f_mo_isFind a1 (sI M 66 0 0)) = true then
    (f_mo_eachOf a1 (sI M 66 0 0)).bind fun q1 =>
    some (q1.1, q1.2)
  else
    some ((-1), (sI M 66 0 0))
theorem ok_mo_each (a1 : Int32) (M : dM) {o : (Int32 × dM)} (hf : f_mo_each a1 M = some o) : mO mX12_each 6 [.ref 66, .int a1] M (some (.int o.1)) o.2 := by
  refine y_ok (by decide +kernel) (Nat.le_of_ble_eq_true rfl) (L0 := [some (.ref 66), some (.int a1)]) rfl ?_
  have hk := mR_mQ (some (.int o.1)) o.2
  generalize mQ _ _ = Q at hk ⊢
  unfold f_mo_each at hf
  refine y_aload_n (i := 0) (n := 1) ⟨dX12_each_0, rfl⟩ rfl ?_
  refine y_iconst (n := 2) (v := 0) ⟨dX12_each_1, rfl⟩ ki_0 ?_
  refine y_putI (n := 5) ⟨dX12_each_2, rfl⟩ kfX12_214 l_66 (by decide +kernel) rfl ?_
  refine y_aload_n (i := 0) (n := 6) ⟨dX12_each_5, rfl⟩ rfl ?_
  refine y_iload_n (i := 1) (n := 7) ⟨dX12_each_6, rfl⟩ rfl ?_
  refine c_mo_isFind a1 (sI M 66 0 0) (n := 10) ⟨dX12_each_7, rfl⟩ klX12_249 rfl (by decide) (Nat.le_of_ble_eq_true rfl) rfl rfl ?_
  refine y_if_eq (t := 21) (n := 13) ⟨dX12_each_10, rfl, rfl⟩ (fun h0 => ?_) (fun h0 => ?_)
  · have hc := bI_0 h0
    replace hf := i_f hc hf
    refine y_iconst (n := 22) (v := (-1)) ⟨dX12_each_21, rfl⟩ ki_m1 ?_
    cases hf
    exact y_ireturn (n := 23) ⟨dX12_each_22, rfl⟩ rfl rfl hk
  · have hc := bI_1 h0
    replace hf := i_t hc hf
    refine y_aload_n (i := 0) (n := 14) ⟨dX12_each_13, rfl⟩ rfl ?_
    refine y_iload_n (i := 1) (n := 15) ⟨dX12_each_14, rfl⟩ rfl ?_
    obtain ⟨q1, hv2, hf⟩ := b_s hf
    refine c_mo_eachOf a1 (sI M 66 0 0) (n := 18) ⟨dX12_each_15, rfl⟩ klX12_438 hv2 (by decide) (Nat.le_of_ble_eq_true rfl) rfl rfl ?_
    refine y_goto (t := 22) ⟨dX12_each_18, rfl, rfl⟩ ?_
    cases hf
    exact y_ireturn (n := 23) ⟨dX12_each_22, rfl⟩ rfl rfl hk
theorem c_mo_each (a1 : Int32) (M : dM) {o : (Int32 × dM)} {y : mz_M} {d : Nat} {Q : mz_P} {pc n i : Nat} {L : List (Option Value)} {st : List Value} (h : mz_d y.2.1 pc n 3 (.invokevirtual i)) (hl : mz_ml y.1.cls i yX12_each) (hf : f_mo_each a1 M = some o) (hd : 6 + 1 ≤ d) (hsm : (st.map (fun v => v.category)).sum ≤ 8) (hLr : mz_rL 133 L = true) (hSr : mz_rS 133 st = true) (kk : mW y d Q n L (.int o.1 :: st) o.2) : mW y d Q pc L (.int a1 :: .ref 66 :: st) M :=
  y_callV kmX12_each kvX12_each l_66 (by decide +kernel) (by decide +kernel) h hl (ok_mo_each a1 M hf) (vs := [.int a1]) rfl rfl hd hsm hLr hSr kk
noncomputable def f_mo_isStopped (a1 : Int32) (a2 : Int32) (M : dM) : Option (Bool × dM) :=
  (f_mo_lays a2 M).bind fun q1 =>
  (f_mo_worth (12 + a1) q1).bind fun q3 =>
  if q3.1 = 0 then
    some (false, q3.2)
  else
    some (true, q3.2)
theorem ok_mo_isStopped (a1 : Int32) (a2 : Int32) (M : dM) {o : (Bool × dM)} (hf : f_mo_isStopped a1 a2 M = some o) : mO mX12_isStopped 4 [.ref 66, .int a1, .int a2] M (some (.int (bI o.1))) o.2 := by
  refine y_ok (by decide +kernel) (Nat.le_of_ble_eq_true rfl) (L0 := [some (.ref 66), some (.int a1), some (.int a2)]) rfl ?_
  have hk := mR_mQ (some (.int (bI o.1))) o.2
  generalize mQ _ _ = Q at hk ⊢
  unfold f_mo_isStopped at hf
  refine y_aload_n (i := 0) (n := 1) ⟨dX12_isStopped_0, rfl⟩ rfl ?_
  refine y_iload_n (i := 2) (n := 2) ⟨dX12_isStopped_1, rfl⟩ rfl ?_
  obtain ⟨q1, hv2, hf⟩ := b_s hf
  refine c_mo_lays a2 M (n := 5) ⟨dX12_isStopped_2, rfl⟩ klX12_429 hv2 (by decide) (Nat.le_of_ble_eq_true rfl) rfl rfl ?_
  refine y_aload_n (i := 0) (n := 6) ⟨dX12_isStopped_5, rfl⟩ rfl ?_
  refine y_bipush (n := 8) (v := 12) ⟨dX12_isStopped_6, rfl⟩ kb_12 ?_
  refine y_iload_n (i := 1) (n := 9) ⟨dX12_isStopped_8, rfl⟩ rfl ?_
  refine y_iadd (n := 10) ⟨dX12_isStopped_9, rfl⟩ ?_
  obtain ⟨q3, hv4, hf⟩ := b_s hf
  refine c_mo_worth (12 + a1) q1 (n := 13) ⟨dX12_isStopped_10, rfl⟩ klX12_435 hv4 (by decide) (Nat.le_of_ble_eq_true rfl) rfl rfl ?_
  refine y_if_eq (t := 20) (n := 16) ⟨dX12_isStopped_13, rfl, rfl⟩ (fun (hc : q3.1 = 0) => ?_) (fun (hc : ¬ (q3.1 = 0)) => ?_)
  · replace hf := i_t hc hf
    refine y_iconst (n := 21) (v := 0) ⟨dX12_isStopped_20, rfl⟩ ki_0 ?_
    cases hf
    exact y_ireturn (n := 22) ⟨dX12_isStopped_21, rfl⟩ rfl rfl hk
  · replace hf := i_f hc hf
    refine y_iconst (n := 17) (v := 1) ⟨dX12_isStopped_16, rfl⟩ ki_1 ?_
    refine y_goto (t := 21) ⟨dX12_isStopped_17, rfl, rfl⟩ ?_
    cases hf
    exact y_ireturn (n := 22) ⟨dX12_isStopped_21, rfl⟩ rfl rfl hk
theorem c_mo_isStopped (a1 : Int32) (a2 : Int32) (M : dM) {o : (Bool × dM)} {y : mz_M} {d : Nat} {Q : mz_P} {pc n i : Nat} {L : List (Option Value)} {st : List Value} (h : mz_d y.2.1 pc n 3 (.invokevirtual i)) (hl : mz_ml y.1.cls i yX12_isStopped) (hf : f_mo_isStopped a1 a2 M = some o) (hd : 4 + 1 ≤ d) (hsm : (st.map (fun v => v.category)).sum ≤ 8) (hLr : mz_rL 133 L = true) (hSr : mz_rS 133 st = true) (kk : mW y d Q n L (.int (bI o.1) :: st) o.2) : mW y d Q pc L (.int a2 :: .int a1 :: .ref 66 :: st) M :=
  y_callV kmX12_isStopped kvX12_isStopped l_66 (by decide +kernel) (by decide +kernel) h hl (ok_mo_isStopped a1 a2 M hf) (vs := [.int a1, .int a2]) rfl rfl hd hsm hLr hSr kk
noncomputable def f_mo_stops (a1 : Int32) (a2 : Int32) (M : dM) : Option (Int32 × dM) :=
  if (f_mo_isFind a2 (sI M 66 0 0)) = true then
    if (f_mo_within a1 0 7) = true then
      gd (vp_in (12 + a1) 21) <|
      if (gI (sI M 66 0 0) 82 (12 + a1).toNatClampNeg) = 0 then
        some ((-1), (sI M 66 0 0))
      else
        (f_mo_isStopped a1 a2 (sI M 66 0 0)).bind fun q2 =>
        if q2.1 = true then
          some (1, q2.2)
        else
          some (0, q2.2)
    else
      some ((-1), (sI M 66 0 0))
  else
    some ((-1), (sI M 66 0 0))
theorem ok_mo_stops (a1 : Int32) (a2 : Int32) (M : dM) {o : (Int32 × dM)} (hf : f_mo_stops a1 a2 M = some o) : mO mX12_stops 5 [.ref 66, .int a1, .int a2] M (some (.int o.1)) o.2 := by
  refine y_ok (by decide +kernel) (Nat.le_of_ble_eq_true rfl) (L0 := [some (.ref 66), some (.int a1), some (.int a2)]) rfl ?_
  have hk := mR_mQ (some (.int o.1)) o.2
  generalize mQ _ _ = Q at hk ⊢
  unfold f_mo_stops at hf
  refine y_aload_n (i := 0) (n := 1) ⟨dX12_stops_0, rfl⟩ rfl ?_
  refine y_iconst (n := 2) (v := 0) ⟨dX12_stops_1, rfl⟩ ki_0 ?_
  refine y_putI (n := 5) ⟨dX12_stops_2, rfl⟩ kfX12_214 l_66 (by decide +kernel) rfl ?_
  refine y_aload_n (i := 0) (n := 6) ⟨dX12_stops_5, rfl⟩ rfl ?_
  refine y_iload_n (i := 2) (n := 7) ⟨dX12_stops_6, rfl⟩ rfl ?_
  refine c_mo_isFind a2 (sI M 66 0 0) (n := 10) ⟨dX12_stops_7, rfl⟩ klX12_249 rfl (by decide) (Nat.le_of_ble_eq_true rfl) rfl rfl ?_
  refine y_if_eq (t := 35) (n := 13) ⟨dX12_stops_10, rfl, rfl⟩ (fun h0 => ?_) (fun h0 => ?_)
  · have hc := bI_0 h0
    replace hf := i_f hc hf
    refine y_iconst (n := 36) (v := (-1)) ⟨dX12_stops_35, rfl⟩ ki_m1 ?_
    cases hf
    exact y_ireturn (n := 37) ⟨dX12_stops_36, rfl⟩ rfl rfl hk
  · have hc := bI_1 h0
    replace hf := i_t hc hf
    refine y_iload_n (i := 1) (n := 14) ⟨dX12_stops_13, rfl⟩ rfl ?_
    refine y_iconst (n := 15) (v := 0) ⟨dX12_stops_14, rfl⟩ ki_0 ?_
    refine y_bipush (n := 17) (v := 7) ⟨dX12_stops_15, rfl⟩ kb_7 ?_
    refine c_mo_within a1 0 7 (sI M 66 0 0) (n := 20) ⟨dX12_stops_17, rfl⟩ klX12_221 rfl (by decide) (Nat.le_of_ble_eq_true rfl) rfl rfl ?_
    refine y_if_eq (t := 35) (n := 23) ⟨dX12_stops_20, rfl, rfl⟩ (fun h0 => ?_) (fun h0 => ?_)
    · have hc := bI_0 h0
      replace hf := i_f hc hf
      refine y_iconst (n := 36) (v := (-1)) ⟨dX12_stops_35, rfl⟩ ki_m1 ?_
      cases hf
      exact y_ireturn (n := 37) ⟨dX12_stops_36, rfl⟩ rfl rfl hk
    · have hc := bI_1 h0
      replace hf := i_t hc hf
      refine y_aload_n (i := 0) (n := 24) ⟨dX12_stops_23, rfl⟩ rfl ?_
      refine y_getR (n := 27) ⟨dX12_stops_24, rfl⟩ kfX12_55 l_66 rfl r_66_26 ?_
      refine y_bipush (n := 29) (v := 12) ⟨dX12_stops_27, rfl⟩ kb_12 ?_
      refine y_iload_n (i := 1) (n := 30) ⟨dX12_stops_29, rfl⟩ rfl ?_
      refine y_iadd (n := 31) ⟨dX12_stops_30, rfl⟩ ?_
      obtain ⟨hg1, hf⟩ := g_s hf
      refine y_baload (n := 32) ⟨dX12_stops_31, rfl⟩ l_82 hg1 ?_
      refine y_if_ne (t := 37) (n := 35) ⟨dX12_stops_32, rfl, rfl⟩ (fun (hc : ¬ ((gI (sI M 66 0 0) 82 (12 + a1).toNatClampNeg) = 0)) => ?_) (fun (hc : (gI (sI M 66 0 0) 82 (12 + a1).toNatClampNeg) = 0) => ?_)
      · replace hf := i_f hc hf
        refine y_aload_n (i := 0) (n := 38) ⟨dX12_stops_37, rfl⟩ rfl ?_
        refine y_iload_n (i := 1) (n := 39) ⟨dX12_stops_38, rfl⟩ rfl ?_
        refine y_iload_n (i := 2) (n := 40) ⟨dX12_stops_39, rfl⟩ rfl ?_
        obtain ⟨q2, hv3, hf⟩ := b_s hf
        refine c_mo_isStopped a1 a2 (sI M 66 0 0) (n := 43) ⟨dX12_stops_40, rfl⟩ klX12_441 hv3 (by decide) (Nat.le_of_ble_eq_true rfl) rfl rfl ?_
        refine y_if_eq (t := 50) (n := 46) ⟨dX12_stops_43, rfl, rfl⟩ (fun h0 => ?_) (fun h0 => ?_)
        · have hc := bI_0 h0
          replace hf := i_f hc hf
          refine y_iconst (n := 51) (v := 0) ⟨dX12_stops_50, rfl⟩ ki_0 ?_
          cases hf
          exact y_ireturn (n := 52) ⟨dX12_stops_51, rfl⟩ rfl rfl hk
        · have hc := bI_1 h0
          replace hf := i_t hc hf
          refine y_iconst (n := 47) (v := 1) ⟨dX12_stops_46, rfl⟩ ki_1 ?_
          refine y_goto (t := 51) ⟨dX12_stops_47, rfl, rfl⟩ ?_
          cases hf
          exact y_ireturn (n := 52) ⟨dX12_stops_51, rfl⟩ rfl rfl hk
      · replace hf := i_t hc hf
        refine y_iconst (n := 36) (v := (-1)) ⟨dX12_stops_35, rfl⟩ ki_m1 ?_
        cases hf
        exact y_ireturn (n := 37) ⟨dX12_stops_36, rfl⟩ rfl rfl hk
theorem c_mo_stops (a1 : Int32) (a2 : Int32) (M : dM) {o : (Int32 × dM)} {y : mz_M} {d : Nat} {Q : mz_P} {pc n i : Nat} {L : List (Option Value)} {st : List Value} (h : mz_d y.2.1 pc n 3 (.invokevirtual i)) (hl : mz_ml y.1.cls i yX12_stops) (hf : f_mo_stops a1 a2 M = some o) (hd : 5 + 1 ≤ d) (hsm : (st.map (fun v => v.category)).sum ≤ 8) (hLr : mz_rL 133 L = true) (hSr : mz_rS 133 st = true) (kk : mW y d Q n L (.int o.1 :: st) o.2) : mW y d Q pc L (.int a2 :: .int a1 :: .ref 66 :: st) M :=
  y_callV kmX12_stops kvX12_stops l_66 (by decide +kernel) (by decide +kernel) h hl (ok_mo_stops a1 a2 M hf) (vs := [.int a1, .int a2]) rfl rfl hd hsm hLr hSr kk
def K_mo_counts_25 (Q : mz_P) (x1 : Int32) (x2 : Int32) : ((Int32 × dM) ⊕ dM) → Prop
  | .inl s => mW mX12_counts 6 Q 25 [some (.ref 66), some (.int x1), some (.int x2), some (.int s.1), none, none] [] s.2
  | .inr r => mR Q none r
noncomputable def b_mo_counts_25_169 (x1 : Int32) (x2 : Int32) (x3 : Int32) (y1 : Int32) (y2 : Int32) (M : dM) : Option ((Int32 × dM) ⊕ dM) :=
  some (.inl ((x3 + 1), (sI M 66 52 (y1 + y2))))
noncomputable def b_mo_counts_25_168 (x1 : Int32) (x2 : Int32) (x3 : Int32) (y1 : Int32) (M : dM) : Option ((Int32 × dM) ⊕ dM) :=
  b_mo_counts_25_169 x1 x2 x3 y1 0 M
noncomputable def b_mo_counts_25_145 (x1 : Int32) (x2 : Int32) (x3 : Int32) (x4 : Int32) (x5 : Int32) (y1 : Int32) (y2 : Int32) (M : dM) : Option ((Int32 × dM) ⊕ dM) :=
  if x5 = 0 then
    b_mo_counts_25_168 x1 x2 x3 (gI (sI M 66 54 (y1 + y2)) 66 52) (sI M 66 54 (y1 + y2))
  else
    if x4 = 0 then
      b_mo_counts_25_168 x1 x2 x3 (gI (sI M 66 54 (y1 + y2)) 66 52) (sI M 66 54 (y1 + y2))
    else
      b_mo_counts_25_169 x1 x2 x3 (gI (sI M 66 54 (y1 + y2)) 66 52) 1 (sI M 66 54 (y1 + y2))
noncomputable def b_mo_counts_25_126 (x1 : Int32) (x2 : Int32) (x3 : Int32) (x4 : Int32) (x5 : Int32) (y1 : Int32) (y2 : Int32) (M : dM) : Option ((Int32 × dM) ⊕ dM) :=
  if x4 = 0 then
    b_mo_counts_25_145 x1 x2 x3 x4 x5 (gI (sI M 66 51 (y1 + y2)) 66 54) 0 (sI M 66 51 (y1 + y2))
  else
    b_mo_counts_25_145 x1 x2 x3 x4 x5 (gI (sI M 66 51 (y1 + y2)) 66 54) 1 (sI M 66 51 (y1 + y2))
noncomputable def b_mo_counts_25_109 (x1 : Int32) (x2 : Int32) (x3 : Int32) (x4 : Int32) (y0 : Int32) (M : dM) : Option ((Int32 × dM) ⊕ dM) :=
  if y0 = 0 then
    b_mo_counts_25_126 x1 x2 x3 x4 y0 (gI M 66 51) 0 M
  else
    b_mo_counts_25_126 x1 x2 x3 x4 y0 (gI M 66 51) 1 M
noncomputable def b_mo_counts_25_92 (x1 : Int32) (x2 : Int32) (x3 : Int32) (y0 : Int32) (M : dM) : Option ((Int32 × dM) ⊕ dM) :=
  gd (vp_in x3 40) <|
  if (gI M 78 x3.toNatClampNeg) = x1 then
    b_mo_counts_25_109 x1 x2 x3 y0 1 M
  else
    b_mo_counts_25_109 x1 x2 x3 y0 0 M
noncomputable def b_mo_counts_25_25 (x1 : Int32) (x2 : Int32) (x3 : Int32) (M : dM) : Option ((Int32 × dM) ⊕ dM) :=
  if (gI M 66 9) ≤ x3 then
    some (.inr M)
  else
    if x2 = 0 then
      (f_mo_factOf x3 14 M).bind fun v6 =>
      if v6 ≤ 0 then
        b_mo_counts_25_92 x1 x2 x3 0 M
      else
        b_mo_counts_25_92 x1 x2 x3 1 M
    else
      if x2 = 1 then
        (f_mo_factOf x3 12 M).bind fun v4 =>
        if v4 = 1 then
          b_mo_counts_25_92 x1 x2 x3 1 M
        else
          b_mo_counts_25_92 x1 x2 x3 0 M
      else
        (f_mo_eachOf x3 M).bind fun q1 =>
        if q1.1 ≤ 0 then
          b_mo_counts_25_92 x1 x2 x3 0 q1.2
        else
          b_mo_counts_25_92 x1 x2 x3 1 q1.2
noncomputable def l_mo_counts_25 (x1 : Int32) (x2 : Int32) (x3 : Int32) (M : dM) : Option dM := lpc (fun s => b_mo_counts_25_25 x1 x2 s.1 s.2) (x3, M)
noncomputable def f_mo_counts (a1 : Int32) (a2 : Int32) (M : dM) : Option dM :=
  (l_mo_counts_25 a1 a2 0 (sI (sI (sI (sI M 66 51 0) 66 52 0) 66 53 (gI (sI (sI M 66 51 0) 66 52 0) 66 9)) 66 54 0)).bind fun r10 => some r10
theorem w_b_mo_counts_25_169 (x1 : Int32) (x2 : Int32) (x3 : Int32) (y1 : Int32) (y2 : Int32)  (M : dM) {Q : mz_P} {o : ((Int32 × dM) ⊕ dM)} (hf : b_mo_counts_25_169 x1 x2 x3 y1 y2 M = some o) (hk : K_mo_counts_25 Q x1 x2 o) : mW mX12_counts 6 Q 169 [some (.ref 66), some (.int x1), some (.int x2), some (.int x3), none, none] [.int y2, .int y1, .ref 66] M := by
  unfold b_mo_counts_25_169 at hf
  refine y_iadd (n := 170) ⟨dX12_counts_169, rfl⟩ ?_
  refine y_putI (n := 173) ⟨dX12_counts_170, rfl⟩ kfX12_447 l_66 (by decide +kernel) rfl ?_
  refine y_iinc (i := 3) (n := 176) (b := (x3 + 1)) (L2 := [some (.ref 66), some (.int x1), some (.int x2), some (.int (x3 + 1)), none, none]) ⟨dX12_counts_173, rfl⟩ rfl (by rw [ki_1]) (by decide) rfl rfl ?_
  refine y_goto (t := 25) ⟨dX12_counts_176, rfl, rfl⟩ ?_
  cases hf
  exact y_wk (L2 := [some (.ref 66), some (.int x1), some (.int x2), some (.int (x3 + 1)), none, none]) ⟨Or.inr rfl, Or.inr rfl, Or.inr rfl, Or.inr rfl, Or.inr rfl, Or.inr rfl, trivial⟩ hk
theorem w_b_mo_counts_25_168 (x1 : Int32) (x2 : Int32) (x3 : Int32) (y1 : Int32)  (M : dM) {Q : mz_P} {o : ((Int32 × dM) ⊕ dM)} (hf : b_mo_counts_25_168 x1 x2 x3 y1 M = some o) (hk : K_mo_counts_25 Q x1 x2 o) : mW mX12_counts 6 Q 168 [some (.ref 66), some (.int x1), some (.int x2), some (.int x3), none, none] [.int y1, .ref 66] M := by
  unfold b_mo_counts_25_168 at hf
  refine y_iconst (n := 169) (v := 0) ⟨dX12_counts_168, rfl⟩ ki_0 ?_
  exact y_wk (L2 := [some (.ref 66), some (.int x1), some (.int x2), some (.int x3), none, none]) ⟨Or.inr rfl, Or.inr rfl, Or.inr rfl, Or.inr rfl, Or.inr rfl, Or.inr rfl, trivial⟩ (w_b_mo_counts_25_169 x1 x2 x3 y1 0 M hf hk)
theorem w_b_mo_counts_25_145 (x1 : Int32) (x2 : Int32) (x3 : Int32) (x4 : Int32) (x5 : Int32) (y1 : Int32) (y2 : Int32)  (M : dM) {Q : mz_P} {o : ((Int32 × dM) ⊕ dM)} (hf : b_mo_counts_25_145 x1 x2 x3 x4 x5 y1 y2 M = some o) (hk : K_mo_counts_25 Q x1 x2 o) : mW mX12_counts 6 Q 145 [some (.ref 66), some (.int x1), some (.int x2), some (.int x3), some (.int x4), some (.int x5)] [.int y2, .int y1, .ref 66] M := by
  unfold b_mo_counts_25_145 at hf
  refine y_iadd (n := 146) ⟨dX12_counts_145, rfl⟩ ?_
  refine y_putI (n := 149) ⟨dX12_counts_146, rfl⟩ kfX12_453 l_66 (by decide +kernel) rfl ?_
  refine y_aload_n (i := 0) (n := 150) ⟨dX12_counts_149, rfl⟩ rfl ?_
  refine y_dup_r (n := 151) ⟨dX12_counts_150, rfl⟩ ?_
  refine y_getI (n := 154) ⟨dX12_counts_151, rfl⟩ kfX12_447 l_66 rfl ?_
  refine y_iload (i := 5) (n := 156) ⟨dX12_counts_154, rfl⟩ rfl ?_
  refine y_if_eq (t := 168) (n := 159) ⟨dX12_counts_156, rfl, rfl⟩ (fun (hc : x5 = 0) => ?_) (fun (hc : ¬ (x5 = 0)) => ?_)
  · replace hf := i_t hc hf
    exact y_wk (L2 := [some (.ref 66), some (.int x1), some (.int x2), some (.int x3), none, none]) ⟨Or.inr rfl, Or.inr rfl, Or.inr rfl, Or.inr rfl, Or.inl rfl, Or.inl rfl, trivial⟩ (w_b_mo_counts_25_168 x1 x2 x3 (gI (sI M 66 54 (y1 + y2)) 66 52) (sI M 66 54 (y1 + y2)) hf hk)
  · replace hf := i_f hc hf
    refine y_iload (i := 4) (n := 161) ⟨dX12_counts_159, rfl⟩ rfl ?_
    refine y_if_eq (t := 168) (n := 164) ⟨dX12_counts_161, rfl, rfl⟩ (fun (hc : x4 = 0) => ?_) (fun (hc : ¬ (x4 = 0)) => ?_)
    · replace hf := i_t hc hf
      exact y_wk (L2 := [some (.ref 66), some (.int x1), some (.int x2), some (.int x3), none, none]) ⟨Or.inr rfl, Or.inr rfl, Or.inr rfl, Or.inr rfl, Or.inl rfl, Or.inl rfl, trivial⟩ (w_b_mo_counts_25_168 x1 x2 x3 (gI (sI M 66 54 (y1 + y2)) 66 52) (sI M 66 54 (y1 + y2)) hf hk)
    · replace hf := i_f hc hf
      refine y_iconst (n := 165) (v := 1) ⟨dX12_counts_164, rfl⟩ ki_1 ?_
      refine y_goto (t := 169) ⟨dX12_counts_165, rfl, rfl⟩ ?_
      exact y_wk (L2 := [some (.ref 66), some (.int x1), some (.int x2), some (.int x3), none, none]) ⟨Or.inr rfl, Or.inr rfl, Or.inr rfl, Or.inr rfl, Or.inl rfl, Or.inl rfl, trivial⟩ (w_b_mo_counts_25_169 x1 x2 x3 (gI (sI M 66 54 (y1 + y2)) 66 52) 1 (sI M 66 54 (y1 + y2)) hf hk)
theorem w_b_mo_counts_25_126 (x1 : Int32) (x2 : Int32) (x3 : Int32) (x4 : Int32) (x5 : Int32) (y1 : Int32) (y2 : Int32)  (M : dM) {Q : mz_P} {o : ((Int32 × dM) ⊕ dM)} (hf : b_mo_counts_25_126 x1 x2 x3 x4 x5 y1 y2 M = some o) (hk : K_mo_counts_25 Q x1 x2 o) : mW mX12_counts 6 Q 126 [some (.ref 66), some (.int x1), some (.int x2), some (.int x3), some (.int x4), some (.int x5)] [.int y2, .int y1, .ref 66] M := by
  unfold b_mo_counts_25_126 at hf
  refine y_iadd (n := 127) ⟨dX12_counts_126, rfl⟩ ?_
  refine y_putI (n := 130) ⟨dX12_counts_127, rfl⟩ kfX12_444 l_66 (by decide +kernel) rfl ?_
  refine y_aload_n (i := 0) (n := 131) ⟨dX12_counts_130, rfl⟩ rfl ?_
  refine y_dup_r (n := 132) ⟨dX12_counts_131, rfl⟩ ?_
  refine y_getI (n := 135) ⟨dX12_counts_132, rfl⟩ kfX12_453 l_66 rfl ?_
  refine y_iload (i := 4) (n := 137) ⟨dX12_counts_135, rfl⟩ rfl ?_
  refine y_if_eq (t := 144) (n := 140) ⟨dX12_counts_137, rfl, rfl⟩ (fun (hc : x4 = 0) => ?_) (fun (hc : ¬ (x4 = 0)) => ?_)
  · replace hf := i_t hc hf
    refine y_iconst (n := 145) (v := 0) ⟨dX12_counts_144, rfl⟩ ki_0 ?_
    exact y_wk (L2 := [some (.ref 66), some (.int x1), some (.int x2), some (.int x3), some (.int x4), some (.int x5)]) ⟨Or.inr rfl, Or.inr rfl, Or.inr rfl, Or.inr rfl, Or.inr rfl, Or.inr rfl, trivial⟩ (w_b_mo_counts_25_145 x1 x2 x3 x4 x5 (gI (sI M 66 51 (y1 + y2)) 66 54) 0 (sI M 66 51 (y1 + y2)) hf hk)
  · replace hf := i_f hc hf
    refine y_iconst (n := 141) (v := 1) ⟨dX12_counts_140, rfl⟩ ki_1 ?_
    refine y_goto (t := 145) ⟨dX12_counts_141, rfl, rfl⟩ ?_
    exact y_wk (L2 := [some (.ref 66), some (.int x1), some (.int x2), some (.int x3), some (.int x4), some (.int x5)]) ⟨Or.inr rfl, Or.inr rfl, Or.inr rfl, Or.inr rfl, Or.inr rfl, Or.inr rfl, trivial⟩ (w_b_mo_counts_25_145 x1 x2 x3 x4 x5 (gI (sI M 66 51 (y1 + y2)) 66 54) 1 (sI M 66 51 (y1 + y2)) hf hk)
theorem w_b_mo_counts_25_109 (x1 : Int32) (x2 : Int32) (x3 : Int32) (x4 : Int32) (y0 : Int32)  (M : dM) {Q : mz_P} {o : ((Int32 × dM) ⊕ dM)} (hf : b_mo_counts_25_109 x1 x2 x3 x4 y0 M = some o) (hk : K_mo_counts_25 Q x1 x2 o) : mW mX12_counts 6 Q 109 [some (.ref 66), some (.int x1), some (.int x2), some (.int x3), some (.int x4), none] [.int y0] M := by
  unfold b_mo_counts_25_109 at hf
  refine y_istore (i := 5) (n := 111) (L2 := [some (.ref 66), some (.int x1), some (.int x2), some (.int x3), some (.int x4), some (.int y0)]) ⟨dX12_counts_109, rfl⟩ (by decide) rfl rfl ?_
  refine y_aload_n (i := 0) (n := 112) ⟨dX12_counts_111, rfl⟩ rfl ?_
  refine y_dup_r (n := 113) ⟨dX12_counts_112, rfl⟩ ?_
  refine y_getI (n := 116) ⟨dX12_counts_113, rfl⟩ kfX12_444 l_66 rfl ?_
  refine y_iload (i := 5) (n := 118) ⟨dX12_counts_116, rfl⟩ rfl ?_
  refine y_if_eq (t := 125) (n := 121) ⟨dX12_counts_118, rfl, rfl⟩ (fun (hc : y0 = 0) => ?_) (fun (hc : ¬ (y0 = 0)) => ?_)
  · replace hf := i_t hc hf
    refine y_iconst (n := 126) (v := 0) ⟨dX12_counts_125, rfl⟩ ki_0 ?_
    exact y_wk (L2 := [some (.ref 66), some (.int x1), some (.int x2), some (.int x3), some (.int x4), some (.int y0)]) ⟨Or.inr rfl, Or.inr rfl, Or.inr rfl, Or.inr rfl, Or.inr rfl, Or.inr rfl, trivial⟩ (w_b_mo_counts_25_126 x1 x2 x3 x4 y0 (gI M 66 51) 0 M hf hk)
  · replace hf := i_f hc hf
    refine y_iconst (n := 122) (v := 1) ⟨dX12_counts_121, rfl⟩ ki_1 ?_
    refine y_goto (t := 126) ⟨dX12_counts_122, rfl, rfl⟩ ?_
    exact y_wk (L2 := [some (.ref 66), some (.int x1), some (.int x2), some (.int x3), some (.int x4), some (.int y0)]) ⟨Or.inr rfl, Or.inr rfl, Or.inr rfl, Or.inr rfl, Or.inr rfl, Or.inr rfl, trivial⟩ (w_b_mo_counts_25_126 x1 x2 x3 x4 y0 (gI M 66 51) 1 M hf hk)
theorem w_b_mo_counts_25_92 (x1 : Int32) (x2 : Int32) (x3 : Int32) (y0 : Int32)  (M : dM) {Q : mz_P} {o : ((Int32 × dM) ⊕ dM)} (hf : b_mo_counts_25_92 x1 x2 x3 y0 M = some o) (hk : K_mo_counts_25 Q x1 x2 o) : mW mX12_counts 6 Q 92 [some (.ref 66), some (.int x1), some (.int x2), some (.int x3), none, none] [.int y0] M := by
  unfold b_mo_counts_25_92 at hf
  refine y_istore (i := 4) (n := 94) (L2 := [some (.ref 66), some (.int x1), some (.int x2), some (.int x3), some (.int y0), none]) ⟨dX12_counts_92, rfl⟩ (by decide) rfl rfl ?_
  refine y_aload_n (i := 0) (n := 95) ⟨dX12_counts_94, rfl⟩ rfl ?_
  refine y_getR (n := 98) ⟨dX12_counts_95, rfl⟩ kfX12_43 l_66 rfl r_66_14 ?_
  refine y_iload_n (i := 3) (n := 99) ⟨dX12_counts_98, rfl⟩ rfl ?_
  obtain ⟨hg3, hf⟩ := g_s hf
  refine y_iaload (n := 100) ⟨dX12_counts_99, rfl⟩ l_78 hg3 ?_
  refine y_iload_n (i := 1) (n := 101) ⟨dX12_counts_100, rfl⟩ rfl ?_
  refine y_icmp_ne (t := 108) (n := 104) ⟨dX12_counts_101, rfl, rfl⟩ (fun (hc : ¬ ((gI M 78 x3.toNatClampNeg) = x1)) => ?_) (fun (hc : (gI M 78 x3.toNatClampNeg) = x1) => ?_)
  · replace hf := i_f hc hf
    refine y_iconst (n := 109) (v := 0) ⟨dX12_counts_108, rfl⟩ ki_0 ?_
    exact y_wk (L2 := [some (.ref 66), some (.int x1), some (.int x2), some (.int x3), some (.int y0), none]) ⟨Or.inr rfl, Or.inr rfl, Or.inr rfl, Or.inr rfl, Or.inr rfl, Or.inr rfl, trivial⟩ (w_b_mo_counts_25_109 x1 x2 x3 y0 0 M hf hk)
  · replace hf := i_t hc hf
    refine y_iconst (n := 105) (v := 1) ⟨dX12_counts_104, rfl⟩ ki_1 ?_
    refine y_goto (t := 109) ⟨dX12_counts_105, rfl, rfl⟩ ?_
    exact y_wk (L2 := [some (.ref 66), some (.int x1), some (.int x2), some (.int x3), some (.int y0), none]) ⟨Or.inr rfl, Or.inr rfl, Or.inr rfl, Or.inr rfl, Or.inr rfl, Or.inr rfl, trivial⟩ (w_b_mo_counts_25_109 x1 x2 x3 y0 1 M hf hk)
theorem w_b_mo_counts_25_25 (x1 : Int32) (x2 : Int32) (x3 : Int32)  (M : dM) {Q : mz_P} {o : ((Int32 × dM) ⊕ dM)} (hf : b_mo_counts_25_25 x1 x2 x3 M = some o) (hk : K_mo_counts_25 Q x1 x2 o) : mW mX12_counts 6 Q 25 [some (.ref 66), some (.int x1), some (.int x2), some (.int x3), none, none] [] M := by
  unfold b_mo_counts_25_25 at hf
  refine y_iload_n (i := 3) (n := 26) ⟨dX12_counts_25, rfl⟩ rfl ?_
  refine y_aload_n (i := 0) (n := 27) ⟨dX12_counts_26, rfl⟩ rfl ?_
  refine y_getI (n := 30) ⟨dX12_counts_27, rfl⟩ kfX12_235 l_66 rfl ?_
  refine y_icmp_ge (t := 179) (n := 33) ⟨dX12_counts_30, rfl, rfl⟩ (fun (hc : (gI M 66 9) ≤ x3) => ?_) (fun (hc : ¬ ((gI M 66 9) ≤ x3)) => ?_)
  · replace hf := i_t hc hf
    cases hf
    exact y_return (n := 180) ⟨dX12_counts_179, rfl⟩ rfl hk
  · replace hf := i_f hc hf
    refine y_iload_n (i := 2) (n := 34) ⟨dX12_counts_33, rfl⟩ rfl ?_
    refine y_if_ne (t := 55) (n := 37) ⟨dX12_counts_34, rfl, rfl⟩ (fun (hc : ¬ (x2 = 0)) => ?_) (fun (hc : x2 = 0) => ?_)
    · replace hf := i_f hc hf
      refine y_iload_n (i := 2) (n := 56) ⟨dX12_counts_55, rfl⟩ rfl ?_
      refine y_iconst (n := 57) (v := 1) ⟨dX12_counts_56, rfl⟩ ki_1 ?_
      refine y_icmp_ne (t := 79) (n := 60) ⟨dX12_counts_57, rfl, rfl⟩ (fun (hc : ¬ (x2 = 1)) => ?_) (fun (hc : x2 = 1) => ?_)
      · replace hf := i_f hc hf
        refine y_aload_n (i := 0) (n := 80) ⟨dX12_counts_79, rfl⟩ rfl ?_
        refine y_iload_n (i := 3) (n := 81) ⟨dX12_counts_80, rfl⟩ rfl ?_
        obtain ⟨q1, hv2, hf⟩ := b_s hf
        refine c_mo_eachOf x3 M (n := 84) ⟨dX12_counts_81, rfl⟩ klX12_438 hv2 (by decide) (Nat.le_of_ble_eq_true rfl) rfl rfl ?_
        refine y_if_le (t := 91) (n := 87) ⟨dX12_counts_84, rfl, rfl⟩ (fun (hc : q1.1 ≤ 0) => ?_) (fun (hc : ¬ (q1.1 ≤ 0)) => ?_)
        · replace hf := i_t hc hf
          refine y_iconst (n := 92) (v := 0) ⟨dX12_counts_91, rfl⟩ ki_0 ?_
          exact y_wk (L2 := [some (.ref 66), some (.int x1), some (.int x2), some (.int x3), none, none]) ⟨Or.inr rfl, Or.inr rfl, Or.inr rfl, Or.inr rfl, Or.inr rfl, Or.inr rfl, trivial⟩ (w_b_mo_counts_25_92 x1 x2 x3 0 q1.2 hf hk)
        · replace hf := i_f hc hf
          refine y_iconst (n := 88) (v := 1) ⟨dX12_counts_87, rfl⟩ ki_1 ?_
          refine y_goto (t := 92) ⟨dX12_counts_88, rfl, rfl⟩ ?_
          exact y_wk (L2 := [some (.ref 66), some (.int x1), some (.int x2), some (.int x3), none, none]) ⟨Or.inr rfl, Or.inr rfl, Or.inr rfl, Or.inr rfl, Or.inr rfl, Or.inr rfl, trivial⟩ (w_b_mo_counts_25_92 x1 x2 x3 1 q1.2 hf hk)
      · replace hf := i_t hc hf
        refine y_aload_n (i := 0) (n := 61) ⟨dX12_counts_60, rfl⟩ rfl ?_
        refine y_iload_n (i := 3) (n := 62) ⟨dX12_counts_61, rfl⟩ rfl ?_
        refine y_bipush (n := 64) (v := 12) ⟨dX12_counts_62, rfl⟩ kb_12 ?_
        obtain ⟨v4, hv5, hf⟩ := b_s hf
        refine c_mo_factOf x3 12 M (n := 67) ⟨dX12_counts_64, rfl⟩ klX12_252 hv5 (by decide) (Nat.le_of_ble_eq_true rfl) rfl rfl ?_
        refine y_iconst (n := 68) (v := 1) ⟨dX12_counts_67, rfl⟩ ki_1 ?_
        refine y_icmp_ne (t := 75) (n := 71) ⟨dX12_counts_68, rfl, rfl⟩ (fun (hc : ¬ (v4 = 1)) => ?_) (fun (hc : v4 = 1) => ?_)
        · replace hf := i_f hc hf
          refine y_iconst (n := 76) (v := 0) ⟨dX12_counts_75, rfl⟩ ki_0 ?_
          refine y_goto (t := 92) ⟨dX12_counts_76, rfl, rfl⟩ ?_
          exact y_wk (L2 := [some (.ref 66), some (.int x1), some (.int x2), some (.int x3), none, none]) ⟨Or.inr rfl, Or.inr rfl, Or.inr rfl, Or.inr rfl, Or.inr rfl, Or.inr rfl, trivial⟩ (w_b_mo_counts_25_92 x1 x2 x3 0 M hf hk)
        · replace hf := i_t hc hf
          refine y_iconst (n := 72) (v := 1) ⟨dX12_counts_71, rfl⟩ ki_1 ?_
          refine y_goto (t := 92) ⟨dX12_counts_72, rfl, rfl⟩ ?_
          exact y_wk (L2 := [some (.ref 66), some (.int x1), some (.int x2), some (.int x3), none, none]) ⟨Or.inr rfl, Or.inr rfl, Or.inr rfl, Or.inr rfl, Or.inr rfl, Or.inr rfl, trivial⟩ (w_b_mo_counts_25_92 x1 x2 x3 1 M hf hk)
    · replace hf := i_t hc hf
      refine y_aload_n (i := 0) (n := 38) ⟨dX12_counts_37, rfl⟩ rfl ?_
      refine y_iload_n (i := 3) (n := 39) ⟨dX12_counts_38, rfl⟩ rfl ?_
      refine y_bipush (n := 41) (v := 14) ⟨dX12_counts_39, rfl⟩ kb_14 ?_
      obtain ⟨v6, hv7, hf⟩ := b_s hf
      refine c_mo_factOf x3 14 M (n := 44) ⟨dX12_counts_41, rfl⟩ klX12_252 hv7 (by decide) (Nat.le_of_ble_eq_true rfl) rfl rfl ?_
      refine y_if_le (t := 51) (n := 47) ⟨dX12_counts_44, rfl, rfl⟩ (fun (hc : v6 ≤ 0) => ?_) (fun (hc : ¬ (v6 ≤ 0)) => ?_)
      · replace hf := i_t hc hf
        refine y_iconst (n := 52) (v := 0) ⟨dX12_counts_51, rfl⟩ ki_0 ?_
        refine y_goto (t := 92) ⟨dX12_counts_52, rfl, rfl⟩ ?_
        exact y_wk (L2 := [some (.ref 66), some (.int x1), some (.int x2), some (.int x3), none, none]) ⟨Or.inr rfl, Or.inr rfl, Or.inr rfl, Or.inr rfl, Or.inr rfl, Or.inr rfl, trivial⟩ (w_b_mo_counts_25_92 x1 x2 x3 0 M hf hk)
      · replace hf := i_f hc hf
        refine y_iconst (n := 48) (v := 1) ⟨dX12_counts_47, rfl⟩ ki_1 ?_
        refine y_goto (t := 92) ⟨dX12_counts_48, rfl, rfl⟩ ?_
        exact y_wk (L2 := [some (.ref 66), some (.int x1), some (.int x2), some (.int x3), none, none]) ⟨Or.inr rfl, Or.inr rfl, Or.inr rfl, Or.inr rfl, Or.inr rfl, Or.inr rfl, trivial⟩ (w_b_mo_counts_25_92 x1 x2 x3 1 M hf hk)
theorem wl_mo_counts_25 (x1 : Int32) (x2 : Int32) (x3 : Int32) (M : dM) {Q : mz_P} {x : dM} (hf : l_mo_counts_25 x1 x2 x3 M = some x) (hk : K_mo_counts_25 Q x1 x2 (.inr x)) : mW mX12_counts 6 Q 25 [some (.ref 66), some (.int x1), some (.int x2), some (.int x3), none, none] [] M :=
  lpc_wp (σ := (Int32 × dM)) (ξ := dM) (s := (x3, M)) (Wh := fun s => mW mX12_counts 6 Q 25 [some (.ref 66), some (.int x1), some (.int x2), some (.int s.1), none, none] [] s.2) (K := K_mo_counts_25 Q x1 x2) (fun _ h => h) (fun s o hb hk => w_b_mo_counts_25_25 x1 x2 s.1 s.2 hb hk) hf hk
theorem ok_mo_counts (a1 : Int32) (a2 : Int32) (M : dM) {o : dM} (hf : f_mo_counts a1 a2 M = some o) : mO mX12_counts 6 [.ref 66, .int a1, .int a2] M none o := by
  refine y_ok (by decide +kernel) (Nat.le_of_ble_eq_true rfl) (L0 := [some (.ref 66), some (.int a1), some (.int a2), none, none, none]) rfl ?_
  have hk := mR_mQ none o
  generalize mQ _ _ = Q at hk ⊢
  unfold f_mo_counts at hf
  refine y_aload_n (i := 0) (n := 1) ⟨dX12_counts_0, rfl⟩ rfl ?_
  refine y_iconst (n := 2) (v := 0) ⟨dX12_counts_1, rfl⟩ ki_0 ?_
  refine y_putI (n := 5) ⟨dX12_counts_2, rfl⟩ kfX12_444 l_66 (by decide +kernel) rfl ?_
  refine y_aload_n (i := 0) (n := 6) ⟨dX12_counts_5, rfl⟩ rfl ?_
  refine y_iconst (n := 7) (v := 0) ⟨dX12_counts_6, rfl⟩ ki_0 ?_
  refine y_putI (n := 10) ⟨dX12_counts_7, rfl⟩ kfX12_447 l_66 (by decide +kernel) rfl ?_
  refine y_aload_n (i := 0) (n := 11) ⟨dX12_counts_10, rfl⟩ rfl ?_
  refine y_aload_n (i := 0) (n := 12) ⟨dX12_counts_11, rfl⟩ rfl ?_
  refine y_getI (n := 15) ⟨dX12_counts_12, rfl⟩ kfX12_235 l_66 rfl ?_
  refine y_putI (n := 18) ⟨dX12_counts_15, rfl⟩ kfX12_450 l_66 (by decide +kernel) rfl ?_
  refine y_aload_n (i := 0) (n := 19) ⟨dX12_counts_18, rfl⟩ rfl ?_
  refine y_iconst (n := 20) (v := 0) ⟨dX12_counts_19, rfl⟩ ki_0 ?_
  refine y_putI (n := 23) ⟨dX12_counts_20, rfl⟩ kfX12_453 l_66 (by decide +kernel) rfl ?_
  refine y_iconst (n := 24) (v := 0) ⟨dX12_counts_23, rfl⟩ ki_0 ?_
  refine y_istore_n (i := 3) (n := 25) (L2 := [some (.ref 66), some (.int a1), some (.int a2), some (.int 0), none, none]) ⟨dX12_counts_24, rfl⟩ (by decide) rfl rfl ?_
  obtain ⟨r10, hl9, hf⟩ := b_s hf
  cases hf
  exact y_wk (L2 := [some (.ref 66), some (.int a1), some (.int a2), some (.int 0), none, none]) ⟨Or.inr rfl, Or.inr rfl, Or.inr rfl, Or.inr rfl, Or.inr rfl, Or.inr rfl, trivial⟩ (wl_mo_counts_25 a1 a2 0 (sI (sI (sI (sI M 66 51 0) 66 52 0) 66 53 (gI (sI (sI M 66 51 0) 66 52 0) 66 9)) 66 54 0) hl9 hk)
theorem c_mo_counts (a1 : Int32) (a2 : Int32) (M : dM) {o : dM} {y : mz_M} {d : Nat} {Q : mz_P} {pc n i : Nat} {L : List (Option Value)} {st : List Value} (h : mz_d y.2.1 pc n 3 (.invokevirtual i)) (hl : mz_ml y.1.cls i yX12_counts) (hf : f_mo_counts a1 a2 M = some o) (hd : 6 + 1 ≤ d) (hsm : (st.map (fun v => v.category)).sum ≤ 8) (hLr : mz_rL 133 L = true) (hSr : mz_rS 133 st = true) (kk : mW y d Q n L st o) : mW y d Q pc L (.int a2 :: .int a1 :: .ref 66 :: st) M :=
  y_callV kmX12_counts kvX12_counts l_66 (by decide +kernel) (by decide +kernel) h hl (ok_mo_counts a1 a2 M hf) (vs := [.int a1, .int a2]) rfl rfl hd hsm hLr hSr kk
noncomputable def f_mo_row (a1 : Int32) (a2 : Int32) (a3 : Int32) (M : dM) : Option (Int32 × dM) :=
  if (f_mo_isHand a1) = true then
    if (f_mo_within a2 0 2) = true then
      if (f_mo_within a3 0 3) = true then
        (f_mo_counts a1 a2 (sI M 66 0 0)).bind fun q1 =>
        if a3 = 0 then
          some ((gI q1 66 51), q1)
        else
          if a3 = 1 then
            some ((gI q1 66 52), q1)
          else
            if a3 = 2 then
              some ((gI q1 66 53), q1)
            else
              some ((gI q1 66 54), q1)
      else
        some ((-1), (sI M 66 0 0))
    else
      some ((-1), (sI M 66 0 0))
  else
    some ((-1), (sI M 66 0 0))
theorem ok_mo_row (a1 : Int32) (a2 : Int32) (a3 : Int32) (M : dM) {o : (Int32 × dM)} (hf : f_mo_row a1 a2 a3 M = some o) : mO mX12_row 7 [.ref 66, .int a1, .int a2, .int a3] M (some (.int o.1)) o.2 := by
  refine y_ok (by decide +kernel) (Nat.le_of_ble_eq_true rfl) (L0 := [some (.ref 66), some (.int a1), some (.int a2), some (.int a3)]) rfl ?_
  have hk := mR_mQ (some (.int o.1)) o.2
  generalize mQ _ _ = Q at hk ⊢
  unfold f_mo_row at hf
  refine y_aload_n (i := 0) (n := 1) ⟨dX12_row_0, rfl⟩ rfl ?_
  refine y_iconst (n := 2) (v := 0) ⟨dX12_row_1, rfl⟩ ki_0 ?_
  refine y_putI (n := 5) ⟨dX12_row_2, rfl⟩ kfX12_214 l_66 (by decide +kernel) rfl ?_
  refine y_iload_n (i := 1) (n := 6) ⟨dX12_row_5, rfl⟩ rfl ?_
  refine c_mo_isHand a1 (sI M 66 0 0) (n := 9) ⟨dX12_row_6, rfl⟩ klX12_225 rfl (by decide) (Nat.le_of_ble_eq_true rfl) rfl rfl ?_
  refine y_if_eq (t := 30) (n := 12) ⟨dX12_row_9, rfl, rfl⟩ (fun h0 => ?_) (fun h0 => ?_)
  · have hc := bI_0 h0
    replace hf := i_f hc hf
    refine y_iconst (n := 31) (v := (-1)) ⟨dX12_row_30, rfl⟩ ki_m1 ?_
    cases hf
    exact y_ireturn (n := 32) ⟨dX12_row_31, rfl⟩ rfl rfl hk
  · have hc := bI_1 h0
    replace hf := i_t hc hf
    refine y_iload_n (i := 2) (n := 13) ⟨dX12_row_12, rfl⟩ rfl ?_
    refine y_iconst (n := 14) (v := 0) ⟨dX12_row_13, rfl⟩ ki_0 ?_
    refine y_iconst (n := 15) (v := 2) ⟨dX12_row_14, rfl⟩ ki_2 ?_
    refine c_mo_within a2 0 2 (sI M 66 0 0) (n := 18) ⟨dX12_row_15, rfl⟩ klX12_221 rfl (by decide) (Nat.le_of_ble_eq_true rfl) rfl rfl ?_
    refine y_if_eq (t := 30) (n := 21) ⟨dX12_row_18, rfl, rfl⟩ (fun h0 => ?_) (fun h0 => ?_)
    · have hc := bI_0 h0
      replace hf := i_f hc hf
      refine y_iconst (n := 31) (v := (-1)) ⟨dX12_row_30, rfl⟩ ki_m1 ?_
      cases hf
      exact y_ireturn (n := 32) ⟨dX12_row_31, rfl⟩ rfl rfl hk
    · have hc := bI_1 h0
      replace hf := i_t hc hf
      refine y_iload_n (i := 3) (n := 22) ⟨dX12_row_21, rfl⟩ rfl ?_
      refine y_iconst (n := 23) (v := 0) ⟨dX12_row_22, rfl⟩ ki_0 ?_
      refine y_iconst (n := 24) (v := 3) ⟨dX12_row_23, rfl⟩ ki_3 ?_
      refine c_mo_within a3 0 3 (sI M 66 0 0) (n := 27) ⟨dX12_row_24, rfl⟩ klX12_221 rfl (by decide) (Nat.le_of_ble_eq_true rfl) rfl rfl ?_
      refine y_if_ne (t := 32) (n := 30) ⟨dX12_row_27, rfl, rfl⟩ (fun h0 => ?_) (fun h0 => ?_)
      · have hc := bI_1 h0
        replace hf := i_t hc hf
        refine y_aload_n (i := 0) (n := 33) ⟨dX12_row_32, rfl⟩ rfl ?_
        refine y_iload_n (i := 1) (n := 34) ⟨dX12_row_33, rfl⟩ rfl ?_
        refine y_iload_n (i := 2) (n := 35) ⟨dX12_row_34, rfl⟩ rfl ?_
        obtain ⟨q1, hv2, hf⟩ := b_s hf
        refine c_mo_counts a1 a2 (sI M 66 0 0) (n := 38) ⟨dX12_row_35, rfl⟩ klX12_456 hv2 (by decide) (Nat.le_of_ble_eq_true rfl) rfl rfl ?_
        refine y_iload_n (i := 3) (n := 39) ⟨dX12_row_38, rfl⟩ rfl ?_
        refine y_if_ne (t := 49) (n := 42) ⟨dX12_row_39, rfl, rfl⟩ (fun (hc : ¬ (a3 = 0)) => ?_) (fun (hc : a3 = 0) => ?_)
        · replace hf := i_f hc hf
          refine y_iload_n (i := 3) (n := 50) ⟨dX12_row_49, rfl⟩ rfl ?_
          refine y_iconst (n := 51) (v := 1) ⟨dX12_row_50, rfl⟩ ki_1 ?_
          refine y_icmp_ne (t := 61) (n := 54) ⟨dX12_row_51, rfl, rfl⟩ (fun (hc : ¬ (a3 = 1)) => ?_) (fun (hc : a3 = 1) => ?_)
          · replace hf := i_f hc hf
            refine y_iload_n (i := 3) (n := 62) ⟨dX12_row_61, rfl⟩ rfl ?_
            refine y_iconst (n := 63) (v := 2) ⟨dX12_row_62, rfl⟩ ki_2 ?_
            refine y_icmp_ne (t := 73) (n := 66) ⟨dX12_row_63, rfl, rfl⟩ (fun (hc : ¬ (a3 = 2)) => ?_) (fun (hc : a3 = 2) => ?_)
            · replace hf := i_f hc hf
              refine y_aload_n (i := 0) (n := 74) ⟨dX12_row_73, rfl⟩ rfl ?_
              refine y_getI (n := 77) ⟨dX12_row_74, rfl⟩ kfX12_453 l_66 rfl ?_
              cases hf
              exact y_ireturn (n := 78) ⟨dX12_row_77, rfl⟩ rfl rfl hk
            · replace hf := i_t hc hf
              refine y_aload_n (i := 0) (n := 67) ⟨dX12_row_66, rfl⟩ rfl ?_
              refine y_getI (n := 70) ⟨dX12_row_67, rfl⟩ kfX12_450 l_66 rfl ?_
              refine y_goto (t := 77) ⟨dX12_row_70, rfl, rfl⟩ ?_
              cases hf
              exact y_ireturn (n := 78) ⟨dX12_row_77, rfl⟩ rfl rfl hk
          · replace hf := i_t hc hf
            refine y_aload_n (i := 0) (n := 55) ⟨dX12_row_54, rfl⟩ rfl ?_
            refine y_getI (n := 58) ⟨dX12_row_55, rfl⟩ kfX12_447 l_66 rfl ?_
            refine y_goto (t := 77) ⟨dX12_row_58, rfl, rfl⟩ ?_
            cases hf
            exact y_ireturn (n := 78) ⟨dX12_row_77, rfl⟩ rfl rfl hk
        · replace hf := i_t hc hf
          refine y_aload_n (i := 0) (n := 43) ⟨dX12_row_42, rfl⟩ rfl ?_
          refine y_getI (n := 46) ⟨dX12_row_43, rfl⟩ kfX12_444 l_66 rfl ?_
          refine y_goto (t := 77) ⟨dX12_row_46, rfl, rfl⟩ ?_
          cases hf
          exact y_ireturn (n := 78) ⟨dX12_row_77, rfl⟩ rfl rfl hk
      · have hc := bI_0 h0
        replace hf := i_f hc hf
        refine y_iconst (n := 31) (v := (-1)) ⟨dX12_row_30, rfl⟩ ki_m1 ?_
        cases hf
        exact y_ireturn (n := 32) ⟨dX12_row_31, rfl⟩ rfl rfl hk
theorem c_mo_row (a1 : Int32) (a2 : Int32) (a3 : Int32) (M : dM) {o : (Int32 × dM)} {y : mz_M} {d : Nat} {Q : mz_P} {pc n i : Nat} {L : List (Option Value)} {st : List Value} (h : mz_d y.2.1 pc n 3 (.invokevirtual i)) (hl : mz_ml y.1.cls i yX12_row) (hf : f_mo_row a1 a2 a3 M = some o) (hd : 7 + 1 ≤ d) (hsm : (st.map (fun v => v.category)).sum ≤ 8) (hLr : mz_rL 133 L = true) (hSr : mz_rS 133 st = true) (kk : mW y d Q n L (.int o.1 :: st) o.2) : mW y d Q pc L (.int a3 :: .int a2 :: .int a1 :: .ref 66 :: st) M :=
  y_callV kmX12_row kvX12_row l_66 (by decide +kernel) (by decide +kernel) h hl (ok_mo_row a1 a2 a3 M hf) (vs := [.int a1, .int a2, .int a3]) rfl rfl hd hsm hLr hSr kk
def K_mo_ways_16 (Q : mz_P) (x0 : Int32) (x1 : Int32) (M : dM) : ((Int64 × Int32) ⊕ Int64) → Prop
  | .inl s => mW mX12_ways 1 Q 16 [some (.int x0), some (.int x1), some (.long s.1), none, some (.int s.2)] [] M
  | .inr r => mR Q (some (.long r)) M
noncomputable def b_mo_ways_16_16 (x0 : Int32) (x1 : Int32) (x2 : Int64) (x4 : Int32) : Option ((Int64 × Int32) ⊕ Int64) :=
  if x1 < x4 then
    some (.inr x2)
  else
    gd (¬ x4.toInt64 = 0) <|
    some (.inl (((x2 * ((x0 - x1) + x4).toInt64) / x4.toInt64), (x4 + 1)))
noncomputable def l_mo_ways_16 (x0 : Int32) (x1 : Int32) (x2 : Int64) (x4 : Int32) : Option Int64 := lpc (fun s => b_mo_ways_16_16 x0 x1 s.1 s.2) (x2, x4)
noncomputable def f_mo_ways (a1 : Int32) (a2 : Int32) : Option Int64 :=
  if a2 < 0 then
    some 0
  else
    if a2 ≤ a1 then
      (l_mo_ways_16 a1 a2 1 1).bind fun r4 => some r4
    else
      some 0
theorem w_b_mo_ways_16_16 (x0 : Int32) (x1 : Int32) (x2 : Int64) (x4 : Int32)  (M : dM) {Q : mz_P} {o : ((Int64 × Int32) ⊕ Int64)} (hf : b_mo_ways_16_16 x0 x1 x2 x4 = some o) (hk : K_mo_ways_16 Q x0 x1 M o) : mW mX12_ways 1 Q 16 [some (.int x0), some (.int x1), some (.long x2), none, some (.int x4)] [] M := by
  unfold b_mo_ways_16_16 at hf
  refine y_iload (i := 4) (n := 18) ⟨dX12_ways_16, rfl⟩ rfl ?_
  refine y_iload_n (i := 1) (n := 19) ⟨dX12_ways_18, rfl⟩ rfl ?_
  refine y_icmp_gt (t := 42) (n := 22) ⟨dX12_ways_19, rfl, rfl⟩ (fun (hc : x1 < x4) => ?_) (fun (hc : ¬ (x1 < x4)) => ?_)
  · replace hf := i_t hc hf
    refine y_lload_n (i := 2) (n := 43) ⟨dX12_ways_42, rfl⟩ rfl ?_
    cases hf
    exact y_lreturn (n := 44) ⟨dX12_ways_43, rfl⟩ rfl hk
  · replace hf := i_f hc hf
    refine y_lload_n (i := 2) (n := 23) ⟨dX12_ways_22, rfl⟩ rfl ?_
    refine y_iload_n (i := 0) (n := 24) ⟨dX12_ways_23, rfl⟩ rfl ?_
    refine y_iload_n (i := 1) (n := 25) ⟨dX12_ways_24, rfl⟩ rfl ?_
    refine y_isub (n := 26) ⟨dX12_ways_25, rfl⟩ ?_
    refine y_iload (i := 4) (n := 28) ⟨dX12_ways_26, rfl⟩ rfl ?_
    refine y_iadd (n := 29) ⟨dX12_ways_28, rfl⟩ ?_
    refine y_i2l (n := 30) ⟨dX12_ways_29, rfl⟩ ?_
    refine y_lmul (n := 31) ⟨dX12_ways_30, rfl⟩ ?_
    refine y_iload (i := 4) (n := 33) ⟨dX12_ways_31, rfl⟩ rfl ?_
    refine y_i2l (n := 34) ⟨dX12_ways_33, rfl⟩ ?_
    obtain ⟨hg1, hf⟩ := g_s hf
    refine y_ldiv (n := 35) ⟨dX12_ways_34, rfl⟩ hg1 ?_
    refine y_lstore_n (i := 2) (n := 36) (L2 := [some (.int x0), some (.int x1), some (.long ((x2 * ((x0 - x1) + x4).toInt64) / x4.toInt64)), none, some (.int x4)]) ⟨dX12_ways_35, rfl⟩ (by decide) rfl rfl ?_
    refine y_iinc (i := 4) (n := 39) (b := (x4 + 1)) (L2 := [some (.int x0), some (.int x1), some (.long ((x2 * ((x0 - x1) + x4).toInt64) / x4.toInt64)), none, some (.int (x4 + 1))]) ⟨dX12_ways_36, rfl⟩ rfl (by rw [ki_1]) (by decide) rfl rfl ?_
    refine y_goto (t := 16) ⟨dX12_ways_39, rfl, rfl⟩ ?_
    cases hf
    exact y_wk (L2 := [some (.int x0), some (.int x1), some (.long ((x2 * ((x0 - x1) + x4).toInt64) / x4.toInt64)), none, some (.int (x4 + 1))]) ⟨Or.inr rfl, Or.inr rfl, Or.inr rfl, Or.inr rfl, Or.inr rfl, trivial⟩ hk
theorem wl_mo_ways_16 (x0 : Int32) (x1 : Int32) (x2 : Int64) (x4 : Int32) (M : dM) {Q : mz_P} {x : Int64} (hf : l_mo_ways_16 x0 x1 x2 x4 = some x) (hk : K_mo_ways_16 Q x0 x1 M (.inr x)) : mW mX12_ways 1 Q 16 [some (.int x0), some (.int x1), some (.long x2), none, some (.int x4)] [] M :=
  lpc_wp (σ := (Int64 × Int32)) (ξ := Int64) (s := (x2, x4)) (Wh := fun s => mW mX12_ways 1 Q 16 [some (.int x0), some (.int x1), some (.long s.1), none, some (.int s.2)] [] M) (K := K_mo_ways_16 Q x0 x1 M) (fun _ h => h) (fun s o hb hk => w_b_mo_ways_16_16 x0 x1 s.1 s.2 M hb hk) hf hk
theorem ok_mo_ways (a1 : Int32) (a2 : Int32) (M : dM) {o : Int64} (hf : f_mo_ways a1 a2 = some o) : mO mX12_ways 1 [.int a1, .int a2] M (some (.long o)) M := by
  refine y_ok (by decide +kernel) (Nat.le_of_ble_eq_true rfl) (L0 := [some (.int a1), some (.int a2), none, none, none]) rfl ?_
  have hk := mR_mQ (some (.long o)) M
  generalize mQ _ _ = Q at hk ⊢
  unfold f_mo_ways at hf
  refine y_iload_n (i := 1) (n := 1) ⟨dX12_ways_0, rfl⟩ rfl ?_
  refine y_if_lt (t := 9) (n := 4) ⟨dX12_ways_1, rfl, rfl⟩ (fun (hc : a2 < 0) => ?_) (fun (hc : ¬ (a2 < 0)) => ?_)
  · replace hf := i_t hc hf
    refine y_lconst (n := 10) (v := 0) ⟨dX12_ways_9, rfl⟩ kl_0 ?_
    cases hf
    exact y_lreturn (n := 11) ⟨dX12_ways_10, rfl⟩ rfl hk
  · replace hf := i_f hc hf
    refine y_iload_n (i := 1) (n := 5) ⟨dX12_ways_4, rfl⟩ rfl ?_
    refine y_iload_n (i := 0) (n := 6) ⟨dX12_ways_5, rfl⟩ rfl ?_
    refine y_icmp_le (t := 11) (n := 9) ⟨dX12_ways_6, rfl, rfl⟩ (fun (hc : a2 ≤ a1) => ?_) (fun (hc : ¬ (a2 ≤ a1)) => ?_)
    · replace hf := i_t hc hf
      refine y_lconst (n := 12) (v := 1) ⟨dX12_ways_11, rfl⟩ kl_1 ?_
      refine y_lstore_n (i := 2) (n := 13) (L2 := [some (.int a1), some (.int a2), some (.long 1), none, none]) ⟨dX12_ways_12, rfl⟩ (by decide) rfl rfl ?_
      refine y_iconst (n := 14) (v := 1) ⟨dX12_ways_13, rfl⟩ ki_1 ?_
      refine y_istore (i := 4) (n := 16) (L2 := [some (.int a1), some (.int a2), some (.long 1), none, some (.int 1)]) ⟨dX12_ways_14, rfl⟩ (by decide) rfl rfl ?_
      obtain ⟨r4, hl3, hf⟩ := b_s hf
      cases hf
      exact y_wk (L2 := [some (.int a1), some (.int a2), some (.long 1), none, some (.int 1)]) ⟨Or.inr rfl, Or.inr rfl, Or.inr rfl, Or.inr rfl, Or.inr rfl, trivial⟩ (wl_mo_ways_16 a1 a2 1 1 M hl3 hk)
    · replace hf := i_f hc hf
      refine y_lconst (n := 10) (v := 0) ⟨dX12_ways_9, rfl⟩ kl_0 ?_
      cases hf
      exact y_lreturn (n := 11) ⟨dX12_ways_10, rfl⟩ rfl hk
theorem c_mo_ways (a1 : Int32) (a2 : Int32) (M : dM) {o : Int64} {y : mz_M} {d : Nat} {Q : mz_P} {pc n i : Nat} {L : List (Option Value)} {st : List Value} (h : mz_d y.2.1 pc n 3 (.invokestatic i)) (hl : mz_ml y.1.cls i yX12_ways) (hf : f_mo_ways a1 a2 = some o) (hd : 1 + 1 ≤ d) (hsm : (st.map (fun v => v.category)).sum ≤ 8) (hLr : mz_rL 133 L = true) (hSr : mz_rS 133 st = true) (kk : mW y d Q n L (.long o :: st) M) : mW y d Q pc L (.int a2 :: .int a1 :: st) M :=
  y_callS kmX12_ways ksX12_ways h hl (ok_mo_ways a1 a2 M hf) (vs := [.int a1, .int a2]) rfl rfl hd hsm hLr hSr kk
def K_mo_lowest_6 (Q : mz_P) (x0 : Int64) (x2 : Int64) (x4 : Int32) (M : dM) : ((Int64 × Int64) ⊕ Int64) → Prop
  | .inl s => mW mX12_lowest 1 Q 6 [some (.long x0), none, some (.long x2), none, some (.int x4), some (.long s.1), none, some (.long s.2), none, none, none] [] M
  | .inr t => mW mX12_lowest 1 Q 31 [some (.long x0), none, some (.long x2), none, some (.int x4), some (.long t), none, none, none, none, none] [] M
noncomputable def b_mo_lowest_6_6 (x0 : Int64) (x2 : Int64) (x4 : Int32) (x5 : Int64) (x7 : Int64) : Option ((Int64 × Int64) ⊕ Int64) :=
  if x7 = 0 then
    some (.inr x5)
  else
    gd (¬ x7 = 0) <|
    some (.inl (x7, (x5 - x5 / x7 * x7)))
noncomputable def l_mo_lowest_6 (x0 : Int64) (x2 : Int64) (x4 : Int32) (x5 : Int64) (x7 : Int64) : Option Int64 := lpc (fun s => b_mo_lowest_6_6 x0 x2 x4 s.1 s.2) (x5, x7)
noncomputable def f_mo_lowest (a1 : Int64) (a2 : Int64) (a3 : Int32) : Option Int64 :=
  (l_mo_lowest_6 a1 a2 a3 a1 a2).bind fun t2 =>
    if a3 = 0 then
      gd (¬ t2 = 0) <|
      some (a1 / t2)
    else
      gd (¬ t2 = 0) <|
      some (a2 / t2)
theorem w_b_mo_lowest_6_6 (x0 : Int64) (x2 : Int64) (x4 : Int32) (x5 : Int64) (x7 : Int64)  (M : dM) {Q : mz_P} {o : ((Int64 × Int64) ⊕ Int64)} (hf : b_mo_lowest_6_6 x0 x2 x4 x5 x7 = some o) (hk : K_mo_lowest_6 Q x0 x2 x4 M o) : mW mX12_lowest 1 Q 6 [some (.long x0), none, some (.long x2), none, some (.int x4), some (.long x5), none, some (.long x7), none, none, none] [] M := by
  unfold b_mo_lowest_6_6 at hf
  refine y_lload (i := 7) (n := 8) ⟨dX12_lowest_6, rfl⟩ rfl ?_
  refine y_lconst (n := 9) (v := 0) ⟨dX12_lowest_8, rfl⟩ kl_0 ?_
  refine y_lcmp (n := 10) ⟨dX12_lowest_9, rfl⟩ ?_
  refine y_if_eq (t := 31) (n := 13) ⟨dX12_lowest_10, rfl, rfl⟩ (fun h0 => ?_) (fun h0 => ?_)
  · have hc : x7 = 0 := (lc_eq _ _).mp h0
    replace hf := i_t hc hf
    cases hf
    exact y_wk (L2 := [some (.long x0), none, some (.long x2), none, some (.int x4), some (.long x5), none, none, none, none, none]) ⟨Or.inr rfl, Or.inr rfl, Or.inr rfl, Or.inr rfl, Or.inr rfl, Or.inr rfl, Or.inr rfl, Or.inl rfl, Or.inr rfl, Or.inr rfl, Or.inr rfl, trivial⟩ hk
  · have hc : ¬ (x7 = 0) := fun e => h0 ((lc_eq _ _).mpr e)
    replace hf := i_f hc hf
    refine y_lload (i := 5) (n := 15) ⟨dX12_lowest_13, rfl⟩ rfl ?_
    refine y_lload (i := 7) (n := 17) ⟨dX12_lowest_15, rfl⟩ rfl ?_
    obtain ⟨hg1, hf⟩ := g_s hf
    refine y_lrem (n := 18) ⟨dX12_lowest_17, rfl⟩ hg1 ?_
    refine y_lstore (i := 9) (n := 20) (L2 := [some (.long x0), none, some (.long x2), none, some (.int x4), some (.long x5), none, some (.long x7), none, some (.long (x5 - x5 / x7 * x7)), none]) ⟨dX12_lowest_18, rfl⟩ (by decide) rfl rfl ?_
    refine y_lload (i := 7) (n := 22) ⟨dX12_lowest_20, rfl⟩ rfl ?_
    refine y_lstore (i := 5) (n := 24) (L2 := [some (.long x0), none, some (.long x2), none, some (.int x4), some (.long x7), none, some (.long x7), none, some (.long (x5 - x5 / x7 * x7)), none]) ⟨dX12_lowest_22, rfl⟩ (by decide) rfl rfl ?_
    refine y_lload (i := 9) (n := 26) ⟨dX12_lowest_24, rfl⟩ rfl ?_
    refine y_lstore (i := 7) (n := 28) (L2 := [some (.long x0), none, some (.long x2), none, some (.int x4), some (.long x7), none, some (.long (x5 - x5 / x7 * x7)), none, some (.long (x5 - x5 / x7 * x7)), none]) ⟨dX12_lowest_26, rfl⟩ (by decide) rfl rfl ?_
    refine y_goto (t := 6) ⟨dX12_lowest_28, rfl, rfl⟩ ?_
    cases hf
    exact y_wk (L2 := [some (.long x0), none, some (.long x2), none, some (.int x4), some (.long x7), none, some (.long (x5 - x5 / x7 * x7)), none, none, none]) ⟨Or.inr rfl, Or.inr rfl, Or.inr rfl, Or.inr rfl, Or.inr rfl, Or.inr rfl, Or.inr rfl, Or.inr rfl, Or.inr rfl, Or.inl rfl, Or.inr rfl, trivial⟩ hk
theorem wl_mo_lowest_6 (x0 : Int64) (x2 : Int64) (x4 : Int32) (x5 : Int64) (x7 : Int64) (M : dM) {Q : mz_P} {x : Int64} (hf : l_mo_lowest_6 x0 x2 x4 x5 x7 = some x) (hk : K_mo_lowest_6 Q x0 x2 x4 M (.inr x)) : mW mX12_lowest 1 Q 6 [some (.long x0), none, some (.long x2), none, some (.int x4), some (.long x5), none, some (.long x7), none, none, none] [] M :=
  lpc_wp (σ := (Int64 × Int64)) (ξ := Int64) (s := (x5, x7)) (Wh := fun s => mW mX12_lowest 1 Q 6 [some (.long x0), none, some (.long x2), none, some (.int x4), some (.long s.1), none, some (.long s.2), none, none, none] [] M) (K := K_mo_lowest_6 Q x0 x2 x4 M) (fun _ h => h) (fun s o hb hk => w_b_mo_lowest_6_6 x0 x2 x4 s.1 s.2 M hb hk) hf hk
theorem ok_mo_lowest (a1 : Int64) (a2 : Int64) (a3 : Int32) (M : dM) {o : Int64} (hf : f_mo_lowest a1 a2 a3 = some o) : mO mX12_lowest 1 [.long a1, .long a2, .int a3] M (some (.long o)) M := by
  refine y_ok (by decide +kernel) (Nat.le_of_ble_eq_true rfl) (L0 := [some (.long a1), none, some (.long a2), none, some (.int a3), none, none, none, none, none, none]) rfl ?_
  have hk := mR_mQ (some (.long o)) M
  generalize mQ _ _ = Q at hk ⊢
  unfold f_mo_lowest at hf
  refine y_lload_n (i := 0) (n := 1) ⟨dX12_lowest_0, rfl⟩ rfl ?_
  refine y_lstore (i := 5) (n := 3) (L2 := [some (.long a1), none, some (.long a2), none, some (.int a3), some (.long a1), none, none, none, none, none]) ⟨dX12_lowest_1, rfl⟩ (by decide) rfl rfl ?_
  refine y_lload_n (i := 2) (n := 4) ⟨dX12_lowest_3, rfl⟩ rfl ?_
  refine y_lstore (i := 7) (n := 6) (L2 := [some (.long a1), none, some (.long a2), none, some (.int a3), some (.long a1), none, some (.long a2), none, none, none]) ⟨dX12_lowest_4, rfl⟩ (by decide) rfl rfl ?_
  obtain ⟨t2, hl3, hf⟩ := b_s hf
  refine y_wk (L2 := [some (.long a1), none, some (.long a2), none, some (.int a3), some (.long a1), none, some (.long a2), none, none, none]) ⟨Or.inr rfl, Or.inr rfl, Or.inr rfl, Or.inr rfl, Or.inr rfl, Or.inr rfl, Or.inr rfl, Or.inr rfl, Or.inr rfl, Or.inr rfl, Or.inr rfl, trivial⟩ (wl_mo_lowest_6 a1 a2 a3 a1 a2 M hl3 ?_)
  show mW mX12_lowest 1 Q 31 [some (.long a1), none, some (.long a2), none, some (.int a3), some (.long t2), none, none, none, none, none] [] M
  refine y_iload (i := 4) (n := 33) ⟨dX12_lowest_31, rfl⟩ rfl ?_
  refine y_if_ne (t := 43) (n := 36) ⟨dX12_lowest_33, rfl, rfl⟩ (fun (hc : ¬ (a3 = 0)) => ?_) (fun (hc : a3 = 0) => ?_)
  · replace hf := i_f hc hf
    refine y_lload_n (i := 2) (n := 44) ⟨dX12_lowest_43, rfl⟩ rfl ?_
    refine y_lload (i := 5) (n := 46) ⟨dX12_lowest_44, rfl⟩ rfl ?_
    obtain ⟨hg5, hf⟩ := g_s hf
    refine y_ldiv (n := 47) ⟨dX12_lowest_46, rfl⟩ hg5 ?_
    cases hf
    exact y_lreturn (n := 48) ⟨dX12_lowest_47, rfl⟩ rfl hk
  · replace hf := i_t hc hf
    refine y_lload_n (i := 0) (n := 37) ⟨dX12_lowest_36, rfl⟩ rfl ?_
    refine y_lload (i := 5) (n := 39) ⟨dX12_lowest_37, rfl⟩ rfl ?_
    obtain ⟨hg6, hf⟩ := g_s hf
    refine y_ldiv (n := 40) ⟨dX12_lowest_39, rfl⟩ hg6 ?_
    refine y_goto (t := 47) ⟨dX12_lowest_40, rfl, rfl⟩ ?_
    cases hf
    exact y_lreturn (n := 48) ⟨dX12_lowest_47, rfl⟩ rfl hk
theorem c_mo_lowest (a1 : Int64) (a2 : Int64) (a3 : Int32) (M : dM) {o : Int64} {y : mz_M} {d : Nat} {Q : mz_P} {pc n i : Nat} {L : List (Option Value)} {st : List Value} (h : mz_d y.2.1 pc n 3 (.invokestatic i)) (hl : mz_ml y.1.cls i yX12_lowest) (hf : f_mo_lowest a1 a2 a3 = some o) (hd : 1 + 1 ≤ d) (hsm : (st.map (fun v => v.category)).sum ≤ 8) (hLr : mz_rL 133 L = true) (hSr : mz_rS 133 st = true) (kk : mW y d Q n L (.long o :: st) M) : mW y d Q pc L (.int a3 :: .long a2 :: .long a1 :: st) M :=
  y_callS kmX12_lowest ksX12_lowest h hl (ok_mo_lowest a1 a2 a3 M hf) (vs := [.long a1, .long a2, .int a3]) rfl rfl hd hsm hLr hSr kk
def K_mo_odds_49 (Q : mz_P) (x3 : Int32) (M : dM) : ((Int64 × Int32) ⊕ (Int64 × dM)) → Prop
  | .inl s => mW mX12_odds 7 Q 49 [some (.ref 66), none, none, some (.int x3), some (.long s.1), none, some (.int s.2)] [] M
  | .inr r => mR Q (some (.long r.1)) r.2
noncomputable def b_mo_odds_49_49 (x3 : Int32) (x4 : Int64) (x6 : Int32) (M : dM) : Option ((Int64 × Int32) ⊕ (Int64 × dM)) :=
  if (gI M 66 51) < x6 then
    (f_mo_ways (gI M 66 53) (gI M 66 51)).bind fun v3 =>
    (f_mo_lowest x4 v3 x3).bind fun v5 =>
    some (.inr (v5, M))
  else
    (f_mo_ways (gI M 66 54) x6).bind fun v7 =>
    (f_mo_ways ((gI M 66 53) - (gI M 66 54)) ((gI M 66 51) - x6)).bind fun v9 =>
    some (.inl ((x4 + (v7 * v9)), (x6 + 1)))
noncomputable def l_mo_odds_49 (x3 : Int32) (x4 : Int64) (x6 : Int32) (M : dM) : Option (Int64 × dM) := lpc (fun s => b_mo_odds_49_49 x3 s.1 s.2 M) (x4, x6)
noncomputable def f_mo_odds (a1 : Int32) (a2 : Int32) (a3 : Int32) (M : dM) : Option (Int64 × dM) :=
  if (f_mo_isHand a1) = true then
    if (f_mo_within a2 0 2) = true then
      if (f_mo_within a3 0 1) = true then
        (f_mo_counts a1 a2 (sI M 66 0 0)).bind fun q1 =>
        (l_mo_odds_49 a3 0 (gI q1 66 52) q1).bind fun r13 => some r13
      else
        some ((-1), (sI M 66 0 0))
    else
      some ((-1), (sI M 66 0 0))
  else
    some ((-1), (sI M 66 0 0))
theorem w_b_mo_odds_49_49 (x3 : Int32) (x4 : Int64) (x6 : Int32)  (M : dM) {Q : mz_P} {o : ((Int64 × Int32) ⊕ (Int64 × dM))} (hf : b_mo_odds_49_49 x3 x4 x6 M = some o) (hk : K_mo_odds_49 Q x3 M o) : mW mX12_odds 7 Q 49 [some (.ref 66), none, none, some (.int x3), some (.long x4), none, some (.int x6)] [] M := by
  unfold b_mo_odds_49_49 at hf
  refine y_iload (i := 6) (n := 51) ⟨dX12_odds_49, rfl⟩ rfl ?_
  refine y_aload_n (i := 0) (n := 52) ⟨dX12_odds_51, rfl⟩ rfl ?_
  refine y_getI (n := 55) ⟨dX12_odds_52, rfl⟩ kfX12_444 l_66 rfl ?_
  refine y_icmp_gt (t := 98) (n := 58) ⟨dX12_odds_55, rfl, rfl⟩ (fun (hc : (gI M 66 51) < x6) => ?_) (fun (hc : ¬ ((gI M 66 51) < x6)) => ?_)
  · replace hf := i_t hc hf
    refine y_lload (i := 4) (n := 100) ⟨dX12_odds_98, rfl⟩ rfl ?_
    refine y_aload_n (i := 0) (n := 101) ⟨dX12_odds_100, rfl⟩ rfl ?_
    refine y_getI (n := 104) ⟨dX12_odds_101, rfl⟩ kfX12_450 l_66 rfl ?_
    refine y_aload_n (i := 0) (n := 105) ⟨dX12_odds_104, rfl⟩ rfl ?_
    refine y_getI (n := 108) ⟨dX12_odds_105, rfl⟩ kfX12_444 l_66 rfl ?_
    obtain ⟨v3, hv4, hf⟩ := b_s hf
    refine c_mo_ways (gI M 66 53) (gI M 66 51) M (n := 111) ⟨dX12_odds_108, rfl⟩ klX12_462 hv4 (by decide) (Nat.le_of_ble_eq_true rfl) rfl rfl ?_
    refine y_iload_n (i := 3) (n := 112) ⟨dX12_odds_111, rfl⟩ rfl ?_
    obtain ⟨v5, hv6, hf⟩ := b_s hf
    refine c_mo_lowest x4 v3 x3 M (n := 115) ⟨dX12_odds_112, rfl⟩ klX12_465 hv6 (by decide) (Nat.le_of_ble_eq_true rfl) rfl rfl ?_
    cases hf
    exact y_lreturn (n := 116) ⟨dX12_odds_115, rfl⟩ rfl hk
  · replace hf := i_f hc hf
    refine y_lload (i := 4) (n := 60) ⟨dX12_odds_58, rfl⟩ rfl ?_
    refine y_aload_n (i := 0) (n := 61) ⟨dX12_odds_60, rfl⟩ rfl ?_
    refine y_getI (n := 64) ⟨dX12_odds_61, rfl⟩ kfX12_453 l_66 rfl ?_
    refine y_iload (i := 6) (n := 66) ⟨dX12_odds_64, rfl⟩ rfl ?_
    obtain ⟨v7, hv8, hf⟩ := b_s hf
    refine c_mo_ways (gI M 66 54) x6 M (n := 69) ⟨dX12_odds_66, rfl⟩ klX12_462 hv8 (by decide) (Nat.le_of_ble_eq_true rfl) rfl rfl ?_
    refine y_aload_n (i := 0) (n := 70) ⟨dX12_odds_69, rfl⟩ rfl ?_
    refine y_getI (n := 73) ⟨dX12_odds_70, rfl⟩ kfX12_450 l_66 rfl ?_
    refine y_aload_n (i := 0) (n := 74) ⟨dX12_odds_73, rfl⟩ rfl ?_
    refine y_getI (n := 77) ⟨dX12_odds_74, rfl⟩ kfX12_453 l_66 rfl ?_
    refine y_isub (n := 78) ⟨dX12_odds_77, rfl⟩ ?_
    refine y_aload_n (i := 0) (n := 79) ⟨dX12_odds_78, rfl⟩ rfl ?_
    refine y_getI (n := 82) ⟨dX12_odds_79, rfl⟩ kfX12_444 l_66 rfl ?_
    refine y_iload (i := 6) (n := 84) ⟨dX12_odds_82, rfl⟩ rfl ?_
    refine y_isub (n := 85) ⟨dX12_odds_84, rfl⟩ ?_
    obtain ⟨v9, hv10, hf⟩ := b_s hf
    refine c_mo_ways ((gI M 66 53) - (gI M 66 54)) ((gI M 66 51) - x6) M (n := 88) ⟨dX12_odds_85, rfl⟩ klX12_462 hv10 (by decide) (Nat.le_of_ble_eq_true rfl) rfl rfl ?_
    refine y_lmul (n := 89) ⟨dX12_odds_88, rfl⟩ ?_
    refine y_ladd (n := 90) ⟨dX12_odds_89, rfl⟩ ?_
    refine y_lstore (i := 4) (n := 92) (L2 := [some (.ref 66), none, none, some (.int x3), some (.long (x4 + (v7 * v9))), none, some (.int x6)]) ⟨dX12_odds_90, rfl⟩ (by decide) rfl rfl ?_
    refine y_iinc (i := 6) (n := 95) (b := (x6 + 1)) (L2 := [some (.ref 66), none, none, some (.int x3), some (.long (x4 + (v7 * v9))), none, some (.int (x6 + 1))]) ⟨dX12_odds_92, rfl⟩ rfl (by rw [ki_1]) (by decide) rfl rfl ?_
    refine y_goto (t := 49) ⟨dX12_odds_95, rfl, rfl⟩ ?_
    cases hf
    exact y_wk (L2 := [some (.ref 66), none, none, some (.int x3), some (.long (x4 + (v7 * v9))), none, some (.int (x6 + 1))]) ⟨Or.inr rfl, Or.inr rfl, Or.inr rfl, Or.inr rfl, Or.inr rfl, Or.inr rfl, Or.inr rfl, trivial⟩ hk
theorem wl_mo_odds_49 (x3 : Int32) (x4 : Int64) (x6 : Int32) (M : dM) {Q : mz_P} {x : (Int64 × dM)} (hf : l_mo_odds_49 x3 x4 x6 M = some x) (hk : K_mo_odds_49 Q x3 M (.inr x)) : mW mX12_odds 7 Q 49 [some (.ref 66), none, none, some (.int x3), some (.long x4), none, some (.int x6)] [] M :=
  lpc_wp (σ := (Int64 × Int32)) (ξ := (Int64 × dM)) (s := (x4, x6)) (Wh := fun s => mW mX12_odds 7 Q 49 [some (.ref 66), none, none, some (.int x3), some (.long s.1), none, some (.int s.2)] [] M) (K := K_mo_odds_49 Q x3 M) (fun _ h => h) (fun s o hb hk => w_b_mo_odds_49_49 x3 s.1 s.2 M hb hk) hf hk
theorem ok_mo_odds (a1 : Int32) (a2 : Int32) (a3 : Int32) (M : dM) {o : (Int64 × dM)} (hf : f_mo_odds a1 a2 a3 M = some o) : mO mX12_odds 7 [.ref 66, .int a1, .int a2, .int a3] M (some (.long o.1)) o.2 := by
  refine y_ok (by decide +kernel) (Nat.le_of_ble_eq_true rfl) (L0 := [some (.ref 66), some (.int a1), some (.int a2), some (.int a3), none, none, none]) rfl ?_
  have hk := mR_mQ (some (.long o.1)) o.2
  generalize mQ _ _ = Q at hk ⊢
  unfold f_mo_odds at hf
  refine y_aload_n (i := 0) (n := 1) ⟨dX12_odds_0, rfl⟩ rfl ?_
  refine y_iconst (n := 2) (v := 0) ⟨dX12_odds_1, rfl⟩ ki_0 ?_
  refine y_putI (n := 5) ⟨dX12_odds_2, rfl⟩ kfX12_214 l_66 (by decide +kernel) rfl ?_
  refine y_iload_n (i := 1) (n := 6) ⟨dX12_odds_5, rfl⟩ rfl ?_
  refine c_mo_isHand a1 (sI M 66 0 0) (n := 9) ⟨dX12_odds_6, rfl⟩ klX12_225 rfl (by decide) (Nat.le_of_ble_eq_true rfl) rfl rfl ?_
  refine y_if_eq (t := 30) (n := 12) ⟨dX12_odds_9, rfl, rfl⟩ (fun h0 => ?_) (fun h0 => ?_)
  · have hc := bI_0 h0
    replace hf := i_f hc hf
    refine y_ldc2 (n := 33) ⟨dX12_odds_30, rfl⟩ kcX12_460 ?_
    cases hf
    exact y_lreturn (n := 34) ⟨dX12_odds_33, rfl⟩ rfl hk
  · have hc := bI_1 h0
    replace hf := i_t hc hf
    refine y_iload_n (i := 2) (n := 13) ⟨dX12_odds_12, rfl⟩ rfl ?_
    refine y_iconst (n := 14) (v := 0) ⟨dX12_odds_13, rfl⟩ ki_0 ?_
    refine y_iconst (n := 15) (v := 2) ⟨dX12_odds_14, rfl⟩ ki_2 ?_
    refine c_mo_within a2 0 2 (sI M 66 0 0) (n := 18) ⟨dX12_odds_15, rfl⟩ klX12_221 rfl (by decide) (Nat.le_of_ble_eq_true rfl) rfl rfl ?_
    refine y_if_eq (t := 30) (n := 21) ⟨dX12_odds_18, rfl, rfl⟩ (fun h0 => ?_) (fun h0 => ?_)
    · have hc := bI_0 h0
      replace hf := i_f hc hf
      refine y_ldc2 (n := 33) ⟨dX12_odds_30, rfl⟩ kcX12_460 ?_
      cases hf
      exact y_lreturn (n := 34) ⟨dX12_odds_33, rfl⟩ rfl hk
    · have hc := bI_1 h0
      replace hf := i_t hc hf
      refine y_iload_n (i := 3) (n := 22) ⟨dX12_odds_21, rfl⟩ rfl ?_
      refine y_iconst (n := 23) (v := 0) ⟨dX12_odds_22, rfl⟩ ki_0 ?_
      refine y_iconst (n := 24) (v := 1) ⟨dX12_odds_23, rfl⟩ ki_1 ?_
      refine c_mo_within a3 0 1 (sI M 66 0 0) (n := 27) ⟨dX12_odds_24, rfl⟩ klX12_221 rfl (by decide) (Nat.le_of_ble_eq_true rfl) rfl rfl ?_
      refine y_if_ne (t := 34) (n := 30) ⟨dX12_odds_27, rfl, rfl⟩ (fun h0 => ?_) (fun h0 => ?_)
      · have hc := bI_1 h0
        replace hf := i_t hc hf
        refine y_aload_n (i := 0) (n := 35) ⟨dX12_odds_34, rfl⟩ rfl ?_
        refine y_iload_n (i := 1) (n := 36) ⟨dX12_odds_35, rfl⟩ rfl ?_
        refine y_iload_n (i := 2) (n := 37) ⟨dX12_odds_36, rfl⟩ rfl ?_
        obtain ⟨q1, hv2, hf⟩ := b_s hf
        refine c_mo_counts a1 a2 (sI M 66 0 0) (n := 40) ⟨dX12_odds_37, rfl⟩ klX12_456 hv2 (by decide) (Nat.le_of_ble_eq_true rfl) rfl rfl ?_
        refine y_lconst (n := 41) (v := 0) ⟨dX12_odds_40, rfl⟩ kl_0 ?_
        refine y_lstore (i := 4) (n := 43) (L2 := [some (.ref 66), some (.int a1), some (.int a2), some (.int a3), some (.long 0), none, none]) ⟨dX12_odds_41, rfl⟩ (by decide) rfl rfl ?_
        refine y_aload_n (i := 0) (n := 44) ⟨dX12_odds_43, rfl⟩ rfl ?_
        refine y_getI (n := 47) ⟨dX12_odds_44, rfl⟩ kfX12_447 l_66 rfl ?_
        refine y_istore (i := 6) (n := 49) (L2 := [some (.ref 66), some (.int a1), some (.int a2), some (.int a3), some (.long 0), none, some (.int (gI q1 66 52))]) ⟨dX12_odds_47, rfl⟩ (by decide) rfl rfl ?_
        obtain ⟨r13, hl12, hf⟩ := b_s hf
        cases hf
        exact y_wk (L2 := [some (.ref 66), none, none, some (.int a3), some (.long 0), none, some (.int (gI q1 66 52))]) ⟨Or.inr rfl, Or.inl rfl, Or.inl rfl, Or.inr rfl, Or.inr rfl, Or.inr rfl, Or.inr rfl, trivial⟩ (wl_mo_odds_49 a3 0 (gI q1 66 52) q1 hl12 hk)
      · have hc := bI_0 h0
        replace hf := i_f hc hf
        refine y_ldc2 (n := 33) ⟨dX12_odds_30, rfl⟩ kcX12_460 ?_
        cases hf
        exact y_lreturn (n := 34) ⟨dX12_odds_33, rfl⟩ rfl hk
theorem c_mo_odds (a1 : Int32) (a2 : Int32) (a3 : Int32) (M : dM) {o : (Int64 × dM)} {y : mz_M} {d : Nat} {Q : mz_P} {pc n i : Nat} {L : List (Option Value)} {st : List Value} (h : mz_d y.2.1 pc n 3 (.invokevirtual i)) (hl : mz_ml y.1.cls i yX12_odds) (hf : f_mo_odds a1 a2 a3 M = some o) (hd : 7 + 1 ≤ d) (hsm : (st.map (fun v => v.category)).sum ≤ 8) (hLr : mz_rL 133 L = true) (hSr : mz_rS 133 st = true) (kk : mW y d Q n L (.long o.1 :: st) o.2) : mW y d Q pc L (.int a3 :: .int a2 :: .int a1 :: .ref 66 :: st) M :=
  y_callV kmX12_odds kvX12_odds l_66 (by decide +kernel) (by decide +kernel) h hl (ok_mo_odds a1 a2 a3 M hf) (vs := [.int a1, .int a2, .int a3]) rfl rfl hd hsm hLr hSr kk
def K_mo_power_5 (Q : mz_P) (x0 : Int64) (x2 : Int32) (M : dM) : ((Int64 × Int32) ⊕ Int64) → Prop
  | .inl s => mW mX12_power 1 Q 5 [some (.long x0), none, some (.int x2), some (.long s.1), none, some (.int s.2)] [] M
  | .inr r => mR Q (some (.long r)) M
noncomputable def b_mo_power_5_5 (x0 : Int64) (x2 : Int32) (x3 : Int64) (x5 : Int32) : Option ((Int64 × Int32) ⊕ Int64) :=
  if x2 ≤ x5 then
    some (.inr x3)
  else
    some (.inl ((x3 * x0), (x5 + 1)))
noncomputable def l_mo_power_5 (x0 : Int64) (x2 : Int32) (x3 : Int64) (x5 : Int32) : Option Int64 := lpc (fun s => b_mo_power_5_5 x0 x2 s.1 s.2) (x3, x5)
noncomputable def f_mo_power (a1 : Int64) (a2 : Int32) : Option Int64 :=
  (l_mo_power_5 a1 a2 1 0).bind fun r3 => some r3
theorem w_b_mo_power_5_5 (x0 : Int64) (x2 : Int32) (x3 : Int64) (x5 : Int32)  (M : dM) {Q : mz_P} {o : ((Int64 × Int32) ⊕ Int64)} (hf : b_mo_power_5_5 x0 x2 x3 x5 = some o) (hk : K_mo_power_5 Q x0 x2 M o) : mW mX12_power 1 Q 5 [some (.long x0), none, some (.int x2), some (.long x3), none, some (.int x5)] [] M := by
  unfold b_mo_power_5_5 at hf
  refine y_iload (i := 5) (n := 7) ⟨dX12_power_5, rfl⟩ rfl ?_
  refine y_iload_n (i := 2) (n := 8) ⟨dX12_power_7, rfl⟩ rfl ?_
  refine y_icmp_ge (t := 21) (n := 11) ⟨dX12_power_8, rfl, rfl⟩ (fun (hc : x2 ≤ x5) => ?_) (fun (hc : ¬ (x2 ≤ x5)) => ?_)
  · replace hf := i_t hc hf
    refine y_lload_n (i := 3) (n := 22) ⟨dX12_power_21, rfl⟩ rfl ?_
    cases hf
    exact y_lreturn (n := 23) ⟨dX12_power_22, rfl⟩ rfl hk
  · replace hf := i_f hc hf
    refine y_lload_n (i := 3) (n := 12) ⟨dX12_power_11, rfl⟩ rfl ?_
    refine y_lload_n (i := 0) (n := 13) ⟨dX12_power_12, rfl⟩ rfl ?_
    refine y_lmul (n := 14) ⟨dX12_power_13, rfl⟩ ?_
    refine y_lstore_n (i := 3) (n := 15) (L2 := [some (.long x0), none, some (.int x2), some (.long (x3 * x0)), none, some (.int x5)]) ⟨dX12_power_14, rfl⟩ (by decide) rfl rfl ?_
    refine y_iinc (i := 5) (n := 18) (b := (x5 + 1)) (L2 := [some (.long x0), none, some (.int x2), some (.long (x3 * x0)), none, some (.int (x5 + 1))]) ⟨dX12_power_15, rfl⟩ rfl (by rw [ki_1]) (by decide) rfl rfl ?_
    refine y_goto (t := 5) ⟨dX12_power_18, rfl, rfl⟩ ?_
    cases hf
    exact y_wk (L2 := [some (.long x0), none, some (.int x2), some (.long (x3 * x0)), none, some (.int (x5 + 1))]) ⟨Or.inr rfl, Or.inr rfl, Or.inr rfl, Or.inr rfl, Or.inr rfl, Or.inr rfl, trivial⟩ hk
theorem wl_mo_power_5 (x0 : Int64) (x2 : Int32) (x3 : Int64) (x5 : Int32) (M : dM) {Q : mz_P} {x : Int64} (hf : l_mo_power_5 x0 x2 x3 x5 = some x) (hk : K_mo_power_5 Q x0 x2 M (.inr x)) : mW mX12_power 1 Q 5 [some (.long x0), none, some (.int x2), some (.long x3), none, some (.int x5)] [] M :=
  lpc_wp (σ := (Int64 × Int32)) (ξ := Int64) (s := (x3, x5)) (Wh := fun s => mW mX12_power 1 Q 5 [some (.long x0), none, some (.int x2), some (.long s.1), none, some (.int s.2)] [] M) (K := K_mo_power_5 Q x0 x2 M) (fun _ h => h) (fun s o hb hk => w_b_mo_power_5_5 x0 x2 s.1 s.2 M hb hk) hf hk
theorem ok_mo_power (a1 : Int64) (a2 : Int32) (M : dM) {o : Int64} (hf : f_mo_power a1 a2 = some o) : mO mX12_power 1 [.long a1, .int a2] M (some (.long o)) M := by
  refine y_ok (by decide +kernel) (Nat.le_of_ble_eq_true rfl) (L0 := [some (.long a1), none, some (.int a2), none, none, none]) rfl ?_
  have hk := mR_mQ (some (.long o)) M
  generalize mQ _ _ = Q at hk ⊢
  unfold f_mo_power at hf
  refine y_lconst (n := 1) (v := 1) ⟨dX12_power_0, rfl⟩ kl_1 ?_
  refine y_lstore_n (i := 3) (n := 2) (L2 := [some (.long a1), none, some (.int a2), some (.long 1), none, none]) ⟨dX12_power_1, rfl⟩ (by decide) rfl rfl ?_
  refine y_iconst (n := 3) (v := 0) ⟨dX12_power_2, rfl⟩ ki_0 ?_
  refine y_istore (i := 5) (n := 5) (L2 := [some (.long a1), none, some (.int a2), some (.long 1), none, some (.int 0)]) ⟨dX12_power_3, rfl⟩ (by decide) rfl rfl ?_
  obtain ⟨r3, hl2, hf⟩ := b_s hf
  cases hf
  exact y_wk (L2 := [some (.long a1), none, some (.int a2), some (.long 1), none, some (.int 0)]) ⟨Or.inr rfl, Or.inr rfl, Or.inr rfl, Or.inr rfl, Or.inr rfl, Or.inr rfl, trivial⟩ (wl_mo_power_5 a1 a2 1 0 M hl2 hk)
theorem c_mo_power (a1 : Int64) (a2 : Int32) (M : dM) {o : Int64} {y : mz_M} {d : Nat} {Q : mz_P} {pc n i : Nat} {L : List (Option Value)} {st : List Value} (h : mz_d y.2.1 pc n 3 (.invokestatic i)) (hl : mz_ml y.1.cls i yX12_power) (hf : f_mo_power a1 a2 = some o) (hd : 1 + 1 ≤ d) (hsm : (st.map (fun v => v.category)).sum ≤ 8) (hLr : mz_rL 133 L = true) (hSr : mz_rS 133 st = true) (kk : mW y d Q n L (.long o :: st) M) : mW y d Q pc L (.int a2 :: .long a1 :: st) M :=
  y_callS kmX12_power ksX12_power h hl (ok_mo_power a1 a2 M hf) (vs := [.long a1, .int a2]) rfl rfl hd hsm hLr hSr kk
def K_mo_luck_64 (Q : mz_P) (x1 : Int32) (x2 : Int32) (x3 : Int32) (x4 : Int32) (x5 : Int32) (M : dM) : ((Int64 × Int32) ⊕ Int64) → Prop
  | .inl s => mW mX12_luck 2 Q 64 [none, some (.int x1), some (.int x2), some (.int x3), some (.int x4), some (.int x5), some (.long s.1), none, some (.int s.2), none] [] M
  | .inr t => mW mX12_luck 2 Q 108 [none, none, some (.int x2), none, some (.int x4), some (.int x5), some (.long t), none, none, none] [] M
noncomputable def b_mo_luck_64_64 (x1 : Int32) (x2 : Int32) (x3 : Int32) (x4 : Int32) (x5 : Int32) (x6 : Int64) (x8 : Int32) (M : dM) : Option ((Int64 × Int32) ⊕ Int64) :=
  if x3 ≤ x8 then
    some (.inr x6)
  else
    (f_mo_ways x2 x8).bind fun v1 =>
    (f_mo_power x1.toInt64 x8).bind fun v3 =>
    (f_mo_power ((10 - x1).toInt64) (x2 - x8)).bind fun v5 =>
    some (.inl ((x6 + ((v1 * v3) * v5)), (x8 + 1)))
noncomputable def l_mo_luck_64 (x1 : Int32) (x2 : Int32) (x3 : Int32) (x4 : Int32) (x5 : Int32) (x6 : Int64) (x8 : Int32) (M : dM) : Option Int64 := lpc (fun s => b_mo_luck_64_64 x1 x2 x3 x4 x5 s.1 s.2 M) (x6, x8)
noncomputable def f_mo_luck (a1 : Int32) (a2 : Int32) (a3 : Int32) (a4 : Int32) (a5 : Int32) (M : dM) : Option (Int64 × dM) :=
  if (f_mo_within a1 1 9) = true then
    if (f_mo_within a2 1 6) = true then
      if (f_mo_within a3 0 a2) = true then
        if (f_mo_within a4 1 3) = true then
          if (f_mo_within a5 0 1) = true then
            (l_mo_luck_64 a1 a2 a3 a4 a5 0 0 (sI M 66 0 0)).bind fun t7 =>
              (f_mo_power 10 a2).bind fun v10 =>
              (f_mo_power v10 a4).bind fun v12 =>
              (f_mo_power t7 a4).bind fun v14 =>
              (f_mo_lowest (v12 - v14) v12 a5).bind fun v16 =>
              some (v16, (sI M 66 0 0))
          else
            some ((-1), (sI M 66 0 0))
        else
          some ((-1), (sI M 66 0 0))
      else
        some ((-1), (sI M 66 0 0))
    else
      some ((-1), (sI M 66 0 0))
  else
    some ((-1), (sI M 66 0 0))
theorem w_b_mo_luck_64_64 (x1 : Int32) (x2 : Int32) (x3 : Int32) (x4 : Int32) (x5 : Int32) (x6 : Int64) (x8 : Int32)  (M : dM) {Q : mz_P} {o : ((Int64 × Int32) ⊕ Int64)} (hf : b_mo_luck_64_64 x1 x2 x3 x4 x5 x6 x8 M = some o) (hk : K_mo_luck_64 Q x1 x2 x3 x4 x5 M o) : mW mX12_luck 2 Q 64 [none, some (.int x1), some (.int x2), some (.int x3), some (.int x4), some (.int x5), some (.long x6), none, some (.int x8), none] [] M := by
  unfold b_mo_luck_64_64 at hf
  refine y_iload (i := 8) (n := 66) ⟨dX12_luck_64, rfl⟩ rfl ?_
  refine y_iload_n (i := 3) (n := 67) ⟨dX12_luck_66, rfl⟩ rfl ?_
  refine y_icmp_ge (t := 108) (n := 70) ⟨dX12_luck_67, rfl, rfl⟩ (fun (hc : x3 ≤ x8) => ?_) (fun (hc : ¬ (x3 ≤ x8)) => ?_)
  · replace hf := i_t hc hf
    cases hf
    exact y_wk (L2 := [none, none, some (.int x2), none, some (.int x4), some (.int x5), some (.long x6), none, none, none]) ⟨Or.inr rfl, Or.inl rfl, Or.inr rfl, Or.inl rfl, Or.inr rfl, Or.inr rfl, Or.inr rfl, Or.inr rfl, Or.inl rfl, Or.inr rfl, trivial⟩ hk
  · replace hf := i_f hc hf
    refine y_lload (i := 6) (n := 72) ⟨dX12_luck_70, rfl⟩ rfl ?_
    refine y_iload_n (i := 2) (n := 73) ⟨dX12_luck_72, rfl⟩ rfl ?_
    refine y_iload (i := 8) (n := 75) ⟨dX12_luck_73, rfl⟩ rfl ?_
    obtain ⟨v1, hv2, hf⟩ := b_s hf
    refine c_mo_ways x2 x8 M (n := 78) ⟨dX12_luck_75, rfl⟩ klX12_462 hv2 (by decide) (Nat.le_of_ble_eq_true rfl) rfl rfl ?_
    refine y_iload_n (i := 1) (n := 79) ⟨dX12_luck_78, rfl⟩ rfl ?_
    refine y_i2l (n := 80) ⟨dX12_luck_79, rfl⟩ ?_
    refine y_iload (i := 8) (n := 82) ⟨dX12_luck_80, rfl⟩ rfl ?_
    obtain ⟨v3, hv4, hf⟩ := b_s hf
    refine c_mo_power x1.toInt64 x8 M (n := 85) ⟨dX12_luck_82, rfl⟩ klX12_469 hv4 (by decide) (Nat.le_of_ble_eq_true rfl) rfl rfl ?_
    refine y_lmul (n := 86) ⟨dX12_luck_85, rfl⟩ ?_
    refine y_bipush (n := 88) (v := 10) ⟨dX12_luck_86, rfl⟩ kb_10 ?_
    refine y_iload_n (i := 1) (n := 89) ⟨dX12_luck_88, rfl⟩ rfl ?_
    refine y_isub (n := 90) ⟨dX12_luck_89, rfl⟩ ?_
    refine y_i2l (n := 91) ⟨dX12_luck_90, rfl⟩ ?_
    refine y_iload_n (i := 2) (n := 92) ⟨dX12_luck_91, rfl⟩ rfl ?_
    refine y_iload (i := 8) (n := 94) ⟨dX12_luck_92, rfl⟩ rfl ?_
    refine y_isub (n := 95) ⟨dX12_luck_94, rfl⟩ ?_
    obtain ⟨v5, hv6, hf⟩ := b_s hf
    refine c_mo_power ((10 - x1).toInt64) (x2 - x8) M (n := 98) ⟨dX12_luck_95, rfl⟩ klX12_469 hv6 (by decide) (Nat.le_of_ble_eq_true rfl) rfl rfl ?_
    refine y_lmul (n := 99) ⟨dX12_luck_98, rfl⟩ ?_
    refine y_ladd (n := 100) ⟨dX12_luck_99, rfl⟩ ?_
    refine y_lstore (i := 6) (n := 102) (L2 := [none, some (.int x1), some (.int x2), some (.int x3), some (.int x4), some (.int x5), some (.long (x6 + ((v1 * v3) * v5))), none, some (.int x8), none]) ⟨dX12_luck_100, rfl⟩ (by decide) rfl rfl ?_
    refine y_iinc (i := 8) (n := 105) (b := (x8 + 1)) (L2 := [none, some (.int x1), some (.int x2), some (.int x3), some (.int x4), some (.int x5), some (.long (x6 + ((v1 * v3) * v5))), none, some (.int (x8 + 1)), none]) ⟨dX12_luck_102, rfl⟩ rfl (by rw [ki_1]) (by decide) rfl rfl ?_
    refine y_goto (t := 64) ⟨dX12_luck_105, rfl, rfl⟩ ?_
    cases hf
    exact y_wk (L2 := [none, some (.int x1), some (.int x2), some (.int x3), some (.int x4), some (.int x5), some (.long (x6 + ((v1 * v3) * v5))), none, some (.int (x8 + 1)), none]) ⟨Or.inr rfl, Or.inr rfl, Or.inr rfl, Or.inr rfl, Or.inr rfl, Or.inr rfl, Or.inr rfl, Or.inr rfl, Or.inr rfl, Or.inr rfl, trivial⟩ hk
theorem wl_mo_luck_64 (x1 : Int32) (x2 : Int32) (x3 : Int32) (x4 : Int32) (x5 : Int32) (x6 : Int64) (x8 : Int32) (M : dM) {Q : mz_P} {x : Int64} (hf : l_mo_luck_64 x1 x2 x3 x4 x5 x6 x8 M = some x) (hk : K_mo_luck_64 Q x1 x2 x3 x4 x5 M (.inr x)) : mW mX12_luck 2 Q 64 [none, some (.int x1), some (.int x2), some (.int x3), some (.int x4), some (.int x5), some (.long x6), none, some (.int x8), none] [] M :=
  lpc_wp (σ := (Int64 × Int32)) (ξ := Int64) (s := (x6, x8)) (Wh := fun s => mW mX12_luck 2 Q 64 [none, some (.int x1), some (.int x2), some (.int x3), some (.int x4), some (.int x5), some (.long s.1), none, some (.int s.2), none] [] M) (K := K_mo_luck_64 Q x1 x2 x3 x4 x5 M) (fun _ h => h) (fun s o hb hk => w_b_mo_luck_64_64 x1 x2 x3 x4 x5 s.1 s.2 M hb hk) hf hk
theorem ok_mo_luck (a1 : Int32) (a2 : Int32) (a3 : Int32) (a4 : Int32) (a5 : Int32) (M : dM) {o : (Int64 × dM)} (hf : f_mo_luck a1 a2 a3 a4 a5 M = some o) : mO mX12_luck 2 [.ref 66, .int a1, .int a2, .int a3, .int a4, .int a5] M (some (.long o.1)) o.2 := by
  refine y_ok (by decide +kernel) (Nat.le_of_ble_eq_true rfl) (L0 := [some (.ref 66), some (.int a1), some (.int a2), some (.int a3), some (.int a4), some (.int a5), none, none, none, none]) rfl ?_
  have hk := mR_mQ (some (.long o.1)) o.2
  generalize mQ _ _ = Q at hk ⊢
  unfold f_mo_luck at hf
  refine y_aload_n (i := 0) (n := 1) ⟨dX12_luck_0, rfl⟩ rfl ?_
  refine y_iconst (n := 2) (v := 0) ⟨dX12_luck_1, rfl⟩ ki_0 ?_
  refine y_putI (n := 5) ⟨dX12_luck_2, rfl⟩ kfX12_214 l_66 (by decide +kernel) rfl ?_
  refine y_iload_n (i := 1) (n := 6) ⟨dX12_luck_5, rfl⟩ rfl ?_
  refine y_iconst (n := 7) (v := 1) ⟨dX12_luck_6, rfl⟩ ki_1 ?_
  refine y_bipush (n := 9) (v := 9) ⟨dX12_luck_7, rfl⟩ kb_9 ?_
  refine c_mo_within a1 1 9 (sI M 66 0 0) (n := 12) ⟨dX12_luck_9, rfl⟩ klX12_221 rfl (by decide) (Nat.le_of_ble_eq_true rfl) rfl rfl ?_
  refine y_if_eq (t := 54) (n := 15) ⟨dX12_luck_12, rfl, rfl⟩ (fun h0 => ?_) (fun h0 => ?_)
  · have hc := bI_0 h0
    replace hf := i_f hc hf
    refine y_ldc2 (n := 57) ⟨dX12_luck_54, rfl⟩ kcX12_460 ?_
    cases hf
    exact y_lreturn (n := 58) ⟨dX12_luck_57, rfl⟩ rfl hk
  · have hc := bI_1 h0
    replace hf := i_t hc hf
    refine y_iload_n (i := 2) (n := 16) ⟨dX12_luck_15, rfl⟩ rfl ?_
    refine y_iconst (n := 17) (v := 1) ⟨dX12_luck_16, rfl⟩ ki_1 ?_
    refine y_bipush (n := 19) (v := 6) ⟨dX12_luck_17, rfl⟩ kb_6 ?_
    refine c_mo_within a2 1 6 (sI M 66 0 0) (n := 22) ⟨dX12_luck_19, rfl⟩ klX12_221 rfl (by decide) (Nat.le_of_ble_eq_true rfl) rfl rfl ?_
    refine y_if_eq (t := 54) (n := 25) ⟨dX12_luck_22, rfl, rfl⟩ (fun h0 => ?_) (fun h0 => ?_)
    · have hc := bI_0 h0
      replace hf := i_f hc hf
      refine y_ldc2 (n := 57) ⟨dX12_luck_54, rfl⟩ kcX12_460 ?_
      cases hf
      exact y_lreturn (n := 58) ⟨dX12_luck_57, rfl⟩ rfl hk
    · have hc := bI_1 h0
      replace hf := i_t hc hf
      refine y_iload_n (i := 3) (n := 26) ⟨dX12_luck_25, rfl⟩ rfl ?_
      refine y_iconst (n := 27) (v := 0) ⟨dX12_luck_26, rfl⟩ ki_0 ?_
      refine y_iload_n (i := 2) (n := 28) ⟨dX12_luck_27, rfl⟩ rfl ?_
      refine c_mo_within a3 0 a2 (sI M 66 0 0) (n := 31) ⟨dX12_luck_28, rfl⟩ klX12_221 rfl (by decide) (Nat.le_of_ble_eq_true rfl) rfl rfl ?_
      refine y_if_eq (t := 54) (n := 34) ⟨dX12_luck_31, rfl, rfl⟩ (fun h0 => ?_) (fun h0 => ?_)
      · have hc := bI_0 h0
        replace hf := i_f hc hf
        refine y_ldc2 (n := 57) ⟨dX12_luck_54, rfl⟩ kcX12_460 ?_
        cases hf
        exact y_lreturn (n := 58) ⟨dX12_luck_57, rfl⟩ rfl hk
      · have hc := bI_1 h0
        replace hf := i_t hc hf
        refine y_iload (i := 4) (n := 36) ⟨dX12_luck_34, rfl⟩ rfl ?_
        refine y_iconst (n := 37) (v := 1) ⟨dX12_luck_36, rfl⟩ ki_1 ?_
        refine y_iconst (n := 38) (v := 3) ⟨dX12_luck_37, rfl⟩ ki_3 ?_
        refine c_mo_within a4 1 3 (sI M 66 0 0) (n := 41) ⟨dX12_luck_38, rfl⟩ klX12_221 rfl (by decide) (Nat.le_of_ble_eq_true rfl) rfl rfl ?_
        refine y_if_eq (t := 54) (n := 44) ⟨dX12_luck_41, rfl, rfl⟩ (fun h0 => ?_) (fun h0 => ?_)
        · have hc := bI_0 h0
          replace hf := i_f hc hf
          refine y_ldc2 (n := 57) ⟨dX12_luck_54, rfl⟩ kcX12_460 ?_
          cases hf
          exact y_lreturn (n := 58) ⟨dX12_luck_57, rfl⟩ rfl hk
        · have hc := bI_1 h0
          replace hf := i_t hc hf
          refine y_iload (i := 5) (n := 46) ⟨dX12_luck_44, rfl⟩ rfl ?_
          refine y_iconst (n := 47) (v := 0) ⟨dX12_luck_46, rfl⟩ ki_0 ?_
          refine y_iconst (n := 48) (v := 1) ⟨dX12_luck_47, rfl⟩ ki_1 ?_
          refine c_mo_within a5 0 1 (sI M 66 0 0) (n := 51) ⟨dX12_luck_48, rfl⟩ klX12_221 rfl (by decide) (Nat.le_of_ble_eq_true rfl) rfl rfl ?_
          refine y_if_ne (t := 58) (n := 54) ⟨dX12_luck_51, rfl, rfl⟩ (fun h0 => ?_) (fun h0 => ?_)
          · have hc := bI_1 h0
            replace hf := i_t hc hf
            refine y_lconst (n := 59) (v := 0) ⟨dX12_luck_58, rfl⟩ kl_0 ?_
            refine y_lstore (i := 6) (n := 61) (L2 := [some (.ref 66), some (.int a1), some (.int a2), some (.int a3), some (.int a4), some (.int a5), some (.long 0), none, none, none]) ⟨dX12_luck_59, rfl⟩ (by decide) rfl rfl ?_
            refine y_iconst (n := 62) (v := 0) ⟨dX12_luck_61, rfl⟩ ki_0 ?_
            refine y_istore (i := 8) (n := 64) (L2 := [some (.ref 66), some (.int a1), some (.int a2), some (.int a3), some (.int a4), some (.int a5), some (.long 0), none, some (.int 0), none]) ⟨dX12_luck_62, rfl⟩ (by decide) rfl rfl ?_
            obtain ⟨t7, hl8, hf⟩ := b_s hf
            refine y_wk (L2 := [none, some (.int a1), some (.int a2), some (.int a3), some (.int a4), some (.int a5), some (.long 0), none, some (.int 0), none]) ⟨Or.inl rfl, Or.inr rfl, Or.inr rfl, Or.inr rfl, Or.inr rfl, Or.inr rfl, Or.inr rfl, Or.inr rfl, Or.inr rfl, Or.inr rfl, trivial⟩ (wl_mo_luck_64 a1 a2 a3 a4 a5 0 0 (sI M 66 0 0) hl8 ?_)
            show mW mX12_luck 2 Q 108 [none, none, some (.int a2), none, some (.int a4), some (.int a5), some (.long t7), none, none, none] [] (sI M 66 0 0)
            refine y_ldc2 (n := 111) ⟨dX12_luck_108, rfl⟩ kcX12_473 ?_
            refine y_iload_n (i := 2) (n := 112) ⟨dX12_luck_111, rfl⟩ rfl ?_
            obtain ⟨v10, hv11, hf⟩ := b_s hf
            refine c_mo_power 10 a2 (sI M 66 0 0) (n := 115) ⟨dX12_luck_112, rfl⟩ klX12_469 hv11 (by decide) (Nat.le_of_ble_eq_true rfl) rfl rfl ?_
            refine y_iload (i := 4) (n := 117) ⟨dX12_luck_115, rfl⟩ rfl ?_
            obtain ⟨v12, hv13, hf⟩ := b_s hf
            refine c_mo_power v10 a4 (sI M 66 0 0) (n := 120) ⟨dX12_luck_117, rfl⟩ klX12_469 hv13 (by decide) (Nat.le_of_ble_eq_true rfl) rfl rfl ?_
            refine y_lstore (i := 8) (n := 122) (L2 := [none, none, some (.int a2), none, some (.int a4), some (.int a5), some (.long t7), none, some (.long v12), none]) ⟨dX12_luck_120, rfl⟩ (by decide) rfl rfl ?_
            refine y_lload (i := 8) (n := 124) ⟨dX12_luck_122, rfl⟩ rfl ?_
            refine y_lload (i := 6) (n := 126) ⟨dX12_luck_124, rfl⟩ rfl ?_
            refine y_iload (i := 4) (n := 128) ⟨dX12_luck_126, rfl⟩ rfl ?_
            obtain ⟨v14, hv15, hf⟩ := b_s hf
            refine c_mo_power t7 a4 (sI M 66 0 0) (n := 131) ⟨dX12_luck_128, rfl⟩ klX12_469 hv15 (by decide) (Nat.le_of_ble_eq_true rfl) rfl rfl ?_
            refine y_lsub (n := 132) ⟨dX12_luck_131, rfl⟩ ?_
            refine y_lload (i := 8) (n := 134) ⟨dX12_luck_132, rfl⟩ rfl ?_
            refine y_iload (i := 5) (n := 136) ⟨dX12_luck_134, rfl⟩ rfl ?_
            obtain ⟨v16, hv17, hf⟩ := b_s hf
            refine c_mo_lowest (v12 - v14) v12 a5 (sI M 66 0 0) (n := 139) ⟨dX12_luck_136, rfl⟩ klX12_465 hv17 (by decide) (Nat.le_of_ble_eq_true rfl) rfl rfl ?_
            cases hf
            exact y_lreturn (n := 140) ⟨dX12_luck_139, rfl⟩ rfl hk
          · have hc := bI_0 h0
            replace hf := i_f hc hf
            refine y_ldc2 (n := 57) ⟨dX12_luck_54, rfl⟩ kcX12_460 ?_
            cases hf
            exact y_lreturn (n := 58) ⟨dX12_luck_57, rfl⟩ rfl hk
theorem c_mo_luck (a1 : Int32) (a2 : Int32) (a3 : Int32) (a4 : Int32) (a5 : Int32) (M : dM) {o : (Int64 × dM)} {y : mz_M} {d : Nat} {Q : mz_P} {pc n i : Nat} {L : List (Option Value)} {st : List Value} (h : mz_d y.2.1 pc n 3 (.invokevirtual i)) (hl : mz_ml y.1.cls i yX12_luck) (hf : f_mo_luck a1 a2 a3 a4 a5 M = some o) (hd : 2 + 1 ≤ d) (hsm : (st.map (fun v => v.category)).sum ≤ 8) (hLr : mz_rL 133 L = true) (hSr : mz_rS 133 st = true) (kk : mW y d Q n L (.long o.1 :: st) o.2) : mW y d Q pc L (.int a5 :: .int a4 :: .int a3 :: .int a2 :: .int a1 :: .ref 66 :: st) M :=
  y_callV kmX12_luck kvX12_luck l_66 (by decide +kernel) (by decide +kernel) h hl (ok_mo_luck a1 a2 a3 a4 a5 M hf) (vs := [.int a1, .int a2, .int a3, .int a4, .int a5]) rfl rfl hd hsm hLr hSr kk
def K_mo_canOf_4 (Q : mz_P) (x1 : Int32) (M : dM) : ((Int32 × Int32) ⊕ Int32) → Prop
  | .inl s => mW mX12_canOf 2 Q 4 [some (.ref 66), some (.int x1), some (.int s.1), some (.int s.2), none, none, none] [] M
  | .inr r => mR Q (some (.int r)) M
def K_mo_canOf_25 (Q : mz_P) (x1 : Int32) (x3 : Int32) (x4 : Int32) (M : dM) : ((Int32 × Int32) ⊕ Int32) → Prop
  | .inl s => mW mX12_canOf 2 Q 25 [some (.ref 66), some (.int x1), some (.int s.1), some (.int x3), some (.int x4), some (.int s.2), none] [] M
  | .inr t => mW mX12_canOf 2 Q 86 [some (.ref 66), some (.int x1), some (.int t), some (.int x3), none, none, none] [] M
noncomputable def b_mo_canOf_25_42 (x1 : Int32) (x2 : Int32) (x3 : Int32) (x4 : Int32) (x5 : Int32) (y0 : Int32) (y1 : Int32) (M : dM) : Option ((Int32 × Int32) ⊕ Int32) :=
  if y1 ≤ y0 then
    some (.inr x2)
  else
    if x4 < 0 then
      some (.inr x2)
    else
      gd (vp_in x1 40) <|
      (f_mo_presentAt (gI M 74 x1.toNatClampNeg) x4 x5 M).bind fun v3 =>
      (f_mo_bits v3).bind fun v5 =>
      if v5 = 1 then
        some (.inl ((x2 ||| v3), (x5 + 1)))
      else
        some (.inl (x2, (x5 + 1)))
noncomputable def b_mo_canOf_25_25 (x1 : Int32) (x2 : Int32) (x3 : Int32) (x4 : Int32) (x5 : Int32) (M : dM) : Option ((Int32 × Int32) ⊕ Int32) :=
  if x3 = 0 then
    gd (vp_in x1 40) <|
    b_mo_canOf_25_42 x1 x2 x3 x4 x5 x5 (gI M 77 x1.toNatClampNeg) M
  else
    b_mo_canOf_25_42 x1 x2 x3 x4 x5 x5 24 M
noncomputable def l_mo_canOf_25 (x1 : Int32) (x2 : Int32) (x3 : Int32) (x4 : Int32) (x5 : Int32) (M : dM) : Option Int32 := lpc (fun s => b_mo_canOf_25_25 x1 s.1 x3 x4 s.2 M) (x2, x5)
noncomputable def b_mo_canOf_4_4 (x1 : Int32) (x2 : Int32) (x3 : Int32) (M : dM) : Option ((Int32 × Int32) ⊕ Int32) :=
  if (gI M 66 32) < x3 then
    some (.inr x2)
  else
    gd (vp_in x1 40) <|
    (l_mo_canOf_25 x1 x2 x3 ((gI M 76 x1.toNatClampNeg) - x3) 0 M).bind fun t8 =>
      some (.inl (t8, (x3 + 1)))
noncomputable def l_mo_canOf_4 (x1 : Int32) (x2 : Int32) (x3 : Int32) (M : dM) : Option Int32 := lpc (fun s => b_mo_canOf_4_4 x1 s.1 s.2 M) (x2, x3)
noncomputable def f_mo_canOf (a1 : Int32) (M : dM) : Option Int32 :=
  (l_mo_canOf_4 a1 0 0 M).bind fun r13 => some r13
theorem w_b_mo_canOf_25_42 (x1 : Int32) (x2 : Int32) (x3 : Int32) (x4 : Int32) (x5 : Int32) (y0 : Int32) (y1 : Int32)  (M : dM) {Q : mz_P} {o : ((Int32 × Int32) ⊕ Int32)} (hf : b_mo_canOf_25_42 x1 x2 x3 x4 x5 y0 y1 M = some o) (hk : K_mo_canOf_25 Q x1 x3 x4 M o) : mW mX12_canOf 2 Q 42 [some (.ref 66), some (.int x1), some (.int x2), some (.int x3), some (.int x4), some (.int x5), none] [.int y1, .int y0] M := by
  unfold b_mo_canOf_25_42 at hf
  refine y_icmp_ge (t := 86) (n := 45) ⟨dX12_canOf_42, rfl, rfl⟩ (fun (hc : y1 ≤ y0) => ?_) (fun (hc : ¬ (y1 ≤ y0)) => ?_)
  · replace hf := i_t hc hf
    cases hf
    exact y_wk (L2 := [some (.ref 66), some (.int x1), some (.int x2), some (.int x3), none, none, none]) ⟨Or.inr rfl, Or.inr rfl, Or.inr rfl, Or.inr rfl, Or.inl rfl, Or.inl rfl, Or.inr rfl, trivial⟩ hk
  · replace hf := i_f hc hf
    refine y_iload (i := 4) (n := 47) ⟨dX12_canOf_45, rfl⟩ rfl ?_
    refine y_if_lt (t := 86) (n := 50) ⟨dX12_canOf_47, rfl, rfl⟩ (fun (hc : x4 < 0) => ?_) (fun (hc : ¬ (x4 < 0)) => ?_)
    · replace hf := i_t hc hf
      cases hf
      exact y_wk (L2 := [some (.ref 66), some (.int x1), some (.int x2), some (.int x3), none, none, none]) ⟨Or.inr rfl, Or.inr rfl, Or.inr rfl, Or.inr rfl, Or.inl rfl, Or.inl rfl, Or.inr rfl, trivial⟩ hk
    · replace hf := i_f hc hf
      refine y_aload_n (i := 0) (n := 51) ⟨dX12_canOf_50, rfl⟩ rfl ?_
      refine y_aload_n (i := 0) (n := 52) ⟨dX12_canOf_51, rfl⟩ rfl ?_
      refine y_getR (n := 55) ⟨dX12_canOf_52, rfl⟩ kfX12_31 l_66 rfl r_66_10 ?_
      refine y_iload_n (i := 1) (n := 56) ⟨dX12_canOf_55, rfl⟩ rfl ?_
      obtain ⟨hg2, hf⟩ := g_s hf
      refine y_iaload (n := 57) ⟨dX12_canOf_56, rfl⟩ l_74 hg2 ?_
      refine y_iload (i := 4) (n := 59) ⟨dX12_canOf_57, rfl⟩ rfl ?_
      refine y_iload (i := 5) (n := 61) ⟨dX12_canOf_59, rfl⟩ rfl ?_
      obtain ⟨v3, hv4, hf⟩ := b_s hf
      refine c_mo_presentAt (gI M 74 x1.toNatClampNeg) x4 x5 M (n := 64) ⟨dX12_canOf_61, rfl⟩ klX12_231 hv4 (by decide) (Nat.le_of_ble_eq_true rfl) rfl rfl ?_
      refine y_istore (i := 6) (n := 66) (L2 := [some (.ref 66), some (.int x1), some (.int x2), some (.int x3), some (.int x4), some (.int x5), some (.int v3)]) ⟨dX12_canOf_64, rfl⟩ (by decide) rfl rfl ?_
      refine y_iload (i := 6) (n := 68) ⟨dX12_canOf_66, rfl⟩ rfl ?_
      obtain ⟨v5, hv6, hf⟩ := b_s hf
      refine c_mo_bits v3 M (n := 71) ⟨dX12_canOf_68, rfl⟩ klX12_242 hv6 (by decide) (Nat.le_of_ble_eq_true rfl) rfl rfl ?_
      refine y_iconst (n := 72) (v := 1) ⟨dX12_canOf_71, rfl⟩ ki_1 ?_
      refine y_icmp_ne (t := 80) (n := 75) ⟨dX12_canOf_72, rfl, rfl⟩ (fun (hc : ¬ (v5 = 1)) => ?_) (fun (hc : v5 = 1) => ?_)
      · replace hf := i_f hc hf
        refine y_iinc (i := 5) (n := 83) (b := (x5 + 1)) (L2 := [some (.ref 66), some (.int x1), some (.int x2), some (.int x3), some (.int x4), some (.int (x5 + 1)), some (.int v3)]) ⟨dX12_canOf_80, rfl⟩ rfl (by rw [ki_1]) (by decide) rfl rfl ?_
        refine y_goto (t := 25) ⟨dX12_canOf_83, rfl, rfl⟩ ?_
        cases hf
        exact y_wk (L2 := [some (.ref 66), some (.int x1), some (.int x2), some (.int x3), some (.int x4), some (.int (x5 + 1)), none]) ⟨Or.inr rfl, Or.inr rfl, Or.inr rfl, Or.inr rfl, Or.inr rfl, Or.inr rfl, Or.inl rfl, trivial⟩ hk
      · replace hf := i_t hc hf
        refine y_iload_n (i := 2) (n := 76) ⟨dX12_canOf_75, rfl⟩ rfl ?_
        refine y_iload (i := 6) (n := 78) ⟨dX12_canOf_76, rfl⟩ rfl ?_
        refine y_ior (n := 79) ⟨dX12_canOf_78, rfl⟩ ?_
        refine y_istore_n (i := 2) (n := 80) (L2 := [some (.ref 66), some (.int x1), some (.int (x2 ||| v3)), some (.int x3), some (.int x4), some (.int x5), some (.int v3)]) ⟨dX12_canOf_79, rfl⟩ (by decide) rfl rfl ?_
        refine y_iinc (i := 5) (n := 83) (b := (x5 + 1)) (L2 := [some (.ref 66), some (.int x1), some (.int (x2 ||| v3)), some (.int x3), some (.int x4), some (.int (x5 + 1)), some (.int v3)]) ⟨dX12_canOf_80, rfl⟩ rfl (by rw [ki_1]) (by decide) rfl rfl ?_
        refine y_goto (t := 25) ⟨dX12_canOf_83, rfl, rfl⟩ ?_
        cases hf
        exact y_wk (L2 := [some (.ref 66), some (.int x1), some (.int (x2 ||| v3)), some (.int x3), some (.int x4), some (.int (x5 + 1)), none]) ⟨Or.inr rfl, Or.inr rfl, Or.inr rfl, Or.inr rfl, Or.inr rfl, Or.inr rfl, Or.inl rfl, trivial⟩ hk
theorem w_b_mo_canOf_25_25 (x1 : Int32) (x2 : Int32) (x3 : Int32) (x4 : Int32) (x5 : Int32)  (M : dM) {Q : mz_P} {o : ((Int32 × Int32) ⊕ Int32)} (hf : b_mo_canOf_25_25 x1 x2 x3 x4 x5 M = some o) (hk : K_mo_canOf_25 Q x1 x3 x4 M o) : mW mX12_canOf 2 Q 25 [some (.ref 66), some (.int x1), some (.int x2), some (.int x3), some (.int x4), some (.int x5), none] [] M := by
  unfold b_mo_canOf_25_25 at hf
  refine y_iload (i := 5) (n := 27) ⟨dX12_canOf_25, rfl⟩ rfl ?_
  refine y_iload_n (i := 3) (n := 28) ⟨dX12_canOf_27, rfl⟩ rfl ?_
  refine y_if_ne (t := 40) (n := 31) ⟨dX12_canOf_28, rfl, rfl⟩ (fun (hc : ¬ (x3 = 0)) => ?_) (fun (hc : x3 = 0) => ?_)
  · replace hf := i_f hc hf
    refine y_bipush (n := 42) (v := 24) ⟨dX12_canOf_40, rfl⟩ kb_24 ?_
    exact y_wk (L2 := [some (.ref 66), some (.int x1), some (.int x2), some (.int x3), some (.int x4), some (.int x5), none]) ⟨Or.inr rfl, Or.inr rfl, Or.inr rfl, Or.inr rfl, Or.inr rfl, Or.inr rfl, Or.inr rfl, trivial⟩ (w_b_mo_canOf_25_42 x1 x2 x3 x4 x5 x5 24 M hf hk)
  · replace hf := i_t hc hf
    refine y_aload_n (i := 0) (n := 32) ⟨dX12_canOf_31, rfl⟩ rfl ?_
    refine y_getR (n := 35) ⟨dX12_canOf_32, rfl⟩ kfX12_40 l_66 rfl r_66_13 ?_
    refine y_iload_n (i := 1) (n := 36) ⟨dX12_canOf_35, rfl⟩ rfl ?_
    obtain ⟨hg7, hf⟩ := g_s hf
    refine y_iaload (n := 37) ⟨dX12_canOf_36, rfl⟩ l_77 hg7 ?_
    refine y_goto (t := 42) ⟨dX12_canOf_37, rfl, rfl⟩ ?_
    exact y_wk (L2 := [some (.ref 66), some (.int x1), some (.int x2), some (.int x3), some (.int x4), some (.int x5), none]) ⟨Or.inr rfl, Or.inr rfl, Or.inr rfl, Or.inr rfl, Or.inr rfl, Or.inr rfl, Or.inr rfl, trivial⟩ (w_b_mo_canOf_25_42 x1 x2 x3 x4 x5 x5 (gI M 77 x1.toNatClampNeg) M hf hk)
theorem wl_mo_canOf_25 (x1 : Int32) (x2 : Int32) (x3 : Int32) (x4 : Int32) (x5 : Int32) (M : dM) {Q : mz_P} {x : Int32} (hf : l_mo_canOf_25 x1 x2 x3 x4 x5 M = some x) (hk : K_mo_canOf_25 Q x1 x3 x4 M (.inr x)) : mW mX12_canOf 2 Q 25 [some (.ref 66), some (.int x1), some (.int x2), some (.int x3), some (.int x4), some (.int x5), none] [] M :=
  lpc_wp (σ := (Int32 × Int32)) (ξ := Int32) (s := (x2, x5)) (Wh := fun s => mW mX12_canOf 2 Q 25 [some (.ref 66), some (.int x1), some (.int s.1), some (.int x3), some (.int x4), some (.int s.2), none] [] M) (K := K_mo_canOf_25 Q x1 x3 x4 M) (fun _ h => h) (fun s o hb hk => w_b_mo_canOf_25_25 x1 s.1 x3 x4 s.2 M hb hk) hf hk
theorem w_b_mo_canOf_4_4 (x1 : Int32) (x2 : Int32) (x3 : Int32)  (M : dM) {Q : mz_P} {o : ((Int32 × Int32) ⊕ Int32)} (hf : b_mo_canOf_4_4 x1 x2 x3 M = some o) (hk : K_mo_canOf_4 Q x1 M o) : mW mX12_canOf 2 Q 4 [some (.ref 66), some (.int x1), some (.int x2), some (.int x3), none, none, none] [] M := by
  unfold b_mo_canOf_4_4 at hf
  refine y_iload_n (i := 3) (n := 5) ⟨dX12_canOf_4, rfl⟩ rfl ?_
  refine y_aload_n (i := 0) (n := 6) ⟨dX12_canOf_5, rfl⟩ rfl ?_
  refine y_getI (n := 9) ⟨dX12_canOf_6, rfl⟩ kfX12_207 l_66 rfl ?_
  refine y_icmp_gt (t := 92) (n := 12) ⟨dX12_canOf_9, rfl, rfl⟩ (fun (hc : (gI M 66 32) < x3) => ?_) (fun (hc : ¬ ((gI M 66 32) < x3)) => ?_)
  · replace hf := i_t hc hf
    refine y_iload_n (i := 2) (n := 93) ⟨dX12_canOf_92, rfl⟩ rfl ?_
    cases hf
    exact y_ireturn (n := 94) ⟨dX12_canOf_93, rfl⟩ rfl rfl hk
  · replace hf := i_f hc hf
    refine y_aload_n (i := 0) (n := 13) ⟨dX12_canOf_12, rfl⟩ rfl ?_
    refine y_getR (n := 16) ⟨dX12_canOf_13, rfl⟩ kfX12_37 l_66 rfl r_66_12 ?_
    refine y_iload_n (i := 1) (n := 17) ⟨dX12_canOf_16, rfl⟩ rfl ?_
    obtain ⟨hg1, hf⟩ := g_s hf
    refine y_iaload (n := 18) ⟨dX12_canOf_17, rfl⟩ l_76 hg1 ?_
    refine y_iload_n (i := 3) (n := 19) ⟨dX12_canOf_18, rfl⟩ rfl ?_
    refine y_isub (n := 20) ⟨dX12_canOf_19, rfl⟩ ?_
    refine y_istore (i := 4) (n := 22) (L2 := [some (.ref 66), some (.int x1), some (.int x2), some (.int x3), some (.int ((gI M 76 x1.toNatClampNeg) - x3)), none, none]) ⟨dX12_canOf_20, rfl⟩ (by decide) rfl rfl ?_
    refine y_iconst (n := 23) (v := 0) ⟨dX12_canOf_22, rfl⟩ ki_0 ?_
    refine y_istore (i := 5) (n := 25) (L2 := [some (.ref 66), some (.int x1), some (.int x2), some (.int x3), some (.int ((gI M 76 x1.toNatClampNeg) - x3)), some (.int 0), none]) ⟨dX12_canOf_23, rfl⟩ (by decide) rfl rfl ?_
    obtain ⟨t8, hl9, hf⟩ := b_s hf
    refine y_wk (L2 := [some (.ref 66), some (.int x1), some (.int x2), some (.int x3), some (.int ((gI M 76 x1.toNatClampNeg) - x3)), some (.int 0), none]) ⟨Or.inr rfl, Or.inr rfl, Or.inr rfl, Or.inr rfl, Or.inr rfl, Or.inr rfl, Or.inr rfl, trivial⟩ (wl_mo_canOf_25 x1 x2 x3 ((gI M 76 x1.toNatClampNeg) - x3) 0 M hl9 ?_)
    show mW mX12_canOf 2 Q 86 [some (.ref 66), some (.int x1), some (.int t8), some (.int x3), none, none, none] [] M
    refine y_iinc (i := 3) (n := 89) (b := (x3 + 1)) (L2 := [some (.ref 66), some (.int x1), some (.int t8), some (.int (x3 + 1)), none, none, none]) ⟨dX12_canOf_86, rfl⟩ rfl (by rw [ki_1]) (by decide) rfl rfl ?_
    refine y_goto (t := 4) ⟨dX12_canOf_89, rfl, rfl⟩ ?_
    cases hf
    exact y_wk (L2 := [some (.ref 66), some (.int x1), some (.int t8), some (.int (x3 + 1)), none, none, none]) ⟨Or.inr rfl, Or.inr rfl, Or.inr rfl, Or.inr rfl, Or.inr rfl, Or.inr rfl, Or.inr rfl, trivial⟩ hk
theorem wl_mo_canOf_4 (x1 : Int32) (x2 : Int32) (x3 : Int32) (M : dM) {Q : mz_P} {x : Int32} (hf : l_mo_canOf_4 x1 x2 x3 M = some x) (hk : K_mo_canOf_4 Q x1 M (.inr x)) : mW mX12_canOf 2 Q 4 [some (.ref 66), some (.int x1), some (.int x2), some (.int x3), none, none, none] [] M :=
  lpc_wp (σ := (Int32 × Int32)) (ξ := Int32) (s := (x2, x3)) (Wh := fun s => mW mX12_canOf 2 Q 4 [some (.ref 66), some (.int x1), some (.int s.1), some (.int s.2), none, none, none] [] M) (K := K_mo_canOf_4 Q x1 M) (fun _ h => h) (fun s o hb hk => w_b_mo_canOf_4_4 x1 s.1 s.2 M hb hk) hf hk
theorem ok_mo_canOf (a1 : Int32) (M : dM) {o : Int32} (hf : f_mo_canOf a1 M = some o) : mO mX12_canOf 2 [.ref 66, .int a1] M (some (.int o)) M := by
  refine y_ok (by decide +kernel) (Nat.le_of_ble_eq_true rfl) (L0 := [some (.ref 66), some (.int a1), none, none, none, none, none]) rfl ?_
  have hk := mR_mQ (some (.int o)) M
  generalize mQ _ _ = Q at hk ⊢
  unfold f_mo_canOf at hf
  refine y_iconst (n := 1) (v := 0) ⟨dX12_canOf_0, rfl⟩ ki_0 ?_
  refine y_istore_n (i := 2) (n := 2) (L2 := [some (.ref 66), some (.int a1), some (.int 0), none, none, none, none]) ⟨dX12_canOf_1, rfl⟩ (by decide) rfl rfl ?_
  refine y_iconst (n := 3) (v := 0) ⟨dX12_canOf_2, rfl⟩ ki_0 ?_
  refine y_istore_n (i := 3) (n := 4) (L2 := [some (.ref 66), some (.int a1), some (.int 0), some (.int 0), none, none, none]) ⟨dX12_canOf_3, rfl⟩ (by decide) rfl rfl ?_
  obtain ⟨r13, hl12, hf⟩ := b_s hf
  cases hf
  exact y_wk (L2 := [some (.ref 66), some (.int a1), some (.int 0), some (.int 0), none, none, none]) ⟨Or.inr rfl, Or.inr rfl, Or.inr rfl, Or.inr rfl, Or.inr rfl, Or.inr rfl, Or.inr rfl, trivial⟩ (wl_mo_canOf_4 a1 0 0 M hl12 hk)
theorem c_mo_canOf (a1 : Int32) (M : dM) {o : Int32} {y : mz_M} {d : Nat} {Q : mz_P} {pc n i : Nat} {L : List (Option Value)} {st : List Value} (h : mz_d y.2.1 pc n 3 (.invokevirtual i)) (hl : mz_ml y.1.cls i yX12_canOf) (hf : f_mo_canOf a1 M = some o) (hd : 2 + 1 ≤ d) (hsm : (st.map (fun v => v.category)).sum ≤ 8) (hLr : mz_rL 133 L = true) (hSr : mz_rS 133 st = true) (kk : mW y d Q n L (.int o :: st) M) : mW y d Q pc L (.int a1 :: .ref 66 :: st) M :=
  y_callV kmX12_canOf kvX12_canOf l_66 (by decide +kernel) (by decide +kernel) h hl (ok_mo_canOf a1 M hf) (vs := [.int a1]) rfl rfl hd hsm hLr hSr kk
noncomputable def f_mo_can (a1 : Int32) (M : dM) : Option (Int32 × dM) :=
  if (f_mo_isFind a1 (sI M 66 0 0)) = true then
    (f_mo_canOf a1 (sI M 66 0 0)).bind fun v1 =>
    some (v1, (sI M 66 0 0))
  else
    some ((-1), (sI M 66 0 0))
theorem ok_mo_can (a1 : Int32) (M : dM) {o : (Int32 × dM)} (hf : f_mo_can a1 M = some o) : mO mX12_can 3 [.ref 66, .int a1] M (some (.int o.1)) o.2 := by
  refine y_ok (by decide +kernel) (Nat.le_of_ble_eq_true rfl) (L0 := [some (.ref 66), some (.int a1)]) rfl ?_
  have hk := mR_mQ (some (.int o.1)) o.2
  generalize mQ _ _ = Q at hk ⊢
  unfold f_mo_can at hf
  refine y_aload_n (i := 0) (n := 1) ⟨dX12_can_0, rfl⟩ rfl ?_
  refine y_iconst (n := 2) (v := 0) ⟨dX12_can_1, rfl⟩ ki_0 ?_
  refine y_putI (n := 5) ⟨dX12_can_2, rfl⟩ kfX12_214 l_66 (by decide +kernel) rfl ?_
  refine y_aload_n (i := 0) (n := 6) ⟨dX12_can_5, rfl⟩ rfl ?_
  refine y_iload_n (i := 1) (n := 7) ⟨dX12_can_6, rfl⟩ rfl ?_
  refine c_mo_isFind a1 (sI M 66 0 0) (n := 10) ⟨dX12_can_7, rfl⟩ klX12_249 rfl (by decide) (Nat.le_of_ble_eq_true rfl) rfl rfl ?_
  refine y_if_eq (t := 21) (n := 13) ⟨dX12_can_10, rfl, rfl⟩ (fun h0 => ?_) (fun h0 => ?_)
  · have hc := bI_0 h0
    replace hf := i_f hc hf
    refine y_iconst (n := 22) (v := (-1)) ⟨dX12_can_21, rfl⟩ ki_m1 ?_
    cases hf
    exact y_ireturn (n := 23) ⟨dX12_can_22, rfl⟩ rfl rfl hk
  · have hc := bI_1 h0
    replace hf := i_t hc hf
    refine y_aload_n (i := 0) (n := 14) ⟨dX12_can_13, rfl⟩ rfl ?_
    refine y_iload_n (i := 1) (n := 15) ⟨dX12_can_14, rfl⟩ rfl ?_
    obtain ⟨v1, hv2, hf⟩ := b_s hf
    refine c_mo_canOf a1 (sI M 66 0 0) (n := 18) ⟨dX12_can_15, rfl⟩ klX12_478 hv2 (by decide) (Nat.le_of_ble_eq_true rfl) rfl rfl ?_
    refine y_goto (t := 22) ⟨dX12_can_18, rfl, rfl⟩ ?_
    cases hf
    exact y_ireturn (n := 23) ⟨dX12_can_22, rfl⟩ rfl rfl hk
theorem c_mo_can (a1 : Int32) (M : dM) {o : (Int32 × dM)} {y : mz_M} {d : Nat} {Q : mz_P} {pc n i : Nat} {L : List (Option Value)} {st : List Value} (h : mz_d y.2.1 pc n 3 (.invokevirtual i)) (hl : mz_ml y.1.cls i yX12_can) (hf : f_mo_can a1 M = some o) (hd : 3 + 1 ≤ d) (hsm : (st.map (fun v => v.category)).sum ≤ 8) (hLr : mz_rL 133 L = true) (hSr : mz_rS 133 st = true) (kk : mW y d Q n L (.int o.1 :: st) o.2) : mW y d Q pc L (.int a1 :: .ref 66 :: st) M :=
  y_callV kmX12_can kvX12_can l_66 (by decide +kernel) (by decide +kernel) h hl (ok_mo_can a1 M hf) (vs := [.int a1]) rfl rfl hd hsm hLr hSr kk
noncomputable def f_mo_seen (a1 : Int32) (a2 : Int32) (a3 : Int32) (M : dM) : Option (Bool × dM) :=
  if (f_mo_isHand a1) = true then
    if (f_mo_isSite a2) = true then
      if (f_mo_within a3 0 999) = true then
        if (gI (sI M 66 0 0) 66 55) = 20 then
          some (false, (sI M 66 0 0))
        else
          gd (vp_in (gI (sI M 66 0 0) 66 55) 20) <|
          gd (vp_in (gI (sI (sI M 66 0 0) 101 (gI (sI M 66 0 0) 66 55).toNatClampNeg a1) 66 55) 20) <|
          gd (vp_in (gI (sI (sI (sI M 66 0 0) 101 (gI (sI M 66 0 0) 66 55).toNatClampNeg a1) 102 (gI (sI (sI M 66 0 0) 101 (gI (sI M 66 0 0) 66 55).toNatClampNeg a1) 66 55).toNatClampNeg a2) 66 55) 20) <|
          some (true, (sI (sI (sI (sI (sI M 66 0 0) 101 (gI (sI M 66 0 0) 66 55).toNatClampNeg a1) 102 (gI (sI (sI M 66 0 0) 101 (gI (sI M 66 0 0) 66 55).toNatClampNeg a1) 66 55).toNatClampNeg a2) 103 (gI (sI (sI (sI M 66 0 0) 101 (gI (sI M 66 0 0) 66 55).toNatClampNeg a1) 102 (gI (sI (sI M 66 0 0) 101 (gI (sI M 66 0 0) 66 55).toNatClampNeg a1) 66 55).toNatClampNeg a2) 66 55).toNatClampNeg a3) 66 55 ((gI (sI (sI (sI (sI M 66 0 0) 101 (gI (sI M 66 0 0) 66 55).toNatClampNeg a1) 102 (gI (sI (sI M 66 0 0) 101 (gI (sI M 66 0 0) 66 55).toNatClampNeg a1) 66 55).toNatClampNeg a2) 103 (gI (sI (sI (sI M 66 0 0) 101 (gI (sI M 66 0 0) 66 55).toNatClampNeg a1) 102 (gI (sI (sI M 66 0 0) 101 (gI (sI M 66 0 0) 66 55).toNatClampNeg a1) 66 55).toNatClampNeg a2) 66 55).toNatClampNeg a3) 66 55) + 1)))
      else
        some (false, (sI M 66 0 0))
    else
      some (false, (sI M 66 0 0))
  else
    some (false, (sI M 66 0 0))
theorem ok_mo_seen (a1 : Int32) (a2 : Int32) (a3 : Int32) (M : dM) {o : (Bool × dM)} (hf : f_mo_seen a1 a2 a3 M = some o) : mO mX12_seen 2 [.ref 66, .int a1, .int a2, .int a3] M (some (.int (bI o.1))) o.2 := by
  refine y_ok (by decide +kernel) (Nat.le_of_ble_eq_true rfl) (L0 := [some (.ref 66), some (.int a1), some (.int a2), some (.int a3)]) rfl ?_
  have hk := mR_mQ (some (.int (bI o.1))) o.2
  generalize mQ _ _ = Q at hk ⊢
  unfold f_mo_seen at hf
  refine y_aload_n (i := 0) (n := 1) ⟨dX12_seen_0, rfl⟩ rfl ?_
  refine y_iconst (n := 2) (v := 0) ⟨dX12_seen_1, rfl⟩ ki_0 ?_
  refine y_putI (n := 5) ⟨dX12_seen_2, rfl⟩ kfX12_214 l_66 (by decide +kernel) rfl ?_
  refine y_iload_n (i := 1) (n := 6) ⟨dX12_seen_5, rfl⟩ rfl ?_
  refine c_mo_isHand a1 (sI M 66 0 0) (n := 9) ⟨dX12_seen_6, rfl⟩ klX12_225 rfl (by decide) (Nat.le_of_ble_eq_true rfl) rfl rfl ?_
  refine y_if_eq (t := 39) (n := 12) ⟨dX12_seen_9, rfl, rfl⟩ (fun h0 => ?_) (fun h0 => ?_)
  · have hc := bI_0 h0
    replace hf := i_f hc hf
    refine y_iconst (n := 40) (v := 0) ⟨dX12_seen_39, rfl⟩ ki_0 ?_
    cases hf
    exact y_ireturn (n := 41) ⟨dX12_seen_40, rfl⟩ rfl rfl hk
  · have hc := bI_1 h0
    replace hf := i_t hc hf
    refine y_iload_n (i := 2) (n := 13) ⟨dX12_seen_12, rfl⟩ rfl ?_
    refine c_mo_isSite a2 (sI M 66 0 0) (n := 16) ⟨dX12_seen_13, rfl⟩ klX12_217 rfl (by decide) (Nat.le_of_ble_eq_true rfl) rfl rfl ?_
    refine y_if_eq (t := 39) (n := 19) ⟨dX12_seen_16, rfl, rfl⟩ (fun h0 => ?_) (fun h0 => ?_)
    · have hc := bI_0 h0
      replace hf := i_f hc hf
      refine y_iconst (n := 40) (v := 0) ⟨dX12_seen_39, rfl⟩ ki_0 ?_
      cases hf
      exact y_ireturn (n := 41) ⟨dX12_seen_40, rfl⟩ rfl rfl hk
    · have hc := bI_1 h0
      replace hf := i_t hc hf
      refine y_iload_n (i := 3) (n := 20) ⟨dX12_seen_19, rfl⟩ rfl ?_
      refine y_iconst (n := 21) (v := 0) ⟨dX12_seen_20, rfl⟩ ki_0 ?_
      refine y_sipush (n := 24) (v := 999) ⟨dX12_seen_21, rfl⟩ ks_999 ?_
      refine c_mo_within a3 0 999 (sI M 66 0 0) (n := 27) ⟨dX12_seen_24, rfl⟩ klX12_221 rfl (by decide) (Nat.le_of_ble_eq_true rfl) rfl rfl ?_
      refine y_if_eq (t := 39) (n := 30) ⟨dX12_seen_27, rfl, rfl⟩ (fun h0 => ?_) (fun h0 => ?_)
      · have hc := bI_0 h0
        replace hf := i_f hc hf
        refine y_iconst (n := 40) (v := 0) ⟨dX12_seen_39, rfl⟩ ki_0 ?_
        cases hf
        exact y_ireturn (n := 41) ⟨dX12_seen_40, rfl⟩ rfl rfl hk
      · have hc := bI_1 h0
        replace hf := i_t hc hf
        refine y_aload_n (i := 0) (n := 31) ⟨dX12_seen_30, rfl⟩ rfl ?_
        refine y_getI (n := 34) ⟨dX12_seen_31, rfl⟩ kfX12_475 l_66 rfl ?_
        refine y_bipush (n := 36) (v := 20) ⟨dX12_seen_34, rfl⟩ kb_20 ?_
        refine y_icmp_ne (t := 41) (n := 39) ⟨dX12_seen_36, rfl, rfl⟩ (fun (hc : ¬ ((gI (sI M 66 0 0) 66 55) = 20)) => ?_) (fun (hc : (gI (sI M 66 0 0) 66 55) = 20) => ?_)
        · replace hf := i_f hc hf
          refine y_aload_n (i := 0) (n := 42) ⟨dX12_seen_41, rfl⟩ rfl ?_
          refine y_getR (n := 45) ⟨dX12_seen_42, rfl⟩ kfX12_113 l_66 rfl r_66_56 ?_
          refine y_aload_n (i := 0) (n := 46) ⟨dX12_seen_45, rfl⟩ rfl ?_
          refine y_getI (n := 49) ⟨dX12_seen_46, rfl⟩ kfX12_475 l_66 rfl ?_
          refine y_iload_n (i := 1) (n := 50) ⟨dX12_seen_49, rfl⟩ rfl ?_
          obtain ⟨hg1, hf⟩ := g_s hf
          refine y_iastore (n := 51) ⟨dX12_seen_50, rfl⟩ l_101 hg1 ?_
          refine y_aload_n (i := 0) (n := 52) ⟨dX12_seen_51, rfl⟩ rfl ?_
          refine y_getR (n := 55) ⟨dX12_seen_52, rfl⟩ kfX12_116 l_66 rfl r_66_57 ?_
          refine y_aload_n (i := 0) (n := 56) ⟨dX12_seen_55, rfl⟩ rfl ?_
          refine y_getI (n := 59) ⟨dX12_seen_56, rfl⟩ kfX12_475 l_66 rfl ?_
          refine y_iload_n (i := 2) (n := 60) ⟨dX12_seen_59, rfl⟩ rfl ?_
          obtain ⟨hg2, hf⟩ := g_s hf
          refine y_iastore (n := 61) ⟨dX12_seen_60, rfl⟩ l_102 hg2 ?_
          refine y_aload_n (i := 0) (n := 62) ⟨dX12_seen_61, rfl⟩ rfl ?_
          refine y_getR (n := 65) ⟨dX12_seen_62, rfl⟩ kfX12_119 l_66 rfl r_66_58 ?_
          refine y_aload_n (i := 0) (n := 66) ⟨dX12_seen_65, rfl⟩ rfl ?_
          refine y_getI (n := 69) ⟨dX12_seen_66, rfl⟩ kfX12_475 l_66 rfl ?_
          refine y_iload_n (i := 3) (n := 70) ⟨dX12_seen_69, rfl⟩ rfl ?_
          obtain ⟨hg3, hf⟩ := g_s hf
          refine y_iastore (n := 71) ⟨dX12_seen_70, rfl⟩ l_103 hg3 ?_
          refine y_aload_n (i := 0) (n := 72) ⟨dX12_seen_71, rfl⟩ rfl ?_
          refine y_dup_r (n := 73) ⟨dX12_seen_72, rfl⟩ ?_
          refine y_getI (n := 76) ⟨dX12_seen_73, rfl⟩ kfX12_475 l_66 rfl ?_
          refine y_iconst (n := 77) (v := 1) ⟨dX12_seen_76, rfl⟩ ki_1 ?_
          refine y_iadd (n := 78) ⟨dX12_seen_77, rfl⟩ ?_
          refine y_putI (n := 81) ⟨dX12_seen_78, rfl⟩ kfX12_475 l_66 (by decide +kernel) rfl ?_
          refine y_iconst (n := 82) (v := 1) ⟨dX12_seen_81, rfl⟩ ki_1 ?_
          cases hf
          exact y_ireturn (n := 83) ⟨dX12_seen_82, rfl⟩ rfl rfl hk
        · replace hf := i_t hc hf
          refine y_iconst (n := 40) (v := 0) ⟨dX12_seen_39, rfl⟩ ki_0 ?_
          cases hf
          exact y_ireturn (n := 41) ⟨dX12_seen_40, rfl⟩ rfl rfl hk
theorem c_mo_seen (a1 : Int32) (a2 : Int32) (a3 : Int32) (M : dM) {o : (Bool × dM)} {y : mz_M} {d : Nat} {Q : mz_P} {pc n i : Nat} {L : List (Option Value)} {st : List Value} (h : mz_d y.2.1 pc n 3 (.invokevirtual i)) (hl : mz_ml y.1.cls i yX12_seen) (hf : f_mo_seen a1 a2 a3 M = some o) (hd : 2 + 1 ≤ d) (hsm : (st.map (fun v => v.category)).sum ≤ 8) (hLr : mz_rL 133 L = true) (hSr : mz_rS 133 st = true) (kk : mW y d Q n L (.int (bI o.1) :: st) o.2) : mW y d Q pc L (.int a3 :: .int a2 :: .int a1 :: .ref 66 :: st) M :=
  y_callV kmX12_seen kvX12_seen l_66 (by decide +kernel) (by decide +kernel) h hl (ok_mo_seen a1 a2 a3 M hf) (vs := [.int a1, .int a2, .int a3]) rfl rfl hd hsm hLr hSr kk
def K_mo_seenOf_5 (Q : mz_P) (x1 : Int32) (x2 : Int32) (M : dM) : ((Int32 × Int32) ⊕ Int32) → Prop
  | .inl s => mW mX12_seenOf 1 Q 5 [some (.ref 66), some (.int x1), some (.int x2), some (.int s.1), some (.int s.2)] [] M
  | .inr r => mR Q (some (.int r)) M
noncomputable def b_mo_seenOf_5_5 (x1 : Int32) (x2 : Int32) (x3 : Int32) (x4 : Int32) (M : dM) : Option ((Int32 × Int32) ⊕ Int32) :=
  if (gI M 66 55) ≤ x4 then
    some (.inr x3)
  else
    gd (vp_in x4 20) <|
    gd (vp_in x1 40) <|
    if (gI M 102 x4.toNatClampNeg) = (gI M 74 x1.toNatClampNeg) then
      if (gI M 76 x1.toNatClampNeg) < (gI M 103 x4.toNatClampNeg) then
        some (.inl (x3, (x4 + 1)))
      else
        if ((gI M 103 x4.toNatClampNeg) + (gI M 66 32)) < (gI M 76 x1.toNatClampNeg) then
          some (.inl (x3, (x4 + 1)))
        else
          some (.inl ((x3 ||| (x2 &&& ((1 : Int32) <<< ((gI M 101 x4.toNatClampNeg) &&& 31)))), (x4 + 1)))
    else
      some (.inl (x3, (x4 + 1)))
noncomputable def l_mo_seenOf_5 (x1 : Int32) (x2 : Int32) (x3 : Int32) (x4 : Int32) (M : dM) : Option Int32 := lpc (fun s => b_mo_seenOf_5_5 x1 x2 s.1 s.2 M) (x3, x4)
noncomputable def f_mo_seenOf (a1 : Int32) (a2 : Int32) (M : dM) : Option Int32 :=
  (l_mo_seenOf_5 a1 a2 0 0 M).bind fun r5 => some r5
theorem w_b_mo_seenOf_5_5 (x1 : Int32) (x2 : Int32) (x3 : Int32) (x4 : Int32)  (M : dM) {Q : mz_P} {o : ((Int32 × Int32) ⊕ Int32)} (hf : b_mo_seenOf_5_5 x1 x2 x3 x4 M = some o) (hk : K_mo_seenOf_5 Q x1 x2 M o) : mW mX12_seenOf 1 Q 5 [some (.ref 66), some (.int x1), some (.int x2), some (.int x3), some (.int x4)] [] M := by
  unfold b_mo_seenOf_5_5 at hf
  refine y_iload (i := 4) (n := 7) ⟨dX12_seenOf_5, rfl⟩ rfl ?_
  refine y_aload_n (i := 0) (n := 8) ⟨dX12_seenOf_7, rfl⟩ rfl ?_
  refine y_getI (n := 11) ⟨dX12_seenOf_8, rfl⟩ kfX12_475 l_66 rfl ?_
  refine y_icmp_ge (t := 87) (n := 14) ⟨dX12_seenOf_11, rfl, rfl⟩ (fun (hc : (gI M 66 55) ≤ x4) => ?_) (fun (hc : ¬ ((gI M 66 55) ≤ x4)) => ?_)
  · replace hf := i_t hc hf
    refine y_iload_n (i := 3) (n := 88) ⟨dX12_seenOf_87, rfl⟩ rfl ?_
    cases hf
    exact y_ireturn (n := 89) ⟨dX12_seenOf_88, rfl⟩ rfl rfl hk
  · replace hf := i_f hc hf
    refine y_aload_n (i := 0) (n := 15) ⟨dX12_seenOf_14, rfl⟩ rfl ?_
    refine y_getR (n := 18) ⟨dX12_seenOf_15, rfl⟩ kfX12_116 l_66 rfl r_66_57 ?_
    refine y_iload (i := 4) (n := 20) ⟨dX12_seenOf_18, rfl⟩ rfl ?_
    obtain ⟨hg1, hf⟩ := g_s hf
    refine y_iaload (n := 21) ⟨dX12_seenOf_20, rfl⟩ l_102 hg1 ?_
    refine y_aload_n (i := 0) (n := 22) ⟨dX12_seenOf_21, rfl⟩ rfl ?_
    refine y_getR (n := 25) ⟨dX12_seenOf_22, rfl⟩ kfX12_31 l_66 rfl r_66_10 ?_
    refine y_iload_n (i := 1) (n := 26) ⟨dX12_seenOf_25, rfl⟩ rfl ?_
    obtain ⟨hg2, hf⟩ := g_s hf
    refine y_iaload (n := 27) ⟨dX12_seenOf_26, rfl⟩ l_74 hg2 ?_
    refine y_icmp_ne (t := 81) (n := 30) ⟨dX12_seenOf_27, rfl, rfl⟩ (fun (hc : ¬ ((gI M 102 x4.toNatClampNeg) = (gI M 74 x1.toNatClampNeg))) => ?_) (fun (hc : (gI M 102 x4.toNatClampNeg) = (gI M 74 x1.toNatClampNeg)) => ?_)
    · replace hf := i_f hc hf
      refine y_iinc (i := 4) (n := 84) (b := (x4 + 1)) (L2 := [some (.ref 66), some (.int x1), some (.int x2), some (.int x3), some (.int (x4 + 1))]) ⟨dX12_seenOf_81, rfl⟩ rfl (by rw [ki_1]) (by decide) rfl rfl ?_
      refine y_goto (t := 5) ⟨dX12_seenOf_84, rfl, rfl⟩ ?_
      cases hf
      exact y_wk (L2 := [some (.ref 66), some (.int x1), some (.int x2), some (.int x3), some (.int (x4 + 1))]) ⟨Or.inr rfl, Or.inr rfl, Or.inr rfl, Or.inr rfl, Or.inr rfl, trivial⟩ hk
    · replace hf := i_t hc hf
      refine y_aload_n (i := 0) (n := 31) ⟨dX12_seenOf_30, rfl⟩ rfl ?_
      refine y_getR (n := 34) ⟨dX12_seenOf_31, rfl⟩ kfX12_119 l_66 rfl r_66_58 ?_
      refine y_iload (i := 4) (n := 36) ⟨dX12_seenOf_34, rfl⟩ rfl ?_
      refine y_iaload (n := 37) ⟨dX12_seenOf_36, rfl⟩ l_103 hg1 ?_
      refine y_aload_n (i := 0) (n := 38) ⟨dX12_seenOf_37, rfl⟩ rfl ?_
      refine y_getR (n := 41) ⟨dX12_seenOf_38, rfl⟩ kfX12_37 l_66 rfl r_66_12 ?_
      refine y_iload_n (i := 1) (n := 42) ⟨dX12_seenOf_41, rfl⟩ rfl ?_
      refine y_iaload (n := 43) ⟨dX12_seenOf_42, rfl⟩ l_76 hg2 ?_
      refine y_icmp_gt (t := 81) (n := 46) ⟨dX12_seenOf_43, rfl, rfl⟩ (fun (hc : (gI M 76 x1.toNatClampNeg) < (gI M 103 x4.toNatClampNeg)) => ?_) (fun (hc : ¬ ((gI M 76 x1.toNatClampNeg) < (gI M 103 x4.toNatClampNeg))) => ?_)
      · replace hf := i_t hc hf
        refine y_iinc (i := 4) (n := 84) (b := (x4 + 1)) (L2 := [some (.ref 66), some (.int x1), some (.int x2), some (.int x3), some (.int (x4 + 1))]) ⟨dX12_seenOf_81, rfl⟩ rfl (by rw [ki_1]) (by decide) rfl rfl ?_
        refine y_goto (t := 5) ⟨dX12_seenOf_84, rfl, rfl⟩ ?_
        cases hf
        exact y_wk (L2 := [some (.ref 66), some (.int x1), some (.int x2), some (.int x3), some (.int (x4 + 1))]) ⟨Or.inr rfl, Or.inr rfl, Or.inr rfl, Or.inr rfl, Or.inr rfl, trivial⟩ hk
      · replace hf := i_f hc hf
        refine y_aload_n (i := 0) (n := 47) ⟨dX12_seenOf_46, rfl⟩ rfl ?_
        refine y_getR (n := 50) ⟨dX12_seenOf_47, rfl⟩ kfX12_119 l_66 rfl r_66_58 ?_
        refine y_iload (i := 4) (n := 52) ⟨dX12_seenOf_50, rfl⟩ rfl ?_
        refine y_iaload (n := 53) ⟨dX12_seenOf_52, rfl⟩ l_103 hg1 ?_
        refine y_aload_n (i := 0) (n := 54) ⟨dX12_seenOf_53, rfl⟩ rfl ?_
        refine y_getI (n := 57) ⟨dX12_seenOf_54, rfl⟩ kfX12_207 l_66 rfl ?_
        refine y_iadd (n := 58) ⟨dX12_seenOf_57, rfl⟩ ?_
        refine y_aload_n (i := 0) (n := 59) ⟨dX12_seenOf_58, rfl⟩ rfl ?_
        refine y_getR (n := 62) ⟨dX12_seenOf_59, rfl⟩ kfX12_37 l_66 rfl r_66_12 ?_
        refine y_iload_n (i := 1) (n := 63) ⟨dX12_seenOf_62, rfl⟩ rfl ?_
        refine y_iaload (n := 64) ⟨dX12_seenOf_63, rfl⟩ l_76 hg2 ?_
        refine y_icmp_lt (t := 81) (n := 67) ⟨dX12_seenOf_64, rfl, rfl⟩ (fun (hc : ((gI M 103 x4.toNatClampNeg) + (gI M 66 32)) < (gI M 76 x1.toNatClampNeg)) => ?_) (fun (hc : ¬ (((gI M 103 x4.toNatClampNeg) + (gI M 66 32)) < (gI M 76 x1.toNatClampNeg))) => ?_)
        · replace hf := i_t hc hf
          refine y_iinc (i := 4) (n := 84) (b := (x4 + 1)) (L2 := [some (.ref 66), some (.int x1), some (.int x2), some (.int x3), some (.int (x4 + 1))]) ⟨dX12_seenOf_81, rfl⟩ rfl (by rw [ki_1]) (by decide) rfl rfl ?_
          refine y_goto (t := 5) ⟨dX12_seenOf_84, rfl, rfl⟩ ?_
          cases hf
          exact y_wk (L2 := [some (.ref 66), some (.int x1), some (.int x2), some (.int x3), some (.int (x4 + 1))]) ⟨Or.inr rfl, Or.inr rfl, Or.inr rfl, Or.inr rfl, Or.inr rfl, trivial⟩ hk
        · replace hf := i_f hc hf
          refine y_iload_n (i := 3) (n := 68) ⟨dX12_seenOf_67, rfl⟩ rfl ?_
          refine y_iload_n (i := 2) (n := 69) ⟨dX12_seenOf_68, rfl⟩ rfl ?_
          refine y_iconst (n := 70) (v := 1) ⟨dX12_seenOf_69, rfl⟩ ki_1 ?_
          refine y_aload_n (i := 0) (n := 71) ⟨dX12_seenOf_70, rfl⟩ rfl ?_
          refine y_getR (n := 74) ⟨dX12_seenOf_71, rfl⟩ kfX12_113 l_66 rfl r_66_56 ?_
          refine y_iload (i := 4) (n := 76) ⟨dX12_seenOf_74, rfl⟩ rfl ?_
          refine y_iaload (n := 77) ⟨dX12_seenOf_76, rfl⟩ l_101 hg1 ?_
          refine y_ishl (n := 78) ⟨dX12_seenOf_77, rfl⟩ ?_
          refine y_iand (n := 79) ⟨dX12_seenOf_78, rfl⟩ ?_
          refine y_ior (n := 80) ⟨dX12_seenOf_79, rfl⟩ ?_
          refine y_istore_n (i := 3) (n := 81) (L2 := [some (.ref 66), some (.int x1), some (.int x2), some (.int (x3 ||| (x2 &&& ((1 : Int32) <<< ((gI M 101 x4.toNatClampNeg) &&& 31))))), some (.int x4)]) ⟨dX12_seenOf_80, rfl⟩ (by decide) rfl rfl ?_
          refine y_iinc (i := 4) (n := 84) (b := (x4 + 1)) (L2 := [some (.ref 66), some (.int x1), some (.int x2), some (.int (x3 ||| (x2 &&& ((1 : Int32) <<< ((gI M 101 x4.toNatClampNeg) &&& 31))))), some (.int (x4 + 1))]) ⟨dX12_seenOf_81, rfl⟩ rfl (by rw [ki_1]) (by decide) rfl rfl ?_
          refine y_goto (t := 5) ⟨dX12_seenOf_84, rfl, rfl⟩ ?_
          cases hf
          exact y_wk (L2 := [some (.ref 66), some (.int x1), some (.int x2), some (.int (x3 ||| (x2 &&& ((1 : Int32) <<< ((gI M 101 x4.toNatClampNeg) &&& 31))))), some (.int (x4 + 1))]) ⟨Or.inr rfl, Or.inr rfl, Or.inr rfl, Or.inr rfl, Or.inr rfl, trivial⟩ hk
theorem wl_mo_seenOf_5 (x1 : Int32) (x2 : Int32) (x3 : Int32) (x4 : Int32) (M : dM) {Q : mz_P} {x : Int32} (hf : l_mo_seenOf_5 x1 x2 x3 x4 M = some x) (hk : K_mo_seenOf_5 Q x1 x2 M (.inr x)) : mW mX12_seenOf 1 Q 5 [some (.ref 66), some (.int x1), some (.int x2), some (.int x3), some (.int x4)] [] M :=
  lpc_wp (σ := (Int32 × Int32)) (ξ := Int32) (s := (x3, x4)) (Wh := fun s => mW mX12_seenOf 1 Q 5 [some (.ref 66), some (.int x1), some (.int x2), some (.int s.1), some (.int s.2)] [] M) (K := K_mo_seenOf_5 Q x1 x2 M) (fun _ h => h) (fun s o hb hk => w_b_mo_seenOf_5_5 x1 x2 s.1 s.2 M hb hk) hf hk
theorem ok_mo_seenOf (a1 : Int32) (a2 : Int32) (M : dM) {o : Int32} (hf : f_mo_seenOf a1 a2 M = some o) : mO mX12_seenOf 1 [.ref 66, .int a1, .int a2] M (some (.int o)) M := by
  refine y_ok (by decide +kernel) (Nat.le_of_ble_eq_true rfl) (L0 := [some (.ref 66), some (.int a1), some (.int a2), none, none]) rfl ?_
  have hk := mR_mQ (some (.int o)) M
  generalize mQ _ _ = Q at hk ⊢
  unfold f_mo_seenOf at hf
  refine y_iconst (n := 1) (v := 0) ⟨dX12_seenOf_0, rfl⟩ ki_0 ?_
  refine y_istore_n (i := 3) (n := 2) (L2 := [some (.ref 66), some (.int a1), some (.int a2), some (.int 0), none]) ⟨dX12_seenOf_1, rfl⟩ (by decide) rfl rfl ?_
  refine y_iconst (n := 3) (v := 0) ⟨dX12_seenOf_2, rfl⟩ ki_0 ?_
  refine y_istore (i := 4) (n := 5) (L2 := [some (.ref 66), some (.int a1), some (.int a2), some (.int 0), some (.int 0)]) ⟨dX12_seenOf_3, rfl⟩ (by decide) rfl rfl ?_
  obtain ⟨r5, hl4, hf⟩ := b_s hf
  cases hf
  exact y_wk (L2 := [some (.ref 66), some (.int a1), some (.int a2), some (.int 0), some (.int 0)]) ⟨Or.inr rfl, Or.inr rfl, Or.inr rfl, Or.inr rfl, Or.inr rfl, trivial⟩ (wl_mo_seenOf_5 a1 a2 0 0 M hl4 hk)
theorem c_mo_seenOf (a1 : Int32) (a2 : Int32) (M : dM) {o : Int32} {y : mz_M} {d : Nat} {Q : mz_P} {pc n i : Nat} {L : List (Option Value)} {st : List Value} (h : mz_d y.2.1 pc n 3 (.invokevirtual i)) (hl : mz_ml y.1.cls i yX12_seenOf) (hf : f_mo_seenOf a1 a2 M = some o) (hd : 1 + 1 ≤ d) (hsm : (st.map (fun v => v.category)).sum ≤ 8) (hLr : mz_rL 133 L = true) (hSr : mz_rS 133 st = true) (kk : mW y d Q n L (.int o :: st) M) : mW y d Q pc L (.int a2 :: .int a1 :: .ref 66 :: st) M :=
  y_callV kmX12_seenOf kvX12_seenOf l_66 (by decide +kernel) (by decide +kernel) h hl (ok_mo_seenOf a1 a2 M hf) (vs := [.int a1, .int a2]) rfl rfl hd hsm hLr hSr kk
noncomputable def f_mo_may (a1 : Int32) (M : dM) : Option (Int32 × dM) :=
  if (f_mo_isFind a1 (sI M 66 0 0)) = true then
    (f_mo_canOf a1 (sI M 66 0 0)).bind fun v1 =>
    (f_mo_seenOf a1 v1 (sI M 66 0 0)).bind fun v3 =>
    if v3 = 0 then
      some (v1, (sI M 66 0 0))
    else
      some (v3, (sI M 66 0 0))
  else
    some ((-1), (sI M 66 0 0))
theorem ok_mo_may (a1 : Int32) (M : dM) {o : (Int32 × dM)} (hf : f_mo_may a1 M = some o) : mO mX12_may 3 [.ref 66, .int a1] M (some (.int o.1)) o.2 := by
  refine y_ok (by decide +kernel) (Nat.le_of_ble_eq_true rfl) (L0 := [some (.ref 66), some (.int a1), none, none]) rfl ?_
  have hk := mR_mQ (some (.int o.1)) o.2
  generalize mQ _ _ = Q at hk ⊢
  unfold f_mo_may at hf
  refine y_aload_n (i := 0) (n := 1) ⟨dX12_may_0, rfl⟩ rfl ?_
  refine y_iconst (n := 2) (v := 0) ⟨dX12_may_1, rfl⟩ ki_0 ?_
  refine y_putI (n := 5) ⟨dX12_may_2, rfl⟩ kfX12_214 l_66 (by decide +kernel) rfl ?_
  refine y_aload_n (i := 0) (n := 6) ⟨dX12_may_5, rfl⟩ rfl ?_
  refine y_iload_n (i := 1) (n := 7) ⟨dX12_may_6, rfl⟩ rfl ?_
  refine c_mo_isFind a1 (sI M 66 0 0) (n := 10) ⟨dX12_may_7, rfl⟩ klX12_249 rfl (by decide) (Nat.le_of_ble_eq_true rfl) rfl rfl ?_
  refine y_if_ne (t := 15) (n := 13) ⟨dX12_may_10, rfl, rfl⟩ (fun h0 => ?_) (fun h0 => ?_)
  · have hc := bI_1 h0
    replace hf := i_t hc hf
    refine y_aload_n (i := 0) (n := 16) ⟨dX12_may_15, rfl⟩ rfl ?_
    refine y_iload_n (i := 1) (n := 17) ⟨dX12_may_16, rfl⟩ rfl ?_
    obtain ⟨v1, hv2, hf⟩ := b_s hf
    refine c_mo_canOf a1 (sI M 66 0 0) (n := 20) ⟨dX12_may_17, rfl⟩ klX12_478 hv2 (by decide) (Nat.le_of_ble_eq_true rfl) rfl rfl ?_
    refine y_istore_n (i := 2) (n := 21) (L2 := [some (.ref 66), some (.int a1), some (.int v1), none]) ⟨dX12_may_20, rfl⟩ (by decide) rfl rfl ?_
    refine y_aload_n (i := 0) (n := 22) ⟨dX12_may_21, rfl⟩ rfl ?_
    refine y_iload_n (i := 1) (n := 23) ⟨dX12_may_22, rfl⟩ rfl ?_
    refine y_iload_n (i := 2) (n := 24) ⟨dX12_may_23, rfl⟩ rfl ?_
    obtain ⟨v3, hv4, hf⟩ := b_s hf
    refine c_mo_seenOf a1 v1 (sI M 66 0 0) (n := 27) ⟨dX12_may_24, rfl⟩ klX12_481 hv4 (by decide) (Nat.le_of_ble_eq_true rfl) rfl rfl ?_
    refine y_istore_n (i := 3) (n := 28) (L2 := [some (.ref 66), some (.int a1), some (.int v1), some (.int v3)]) ⟨dX12_may_27, rfl⟩ (by decide) rfl rfl ?_
    refine y_iload_n (i := 3) (n := 29) ⟨dX12_may_28, rfl⟩ rfl ?_
    refine y_if_eq (t := 36) (n := 32) ⟨dX12_may_29, rfl, rfl⟩ (fun (hc : v3 = 0) => ?_) (fun (hc : ¬ (v3 = 0)) => ?_)
    · replace hf := i_t hc hf
      refine y_iload_n (i := 2) (n := 37) ⟨dX12_may_36, rfl⟩ rfl ?_
      cases hf
      exact y_ireturn (n := 38) ⟨dX12_may_37, rfl⟩ rfl rfl hk
    · replace hf := i_f hc hf
      refine y_iload_n (i := 3) (n := 33) ⟨dX12_may_32, rfl⟩ rfl ?_
      refine y_goto (t := 37) ⟨dX12_may_33, rfl, rfl⟩ ?_
      cases hf
      exact y_ireturn (n := 38) ⟨dX12_may_37, rfl⟩ rfl rfl hk
  · have hc := bI_0 h0
    replace hf := i_f hc hf
    refine y_iconst (n := 14) (v := (-1)) ⟨dX12_may_13, rfl⟩ ki_m1 ?_
    cases hf
    exact y_ireturn (n := 15) ⟨dX12_may_14, rfl⟩ rfl rfl hk
theorem c_mo_may (a1 : Int32) (M : dM) {o : (Int32 × dM)} {y : mz_M} {d : Nat} {Q : mz_P} {pc n i : Nat} {L : List (Option Value)} {st : List Value} (h : mz_d y.2.1 pc n 3 (.invokevirtual i)) (hl : mz_ml y.1.cls i yX12_may) (hf : f_mo_may a1 M = some o) (hd : 3 + 1 ≤ d) (hsm : (st.map (fun v => v.category)).sum ≤ 8) (hLr : mz_rL 133 L = true) (hSr : mz_rS 133 st = true) (kk : mW y d Q n L (.int o.1 :: st) o.2) : mW y d Q pc L (.int a1 :: .ref 66 :: st) M :=
  y_callV kmX12_may kvX12_may l_66 (by decide +kernel) (by decide +kernel) h hl (ok_mo_may a1 M hf) (vs := [.int a1]) rfl rfl hd hsm hLr hSr kk
noncomputable def f_mo_put (a1 : Int32) (M : dM) : Option (Int32 × dM) :=
  if (f_mo_isFind a1 (sI M 66 0 0)) = true then
    (f_mo_canOf a1 (sI M 66 0 0)).bind fun v1 =>
    (f_mo_seenOf a1 v1 (sI M 66 0 0)).bind fun v3 =>
    if v3 = 0 then
      (f_mo_eachOf a1 (sI M 66 0 0)).bind fun q5 =>
      if q5.1 = 2 then
        some (1, q5.2)
      else
        some (0, q5.2)
    else
      some (1, (sI M 66 0 0))
  else
    some ((-1), (sI M 66 0 0))
theorem ok_mo_put (a1 : Int32) (M : dM) {o : (Int32 × dM)} (hf : f_mo_put a1 M = some o) : mO mX12_put 6 [.ref 66, .int a1] M (some (.int o.1)) o.2 := by
  refine y_ok (by decide +kernel) (Nat.le_of_ble_eq_true rfl) (L0 := [some (.ref 66), some (.int a1)]) rfl ?_
  have hk := mR_mQ (some (.int o.1)) o.2
  generalize mQ _ _ = Q at hk ⊢
  unfold f_mo_put at hf
  refine y_aload_n (i := 0) (n := 1) ⟨dX12_put_0, rfl⟩ rfl ?_
  refine y_iconst (n := 2) (v := 0) ⟨dX12_put_1, rfl⟩ ki_0 ?_
  refine y_putI (n := 5) ⟨dX12_put_2, rfl⟩ kfX12_214 l_66 (by decide +kernel) rfl ?_
  refine y_aload_n (i := 0) (n := 6) ⟨dX12_put_5, rfl⟩ rfl ?_
  refine y_iload_n (i := 1) (n := 7) ⟨dX12_put_6, rfl⟩ rfl ?_
  refine c_mo_isFind a1 (sI M 66 0 0) (n := 10) ⟨dX12_put_7, rfl⟩ klX12_249 rfl (by decide) (Nat.le_of_ble_eq_true rfl) rfl rfl ?_
  refine y_if_ne (t := 15) (n := 13) ⟨dX12_put_10, rfl, rfl⟩ (fun h0 => ?_) (fun h0 => ?_)
  · have hc := bI_1 h0
    replace hf := i_t hc hf
    refine y_aload_n (i := 0) (n := 16) ⟨dX12_put_15, rfl⟩ rfl ?_
    refine y_iload_n (i := 1) (n := 17) ⟨dX12_put_16, rfl⟩ rfl ?_
    refine y_aload_n (i := 0) (n := 18) ⟨dX12_put_17, rfl⟩ rfl ?_
    refine y_iload_n (i := 1) (n := 19) ⟨dX12_put_18, rfl⟩ rfl ?_
    obtain ⟨v1, hv2, hf⟩ := b_s hf
    refine c_mo_canOf a1 (sI M 66 0 0) (n := 22) ⟨dX12_put_19, rfl⟩ klX12_478 hv2 (by decide) (Nat.le_of_ble_eq_true rfl) rfl rfl ?_
    obtain ⟨v3, hv4, hf⟩ := b_s hf
    refine c_mo_seenOf a1 v1 (sI M 66 0 0) (n := 25) ⟨dX12_put_22, rfl⟩ klX12_481 hv4 (by decide) (Nat.le_of_ble_eq_true rfl) rfl rfl ?_
    refine y_if_ne (t := 37) (n := 28) ⟨dX12_put_25, rfl, rfl⟩ (fun (hc : ¬ (v3 = 0)) => ?_) (fun (hc : v3 = 0) => ?_)
    · replace hf := i_f hc hf
      refine y_iconst (n := 38) (v := 1) ⟨dX12_put_37, rfl⟩ ki_1 ?_
      refine y_goto (t := 42) ⟨dX12_put_38, rfl, rfl⟩ ?_
      cases hf
      exact y_ireturn (n := 43) ⟨dX12_put_42, rfl⟩ rfl rfl hk
    · replace hf := i_t hc hf
      refine y_aload_n (i := 0) (n := 29) ⟨dX12_put_28, rfl⟩ rfl ?_
      refine y_iload_n (i := 1) (n := 30) ⟨dX12_put_29, rfl⟩ rfl ?_
      obtain ⟨q5, hv6, hf⟩ := b_s hf
      refine c_mo_eachOf a1 (sI M 66 0 0) (n := 33) ⟨dX12_put_30, rfl⟩ klX12_438 hv6 (by decide) (Nat.le_of_ble_eq_true rfl) rfl rfl ?_
      refine y_iconst (n := 34) (v := 2) ⟨dX12_put_33, rfl⟩ ki_2 ?_
      refine y_icmp_ne (t := 41) (n := 37) ⟨dX12_put_34, rfl, rfl⟩ (fun (hc : ¬ (q5.1 = 2)) => ?_) (fun (hc : q5.1 = 2) => ?_)
      · replace hf := i_f hc hf
        refine y_iconst (n := 42) (v := 0) ⟨dX12_put_41, rfl⟩ ki_0 ?_
        cases hf
        exact y_ireturn (n := 43) ⟨dX12_put_42, rfl⟩ rfl rfl hk
      · replace hf := i_t hc hf
        refine y_iconst (n := 38) (v := 1) ⟨dX12_put_37, rfl⟩ ki_1 ?_
        refine y_goto (t := 42) ⟨dX12_put_38, rfl, rfl⟩ ?_
        cases hf
        exact y_ireturn (n := 43) ⟨dX12_put_42, rfl⟩ rfl rfl hk
  · have hc := bI_0 h0
    replace hf := i_f hc hf
    refine y_iconst (n := 14) (v := (-1)) ⟨dX12_put_13, rfl⟩ ki_m1 ?_
    cases hf
    exact y_ireturn (n := 15) ⟨dX12_put_14, rfl⟩ rfl rfl hk
theorem c_mo_put (a1 : Int32) (M : dM) {o : (Int32 × dM)} {y : mz_M} {d : Nat} {Q : mz_P} {pc n i : Nat} {L : List (Option Value)} {st : List Value} (h : mz_d y.2.1 pc n 3 (.invokevirtual i)) (hl : mz_ml y.1.cls i yX12_put) (hf : f_mo_put a1 M = some o) (hd : 6 + 1 ≤ d) (hsm : (st.map (fun v => v.category)).sum ≤ 8) (hLr : mz_rL 133 L = true) (hSr : mz_rS 133 st = true) (kk : mW y d Q n L (.int o.1 :: st) o.2) : mW y d Q pc L (.int a1 :: .ref 66 :: st) M :=
  y_callV kmX12_put kvX12_put l_66 (by decide +kernel) (by decide +kernel) h hl (ok_mo_put a1 M hf) (vs := [.int a1]) rfl rfl hd hsm hLr hSr kk
def K_mo_explains_2 (Q : mz_P) (x1 : Int32) (M : dM) : (Int32 ⊕ Bool) → Prop
  | .inl s => mW mX12_explains 2 Q 2 [some (.ref 66), some (.int x1), some (.int s), none] [] M
  | .inr r => mR Q (some (.int (bI r))) M
def K_mo_explains_34 (Q : mz_P) (x1 : Int32) (x2 : Int32) (M : dM) : (Int32 ⊕ (Unit ⊕ Bool)) → Prop
  | .inl s => mW mX12_explains 2 Q 34 [some (.ref 66), some (.int x1), some (.int x2), some (.int s)] [] M
  | .inr (.inl t) => mW mX12_explains 2 Q 74 [some (.ref 66), some (.int x1), some (.int x2), none] [] M
  | .inr (.inr r) => mR Q (some (.int (bI r))) M
noncomputable def b_mo_explains_34_34 (x1 : Int32) (x2 : Int32) (x3 : Int32) (M : dM) : Option (Int32 ⊕ (Unit ⊕ Bool)) :=
  if x2 ≤ x3 then
    some (.inr (.inl ()))
  else
    (f_mo_isTwin x2 x3 M).bind fun v2 =>
    if v2 = true then
      gd (vp_in x2 40) <|
      gd (vp_in x3 40) <|
      if (((gI M 106 x2.toNatClampNeg) ||| (gI M 106 x3.toNatClampNeg)) &&& x1) = 0 then
        some (.inr (.inr false))
      else
        some (.inl (x3 + 1))
    else
      some (.inl (x3 + 1))
noncomputable def l_mo_explains_34 (x1 : Int32) (x2 : Int32) (x3 : Int32) (M : dM) : Option (Unit ⊕ Bool) := lpc (fun s => b_mo_explains_34_34 x1 x2 s M) x3
noncomputable def b_mo_explains_2_32 (x1 : Int32) (x2 : Int32) (M : dM) : Option (Int32 ⊕ Bool) :=
  (l_mo_explains_34 x1 x2 0 M).bind (Sum.elim (fun t6 =>
      some (.inl (x2 + 1))
    ) (fun r8 => some (.inr r8)))
noncomputable def b_mo_explains_2_2 (x1 : Int32) (x2 : Int32) (M : dM) : Option (Int32 ⊕ Bool) :=
  if (gI M 66 9) ≤ x2 then
    some (.inr true)
  else
    gd (vp_in x2 40) <|
    if (gI M 107 x2.toNatClampNeg) = 0 then
      b_mo_explains_2_32 x1 x2 M
    else
      if ((gI M 106 x2.toNatClampNeg) &&& x1) = 0 then
        some (.inr false)
      else
        b_mo_explains_2_32 x1 x2 M
noncomputable def l_mo_explains_2 (x1 : Int32) (x2 : Int32) (M : dM) : Option Bool := lpc (fun s => b_mo_explains_2_2 x1 s M) x2
noncomputable def f_mo_explains (a1 : Int32) (M : dM) : Option Bool :=
  (l_mo_explains_2 a1 0 M).bind fun r12 => some r12
theorem w_b_mo_explains_34_34 (x1 : Int32) (x2 : Int32) (x3 : Int32)  (M : dM) {Q : mz_P} {o : (Int32 ⊕ (Unit ⊕ Bool))} (hf : b_mo_explains_34_34 x1 x2 x3 M = some o) (hk : K_mo_explains_34 Q x1 x2 M o) : mW mX12_explains 2 Q 34 [some (.ref 66), some (.int x1), some (.int x2), some (.int x3)] [] M := by
  unfold b_mo_explains_34_34 at hf
  refine y_iload_n (i := 3) (n := 35) ⟨dX12_explains_34, rfl⟩ rfl ?_
  refine y_iload_n (i := 2) (n := 36) ⟨dX12_explains_35, rfl⟩ rfl ?_
  refine y_icmp_ge (t := 74) (n := 39) ⟨dX12_explains_36, rfl, rfl⟩ (fun (hc : x2 ≤ x3) => ?_) (fun (hc : ¬ (x2 ≤ x3)) => ?_)
  · replace hf := i_t hc hf
    cases hf
    exact y_wk (L2 := [some (.ref 66), some (.int x1), some (.int x2), none]) ⟨Or.inr rfl, Or.inr rfl, Or.inr rfl, Or.inl rfl, trivial⟩ hk
  · replace hf := i_f hc hf
    refine y_aload_n (i := 0) (n := 40) ⟨dX12_explains_39, rfl⟩ rfl ?_
    refine y_iload_n (i := 2) (n := 41) ⟨dX12_explains_40, rfl⟩ rfl ?_
    refine y_iload_n (i := 3) (n := 42) ⟨dX12_explains_41, rfl⟩ rfl ?_
    obtain ⟨v2, hv3, hf⟩ := b_s hf
    refine c_mo_isTwin x2 x3 M (n := 45) ⟨dX12_explains_42, rfl⟩ klX12_245 hv3 (by decide) (Nat.le_of_ble_eq_true rfl) rfl rfl ?_
    refine y_if_eq (t := 68) (n := 48) ⟨dX12_explains_45, rfl, rfl⟩ (fun h0 => ?_) (fun h0 => ?_)
    · have hc := bI_0 h0
      replace hf := i_f hc hf
      refine y_iinc (i := 3) (n := 71) (b := (x3 + 1)) (L2 := [some (.ref 66), some (.int x1), some (.int x2), some (.int (x3 + 1))]) ⟨dX12_explains_68, rfl⟩ rfl (by rw [ki_1]) (by decide) rfl rfl ?_
      refine y_goto (t := 34) ⟨dX12_explains_71, rfl, rfl⟩ ?_
      cases hf
      exact y_wk (L2 := [some (.ref 66), some (.int x1), some (.int x2), some (.int (x3 + 1))]) ⟨Or.inr rfl, Or.inr rfl, Or.inr rfl, Or.inr rfl, trivial⟩ hk
    · have hc := bI_1 h0
      replace hf := i_t hc hf
      refine y_aload_n (i := 0) (n := 49) ⟨dX12_explains_48, rfl⟩ rfl ?_
      refine y_getR (n := 52) ⟨dX12_explains_49, rfl⟩ kfX12_128 l_66 rfl r_66_61 ?_
      refine y_iload_n (i := 2) (n := 53) ⟨dX12_explains_52, rfl⟩ rfl ?_
      obtain ⟨hg4, hf⟩ := g_s hf
      refine y_iaload (n := 54) ⟨dX12_explains_53, rfl⟩ l_106 hg4 ?_
      refine y_aload_n (i := 0) (n := 55) ⟨dX12_explains_54, rfl⟩ rfl ?_
      refine y_getR (n := 58) ⟨dX12_explains_55, rfl⟩ kfX12_128 l_66 rfl r_66_61 ?_
      refine y_iload_n (i := 3) (n := 59) ⟨dX12_explains_58, rfl⟩ rfl ?_
      obtain ⟨hg5, hf⟩ := g_s hf
      refine y_iaload (n := 60) ⟨dX12_explains_59, rfl⟩ l_106 hg5 ?_
      refine y_ior (n := 61) ⟨dX12_explains_60, rfl⟩ ?_
      refine y_iload_n (i := 1) (n := 62) ⟨dX12_explains_61, rfl⟩ rfl ?_
      refine y_iand (n := 63) ⟨dX12_explains_62, rfl⟩ ?_
      refine y_if_ne (t := 68) (n := 66) ⟨dX12_explains_63, rfl, rfl⟩ (fun (hc : ¬ ((((gI M 106 x2.toNatClampNeg) ||| (gI M 106 x3.toNatClampNeg)) &&& x1) = 0)) => ?_) (fun (hc : (((gI M 106 x2.toNatClampNeg) ||| (gI M 106 x3.toNatClampNeg)) &&& x1) = 0) => ?_)
      · replace hf := i_f hc hf
        refine y_iinc (i := 3) (n := 71) (b := (x3 + 1)) (L2 := [some (.ref 66), some (.int x1), some (.int x2), some (.int (x3 + 1))]) ⟨dX12_explains_68, rfl⟩ rfl (by rw [ki_1]) (by decide) rfl rfl ?_
        refine y_goto (t := 34) ⟨dX12_explains_71, rfl, rfl⟩ ?_
        cases hf
        exact y_wk (L2 := [some (.ref 66), some (.int x1), some (.int x2), some (.int (x3 + 1))]) ⟨Or.inr rfl, Or.inr rfl, Or.inr rfl, Or.inr rfl, trivial⟩ hk
      · replace hf := i_t hc hf
        refine y_iconst (n := 67) (v := 0) ⟨dX12_explains_66, rfl⟩ ki_0 ?_
        cases hf
        exact y_ireturn (n := 68) ⟨dX12_explains_67, rfl⟩ rfl rfl hk
theorem wl_mo_explains_34 (x1 : Int32) (x2 : Int32) (x3 : Int32) (M : dM) {Q : mz_P} {x : (Unit ⊕ Bool)} (hf : l_mo_explains_34 x1 x2 x3 M = some x) (hk : K_mo_explains_34 Q x1 x2 M (.inr x)) : mW mX12_explains 2 Q 34 [some (.ref 66), some (.int x1), some (.int x2), some (.int x3)] [] M :=
  lpc_wp (σ := Int32) (ξ := (Unit ⊕ Bool)) (s := x3) (Wh := fun s => mW mX12_explains 2 Q 34 [some (.ref 66), some (.int x1), some (.int x2), some (.int s)] [] M) (K := K_mo_explains_34 Q x1 x2 M) (fun _ h => h) (fun s o hb hk => w_b_mo_explains_34_34 x1 x2 s M hb hk) hf hk
theorem w_b_mo_explains_2_32 (x1 : Int32) (x2 : Int32)  (M : dM) {Q : mz_P} {o : (Int32 ⊕ Bool)} (hf : b_mo_explains_2_32 x1 x2 M = some o) (hk : K_mo_explains_2 Q x1 M o) : mW mX12_explains 2 Q 32 [some (.ref 66), some (.int x1), some (.int x2), none] [] M := by
  unfold b_mo_explains_2_32 at hf
  refine y_iconst (n := 33) (v := 0) ⟨dX12_explains_32, rfl⟩ ki_0 ?_
  refine y_istore_n (i := 3) (n := 34) (L2 := [some (.ref 66), some (.int x1), some (.int x2), some (.int 0)]) ⟨dX12_explains_33, rfl⟩ (by decide) rfl rfl ?_
  obtain ⟨z9, hl7, hf⟩ := b_s hf
  refine y_wk (L2 := [some (.ref 66), some (.int x1), some (.int x2), some (.int 0)]) ⟨Or.inr rfl, Or.inr rfl, Or.inr rfl, Or.inr rfl, trivial⟩ (wl_mo_explains_34 x1 x2 0 M hl7 ?_)
  rcases z9 with t6 | r8
  · show mW mX12_explains 2 Q 74 [some (.ref 66), some (.int x1), some (.int x2), none] [] M
    refine y_iinc (i := 2) (n := 77) (b := (x2 + 1)) (L2 := [some (.ref 66), some (.int x1), some (.int (x2 + 1)), none]) ⟨dX12_explains_74, rfl⟩ rfl (by rw [ki_1]) (by decide) rfl rfl ?_
    refine y_goto (t := 2) ⟨dX12_explains_77, rfl, rfl⟩ ?_
    cases hf
    exact y_wk (L2 := [some (.ref 66), some (.int x1), some (.int (x2 + 1)), none]) ⟨Or.inr rfl, Or.inr rfl, Or.inr rfl, Or.inr rfl, trivial⟩ hk
  · cases hf
    exact hk
theorem w_b_mo_explains_2_2 (x1 : Int32) (x2 : Int32)  (M : dM) {Q : mz_P} {o : (Int32 ⊕ Bool)} (hf : b_mo_explains_2_2 x1 x2 M = some o) (hk : K_mo_explains_2 Q x1 M o) : mW mX12_explains 2 Q 2 [some (.ref 66), some (.int x1), some (.int x2), none] [] M := by
  unfold b_mo_explains_2_2 at hf
  refine y_iload_n (i := 2) (n := 3) ⟨dX12_explains_2, rfl⟩ rfl ?_
  refine y_aload_n (i := 0) (n := 4) ⟨dX12_explains_3, rfl⟩ rfl ?_
  refine y_getI (n := 7) ⟨dX12_explains_4, rfl⟩ kfX12_235 l_66 rfl ?_
  refine y_icmp_ge (t := 80) (n := 10) ⟨dX12_explains_7, rfl, rfl⟩ (fun (hc : (gI M 66 9) ≤ x2) => ?_) (fun (hc : ¬ ((gI M 66 9) ≤ x2)) => ?_)
  · replace hf := i_t hc hf
    refine y_iconst (n := 81) (v := 1) ⟨dX12_explains_80, rfl⟩ ki_1 ?_
    cases hf
    exact y_ireturn (n := 82) ⟨dX12_explains_81, rfl⟩ rfl rfl hk
  · replace hf := i_f hc hf
    refine y_aload_n (i := 0) (n := 11) ⟨dX12_explains_10, rfl⟩ rfl ?_
    refine y_getR (n := 14) ⟨dX12_explains_11, rfl⟩ kfX12_131 l_66 rfl r_66_62 ?_
    refine y_iload_n (i := 2) (n := 15) ⟨dX12_explains_14, rfl⟩ rfl ?_
    obtain ⟨hg1, hf⟩ := g_s hf
    refine y_baload (n := 16) ⟨dX12_explains_15, rfl⟩ l_107 hg1 ?_
    refine y_if_eq (t := 32) (n := 19) ⟨dX12_explains_16, rfl, rfl⟩ (fun (hc : (gI M 107 x2.toNatClampNeg) = 0) => ?_) (fun (hc : ¬ ((gI M 107 x2.toNatClampNeg) = 0)) => ?_)
    · replace hf := i_t hc hf
      exact y_wk (L2 := [some (.ref 66), some (.int x1), some (.int x2), none]) ⟨Or.inr rfl, Or.inr rfl, Or.inr rfl, Or.inr rfl, trivial⟩ (w_b_mo_explains_2_32 x1 x2 M hf hk)
    · replace hf := i_f hc hf
      refine y_aload_n (i := 0) (n := 20) ⟨dX12_explains_19, rfl⟩ rfl ?_
      refine y_getR (n := 23) ⟨dX12_explains_20, rfl⟩ kfX12_128 l_66 rfl r_66_61 ?_
      refine y_iload_n (i := 2) (n := 24) ⟨dX12_explains_23, rfl⟩ rfl ?_
      refine y_iaload (n := 25) ⟨dX12_explains_24, rfl⟩ l_106 hg1 ?_
      refine y_iload_n (i := 1) (n := 26) ⟨dX12_explains_25, rfl⟩ rfl ?_
      refine y_iand (n := 27) ⟨dX12_explains_26, rfl⟩ ?_
      refine y_if_ne (t := 32) (n := 30) ⟨dX12_explains_27, rfl, rfl⟩ (fun (hc : ¬ (((gI M 106 x2.toNatClampNeg) &&& x1) = 0)) => ?_) (fun (hc : ((gI M 106 x2.toNatClampNeg) &&& x1) = 0) => ?_)
      · replace hf := i_f hc hf
        exact y_wk (L2 := [some (.ref 66), some (.int x1), some (.int x2), none]) ⟨Or.inr rfl, Or.inr rfl, Or.inr rfl, Or.inr rfl, trivial⟩ (w_b_mo_explains_2_32 x1 x2 M hf hk)
      · replace hf := i_t hc hf
        refine y_iconst (n := 31) (v := 0) ⟨dX12_explains_30, rfl⟩ ki_0 ?_
        cases hf
        exact y_ireturn (n := 32) ⟨dX12_explains_31, rfl⟩ rfl rfl hk
theorem wl_mo_explains_2 (x1 : Int32) (x2 : Int32) (M : dM) {Q : mz_P} {x : Bool} (hf : l_mo_explains_2 x1 x2 M = some x) (hk : K_mo_explains_2 Q x1 M (.inr x)) : mW mX12_explains 2 Q 2 [some (.ref 66), some (.int x1), some (.int x2), none] [] M :=
  lpc_wp (σ := Int32) (ξ := Bool) (s := x2) (Wh := fun s => mW mX12_explains 2 Q 2 [some (.ref 66), some (.int x1), some (.int s), none] [] M) (K := K_mo_explains_2 Q x1 M) (fun _ h => h) (fun s o hb hk => w_b_mo_explains_2_2 x1 s M hb hk) hf hk
theorem ok_mo_explains (a1 : Int32) (M : dM) {o : Bool} (hf : f_mo_explains a1 M = some o) : mO mX12_explains 2 [.ref 66, .int a1] M (some (.int (bI o))) M := by
  refine y_ok (by decide +kernel) (Nat.le_of_ble_eq_true rfl) (L0 := [some (.ref 66), some (.int a1), none, none]) rfl ?_
  have hk := mR_mQ (some (.int (bI o))) M
  generalize mQ _ _ = Q at hk ⊢
  unfold f_mo_explains at hf
  refine y_iconst (n := 1) (v := 0) ⟨dX12_explains_0, rfl⟩ ki_0 ?_
  refine y_istore_n (i := 2) (n := 2) (L2 := [some (.ref 66), some (.int a1), some (.int 0), none]) ⟨dX12_explains_1, rfl⟩ (by decide) rfl rfl ?_
  obtain ⟨r12, hl11, hf⟩ := b_s hf
  cases hf
  exact y_wk (L2 := [some (.ref 66), some (.int a1), some (.int 0), none]) ⟨Or.inr rfl, Or.inr rfl, Or.inr rfl, Or.inr rfl, trivial⟩ (wl_mo_explains_2 a1 0 M hl11 hk)
theorem c_mo_explains (a1 : Int32) (M : dM) {o : Bool} {y : mz_M} {d : Nat} {Q : mz_P} {pc n i : Nat} {L : List (Option Value)} {st : List Value} (h : mz_d y.2.1 pc n 3 (.invokevirtual i)) (hl : mz_ml y.1.cls i yX12_explains) (hf : f_mo_explains a1 M = some o) (hd : 2 + 1 ≤ d) (hsm : (st.map (fun v => v.category)).sum ≤ 8) (hLr : mz_rL 133 L = true) (hSr : mz_rS 133 st = true) (kk : mW y d Q n L (.int (bI o) :: st) M) : mW y d Q pc L (.int a1 :: .ref 66 :: st) M :=
  y_callV kmX12_explains kvX12_explains l_66 (by decide +kernel) (by decide +kernel) h hl (ok_mo_explains a1 M hf) (vs := [.int a1]) rfl rfl hd hsm hLr hSr kk
def K_mo_knows_2 (Q : mz_P)  : ((Int32 × dM) ⊕ dM) → Prop
  | .inl s => mW mX12_knows 6 Q 2 [some (.ref 66), some (.int s.1), none] [] s.2
  | .inr t => mW mX12_knows 6 Q 95 [some (.ref 66), none, none] [] t
noncomputable def b_mo_knows_2_88 (x1 : Int32) (y1 : Int32) (y2 : Int32) (M : dM) : Option ((Int32 × dM) ⊕ dM) :=
  gd (vp_in y1 40) <|
  some (.inl ((x1 + 1), (sI M 107 y1.toNatClampNeg (vp_nar .boolean y2))))
noncomputable def b_mo_knows_2_83 (x1 : Int32) (y1 : Int32) (M : dM) : Option ((Int32 × dM) ⊕ dM) :=
  b_mo_knows_2_88 x1 y1 1 M
noncomputable def b_mo_knows_2_63 (x1 : Int32) (x2 : Int32) (y1 : Int32) (y2 : Int32) (M : dM) : Option ((Int32 × dM) ⊕ dM) :=
  gd (vp_in y1 40) <|
  if x2 = 0 then
    gd (vp_in x1 40) <|
    if (gI (sI M 106 y1.toNatClampNeg y2) 104 x1.toNatClampNeg) = 2 then
      b_mo_knows_2_83 x1 x1 (sI M 106 y1.toNatClampNeg y2)
    else
      b_mo_knows_2_88 x1 x1 0 (sI M 106 y1.toNatClampNeg y2)
  else
    b_mo_knows_2_83 x1 x1 (sI M 106 y1.toNatClampNeg y2)
noncomputable def b_mo_knows_2_2 (x1 : Int32) (M : dM) : Option ((Int32 × dM) ⊕ dM) :=
  if (gI M 66 9) ≤ x1 then
    some (.inr M)
  else
    (f_mo_eachOf x1 M).bind fun q1 =>
    gd (vp_in x1 40) <|
    (f_mo_canOf x1 (sI q1.2 104 x1.toNatClampNeg q1.1)).bind fun v4 =>
    (f_mo_seenOf x1 (gI (sI (sI q1.2 104 x1.toNatClampNeg q1.1) 105 x1.toNatClampNeg v4) 105 x1.toNatClampNeg) (sI (sI q1.2 104 x1.toNatClampNeg q1.1) 105 x1.toNatClampNeg v4)).bind fun v6 =>
    if v6 = 0 then
      b_mo_knows_2_63 x1 v6 x1 (gI (sI (sI q1.2 104 x1.toNatClampNeg q1.1) 105 x1.toNatClampNeg v4) 105 x1.toNatClampNeg) (sI (sI q1.2 104 x1.toNatClampNeg q1.1) 105 x1.toNatClampNeg v4)
    else
      b_mo_knows_2_63 x1 v6 x1 v6 (sI (sI q1.2 104 x1.toNatClampNeg q1.1) 105 x1.toNatClampNeg v4)
noncomputable def l_mo_knows_2 (x1 : Int32) (M : dM) : Option dM := lpc (fun s => b_mo_knows_2_2 s.1 s.2) (x1, M)
def K_mo_knows_123 (Q : mz_P)  : ((Int32 × dM) ⊕ dM) → Prop
  | .inl s => mW mX12_knows 6 Q 123 [some (.ref 66), some (.int s.1), none] [] s.2
  | .inr t => mW mX12_knows 6 Q 221 [some (.ref 66), none, none] [] t
noncomputable def b_mo_knows_123_195 (x1 : Int32) (M : dM) : Option ((Int32 × dM) ⊕ dM) :=
  some (.inl ((x1 + 1), (sI (sI M 66 67 ((gI M 66 67) &&& x1)) 66 68 ((gI (sI M 66 67 ((gI M 66 67) &&& x1)) 66 68) ||| x1))))
noncomputable def b_mo_knows_123_123 (x1 : Int32) (M : dM) : Option ((Int32 × dM) ⊕ dM) :=
  if 1024 ≤ x1 then
    some (.inr M)
  else
    (f_mo_explains x1 M).bind fun v14 =>
    if v14 = true then
      (f_mo_bits x1).bind fun v16 =>
      if v16 ≤ (gI (sI M 66 64 ((gI M 66 64) + 1)) 66 65) then
        if (gI (sI M 66 64 ((gI M 66 64) + 1)) 66 65) ≤ v16 then
          b_mo_knows_123_195 x1 (sI M 66 64 ((gI M 66 64) + 1))
        else
          b_mo_knows_123_195 x1 (sI (sI (sI (sI (sI M 66 64 ((gI M 66 64) + 1)) 66 65 v16) 66 66 x1) 66 67 x1) 66 68 x1)
      else
        some (.inl ((x1 + 1), (sI M 66 64 ((gI M 66 64) + 1))))
    else
      some (.inl ((x1 + 1), M))
noncomputable def l_mo_knows_123 (x1 : Int32) (M : dM) : Option dM := lpc (fun s => b_mo_knows_123_123 s.1 s.2) (x1, M)
def K_mo_knows_228 (Q : mz_P)  : ((Int32 × dM) ⊕ dM) → Prop
  | .inl s => mW mX12_knows 6 Q 228 [some (.ref 66), some (.int s.1), none] [] s.2
  | .inr r => mR Q none r
noncomputable def b_mo_knows_228_262 (x1 : Int32) (M : dM) : Option ((Int32 × dM) ⊕ dM) :=
  some (.inl ((x1 + 1), (sJ M 66 63 ((gJ M 66 63) ||| ((1 : Int64) <<< (x1.toInt64 &&& 63))))))
noncomputable def b_mo_knows_228_228 (x1 : Int32) (M : dM) : Option ((Int32 × dM) ⊕ dM) :=
  if (gI M 66 9) ≤ x1 then
    some (.inr M)
  else
    gd (vp_in x1 40) <|
    if 0 < (gI M 104 x1.toNatClampNeg) then
      b_mo_knows_228_262 x1 M
    else
      if (((gI M 66 68) >>> ((gI M 78 x1.toNatClampNeg) &&& 31)) &&& 1) = 1 then
        b_mo_knows_228_262 x1 M
      else
        some (.inl ((x1 + 1), M))
noncomputable def l_mo_knows_228 (x1 : Int32) (M : dM) : Option dM := lpc (fun s => b_mo_knows_228_228 s.1 s.2) (x1, M)
noncomputable def f_mo_knows (M : dM) : Option dM :=
  (l_mo_knows_2 0 M).bind fun t11 =>
    (l_mo_knows_123 0 (sI (sI (sI (sI (sI t11 66 64 0) 66 65 99) 66 66 (-1)) 66 67 0) 66 68 0)).bind fun t18 =>
      (l_mo_knows_228 0 (sJ t18 66 63 0)).bind fun r24 => some r24
theorem w_b_mo_knows_2_88 (x1 : Int32) (y1 : Int32) (y2 : Int32)  (M : dM) {Q : mz_P} {o : ((Int32 × dM) ⊕ dM)} (hf : b_mo_knows_2_88 x1 y1 y2 M = some o) (hk : K_mo_knows_2 Q  o) : mW mX12_knows 6 Q 88 [some (.ref 66), some (.int x1), none] [.int y2, .int y1, .ref 107] M := by
  unfold b_mo_knows_2_88 at hf
  obtain ⟨hg9, hf⟩ := g_s hf
  refine y_bastore (x' := vp_nar .boolean y2) (n := 89) ⟨dX12_knows_88, rfl⟩ l_107 hg9 rfl ?_
  refine y_iinc (i := 1) (n := 92) (b := (x1 + 1)) (L2 := [some (.ref 66), some (.int (x1 + 1)), none]) ⟨dX12_knows_89, rfl⟩ rfl (by rw [ki_1]) (by decide) rfl rfl ?_
  refine y_goto (t := 2) ⟨dX12_knows_92, rfl, rfl⟩ ?_
  cases hf
  exact y_wk (L2 := [some (.ref 66), some (.int (x1 + 1)), none]) ⟨Or.inr rfl, Or.inr rfl, Or.inr rfl, trivial⟩ hk
theorem w_b_mo_knows_2_83 (x1 : Int32) (y1 : Int32)  (M : dM) {Q : mz_P} {o : ((Int32 × dM) ⊕ dM)} (hf : b_mo_knows_2_83 x1 y1 M = some o) (hk : K_mo_knows_2 Q  o) : mW mX12_knows 6 Q 83 [some (.ref 66), some (.int x1), none] [.int y1, .ref 107] M := by
  unfold b_mo_knows_2_83 at hf
  refine y_iconst (n := 84) (v := 1) ⟨dX12_knows_83, rfl⟩ ki_1 ?_
  refine y_goto (t := 88) ⟨dX12_knows_84, rfl, rfl⟩ ?_
  exact y_wk (L2 := [some (.ref 66), some (.int x1), none]) ⟨Or.inr rfl, Or.inr rfl, Or.inr rfl, trivial⟩ (w_b_mo_knows_2_88 x1 y1 1 M hf hk)
theorem w_b_mo_knows_2_63 (x1 : Int32) (x2 : Int32) (y1 : Int32) (y2 : Int32)  (M : dM) {Q : mz_P} {o : ((Int32 × dM) ⊕ dM)} (hf : b_mo_knows_2_63 x1 x2 y1 y2 M = some o) (hk : K_mo_knows_2 Q  o) : mW mX12_knows 6 Q 63 [some (.ref 66), some (.int x1), some (.int x2)] [.int y2, .int y1, .ref 106] M := by
  unfold b_mo_knows_2_63 at hf
  obtain ⟨hg8, hf⟩ := g_s hf
  refine y_iastore (n := 64) ⟨dX12_knows_63, rfl⟩ l_106 hg8 ?_
  refine y_aload_n (i := 0) (n := 65) ⟨dX12_knows_64, rfl⟩ rfl ?_
  refine y_getR (n := 68) ⟨dX12_knows_65, rfl⟩ kfX12_131 l_66 rfl r_66_62 ?_
  refine y_iload_n (i := 1) (n := 69) ⟨dX12_knows_68, rfl⟩ rfl ?_
  refine y_iload_n (i := 2) (n := 70) ⟨dX12_knows_69, rfl⟩ rfl ?_
  refine y_if_ne (t := 83) (n := 73) ⟨dX12_knows_70, rfl, rfl⟩ (fun (hc : ¬ (x2 = 0)) => ?_) (fun (hc : x2 = 0) => ?_)
  · replace hf := i_f hc hf
    exact y_wk (L2 := [some (.ref 66), some (.int x1), none]) ⟨Or.inr rfl, Or.inr rfl, Or.inl rfl, trivial⟩ (w_b_mo_knows_2_83 x1 x1 (sI M 106 y1.toNatClampNeg y2) hf hk)
  · replace hf := i_t hc hf
    refine y_aload_n (i := 0) (n := 74) ⟨dX12_knows_73, rfl⟩ rfl ?_
    refine y_getR (n := 77) ⟨dX12_knows_74, rfl⟩ kfX12_122 l_66 rfl r_66_59 ?_
    refine y_iload_n (i := 1) (n := 78) ⟨dX12_knows_77, rfl⟩ rfl ?_
    obtain ⟨hg10, hf⟩ := g_s hf
    refine y_iaload (n := 79) ⟨dX12_knows_78, rfl⟩ l_104 hg10 ?_
    refine y_iconst (n := 80) (v := 2) ⟨dX12_knows_79, rfl⟩ ki_2 ?_
    refine y_icmp_ne (t := 87) (n := 83) ⟨dX12_knows_80, rfl, rfl⟩ (fun (hc : ¬ ((gI (sI M 106 y1.toNatClampNeg y2) 104 x1.toNatClampNeg) = 2)) => ?_) (fun (hc : (gI (sI M 106 y1.toNatClampNeg y2) 104 x1.toNatClampNeg) = 2) => ?_)
    · replace hf := i_f hc hf
      refine y_iconst (n := 88) (v := 0) ⟨dX12_knows_87, rfl⟩ ki_0 ?_
      exact y_wk (L2 := [some (.ref 66), some (.int x1), none]) ⟨Or.inr rfl, Or.inr rfl, Or.inl rfl, trivial⟩ (w_b_mo_knows_2_88 x1 x1 0 (sI M 106 y1.toNatClampNeg y2) hf hk)
    · replace hf := i_t hc hf
      exact y_wk (L2 := [some (.ref 66), some (.int x1), none]) ⟨Or.inr rfl, Or.inr rfl, Or.inl rfl, trivial⟩ (w_b_mo_knows_2_83 x1 x1 (sI M 106 y1.toNatClampNeg y2) hf hk)
theorem w_b_mo_knows_2_2 (x1 : Int32)  (M : dM) {Q : mz_P} {o : ((Int32 × dM) ⊕ dM)} (hf : b_mo_knows_2_2 x1 M = some o) (hk : K_mo_knows_2 Q  o) : mW mX12_knows 6 Q 2 [some (.ref 66), some (.int x1), none] [] M := by
  unfold b_mo_knows_2_2 at hf
  refine y_iload_n (i := 1) (n := 3) ⟨dX12_knows_2, rfl⟩ rfl ?_
  refine y_aload_n (i := 0) (n := 4) ⟨dX12_knows_3, rfl⟩ rfl ?_
  refine y_getI (n := 7) ⟨dX12_knows_4, rfl⟩ kfX12_235 l_66 rfl ?_
  refine y_icmp_ge (t := 95) (n := 10) ⟨dX12_knows_7, rfl, rfl⟩ (fun (hc : (gI M 66 9) ≤ x1) => ?_) (fun (hc : ¬ ((gI M 66 9) ≤ x1)) => ?_)
  · replace hf := i_t hc hf
    cases hf
    exact y_wk (L2 := [some (.ref 66), none, none]) ⟨Or.inr rfl, Or.inl rfl, Or.inr rfl, trivial⟩ hk
  · replace hf := i_f hc hf
    refine y_aload_n (i := 0) (n := 11) ⟨dX12_knows_10, rfl⟩ rfl ?_
    refine y_getR (n := 14) ⟨dX12_knows_11, rfl⟩ kfX12_122 l_66 rfl r_66_59 ?_
    refine y_iload_n (i := 1) (n := 15) ⟨dX12_knows_14, rfl⟩ rfl ?_
    refine y_aload_n (i := 0) (n := 16) ⟨dX12_knows_15, rfl⟩ rfl ?_
    refine y_iload_n (i := 1) (n := 17) ⟨dX12_knows_16, rfl⟩ rfl ?_
    obtain ⟨q1, hv2, hf⟩ := b_s hf
    refine c_mo_eachOf x1 M (n := 20) ⟨dX12_knows_17, rfl⟩ klX12_438 hv2 (by decide) (Nat.le_of_ble_eq_true rfl) rfl rfl ?_
    obtain ⟨hg3, hf⟩ := g_s hf
    refine y_iastore (n := 21) ⟨dX12_knows_20, rfl⟩ l_104 hg3 ?_
    refine y_aload_n (i := 0) (n := 22) ⟨dX12_knows_21, rfl⟩ rfl ?_
    refine y_getR (n := 25) ⟨dX12_knows_22, rfl⟩ kfX12_125 l_66 rfl r_66_60 ?_
    refine y_iload_n (i := 1) (n := 26) ⟨dX12_knows_25, rfl⟩ rfl ?_
    refine y_aload_n (i := 0) (n := 27) ⟨dX12_knows_26, rfl⟩ rfl ?_
    refine y_iload_n (i := 1) (n := 28) ⟨dX12_knows_27, rfl⟩ rfl ?_
    obtain ⟨v4, hv5, hf⟩ := b_s hf
    refine c_mo_canOf x1 (sI q1.2 104 x1.toNatClampNeg q1.1) (n := 31) ⟨dX12_knows_28, rfl⟩ klX12_478 hv5 (by decide) (Nat.le_of_ble_eq_true rfl) rfl rfl ?_
    refine y_iastore (n := 32) ⟨dX12_knows_31, rfl⟩ l_105 hg3 ?_
    refine y_aload_n (i := 0) (n := 33) ⟨dX12_knows_32, rfl⟩ rfl ?_
    refine y_iload_n (i := 1) (n := 34) ⟨dX12_knows_33, rfl⟩ rfl ?_
    refine y_aload_n (i := 0) (n := 35) ⟨dX12_knows_34, rfl⟩ rfl ?_
    refine y_getR (n := 38) ⟨dX12_knows_35, rfl⟩ kfX12_125 l_66 rfl r_66_60 ?_
    refine y_iload_n (i := 1) (n := 39) ⟨dX12_knows_38, rfl⟩ rfl ?_
    refine y_iaload (n := 40) ⟨dX12_knows_39, rfl⟩ l_105 hg3 ?_
    obtain ⟨v6, hv7, hf⟩ := b_s hf
    refine c_mo_seenOf x1 (gI (sI (sI q1.2 104 x1.toNatClampNeg q1.1) 105 x1.toNatClampNeg v4) 105 x1.toNatClampNeg) (sI (sI q1.2 104 x1.toNatClampNeg q1.1) 105 x1.toNatClampNeg v4) (n := 43) ⟨dX12_knows_40, rfl⟩ klX12_481 hv7 (by decide) (Nat.le_of_ble_eq_true rfl) rfl rfl ?_
    refine y_istore_n (i := 2) (n := 44) (L2 := [some (.ref 66), some (.int x1), some (.int v6)]) ⟨dX12_knows_43, rfl⟩ (by decide) rfl rfl ?_
    refine y_aload_n (i := 0) (n := 45) ⟨dX12_knows_44, rfl⟩ rfl ?_
    refine y_getR (n := 48) ⟨dX12_knows_45, rfl⟩ kfX12_128 l_66 rfl r_66_61 ?_
    refine y_iload_n (i := 1) (n := 49) ⟨dX12_knows_48, rfl⟩ rfl ?_
    refine y_iload_n (i := 2) (n := 50) ⟨dX12_knows_49, rfl⟩ rfl ?_
    refine y_if_eq (t := 57) (n := 53) ⟨dX12_knows_50, rfl, rfl⟩ (fun (hc : v6 = 0) => ?_) (fun (hc : ¬ (v6 = 0)) => ?_)
    · replace hf := i_t hc hf
      refine y_aload_n (i := 0) (n := 58) ⟨dX12_knows_57, rfl⟩ rfl ?_
      refine y_getR (n := 61) ⟨dX12_knows_58, rfl⟩ kfX12_125 l_66 rfl r_66_60 ?_
      refine y_iload_n (i := 1) (n := 62) ⟨dX12_knows_61, rfl⟩ rfl ?_
      refine y_iaload (n := 63) ⟨dX12_knows_62, rfl⟩ l_105 hg3 ?_
      exact y_wk (L2 := [some (.ref 66), some (.int x1), some (.int v6)]) ⟨Or.inr rfl, Or.inr rfl, Or.inr rfl, trivial⟩ (w_b_mo_knows_2_63 x1 v6 x1 (gI (sI (sI q1.2 104 x1.toNatClampNeg q1.1) 105 x1.toNatClampNeg v4) 105 x1.toNatClampNeg) (sI (sI q1.2 104 x1.toNatClampNeg q1.1) 105 x1.toNatClampNeg v4) hf hk)
    · replace hf := i_f hc hf
      refine y_iload_n (i := 2) (n := 54) ⟨dX12_knows_53, rfl⟩ rfl ?_
      refine y_goto (t := 63) ⟨dX12_knows_54, rfl, rfl⟩ ?_
      exact y_wk (L2 := [some (.ref 66), some (.int x1), some (.int v6)]) ⟨Or.inr rfl, Or.inr rfl, Or.inr rfl, trivial⟩ (w_b_mo_knows_2_63 x1 v6 x1 v6 (sI (sI q1.2 104 x1.toNatClampNeg q1.1) 105 x1.toNatClampNeg v4) hf hk)
theorem wl_mo_knows_2 (x1 : Int32) (M : dM) {Q : mz_P} {x : dM} (hf : l_mo_knows_2 x1 M = some x) (hk : K_mo_knows_2 Q  (.inr x)) : mW mX12_knows 6 Q 2 [some (.ref 66), some (.int x1), none] [] M :=
  lpc_wp (σ := (Int32 × dM)) (ξ := dM) (s := (x1, M)) (Wh := fun s => mW mX12_knows 6 Q 2 [some (.ref 66), some (.int s.1), none] [] s.2) (K := K_mo_knows_2 Q ) (fun _ h => h) (fun s o hb hk => w_b_mo_knows_2_2 s.1 s.2 hb hk) hf hk
theorem w_b_mo_knows_123_195 (x1 : Int32)  (M : dM) {Q : mz_P} {o : ((Int32 × dM) ⊕ dM)} (hf : b_mo_knows_123_195 x1 M = some o) (hk : K_mo_knows_123 Q  o) : mW mX12_knows 6 Q 195 [some (.ref 66), some (.int x1), none] [] M := by
  unfold b_mo_knows_123_195 at hf
  refine y_aload_n (i := 0) (n := 196) ⟨dX12_knows_195, rfl⟩ rfl ?_
  refine y_dup_r (n := 197) ⟨dX12_knows_196, rfl⟩ ?_
  refine y_getI (n := 200) ⟨dX12_knows_197, rfl⟩ kfX12_493 l_66 rfl ?_
  refine y_iload_n (i := 1) (n := 201) ⟨dX12_knows_200, rfl⟩ rfl ?_
  refine y_iand (n := 202) ⟨dX12_knows_201, rfl⟩ ?_
  refine y_putI (n := 205) ⟨dX12_knows_202, rfl⟩ kfX12_493 l_66 (by decide +kernel) rfl ?_
  refine y_aload_n (i := 0) (n := 206) ⟨dX12_knows_205, rfl⟩ rfl ?_
  refine y_dup_r (n := 207) ⟨dX12_knows_206, rfl⟩ ?_
  refine y_getI (n := 210) ⟨dX12_knows_207, rfl⟩ kfX12_496 l_66 rfl ?_
  refine y_iload_n (i := 1) (n := 211) ⟨dX12_knows_210, rfl⟩ rfl ?_
  refine y_ior (n := 212) ⟨dX12_knows_211, rfl⟩ ?_
  refine y_putI (n := 215) ⟨dX12_knows_212, rfl⟩ kfX12_496 l_66 (by decide +kernel) rfl ?_
  refine y_iinc (i := 1) (n := 218) (b := (x1 + 1)) (L2 := [some (.ref 66), some (.int (x1 + 1)), none]) ⟨dX12_knows_215, rfl⟩ rfl (by rw [ki_1]) (by decide) rfl rfl ?_
  refine y_goto (t := 123) ⟨dX12_knows_218, rfl, rfl⟩ ?_
  cases hf
  exact y_wk (L2 := [some (.ref 66), some (.int (x1 + 1)), none]) ⟨Or.inr rfl, Or.inr rfl, Or.inr rfl, trivial⟩ hk
theorem w_b_mo_knows_123_123 (x1 : Int32)  (M : dM) {Q : mz_P} {o : ((Int32 × dM) ⊕ dM)} (hf : b_mo_knows_123_123 x1 M = some o) (hk : K_mo_knows_123 Q  o) : mW mX12_knows 6 Q 123 [some (.ref 66), some (.int x1), none] [] M := by
  unfold b_mo_knows_123_123 at hf
  refine y_iload_n (i := 1) (n := 124) ⟨dX12_knows_123, rfl⟩ rfl ?_
  refine y_sipush (n := 127) (v := 1024) ⟨dX12_knows_124, rfl⟩ ks_1024 ?_
  refine y_icmp_ge (t := 221) (n := 130) ⟨dX12_knows_127, rfl, rfl⟩ (fun (hc : 1024 ≤ x1) => ?_) (fun (hc : ¬ (1024 ≤ x1)) => ?_)
  · replace hf := i_t hc hf
    cases hf
    exact y_wk (L2 := [some (.ref 66), none, none]) ⟨Or.inr rfl, Or.inl rfl, Or.inr rfl, trivial⟩ hk
  · replace hf := i_f hc hf
    refine y_aload_n (i := 0) (n := 131) ⟨dX12_knows_130, rfl⟩ rfl ?_
    refine y_iload_n (i := 1) (n := 132) ⟨dX12_knows_131, rfl⟩ rfl ?_
    obtain ⟨v14, hv15, hf⟩ := b_s hf
    refine c_mo_explains x1 M (n := 135) ⟨dX12_knows_132, rfl⟩ klX12_499 hv15 (by decide) (Nat.le_of_ble_eq_true rfl) rfl rfl ?_
    refine y_if_ne (t := 141) (n := 138) ⟨dX12_knows_135, rfl, rfl⟩ (fun h0 => ?_) (fun h0 => ?_)
    · have hc := bI_1 h0
      replace hf := i_t hc hf
      refine y_aload_n (i := 0) (n := 142) ⟨dX12_knows_141, rfl⟩ rfl ?_
      refine y_dup_r (n := 143) ⟨dX12_knows_142, rfl⟩ ?_
      refine y_getI (n := 146) ⟨dX12_knows_143, rfl⟩ kfX12_484 l_66 rfl ?_
      refine y_iconst (n := 147) (v := 1) ⟨dX12_knows_146, rfl⟩ ki_1 ?_
      refine y_iadd (n := 148) ⟨dX12_knows_147, rfl⟩ ?_
      refine y_putI (n := 151) ⟨dX12_knows_148, rfl⟩ kfX12_484 l_66 (by decide +kernel) rfl ?_
      refine y_iload_n (i := 1) (n := 152) ⟨dX12_knows_151, rfl⟩ rfl ?_
      obtain ⟨v16, hv17, hf⟩ := b_s hf
      refine c_mo_bits x1 (sI M 66 64 ((gI M 66 64) + 1)) (n := 155) ⟨dX12_knows_152, rfl⟩ klX12_242 hv17 (by decide) (Nat.le_of_ble_eq_true rfl) rfl rfl ?_
      refine y_istore_n (i := 2) (n := 156) (L2 := [some (.ref 66), some (.int x1), some (.int v16)]) ⟨dX12_knows_155, rfl⟩ (by decide) rfl rfl ?_
      refine y_iload_n (i := 2) (n := 157) ⟨dX12_knows_156, rfl⟩ rfl ?_
      refine y_aload_n (i := 0) (n := 158) ⟨dX12_knows_157, rfl⟩ rfl ?_
      refine y_getI (n := 161) ⟨dX12_knows_158, rfl⟩ kfX12_487 l_66 rfl ?_
      refine y_icmp_le (t := 167) (n := 164) ⟨dX12_knows_161, rfl, rfl⟩ (fun (hc : v16 ≤ (gI (sI M 66 64 ((gI M 66 64) + 1)) 66 65)) => ?_) (fun (hc : ¬ (v16 ≤ (gI (sI M 66 64 ((gI M 66 64) + 1)) 66 65))) => ?_)
      · replace hf := i_t hc hf
        refine y_iload_n (i := 2) (n := 168) ⟨dX12_knows_167, rfl⟩ rfl ?_
        refine y_aload_n (i := 0) (n := 169) ⟨dX12_knows_168, rfl⟩ rfl ?_
        refine y_getI (n := 172) ⟨dX12_knows_169, rfl⟩ kfX12_487 l_66 rfl ?_
        refine y_icmp_ge (t := 195) (n := 175) ⟨dX12_knows_172, rfl, rfl⟩ (fun (hc : (gI (sI M 66 64 ((gI M 66 64) + 1)) 66 65) ≤ v16) => ?_) (fun (hc : ¬ ((gI (sI M 66 64 ((gI M 66 64) + 1)) 66 65) ≤ v16)) => ?_)
        · replace hf := i_t hc hf
          exact y_wk (L2 := [some (.ref 66), some (.int x1), none]) ⟨Or.inr rfl, Or.inr rfl, Or.inl rfl, trivial⟩ (w_b_mo_knows_123_195 x1 (sI M 66 64 ((gI M 66 64) + 1)) hf hk)
        · replace hf := i_f hc hf
          refine y_aload_n (i := 0) (n := 176) ⟨dX12_knows_175, rfl⟩ rfl ?_
          refine y_iload_n (i := 2) (n := 177) ⟨dX12_knows_176, rfl⟩ rfl ?_
          refine y_putI (n := 180) ⟨dX12_knows_177, rfl⟩ kfX12_487 l_66 (by decide +kernel) rfl ?_
          refine y_aload_n (i := 0) (n := 181) ⟨dX12_knows_180, rfl⟩ rfl ?_
          refine y_iload_n (i := 1) (n := 182) ⟨dX12_knows_181, rfl⟩ rfl ?_
          refine y_putI (n := 185) ⟨dX12_knows_182, rfl⟩ kfX12_490 l_66 (by decide +kernel) rfl ?_
          refine y_aload_n (i := 0) (n := 186) ⟨dX12_knows_185, rfl⟩ rfl ?_
          refine y_iload_n (i := 1) (n := 187) ⟨dX12_knows_186, rfl⟩ rfl ?_
          refine y_putI (n := 190) ⟨dX12_knows_187, rfl⟩ kfX12_493 l_66 (by decide +kernel) rfl ?_
          refine y_aload_n (i := 0) (n := 191) ⟨dX12_knows_190, rfl⟩ rfl ?_
          refine y_iload_n (i := 1) (n := 192) ⟨dX12_knows_191, rfl⟩ rfl ?_
          refine y_putI (n := 195) ⟨dX12_knows_192, rfl⟩ kfX12_496 l_66 (by decide +kernel) rfl ?_
          exact y_wk (L2 := [some (.ref 66), some (.int x1), none]) ⟨Or.inr rfl, Or.inr rfl, Or.inl rfl, trivial⟩ (w_b_mo_knows_123_195 x1 (sI (sI (sI (sI (sI M 66 64 ((gI M 66 64) + 1)) 66 65 v16) 66 66 x1) 66 67 x1) 66 68 x1) hf hk)
      · replace hf := i_f hc hf
        refine y_goto (t := 215) ⟨dX12_knows_164, rfl, rfl⟩ ?_
        refine y_iinc (i := 1) (n := 218) (b := (x1 + 1)) (L2 := [some (.ref 66), some (.int (x1 + 1)), some (.int v16)]) ⟨dX12_knows_215, rfl⟩ rfl (by rw [ki_1]) (by decide) rfl rfl ?_
        refine y_goto (t := 123) ⟨dX12_knows_218, rfl, rfl⟩ ?_
        cases hf
        exact y_wk (L2 := [some (.ref 66), some (.int (x1 + 1)), none]) ⟨Or.inr rfl, Or.inr rfl, Or.inl rfl, trivial⟩ hk
    · have hc := bI_0 h0
      replace hf := i_f hc hf
      refine y_goto (t := 215) ⟨dX12_knows_138, rfl, rfl⟩ ?_
      refine y_iinc (i := 1) (n := 218) (b := (x1 + 1)) (L2 := [some (.ref 66), some (.int (x1 + 1)), none]) ⟨dX12_knows_215, rfl⟩ rfl (by rw [ki_1]) (by decide) rfl rfl ?_
      refine y_goto (t := 123) ⟨dX12_knows_218, rfl, rfl⟩ ?_
      cases hf
      exact y_wk (L2 := [some (.ref 66), some (.int (x1 + 1)), none]) ⟨Or.inr rfl, Or.inr rfl, Or.inr rfl, trivial⟩ hk
theorem wl_mo_knows_123 (x1 : Int32) (M : dM) {Q : mz_P} {x : dM} (hf : l_mo_knows_123 x1 M = some x) (hk : K_mo_knows_123 Q  (.inr x)) : mW mX12_knows 6 Q 123 [some (.ref 66), some (.int x1), none] [] M :=
  lpc_wp (σ := (Int32 × dM)) (ξ := dM) (s := (x1, M)) (Wh := fun s => mW mX12_knows 6 Q 123 [some (.ref 66), some (.int s.1), none] [] s.2) (K := K_mo_knows_123 Q ) (fun _ h => h) (fun s o hb hk => w_b_mo_knows_123_123 s.1 s.2 hb hk) hf hk
theorem w_b_mo_knows_228_262 (x1 : Int32)  (M : dM) {Q : mz_P} {o : ((Int32 × dM) ⊕ dM)} (hf : b_mo_knows_228_262 x1 M = some o) (hk : K_mo_knows_228 Q  o) : mW mX12_knows 6 Q 262 [some (.ref 66), some (.int x1), none] [] M := by
  unfold b_mo_knows_228_262 at hf
  refine y_aload_n (i := 0) (n := 263) ⟨dX12_knows_262, rfl⟩ rfl ?_
  refine y_dup_r (n := 264) ⟨dX12_knows_263, rfl⟩ ?_
  refine y_getJ (n := 267) ⟨dX12_knows_264, rfl⟩ kfX12_502 l_66 rfl ?_
  refine y_lconst (n := 268) (v := 1) ⟨dX12_knows_267, rfl⟩ kl_1 ?_
  refine y_iload_n (i := 1) (n := 269) ⟨dX12_knows_268, rfl⟩ rfl ?_
  refine y_lshl (n := 270) ⟨dX12_knows_269, rfl⟩ ?_
  refine y_lor (n := 271) ⟨dX12_knows_270, rfl⟩ ?_
  refine y_putJ (n := 274) ⟨dX12_knows_271, rfl⟩ kfX12_502 l_66 (by decide +kernel) rfl ?_
  refine y_iinc (i := 1) (n := 277) (b := (x1 + 1)) (L2 := [some (.ref 66), some (.int (x1 + 1)), none]) ⟨dX12_knows_274, rfl⟩ rfl (by rw [ki_1]) (by decide) rfl rfl ?_
  refine y_goto (t := 228) ⟨dX12_knows_277, rfl, rfl⟩ ?_
  cases hf
  exact y_wk (L2 := [some (.ref 66), some (.int (x1 + 1)), none]) ⟨Or.inr rfl, Or.inr rfl, Or.inr rfl, trivial⟩ hk
theorem w_b_mo_knows_228_228 (x1 : Int32)  (M : dM) {Q : mz_P} {o : ((Int32 × dM) ⊕ dM)} (hf : b_mo_knows_228_228 x1 M = some o) (hk : K_mo_knows_228 Q  o) : mW mX12_knows 6 Q 228 [some (.ref 66), some (.int x1), none] [] M := by
  unfold b_mo_knows_228_228 at hf
  refine y_iload_n (i := 1) (n := 229) ⟨dX12_knows_228, rfl⟩ rfl ?_
  refine y_aload_n (i := 0) (n := 230) ⟨dX12_knows_229, rfl⟩ rfl ?_
  refine y_getI (n := 233) ⟨dX12_knows_230, rfl⟩ kfX12_235 l_66 rfl ?_
  refine y_icmp_ge (t := 280) (n := 236) ⟨dX12_knows_233, rfl, rfl⟩ (fun (hc : (gI M 66 9) ≤ x1) => ?_) (fun (hc : ¬ ((gI M 66 9) ≤ x1)) => ?_)
  · replace hf := i_t hc hf
    cases hf
    exact y_return (n := 281) ⟨dX12_knows_280, rfl⟩ rfl hk
  · replace hf := i_f hc hf
    refine y_aload_n (i := 0) (n := 237) ⟨dX12_knows_236, rfl⟩ rfl ?_
    refine y_getR (n := 240) ⟨dX12_knows_237, rfl⟩ kfX12_122 l_66 rfl r_66_59 ?_
    refine y_iload_n (i := 1) (n := 241) ⟨dX12_knows_240, rfl⟩ rfl ?_
    obtain ⟨hg21, hf⟩ := g_s hf
    refine y_iaload (n := 242) ⟨dX12_knows_241, rfl⟩ l_104 hg21 ?_
    refine y_if_gt (t := 262) (n := 245) ⟨dX12_knows_242, rfl, rfl⟩ (fun (hc : 0 < (gI M 104 x1.toNatClampNeg)) => ?_) (fun (hc : ¬ (0 < (gI M 104 x1.toNatClampNeg))) => ?_)
    · replace hf := i_t hc hf
      exact y_wk (L2 := [some (.ref 66), some (.int x1), none]) ⟨Or.inr rfl, Or.inr rfl, Or.inr rfl, trivial⟩ (w_b_mo_knows_228_262 x1 M hf hk)
    · replace hf := i_f hc hf
      refine y_aload_n (i := 0) (n := 246) ⟨dX12_knows_245, rfl⟩ rfl ?_
      refine y_getI (n := 249) ⟨dX12_knows_246, rfl⟩ kfX12_496 l_66 rfl ?_
      refine y_aload_n (i := 0) (n := 250) ⟨dX12_knows_249, rfl⟩ rfl ?_
      refine y_getR (n := 253) ⟨dX12_knows_250, rfl⟩ kfX12_43 l_66 rfl r_66_14 ?_
      refine y_iload_n (i := 1) (n := 254) ⟨dX12_knows_253, rfl⟩ rfl ?_
      refine y_iaload (n := 255) ⟨dX12_knows_254, rfl⟩ l_78 hg21 ?_
      refine y_ishr (n := 256) ⟨dX12_knows_255, rfl⟩ ?_
      refine y_iconst (n := 257) (v := 1) ⟨dX12_knows_256, rfl⟩ ki_1 ?_
      refine y_iand (n := 258) ⟨dX12_knows_257, rfl⟩ ?_
      refine y_iconst (n := 259) (v := 1) ⟨dX12_knows_258, rfl⟩ ki_1 ?_
      refine y_icmp_ne (t := 274) (n := 262) ⟨dX12_knows_259, rfl, rfl⟩ (fun (hc : ¬ ((((gI M 66 68) >>> ((gI M 78 x1.toNatClampNeg) &&& 31)) &&& 1) = 1)) => ?_) (fun (hc : (((gI M 66 68) >>> ((gI M 78 x1.toNatClampNeg) &&& 31)) &&& 1) = 1) => ?_)
      · replace hf := i_f hc hf
        refine y_iinc (i := 1) (n := 277) (b := (x1 + 1)) (L2 := [some (.ref 66), some (.int (x1 + 1)), none]) ⟨dX12_knows_274, rfl⟩ rfl (by rw [ki_1]) (by decide) rfl rfl ?_
        refine y_goto (t := 228) ⟨dX12_knows_277, rfl, rfl⟩ ?_
        cases hf
        exact y_wk (L2 := [some (.ref 66), some (.int (x1 + 1)), none]) ⟨Or.inr rfl, Or.inr rfl, Or.inr rfl, trivial⟩ hk
      · replace hf := i_t hc hf
        exact y_wk (L2 := [some (.ref 66), some (.int x1), none]) ⟨Or.inr rfl, Or.inr rfl, Or.inr rfl, trivial⟩ (w_b_mo_knows_228_262 x1 M hf hk)
theorem wl_mo_knows_228 (x1 : Int32) (M : dM) {Q : mz_P} {x : dM} (hf : l_mo_knows_228 x1 M = some x) (hk : K_mo_knows_228 Q  (.inr x)) : mW mX12_knows 6 Q 228 [some (.ref 66), some (.int x1), none] [] M :=
  lpc_wp (σ := (Int32 × dM)) (ξ := dM) (s := (x1, M)) (Wh := fun s => mW mX12_knows 6 Q 228 [some (.ref 66), some (.int s.1), none] [] s.2) (K := K_mo_knows_228 Q ) (fun _ h => h) (fun s o hb hk => w_b_mo_knows_228_228 s.1 s.2 hb hk) hf hk
theorem ok_mo_knows  (M : dM) {o : dM} (hf : f_mo_knows M = some o) : mO mX12_knows 6 [.ref 66] M none o := by
  refine y_ok (by decide +kernel) (Nat.le_of_ble_eq_true rfl) (L0 := [some (.ref 66), none, none]) rfl ?_
  have hk := mR_mQ none o
  generalize mQ _ _ = Q at hk ⊢
  unfold f_mo_knows at hf
  refine y_iconst (n := 1) (v := 0) ⟨dX12_knows_0, rfl⟩ ki_0 ?_
  refine y_istore_n (i := 1) (n := 2) (L2 := [some (.ref 66), some (.int 0), none]) ⟨dX12_knows_1, rfl⟩ (by decide) rfl rfl ?_
  obtain ⟨t11, hl12, hf⟩ := b_s hf
  refine y_wk (L2 := [some (.ref 66), some (.int 0), none]) ⟨Or.inr rfl, Or.inr rfl, Or.inr rfl, trivial⟩ (wl_mo_knows_2 0 M hl12 ?_)
  show mW mX12_knows 6 Q 95 [some (.ref 66), none, none] [] t11
  refine y_aload_n (i := 0) (n := 96) ⟨dX12_knows_95, rfl⟩ rfl ?_
  refine y_iconst (n := 97) (v := 0) ⟨dX12_knows_96, rfl⟩ ki_0 ?_
  refine y_putI (n := 100) ⟨dX12_knows_97, rfl⟩ kfX12_484 l_66 (by decide +kernel) rfl ?_
  refine y_aload_n (i := 0) (n := 101) ⟨dX12_knows_100, rfl⟩ rfl ?_
  refine y_bipush (n := 103) (v := 99) ⟨dX12_knows_101, rfl⟩ kb_99 ?_
  refine y_putI (n := 106) ⟨dX12_knows_103, rfl⟩ kfX12_487 l_66 (by decide +kernel) rfl ?_
  refine y_aload_n (i := 0) (n := 107) ⟨dX12_knows_106, rfl⟩ rfl ?_
  refine y_iconst (n := 108) (v := (-1)) ⟨dX12_knows_107, rfl⟩ ki_m1 ?_
  refine y_putI (n := 111) ⟨dX12_knows_108, rfl⟩ kfX12_490 l_66 (by decide +kernel) rfl ?_
  refine y_aload_n (i := 0) (n := 112) ⟨dX12_knows_111, rfl⟩ rfl ?_
  refine y_iconst (n := 113) (v := 0) ⟨dX12_knows_112, rfl⟩ ki_0 ?_
  refine y_putI (n := 116) ⟨dX12_knows_113, rfl⟩ kfX12_493 l_66 (by decide +kernel) rfl ?_
  refine y_aload_n (i := 0) (n := 117) ⟨dX12_knows_116, rfl⟩ rfl ?_
  refine y_iconst (n := 118) (v := 0) ⟨dX12_knows_117, rfl⟩ ki_0 ?_
  refine y_putI (n := 121) ⟨dX12_knows_118, rfl⟩ kfX12_496 l_66 (by decide +kernel) rfl ?_
  refine y_iconst (n := 122) (v := 0) ⟨dX12_knows_121, rfl⟩ ki_0 ?_
  refine y_istore_n (i := 1) (n := 123) (L2 := [some (.ref 66), some (.int 0), none]) ⟨dX12_knows_122, rfl⟩ (by decide) rfl rfl ?_
  obtain ⟨t18, hl19, hf⟩ := b_s hf
  refine y_wk (L2 := [some (.ref 66), some (.int 0), none]) ⟨Or.inr rfl, Or.inr rfl, Or.inr rfl, trivial⟩ (wl_mo_knows_123 0 (sI (sI (sI (sI (sI t11 66 64 0) 66 65 99) 66 66 (-1)) 66 67 0) 66 68 0) hl19 ?_)
  show mW mX12_knows 6 Q 221 [some (.ref 66), none, none] [] t18
  refine y_aload_n (i := 0) (n := 222) ⟨dX12_knows_221, rfl⟩ rfl ?_
  refine y_lconst (n := 223) (v := 0) ⟨dX12_knows_222, rfl⟩ kl_0 ?_
  refine y_putJ (n := 226) ⟨dX12_knows_223, rfl⟩ kfX12_502 l_66 (by decide +kernel) rfl ?_
  refine y_iconst (n := 227) (v := 0) ⟨dX12_knows_226, rfl⟩ ki_0 ?_
  refine y_istore_n (i := 1) (n := 228) (L2 := [some (.ref 66), some (.int 0), none]) ⟨dX12_knows_227, rfl⟩ (by decide) rfl rfl ?_
  obtain ⟨r24, hl23, hf⟩ := b_s hf
  cases hf
  exact y_wk (L2 := [some (.ref 66), some (.int 0), none]) ⟨Or.inr rfl, Or.inr rfl, Or.inr rfl, trivial⟩ (wl_mo_knows_228 0 (sJ t18 66 63 0) hl23 hk)
theorem c_mo_knows  (M : dM) {o : dM} {y : mz_M} {d : Nat} {Q : mz_P} {pc n i : Nat} {L : List (Option Value)} {st : List Value} (h : mz_d y.2.1 pc n 3 (.invokevirtual i)) (hl : mz_ml y.1.cls i yX12_knows) (hf : f_mo_knows M = some o) (hd : 6 + 1 ≤ d) (hsm : (st.map (fun v => v.category)).sum ≤ 8) (hLr : mz_rL 133 L = true) (hSr : mz_rS 133 st = true) (kk : mW y d Q n L st o) : mW y d Q pc L (.ref 66 :: st) M :=
  y_callV kmX12_knows kvX12_knows l_66 (by decide +kernel) (by decide +kernel) h hl (ok_mo_knows  M hf) (vs := []) rfl rfl hd hsm hLr hSr kk
