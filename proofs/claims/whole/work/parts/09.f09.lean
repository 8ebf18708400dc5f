noncomputable def f_mo_isFind (a1 : Int32) (M : dM) : Bool :=
  if a1 < 0 then
    false
  else
    if (gI M 66 9) ≤ a1 then
      false
    else
      true
theorem ok_mo_isFind (a1 : Int32) (M : dM) {o : Bool} (hf : f_mo_isFind a1 M = o) : mO mX12_isFind 1 [.ref 66, .int a1] M (some (.int (bI o))) M := by
  refine y_ok (by decide +kernel) (Nat.le_of_ble_eq_true rfl) (L0 := [some (.ref 66), some (.int a1)]) rfl ?_
  have hk := mR_mQ (some (.int (bI o))) M
  generalize mQ _ _ = Q at hk ⊢
  unfold f_mo_isFind at hf
  refine y_iload_n (i := 1) (n := 1) ⟨dX12_isFind_0, rfl⟩ rfl ?_
  refine y_if_lt (t := 16) (n := 4) ⟨dX12_isFind_1, rfl, rfl⟩ (fun (hc : a1 < 0) => ?_) (fun (hc : ¬ (a1 < 0)) => ?_)
  · replace hf := i_t hc hf
    refine y_iconst (n := 17) (v := 0) ⟨dX12_isFind_16, rfl⟩ ki_0 ?_
    cases hf
    exact y_ireturn (n := 18) ⟨dX12_isFind_17, rfl⟩ rfl rfl hk
  · replace hf := i_f hc hf
    refine y_iload_n (i := 1) (n := 5) ⟨dX12_isFind_4, rfl⟩ rfl ?_
    refine y_aload_n (i := 0) (n := 6) ⟨dX12_isFind_5, rfl⟩ rfl ?_
    refine y_getI (n := 9) ⟨dX12_isFind_6, rfl⟩ kfX12_235 l_66 rfl ?_
    refine y_icmp_ge (t := 16) (n := 12) ⟨dX12_isFind_9, rfl, rfl⟩ (fun (hc : (gI M 66 9) ≤ a1) => ?_) (fun (hc : ¬ ((gI M 66 9) ≤ a1)) => ?_)
    · replace hf := i_t hc hf
      refine y_iconst (n := 17) (v := 0) ⟨dX12_isFind_16, rfl⟩ ki_0 ?_
      cases hf
      exact y_ireturn (n := 18) ⟨dX12_isFind_17, rfl⟩ rfl rfl hk
    · replace hf := i_f hc hf
      refine y_iconst (n := 13) (v := 1) ⟨dX12_isFind_12, rfl⟩ ki_1 ?_
      refine y_goto (t := 17) ⟨dX12_isFind_13, rfl, rfl⟩ ?_
      cases hf
      exact y_ireturn (n := 18) ⟨dX12_isFind_17, rfl⟩ rfl rfl hk
theorem c_mo_isFind (a1 : Int32) (M : dM) {o : Bool} {y : mz_M} {d : Nat} {Q : mz_P} {pc n i : Nat} {L : List (Option Value)} {st : List Value} (h : mz_d y.2.1 pc n 3 (.invokevirtual i)) (hl : mz_ml y.1.cls i yX12_isFind) (hf : f_mo_isFind a1 M = o) (hd : 1 + 1 ≤ d) (hsm : (st.map (fun v => v.category)).sum ≤ 8) (hLr : mz_rL 133 L = true) (hSr : mz_rS 133 st = true) (kk : mW y d Q n L (.int (bI o) :: st) M) : mW y d Q pc L (.int a1 :: .ref 66 :: st) M :=
  y_callV kmX12_isFind kvX12_isFind l_66 (by decide +kernel) (by decide +kernel) h hl (ok_mo_isFind a1 M hf) (vs := [.int a1]) rfl rfl hd hsm hLr hSr kk
noncomputable def f_mo_isTwin (a1 : Int32) (a2 : Int32) (M : dM) : Option Bool :=
  if a1 = a2 then
    some false
  else
    gd (vp_in a1 40) <|
    gd (vp_in a2 40) <|
    if (gI M 80 a1.toNatClampNeg) = (gI M 80 a2.toNatClampNeg) then
      gd (vp_in ((8 * (gI M 74 a1.toNatClampNeg)) + (gI M 74 a2.toNatClampNeg)) 64) <|
      if (gI M 68 ((8 * (gI M 74 a1.toNatClampNeg)) + (gI M 74 a2.toNatClampNeg)).toNatClampNeg) ≤ (gI M 66 33) then
        some false
      else
        some true
    else
      some false
theorem ok_mo_isTwin (a1 : Int32) (a2 : Int32) (M : dM) {o : Bool} (hf : f_mo_isTwin a1 a2 M = some o) : mO mX12_isTwin 1 [.ref 66, .int a1, .int a2] M (some (.int (bI o))) M := by
  refine y_ok (by decide +kernel) (Nat.le_of_ble_eq_true rfl) (L0 := [some (.ref 66), some (.int a1), some (.int a2)]) rfl ?_
  have hk := mR_mQ (some (.int (bI o))) M
  generalize mQ _ _ = Q at hk ⊢
  unfold f_mo_isTwin at hf
  refine y_iload_n (i := 1) (n := 1) ⟨dX12_isTwin_0, rfl⟩ rfl ?_
  refine y_iload_n (i := 2) (n := 2) ⟨dX12_isTwin_1, rfl⟩ rfl ?_
  refine y_icmp_eq (t := 52) (n := 5) ⟨dX12_isTwin_2, rfl, rfl⟩ (fun (hc : a1 = a2) => ?_) (fun (hc : ¬ (a1 = a2)) => ?_)
  · replace hf := i_t hc hf
    refine y_iconst (n := 53) (v := 0) ⟨dX12_isTwin_52, rfl⟩ ki_0 ?_
    cases hf
    exact y_ireturn (n := 54) ⟨dX12_isTwin_53, rfl⟩ rfl rfl hk
  · replace hf := i_f hc hf
    refine y_aload_n (i := 0) (n := 6) ⟨dX12_isTwin_5, rfl⟩ rfl ?_
    refine y_getR (n := 9) ⟨dX12_isTwin_6, rfl⟩ kfX12_49 l_66 rfl r_66_16 ?_
    refine y_iload_n (i := 1) (n := 10) ⟨dX12_isTwin_9, rfl⟩ rfl ?_
    obtain ⟨hg1, hf⟩ := g_s hf
    refine y_iaload (n := 11) ⟨dX12_isTwin_10, rfl⟩ l_80 hg1 ?_
    refine y_aload_n (i := 0) (n := 12) ⟨dX12_isTwin_11, rfl⟩ rfl ?_
    refine y_getR (n := 15) ⟨dX12_isTwin_12, rfl⟩ kfX12_49 l_66 rfl r_66_16 ?_
    refine y_iload_n (i := 2) (n := 16) ⟨dX12_isTwin_15, rfl⟩ rfl ?_
    obtain ⟨hg2, hf⟩ := g_s hf
    refine y_iaload (n := 17) ⟨dX12_isTwin_16, rfl⟩ l_80 hg2 ?_
    refine y_icmp_ne (t := 52) (n := 20) ⟨dX12_isTwin_17, rfl, rfl⟩ (fun (hc : ¬ ((gI M 80 a1.toNatClampNeg) = (gI M 80 a2.toNatClampNeg))) => ?_) (fun (hc : (gI M 80 a1.toNatClampNeg) = (gI M 80 a2.toNatClampNeg)) => ?_)
    · replace hf := i_f hc hf
      refine y_iconst (n := 53) (v := 0) ⟨dX12_isTwin_52, rfl⟩ ki_0 ?_
      cases hf
      exact y_ireturn (n := 54) ⟨dX12_isTwin_53, rfl⟩ rfl rfl hk
    · replace hf := i_t hc hf
      refine y_aload_n (i := 0) (n := 21) ⟨dX12_isTwin_20, rfl⟩ rfl ?_
      refine y_getR (n := 24) ⟨dX12_isTwin_21, rfl⟩ kfX12_13 l_66 rfl r_66_2 ?_
      refine y_bipush (n := 26) (v := 8) ⟨dX12_isTwin_24, rfl⟩ kb_8 ?_
      refine y_aload_n (i := 0) (n := 27) ⟨dX12_isTwin_26, rfl⟩ rfl ?_
      refine y_getR (n := 30) ⟨dX12_isTwin_27, rfl⟩ kfX12_31 l_66 rfl r_66_10 ?_
      refine y_iload_n (i := 1) (n := 31) ⟨dX12_isTwin_30, rfl⟩ rfl ?_
      refine y_iaload (n := 32) ⟨dX12_isTwin_31, rfl⟩ l_74 hg1 ?_
      refine y_imul (n := 33) ⟨dX12_isTwin_32, rfl⟩ ?_
      refine y_aload_n (i := 0) (n := 34) ⟨dX12_isTwin_33, rfl⟩ rfl ?_
      refine y_getR (n := 37) ⟨dX12_isTwin_34, rfl⟩ kfX12_31 l_66 rfl r_66_10 ?_
      refine y_iload_n (i := 2) (n := 38) ⟨dX12_isTwin_37, rfl⟩ rfl ?_
      refine y_iaload (n := 39) ⟨dX12_isTwin_38, rfl⟩ l_74 hg2 ?_
      refine y_iadd (n := 40) ⟨dX12_isTwin_39, rfl⟩ ?_
      obtain ⟨hg3, hf⟩ := g_s hf
      refine y_iaload (n := 41) ⟨dX12_isTwin_40, rfl⟩ l_68 hg3 ?_
      refine y_aload_n (i := 0) (n := 42) ⟨dX12_isTwin_41, rfl⟩ rfl ?_
      refine y_getI (n := 45) ⟨dX12_isTwin_42, rfl⟩ kfX12_211 l_66 rfl ?_
      refine y_icmp_le (t := 52) (n := 48) ⟨dX12_isTwin_45, rfl, rfl⟩ (fun (hc : (gI M 68 ((8 * (gI M 74 a1.toNatClampNeg)) + (gI M 74 a2.toNatClampNeg)).toNatClampNeg) ≤ (gI M 66 33)) => ?_) (fun (hc : ¬ ((gI M 68 ((8 * (gI M 74 a1.toNatClampNeg)) + (gI M 74 a2.toNatClampNeg)).toNatClampNeg) ≤ (gI M 66 33))) => ?_)
      · replace hf := i_t hc hf
        refine y_iconst (n := 53) (v := 0) ⟨dX12_isTwin_52, rfl⟩ ki_0 ?_
        cases hf
        exact y_ireturn (n := 54) ⟨dX12_isTwin_53, rfl⟩ rfl rfl hk
      · replace hf := i_f hc hf
        refine y_iconst (n := 49) (v := 1) ⟨dX12_isTwin_48, rfl⟩ ki_1 ?_
        refine y_goto (t := 53) ⟨dX12_isTwin_49, rfl, rfl⟩ ?_
        cases hf
        exact y_ireturn (n := 54) ⟨dX12_isTwin_53, rfl⟩ rfl rfl hk
theorem c_mo_isTwin (a1 : Int32) (a2 : Int32) (M : dM) {o : Bool} {y : mz_M} {d : Nat} {Q : mz_P} {pc n i : Nat} {L : List (Option Value)} {st : List Value} (h : mz_d y.2.1 pc n 3 (.invokevirtual i)) (hl : mz_ml y.1.cls i yX12_isTwin) (hf : f_mo_isTwin a1 a2 M = some o) (hd : 1 + 1 ≤ d) (hsm : (st.map (fun v => v.category)).sum ≤ 8) (hLr : mz_rL 133 L = true) (hSr : mz_rS 133 st = true) (kk : mW y d Q n L (.int (bI o) :: st) M) : mW y d Q pc L (.int a2 :: .int a1 :: .ref 66 :: st) M :=
  y_callV kmX12_isTwin kvX12_isTwin l_66 (by decide +kernel) (by decide +kernel) h hl (ok_mo_isTwin a1 a2 M hf) (vs := [.int a1, .int a2]) rfl rfl hd hsm hLr hSr kk
def K_mo_bits_4 (Q : mz_P) (x0 : Int32) (M : dM) : ((Int32 × Int32) ⊕ Int32) → Prop
  | .inl s => mW mX12_bits 1 Q 4 [some (.int x0), some (.int s.1), some (.int s.2)] [] M
  | .inr r => mR Q (some (.int r)) M
noncomputable def b_mo_bits_4_4 (x0 : Int32) (x1 : Int32) (x2 : Int32) : Option ((Int32 × Int32) ⊕ Int32) :=
  if 12 ≤ x2 then
    some (.inr x1)
  else
    some (.inl ((x1 + ((x0 >>> (x2 &&& 31)) &&& 1)), (x2 + 1)))
noncomputable def l_mo_bits_4 (x0 : Int32) (x1 : Int32) (x2 : Int32) : Option Int32 := lpc (fun s => b_mo_bits_4_4 x0 s.1 s.2) (x1, x2)
noncomputable def f_mo_bits (a1 : Int32) : Option Int32 :=
  (l_mo_bits_4 a1 0 0).bind fun r3 => some r3
theorem w_b_mo_bits_4_4 (x0 : Int32) (x1 : Int32) (x2 : Int32)  (M : dM) {Q : mz_P} {o : ((Int32 × Int32) ⊕ Int32)} (hf : b_mo_bits_4_4 x0 x1 x2 = some o) (hk : K_mo_bits_4 Q x0 M o) : mW mX12_bits 1 Q 4 [some (.int x0), some (.int x1), some (.int x2)] [] M := by
  unfold b_mo_bits_4_4 at hf
  refine y_iload_n (i := 2) (n := 5) ⟨dX12_bits_4, rfl⟩ rfl ?_
  refine y_bipush (n := 7) (v := 12) ⟨dX12_bits_5, rfl⟩ kb_12 ?_
  refine y_icmp_ge (t := 24) (n := 10) ⟨dX12_bits_7, rfl, rfl⟩ (fun (hc : 12 ≤ x2) => ?_) (fun (hc : ¬ (12 ≤ x2)) => ?_)
  · replace hf := i_t hc hf
    refine y_iload_n (i := 1) (n := 25) ⟨dX12_bits_24, rfl⟩ rfl ?_
    cases hf
    exact y_ireturn (n := 26) ⟨dX12_bits_25, rfl⟩ rfl rfl hk
  · replace hf := i_f hc hf
    refine y_iload_n (i := 1) (n := 11) ⟨dX12_bits_10, rfl⟩ rfl ?_
    refine y_iload_n (i := 0) (n := 12) ⟨dX12_bits_11, rfl⟩ rfl ?_
    refine y_iload_n (i := 2) (n := 13) ⟨dX12_bits_12, rfl⟩ rfl ?_
    refine y_ishr (n := 14) ⟨dX12_bits_13, rfl⟩ ?_
    refine y_iconst (n := 15) (v := 1) ⟨dX12_bits_14, rfl⟩ ki_1 ?_
    refine y_iand (n := 16) ⟨dX12_bits_15, rfl⟩ ?_
    refine y_iadd (n := 17) ⟨dX12_bits_16, rfl⟩ ?_
    refine y_istore_n (i := 1) (n := 18) (L2 := [some (.int x0), some (.int (x1 + ((x0 >>> (x2 &&& 31)) &&& 1))), some (.int x2)]) ⟨dX12_bits_17, rfl⟩ (by decide) rfl rfl ?_
    refine y_iinc (i := 2) (n := 21) (b := (x2 + 1)) (L2 := [some (.int x0), some (.int (x1 + ((x0 >>> (x2 &&& 31)) &&& 1))), some (.int (x2 + 1))]) ⟨dX12_bits_18, rfl⟩ rfl (by rw [ki_1]) (by decide) rfl rfl ?_
    refine y_goto (t := 4) ⟨dX12_bits_21, rfl, rfl⟩ ?_
    cases hf
    exact y_wk (L2 := [some (.int x0), some (.int (x1 + ((x0 >>> (x2 &&& 31)) &&& 1))), some (.int (x2 + 1))]) ⟨Or.inr rfl, Or.inr rfl, Or.inr rfl, trivial⟩ hk
theorem wl_mo_bits_4 (x0 : Int32) (x1 : Int32) (x2 : Int32) (M : dM) {Q : mz_P} {x : Int32} (hf : l_mo_bits_4 x0 x1 x2 = some x) (hk : K_mo_bits_4 Q x0 M (.inr x)) : mW mX12_bits 1 Q 4 [some (.int x0), some (.int x1), some (.int x2)] [] M :=
  lpc_wp (σ := (Int32 × Int32)) (ξ := Int32) (s := (x1, x2)) (Wh := fun s => mW mX12_bits 1 Q 4 [some (.int x0), some (.int s.1), some (.int s.2)] [] M) (K := K_mo_bits_4 Q x0 M) (fun _ h => h) (fun s o hb hk => w_b_mo_bits_4_4 x0 s.1 s.2 M hb hk) hf hk
theorem ok_mo_bits (a1 : Int32) (M : dM) {o : Int32} (hf : f_mo_bits a1 = some o) : mO mX12_bits 1 [.int a1] M (some (.int o)) M := by
  refine y_ok (by decide +kernel) (Nat.le_of_ble_eq_true rfl) (L0 := [some (.int a1), none, none]) rfl ?_
  have hk := mR_mQ (some (.int o)) M
  generalize mQ _ _ = Q at hk ⊢
  unfold f_mo_bits at hf
  refine y_iconst (n := 1) (v := 0) ⟨dX12_bits_0, rfl⟩ ki_0 ?_
  refine y_istore_n (i := 1) (n := 2) (L2 := [some (.int a1), some (.int 0), none]) ⟨dX12_bits_1, rfl⟩ (by decide) rfl rfl ?_
  refine y_iconst (n := 3) (v := 0) ⟨dX12_bits_2, rfl⟩ ki_0 ?_
  refine y_istore_n (i := 2) (n := 4) (L2 := [some (.int a1), some (.int 0), some (.int 0)]) ⟨dX12_bits_3, rfl⟩ (by decide) rfl rfl ?_
  obtain ⟨r3, hl2, hf⟩ := b_s hf
  cases hf
  exact y_wk (L2 := [some (.int a1), some (.int 0), some (.int 0)]) ⟨Or.inr rfl, Or.inr rfl, Or.inr rfl, trivial⟩ (wl_mo_bits_4 a1 0 0 M hl2 hk)
theorem c_mo_bits (a1 : Int32) (M : dM) {o : Int32} {y : mz_M} {d : Nat} {Q : mz_P} {pc n i : Nat} {L : List (Option Value)} {st : List Value} (h : mz_d y.2.1 pc n 3 (.invokestatic i)) (hl : mz_ml y.1.cls i yX12_bits) (hf : f_mo_bits a1 = some o) (hd : 1 + 1 ≤ d) (hsm : (st.map (fun v => v.category)).sum ≤ 8) (hLr : mz_rL 133 L = true) (hSr : mz_rS 133 st = true) (kk : mW y d Q n L (.int o :: st) M) : mW y d Q pc L (.int a1 :: st) M :=
  y_callS kmX12_bits ksX12_bits h hl (ok_mo_bits a1 M hf) (vs := [.int a1]) rfl rfl hd hsm hLr hSr kk
noncomputable def f_mo_ageOf (a1 : Int32) (M : dM) : Option Int32 :=
  gd (vp_in a1 40) <|
  gd (vp_in ((10 * (gI M 74 a1.toNatClampNeg)) + (gI M 75 a1.toNatClampNeg)) 80) <|
  some (gI M 67 ((10 * (gI M 74 a1.toNatClampNeg)) + (gI M 75 a1.toNatClampNeg)).toNatClampNeg)
theorem ok_mo_ageOf (a1 : Int32) (M : dM) {o : Int32} (hf : f_mo_ageOf a1 M = some o) : mO mX12_ageOf 1 [.ref 66, .int a1] M (some (.int o)) M := by
  refine y_ok (by decide +kernel) (Nat.le_of_ble_eq_true rfl) (L0 := [some (.ref 66), some (.int a1)]) rfl ?_
  have hk := mR_mQ (some (.int o)) M
  generalize mQ _ _ = Q at hk ⊢
  unfold f_mo_ageOf at hf
  refine y_aload_n (i := 0) (n := 1) ⟨dX12_ageOf_0, rfl⟩ rfl ?_
  refine y_getR (n := 4) ⟨dX12_ageOf_1, rfl⟩ kfX12_7 l_66 rfl r_66_1 ?_
  refine y_bipush (n := 6) (v := 10) ⟨dX12_ageOf_4, rfl⟩ kb_10 ?_
  refine y_aload_n (i := 0) (n := 7) ⟨dX12_ageOf_6, rfl⟩ rfl ?_
  refine y_getR (n := 10) ⟨dX12_ageOf_7, rfl⟩ kfX12_31 l_66 rfl r_66_10 ?_
  refine y_iload_n (i := 1) (n := 11) ⟨dX12_ageOf_10, rfl⟩ rfl ?_
  obtain ⟨hg1, hf⟩ := g_s hf
  refine y_iaload (n := 12) ⟨dX12_ageOf_11, rfl⟩ l_74 hg1 ?_
  refine y_imul (n := 13) ⟨dX12_ageOf_12, rfl⟩ ?_
  refine y_aload_n (i := 0) (n := 14) ⟨dX12_ageOf_13, rfl⟩ rfl ?_
  refine y_getR (n := 17) ⟨dX12_ageOf_14, rfl⟩ kfX12_34 l_66 rfl r_66_11 ?_
  refine y_iload_n (i := 1) (n := 18) ⟨dX12_ageOf_17, rfl⟩ rfl ?_
  refine y_iaload (n := 19) ⟨dX12_ageOf_18, rfl⟩ l_75 hg1 ?_
  refine y_iadd (n := 20) ⟨dX12_ageOf_19, rfl⟩ ?_
  obtain ⟨hg2, hf⟩ := g_s hf
  refine y_iaload (n := 21) ⟨dX12_ageOf_20, rfl⟩ l_67 hg2 ?_
  cases hf
  exact y_ireturn (n := 22) ⟨dX12_ageOf_21, rfl⟩ rfl rfl hk
theorem c_mo_ageOf (a1 : Int32) (M : dM) {o : Int32} {y : mz_M} {d : Nat} {Q : mz_P} {pc n i : Nat} {L : List (Option Value)} {st : List Value} (h : mz_d y.2.1 pc n 3 (.invokevirtual i)) (hl : mz_ml y.1.cls i yX12_ageOf) (hf : f_mo_ageOf a1 M = some o) (hd : 1 + 1 ≤ d) (hsm : (st.map (fun v => v.category)).sum ≤ 8) (hLr : mz_rL 133 L = true) (hSr : mz_rS 133 st = true) (kk : mW y d Q n L (.int o :: st) M) : mW y d Q pc L (.int a1 :: .ref 66 :: st) M :=
  y_callV kmX12_ageOf kvX12_ageOf l_66 (by decide +kernel) (by decide +kernel) h hl (ok_mo_ageOf a1 M hf) (vs := [.int a1]) rfl rfl hd hsm hLr hSr kk
def K_mo_factOf_130 (Q : mz_P) (x1 : Int32) (M : dM) : ((Int32 × Int32) ⊕ Int32) → Prop
  | .inl s => mW mX12_factOf 2 Q 130 [some (.ref 66), some (.int x1), none, none, none, some (.int s.1), some (.int s.2)] [] M
  | .inr t => mW mX12_factOf 2 Q 166 [none, none, none, none, none, some (.int t), none] [] M
noncomputable def b_mo_factOf_130_130 (x1 : Int32) (x5 : Int32) (x6 : Int32) (M : dM) : Option ((Int32 × Int32) ⊕ Int32) :=
  if x1 ≤ x6 then
    some (.inr x5)
  else
    (f_mo_ageOf x6 M).bind fun v6 =>
    (f_mo_ageOf x1 M).bind fun v8 =>
    if v6 < v8 then
      some (.inl ((x5 + 0), (x6 + 1)))
    else
      some (.inl ((x5 + 1), (x6 + 1)))
noncomputable def l_mo_factOf_130 (x1 : Int32) (x5 : Int32) (x6 : Int32) (M : dM) : Option Int32 := lpc (fun s => b_mo_factOf_130_130 x1 s.1 s.2 M) (x5, x6)
def K_mo_factOf_192 (Q : mz_P) (x1 : Int32) (x4 : Int32) (M : dM) : ((Int32 × Int32) ⊕ Int32) → Prop
  | .inl s => mW mX12_factOf 2 Q 192 [some (.ref 66), some (.int x1), none, none, some (.int x4), some (.int s.1), some (.int s.2)] [] M
  | .inr r => mR Q (some (.int r)) M
noncomputable def b_mo_factOf_192_192 (x1 : Int32) (x4 : Int32) (x5 : Int32) (x6 : Int32) (M : dM) : Option ((Int32 × Int32) ⊕ Int32) :=
  gd (vp_in x1 40) <|
  if (gI M 77 x1.toNatClampNeg) ≤ x6 then
    some (.inr x5)
  else
    (f_mo_presentAt (gI M 74 x1.toNatClampNeg) (gI M 76 x1.toNatClampNeg) x6 M).bind fun v14 =>
    if v14 = x4 then
      some (.inl ((x5 + 1), (x6 + 1)))
    else
      some (.inl ((x5 + 0), (x6 + 1)))
noncomputable def l_mo_factOf_192 (x1 : Int32) (x4 : Int32) (x5 : Int32) (x6 : Int32) (M : dM) : Option Int32 := lpc (fun s => b_mo_factOf_192_192 x1 x4 s.1 s.2 M) (x5, x6)
def K_mo_factOf_255 (Q : mz_P) (x1 : Int32) (M : dM) : ((Int32 × Int32) ⊕ Int32) → Prop
  | .inl s => mW mX12_factOf 2 Q 255 [some (.ref 66), some (.int x1), none, none, none, some (.int s.1), some (.int s.2)] [] M
  | .inr r => mR Q (some (.int r)) M
noncomputable def b_mo_factOf_255_255 (x1 : Int32) (x5 : Int32) (x6 : Int32) (M : dM) : Option ((Int32 × Int32) ⊕ Int32) :=
  if (gI M 66 9) ≤ x6 then
    some (.inr x5)
  else
    (f_mo_isTwin x1 x6 M).bind fun v21 =>
    if v21 = true then
      some (.inl ((x5 + 1), (x6 + 1)))
    else
      some (.inl ((x5 + 0), (x6 + 1)))
noncomputable def l_mo_factOf_255 (x1 : Int32) (x5 : Int32) (x6 : Int32) (M : dM) : Option Int32 := lpc (fun s => b_mo_factOf_255_255 x1 s.1 s.2 M) (x5, x6)
noncomputable def f_mo_factOf (a1 : Int32) (a2 : Int32) (M : dM) : Option Int32 :=
  gd (vp_in a1 40) <|
  (f_mo_presentAt (gI M 74 a1.toNatClampNeg) (gI M 76 a1.toNatClampNeg) (gI M 77 a1.toNatClampNeg) M).bind fun v2 =>
  if a2 = 8 then
    (f_mo_ageOf a1 M).bind fun v4 =>
    some v4
  else
  if a2 = 9 then
    some (gI M 75 a1.toNatClampNeg)
  else
  if a2 = 10 then
    some (gI M 77 a1.toNatClampNeg)
  else
  if a2 = 11 then
    some (gI M 80 a1.toNatClampNeg)
  else
  if a2 = 12 then
    (l_mo_factOf_130 a1 0 0 M).bind fun t10 =>
      if t10 = 0 then
        some 1
      else
        some 0
  else
  if a2 = 13 then
    if v2 = ((1 : Int32) <<< ((gI M 78 a1.toNatClampNeg) &&& 31)) then
      some 1
    else
      some 0
  else
  if a2 = 14 then
    (l_mo_factOf_192 a1 ((1 : Int32) <<< ((gI M 78 a1.toNatClampNeg) &&& 31)) 0 0 M).bind fun r18 => some r18
  else
  if a2 = 15 then
    (f_mo_bits v2).bind fun v19 =>
    some (v19 - 1)
  else
  if a2 = 16 then
    (l_mo_factOf_255 a1 0 0 M).bind fun r25 => some r25
  else
  if a2 = 17 then
    some (gI M 74 a1.toNatClampNeg)
  else
  if a2 = 18 then
    some (gI M 76 a1.toNatClampNeg)
  else
  if a2 = 19 then
    some (gI M 78 a1.toNatClampNeg)
  else
  some (((gI M 79 a1.toNatClampNeg) >>> (a2 &&& 31)) &&& 1)
theorem w_b_mo_factOf_130_130 (x1 : Int32) (x5 : Int32) (x6 : Int32)  (M : dM) {Q : mz_P} {o : ((Int32 × Int32) ⊕ Int32)} (hf : b_mo_factOf_130_130 x1 x5 x6 M = some o) (hk : K_mo_factOf_130 Q x1 M o) : mW mX12_factOf 2 Q 130 [some (.ref 66), some (.int x1), none, none, none, some (.int x5), some (.int x6)] [] M := by
  unfold b_mo_factOf_130_130 at hf
  refine y_iload (i := 6) (n := 132) ⟨dX12_factOf_130, rfl⟩ rfl ?_
  refine y_iload_n (i := 1) (n := 133) ⟨dX12_factOf_132, rfl⟩ rfl ?_
  refine y_icmp_ge (t := 166) (n := 136) ⟨dX12_factOf_133, rfl, rfl⟩ (fun (hc : x1 ≤ x6) => ?_) (fun (hc : ¬ (x1 ≤ x6)) => ?_)
  · replace hf := i_t hc hf
    cases hf
    exact y_wk (L2 := [none, none, none, none, none, some (.int x5), none]) ⟨Or.inl rfl, Or.inl rfl, Or.inr rfl, Or.inr rfl, Or.inr rfl, Or.inr rfl, Or.inl rfl, trivial⟩ hk
  · replace hf := i_f hc hf
    refine y_iload (i := 5) (n := 138) ⟨dX12_factOf_136, rfl⟩ rfl ?_
    refine y_aload_n (i := 0) (n := 139) ⟨dX12_factOf_138, rfl⟩ rfl ?_
    refine y_iload (i := 6) (n := 141) ⟨dX12_factOf_139, rfl⟩ rfl ?_
    obtain ⟨v6, hv7, hf⟩ := b_s hf
    refine c_mo_ageOf x6 M (n := 144) ⟨dX12_factOf_141, rfl⟩ klX12_238 hv7 (by decide) (Nat.le_of_ble_eq_true rfl) rfl rfl ?_
    refine y_aload_n (i := 0) (n := 145) ⟨dX12_factOf_144, rfl⟩ rfl ?_
    refine y_iload_n (i := 1) (n := 146) ⟨dX12_factOf_145, rfl⟩ rfl ?_
    obtain ⟨v8, hv9, hf⟩ := b_s hf
    refine c_mo_ageOf x1 M (n := 149) ⟨dX12_factOf_146, rfl⟩ klX12_238 hv9 (by decide) (Nat.le_of_ble_eq_true rfl) rfl rfl ?_
    refine y_icmp_lt (t := 156) (n := 152) ⟨dX12_factOf_149, rfl, rfl⟩ (fun (hc : v6 < v8) => ?_) (fun (hc : ¬ (v6 < v8)) => ?_)
    · replace hf := i_t hc hf
      refine y_iconst (n := 157) (v := 0) ⟨dX12_factOf_156, rfl⟩ ki_0 ?_
      refine y_iadd (n := 158) ⟨dX12_factOf_157, rfl⟩ ?_
      refine y_istore (i := 5) (n := 160) (L2 := [some (.ref 66), some (.int x1), none, none, none, some (.int (x5 + 0)), some (.int x6)]) ⟨dX12_factOf_158, rfl⟩ (by decide) rfl rfl ?_
      refine y_iinc (i := 6) (n := 163) (b := (x6 + 1)) (L2 := [some (.ref 66), some (.int x1), none, none, none, some (.int (x5 + 0)), some (.int (x6 + 1))]) ⟨dX12_factOf_160, rfl⟩ rfl (by rw [ki_1]) (by decide) rfl rfl ?_
      refine y_goto (t := 130) ⟨dX12_factOf_163, rfl, rfl⟩ ?_
      cases hf
      exact y_wk (L2 := [some (.ref 66), some (.int x1), none, none, none, some (.int (x5 + 0)), some (.int (x6 + 1))]) ⟨Or.inr rfl, Or.inr rfl, Or.inr rfl, Or.inr rfl, Or.inr rfl, Or.inr rfl, Or.inr rfl, trivial⟩ hk
    · replace hf := i_f hc hf
      refine y_iconst (n := 153) (v := 1) ⟨dX12_factOf_152, rfl⟩ ki_1 ?_
      refine y_goto (t := 157) ⟨dX12_factOf_153, rfl, rfl⟩ ?_
      refine y_iadd (n := 158) ⟨dX12_factOf_157, rfl⟩ ?_
      refine y_istore (i := 5) (n := 160) (L2 := [some (.ref 66), some (.int x1), none, none, none, some (.int (x5 + 1)), some (.int x6)]) ⟨dX12_factOf_158, rfl⟩ (by decide) rfl rfl ?_
      refine y_iinc (i := 6) (n := 163) (b := (x6 + 1)) (L2 := [some (.ref 66), some (.int x1), none, none, none, some (.int (x5 + 1)), some (.int (x6 + 1))]) ⟨dX12_factOf_160, rfl⟩ rfl (by rw [ki_1]) (by decide) rfl rfl ?_
      refine y_goto (t := 130) ⟨dX12_factOf_163, rfl, rfl⟩ ?_
      cases hf
      exact y_wk (L2 := [some (.ref 66), some (.int x1), none, none, none, some (.int (x5 + 1)), some (.int (x6 + 1))]) ⟨Or.inr rfl, Or.inr rfl, Or.inr rfl, Or.inr rfl, Or.inr rfl, Or.inr rfl, Or.inr rfl, trivial⟩ hk
theorem wl_mo_factOf_130 (x1 : Int32) (x5 : Int32) (x6 : Int32) (M : dM) {Q : mz_P} {x : Int32} (hf : l_mo_factOf_130 x1 x5 x6 M = some x) (hk : K_mo_factOf_130 Q x1 M (.inr x)) : mW mX12_factOf 2 Q 130 [some (.ref 66), some (.int x1), none, none, none, some (.int x5), some (.int x6)] [] M :=
  lpc_wp (σ := (Int32 × Int32)) (ξ := Int32) (s := (x5, x6)) (Wh := fun s => mW mX12_factOf 2 Q 130 [some (.ref 66), some (.int x1), none, none, none, some (.int s.1), some (.int s.2)] [] M) (K := K_mo_factOf_130 Q x1 M) (fun _ h => h) (fun s o hb hk => w_b_mo_factOf_130_130 x1 s.1 s.2 M hb hk) hf hk
theorem w_b_mo_factOf_192_192 (x1 : Int32) (x4 : Int32) (x5 : Int32) (x6 : Int32)  (M : dM) {Q : mz_P} {o : ((Int32 × Int32) ⊕ Int32)} (hf : b_mo_factOf_192_192 x1 x4 x5 x6 M = some o) (hk : K_mo_factOf_192 Q x1 x4 M o) : mW mX12_factOf 2 Q 192 [some (.ref 66), some (.int x1), none, none, some (.int x4), some (.int x5), some (.int x6)] [] M := by
  unfold b_mo_factOf_192_192 at hf
  refine y_iload (i := 6) (n := 194) ⟨dX12_factOf_192, rfl⟩ rfl ?_
  refine y_aload_n (i := 0) (n := 195) ⟨dX12_factOf_194, rfl⟩ rfl ?_
  refine y_getR (n := 198) ⟨dX12_factOf_195, rfl⟩ kfX12_40 l_66 rfl r_66_13 ?_
  refine y_iload_n (i := 1) (n := 199) ⟨dX12_factOf_198, rfl⟩ rfl ?_
  obtain ⟨hg13, hf⟩ := g_s hf
  refine y_iaload (n := 200) ⟨dX12_factOf_199, rfl⟩ l_77 hg13 ?_
  refine y_icmp_ge (t := 242) (n := 203) ⟨dX12_factOf_200, rfl, rfl⟩ (fun (hc : (gI M 77 x1.toNatClampNeg) ≤ x6) => ?_) (fun (hc : ¬ ((gI M 77 x1.toNatClampNeg) ≤ x6)) => ?_)
  · replace hf := i_t hc hf
    refine y_iload (i := 5) (n := 244) ⟨dX12_factOf_242, rfl⟩ rfl ?_
    cases hf
    exact y_ireturn (n := 245) ⟨dX12_factOf_244, rfl⟩ rfl rfl hk
  · replace hf := i_f hc hf
    refine y_iload (i := 5) (n := 205) ⟨dX12_factOf_203, rfl⟩ rfl ?_
    refine y_aload_n (i := 0) (n := 206) ⟨dX12_factOf_205, rfl⟩ rfl ?_
    refine y_aload_n (i := 0) (n := 207) ⟨dX12_factOf_206, rfl⟩ rfl ?_
    refine y_getR (n := 210) ⟨dX12_factOf_207, rfl⟩ kfX12_31 l_66 rfl r_66_10 ?_
    refine y_iload_n (i := 1) (n := 211) ⟨dX12_factOf_210, rfl⟩ rfl ?_
    refine y_iaload (n := 212) ⟨dX12_factOf_211, rfl⟩ l_74 hg13 ?_
    refine y_aload_n (i := 0) (n := 213) ⟨dX12_factOf_212, rfl⟩ rfl ?_
    refine y_getR (n := 216) ⟨dX12_factOf_213, rfl⟩ kfX12_37 l_66 rfl r_66_12 ?_
    refine y_iload_n (i := 1) (n := 217) ⟨dX12_factOf_216, rfl⟩ rfl ?_
    refine y_iaload (n := 218) ⟨dX12_factOf_217, rfl⟩ l_76 hg13 ?_
    refine y_iload (i := 6) (n := 220) ⟨dX12_factOf_218, rfl⟩ rfl ?_
    obtain ⟨v14, hv15, hf⟩ := b_s hf
    refine c_mo_presentAt (gI M 74 x1.toNatClampNeg) (gI M 76 x1.toNatClampNeg) x6 M (n := 223) ⟨dX12_factOf_220, rfl⟩ klX12_231 hv15 (by decide) (Nat.le_of_ble_eq_true rfl) rfl rfl ?_
    refine y_iload (i := 4) (n := 225) ⟨dX12_factOf_223, rfl⟩ rfl ?_
    refine y_icmp_ne (t := 232) (n := 228) ⟨dX12_factOf_225, rfl, rfl⟩ (fun (hc : ¬ (v14 = x4)) => ?_) (fun (hc : v14 = x4) => ?_)
    · replace hf := i_f hc hf
      refine y_iconst (n := 233) (v := 0) ⟨dX12_factOf_232, rfl⟩ ki_0 ?_
      refine y_iadd (n := 234) ⟨dX12_factOf_233, rfl⟩ ?_
      refine y_istore (i := 5) (n := 236) (L2 := [some (.ref 66), some (.int x1), none, none, some (.int x4), some (.int (x5 + 0)), some (.int x6)]) ⟨dX12_factOf_234, rfl⟩ (by decide) rfl rfl ?_
      refine y_iinc (i := 6) (n := 239) (b := (x6 + 1)) (L2 := [some (.ref 66), some (.int x1), none, none, some (.int x4), some (.int (x5 + 0)), some (.int (x6 + 1))]) ⟨dX12_factOf_236, rfl⟩ rfl (by rw [ki_1]) (by decide) rfl rfl ?_
      refine y_goto (t := 192) ⟨dX12_factOf_239, rfl, rfl⟩ ?_
      cases hf
      exact y_wk (L2 := [some (.ref 66), some (.int x1), none, none, some (.int x4), some (.int (x5 + 0)), some (.int (x6 + 1))]) ⟨Or.inr rfl, Or.inr rfl, Or.inr rfl, Or.inr rfl, Or.inr rfl, Or.inr rfl, Or.inr rfl, trivial⟩ hk
    · replace hf := i_t hc hf
      refine y_iconst (n := 229) (v := 1) ⟨dX12_factOf_228, rfl⟩ ki_1 ?_
      refine y_goto (t := 233) ⟨dX12_factOf_229, rfl, rfl⟩ ?_
      refine y_iadd (n := 234) ⟨dX12_factOf_233, rfl⟩ ?_
      refine y_istore (i := 5) (n := 236) (L2 := [some (.ref 66), some (.int x1), none, none, some (.int x4), some (.int (x5 + 1)), some (.int x6)]) ⟨dX12_factOf_234, rfl⟩ (by decide) rfl rfl ?_
      refine y_iinc (i := 6) (n := 239) (b := (x6 + 1)) (L2 := [some (.ref 66), some (.int x1), none, none, some (.int x4), some (.int (x5 + 1)), some (.int (x6 + 1))]) ⟨dX12_factOf_236, rfl⟩ rfl (by rw [ki_1]) (by decide) rfl rfl ?_
      refine y_goto (t := 192) ⟨dX12_factOf_239, rfl, rfl⟩ ?_
      cases hf
      exact y_wk (L2 := [some (.ref 66), some (.int x1), none, none, some (.int x4), some (.int (x5 + 1)), some (.int (x6 + 1))]) ⟨Or.inr rfl, Or.inr rfl, Or.inr rfl, Or.inr rfl, Or.inr rfl, Or.inr rfl, Or.inr rfl, trivial⟩ hk
theorem wl_mo_factOf_192 (x1 : Int32) (x4 : Int32) (x5 : Int32) (x6 : Int32) (M : dM) {Q : mz_P} {x : Int32} (hf : l_mo_factOf_192 x1 x4 x5 x6 M = some x) (hk : K_mo_factOf_192 Q x1 x4 M (.inr x)) : mW mX12_factOf 2 Q 192 [some (.ref 66), some (.int x1), none, none, some (.int x4), some (.int x5), some (.int x6)] [] M :=
  lpc_wp (σ := (Int32 × Int32)) (ξ := Int32) (s := (x5, x6)) (Wh := fun s => mW mX12_factOf 2 Q 192 [some (.ref 66), some (.int x1), none, none, some (.int x4), some (.int s.1), some (.int s.2)] [] M) (K := K_mo_factOf_192 Q x1 x4 M) (fun _ h => h) (fun s o hb hk => w_b_mo_factOf_192_192 x1 x4 s.1 s.2 M hb hk) hf hk
theorem w_b_mo_factOf_255_255 (x1 : Int32) (x5 : Int32) (x6 : Int32)  (M : dM) {Q : mz_P} {o : ((Int32 × Int32) ⊕ Int32)} (hf : b_mo_factOf_255_255 x1 x5 x6 M = some o) (hk : K_mo_factOf_255 Q x1 M o) : mW mX12_factOf 2 Q 255 [some (.ref 66), some (.int x1), none, none, none, some (.int x5), some (.int x6)] [] M := by
  unfold b_mo_factOf_255_255 at hf
  refine y_iload (i := 6) (n := 257) ⟨dX12_factOf_255, rfl⟩ rfl ?_
  refine y_aload_n (i := 0) (n := 258) ⟨dX12_factOf_257, rfl⟩ rfl ?_
  refine y_getI (n := 261) ⟨dX12_factOf_258, rfl⟩ kfX12_235 l_66 rfl ?_
  refine y_icmp_ge (t := 290) (n := 264) ⟨dX12_factOf_261, rfl, rfl⟩ (fun (hc : (gI M 66 9) ≤ x6) => ?_) (fun (hc : ¬ ((gI M 66 9) ≤ x6)) => ?_)
  · replace hf := i_t hc hf
    refine y_iload (i := 5) (n := 292) ⟨dX12_factOf_290, rfl⟩ rfl ?_
    cases hf
    exact y_ireturn (n := 293) ⟨dX12_factOf_292, rfl⟩ rfl rfl hk
  · replace hf := i_f hc hf
    refine y_iload (i := 5) (n := 266) ⟨dX12_factOf_264, rfl⟩ rfl ?_
    refine y_aload_n (i := 0) (n := 267) ⟨dX12_factOf_266, rfl⟩ rfl ?_
    refine y_iload_n (i := 1) (n := 268) ⟨dX12_factOf_267, rfl⟩ rfl ?_
    refine y_iload (i := 6) (n := 270) ⟨dX12_factOf_268, rfl⟩ rfl ?_
    obtain ⟨v21, hv22, hf⟩ := b_s hf
    refine c_mo_isTwin x1 x6 M (n := 273) ⟨dX12_factOf_270, rfl⟩ klX12_245 hv22 (by decide) (Nat.le_of_ble_eq_true rfl) rfl rfl ?_
    refine y_if_eq (t := 280) (n := 276) ⟨dX12_factOf_273, rfl, rfl⟩ (fun h0 => ?_) (fun h0 => ?_)
    · have hc := bI_0 h0
      replace hf := i_f hc hf
      refine y_iconst (n := 281) (v := 0) ⟨dX12_factOf_280, rfl⟩ ki_0 ?_
      refine y_iadd (n := 282) ⟨dX12_factOf_281, rfl⟩ ?_
      refine y_istore (i := 5) (n := 284) (L2 := [some (.ref 66), some (.int x1), none, none, none, some (.int (x5 + 0)), some (.int x6)]) ⟨dX12_factOf_282, rfl⟩ (by decide) rfl rfl ?_
      refine y_iinc (i := 6) (n := 287) (b := (x6 + 1)) (L2 := [some (.ref 66), some (.int x1), none, none, none, some (.int (x5 + 0)), some (.int (x6 + 1))]) ⟨dX12_factOf_284, rfl⟩ rfl (by rw [ki_1]) (by decide) rfl rfl ?_
      refine y_goto (t := 255) ⟨dX12_factOf_287, rfl, rfl⟩ ?_
      cases hf
      exact y_wk (L2 := [some (.ref 66), some (.int x1), none, none, none, some (.int (x5 + 0)), some (.int (x6 + 1))]) ⟨Or.inr rfl, Or.inr rfl, Or.inr rfl, Or.inr rfl, Or.inr rfl, Or.inr rfl, Or.inr rfl, trivial⟩ hk
    · have hc := bI_1 h0
      replace hf := i_t hc hf
      refine y_iconst (n := 277) (v := 1) ⟨dX12_factOf_276, rfl⟩ ki_1 ?_
      refine y_goto (t := 281) ⟨dX12_factOf_277, rfl, rfl⟩ ?_
      refine y_iadd (n := 282) ⟨dX12_factOf_281, rfl⟩ ?_
      refine y_istore (i := 5) (n := 284) (L2 := [some (.ref 66), some (.int x1), none, none, none, some (.int (x5 + 1)), some (.int x6)]) ⟨dX12_factOf_282, rfl⟩ (by decide) rfl rfl ?_
      refine y_iinc (i := 6) (n := 287) (b := (x6 + 1)) (L2 := [some (.ref 66), some (.int x1), none, none, none, some (.int (x5 + 1)), some (.int (x6 + 1))]) ⟨dX12_factOf_284, rfl⟩ rfl (by rw [ki_1]) (by decide) rfl rfl ?_
      refine y_goto (t := 255) ⟨dX12_factOf_287, rfl, rfl⟩ ?_
      cases hf
      exact y_wk (L2 := [some (.ref 66), some (.int x1), none, none, none, some (.int (x5 + 1)), some (.int (x6 + 1))]) ⟨Or.inr rfl, Or.inr rfl, Or.inr rfl, Or.inr rfl, Or.inr rfl, Or.inr rfl, Or.inr rfl, trivial⟩ hk
theorem wl_mo_factOf_255 (x1 : Int32) (x5 : Int32) (x6 : Int32) (M : dM) {Q : mz_P} {x : Int32} (hf : l_mo_factOf_255 x1 x5 x6 M = some x) (hk : K_mo_factOf_255 Q x1 M (.inr x)) : mW mX12_factOf 2 Q 255 [some (.ref 66), some (.int x1), none, none, none, some (.int x5), some (.int x6)] [] M :=
  lpc_wp (σ := (Int32 × Int32)) (ξ := Int32) (s := (x5, x6)) (Wh := fun s => mW mX12_factOf 2 Q 255 [some (.ref 66), some (.int x1), none, none, none, some (.int s.1), some (.int s.2)] [] M) (K := K_mo_factOf_255 Q x1 M) (fun _ h => h) (fun s o hb hk => w_b_mo_factOf_255_255 x1 s.1 s.2 M hb hk) hf hk
theorem ok_mo_factOf (a1 : Int32) (a2 : Int32) (M : dM) {o : Int32} (hf : f_mo_factOf a1 a2 M = some o) : mO mX12_factOf 2 [.ref 66, .int a1, .int a2] M (some (.int o)) M := by
  refine y_ok (by decide +kernel) (Nat.le_of_ble_eq_true rfl) (L0 := [some (.ref 66), some (.int a1), some (.int a2), none, none, none, none]) rfl ?_
  have hk := mR_mQ (some (.int o)) M
  generalize mQ _ _ = Q at hk ⊢
  unfold f_mo_factOf at hf
  refine y_aload_n (i := 0) (n := 1) ⟨dX12_factOf_0, rfl⟩ rfl ?_
  refine y_aload_n (i := 0) (n := 2) ⟨dX12_factOf_1, rfl⟩ rfl ?_
  refine y_getR (n := 5) ⟨dX12_factOf_2, rfl⟩ kfX12_31 l_66 rfl r_66_10 ?_
  refine y_iload_n (i := 1) (n := 6) ⟨dX12_factOf_5, rfl⟩ rfl ?_
  obtain ⟨hg1, hf⟩ := g_s hf
  refine y_iaload (n := 7) ⟨dX12_factOf_6, rfl⟩ l_74 hg1 ?_
  refine y_aload_n (i := 0) (n := 8) ⟨dX12_factOf_7, rfl⟩ rfl ?_
  refine y_getR (n := 11) ⟨dX12_factOf_8, rfl⟩ kfX12_37 l_66 rfl r_66_12 ?_
  refine y_iload_n (i := 1) (n := 12) ⟨dX12_factOf_11, rfl⟩ rfl ?_
  refine y_iaload (n := 13) ⟨dX12_factOf_12, rfl⟩ l_76 hg1 ?_
  refine y_aload_n (i := 0) (n := 14) ⟨dX12_factOf_13, rfl⟩ rfl ?_
  refine y_getR (n := 17) ⟨dX12_factOf_14, rfl⟩ kfX12_40 l_66 rfl r_66_13 ?_
  refine y_iload_n (i := 1) (n := 18) ⟨dX12_factOf_17, rfl⟩ rfl ?_
  refine y_iaload (n := 19) ⟨dX12_factOf_18, rfl⟩ l_77 hg1 ?_
  obtain ⟨v2, hv3, hf⟩ := b_s hf
  refine c_mo_presentAt (gI M 74 a1.toNatClampNeg) (gI M 76 a1.toNatClampNeg) (gI M 77 a1.toNatClampNeg) M (n := 22) ⟨dX12_factOf_19, rfl⟩ klX12_231 hv3 (by decide) (Nat.le_of_ble_eq_true rfl) rfl rfl ?_
  refine y_istore_n (i := 3) (n := 23) (L2 := [some (.ref 66), some (.int a1), some (.int a2), some (.int v2), none, none, none]) ⟨dX12_factOf_22, rfl⟩ (by decide) rfl rfl ?_
  refine y_iconst (n := 24) (v := 1) ⟨dX12_factOf_23, rfl⟩ ki_1 ?_
  refine y_aload_n (i := 0) (n := 25) ⟨dX12_factOf_24, rfl⟩ rfl ?_
  refine y_getR (n := 28) ⟨dX12_factOf_25, rfl⟩ kfX12_43 l_66 rfl r_66_14 ?_
  refine y_iload_n (i := 1) (n := 29) ⟨dX12_factOf_28, rfl⟩ rfl ?_
  refine y_iaload (n := 30) ⟨dX12_factOf_29, rfl⟩ l_78 hg1 ?_
  refine y_ishl (n := 31) ⟨dX12_factOf_30, rfl⟩ ?_
  refine y_istore (i := 4) (n := 33) (L2 := [some (.ref 66), some (.int a1), some (.int a2), some (.int v2), some (.int ((1 : Int32) <<< ((gI M 78 a1.toNatClampNeg) &&& 31))), none, none]) ⟨dX12_factOf_31, rfl⟩ (by decide) rfl rfl ?_
  refine y_iconst (n := 34) (v := 0) ⟨dX12_factOf_33, rfl⟩ ki_0 ?_
  refine y_istore (i := 5) (n := 36) (L2 := [some (.ref 66), some (.int a1), some (.int a2), some (.int v2), some (.int ((1 : Int32) <<< ((gI M 78 a1.toNatClampNeg) &&& 31))), some (.int 0), none]) ⟨dX12_factOf_34, rfl⟩ (by decide) rfl rfl ?_
  refine y_iload_n (i := 2) (n := 37) ⟨dX12_factOf_36, rfl⟩ rfl ?_
  by_cases hc0 : a2 = 8
  · replace hf := i_t hc0 hf
    refine y_tabIn (t := 100) (off := 63) dX12_factOf_37 (sw_lo hc0 (by decide)) (sw_hi hc0 (by decide)) (sw_at hc0 (by decide)) rfl ?_
    refine y_aload_n (i := 0) (n := 101) ⟨dX12_factOf_100, rfl⟩ rfl ?_
    refine y_iload_n (i := 1) (n := 102) ⟨dX12_factOf_101, rfl⟩ rfl ?_
    obtain ⟨v4, hv5, hf⟩ := b_s hf
    refine c_mo_ageOf a1 M (n := 105) ⟨dX12_factOf_102, rfl⟩ klX12_238 hv5 (by decide) (Nat.le_of_ble_eq_true rfl) rfl rfl ?_
    cases hf
    exact y_ireturn (n := 106) ⟨dX12_factOf_105, rfl⟩ rfl rfl hk
  replace hf := i_f hc0 hf
  by_cases hc1 : a2 = 9
  · replace hf := i_t hc1 hf
    refine y_tabIn (t := 106) (off := 69) dX12_factOf_37 (sw_lo hc1 (by decide)) (sw_hi hc1 (by decide)) (sw_at hc1 (by decide)) rfl ?_
    refine y_aload_n (i := 0) (n := 107) ⟨dX12_factOf_106, rfl⟩ rfl ?_
    refine y_getR (n := 110) ⟨dX12_factOf_107, rfl⟩ kfX12_34 l_66 rfl r_66_11 ?_
    refine y_iload_n (i := 1) (n := 111) ⟨dX12_factOf_110, rfl⟩ rfl ?_
    refine y_iaload (n := 112) ⟨dX12_factOf_111, rfl⟩ l_75 hg1 ?_
    cases hf
    exact y_ireturn (n := 113) ⟨dX12_factOf_112, rfl⟩ rfl rfl hk
  replace hf := i_f hc1 hf
  by_cases hc2 : a2 = 10
  · replace hf := i_t hc2 hf
    refine y_tabIn (t := 113) (off := 76) dX12_factOf_37 (sw_lo hc2 (by decide)) (sw_hi hc2 (by decide)) (sw_at hc2 (by decide)) rfl ?_
    refine y_aload_n (i := 0) (n := 114) ⟨dX12_factOf_113, rfl⟩ rfl ?_
    refine y_getR (n := 117) ⟨dX12_factOf_114, rfl⟩ kfX12_40 l_66 rfl r_66_13 ?_
    refine y_iload_n (i := 1) (n := 118) ⟨dX12_factOf_117, rfl⟩ rfl ?_
    refine y_iaload (n := 119) ⟨dX12_factOf_118, rfl⟩ l_77 hg1 ?_
    cases hf
    exact y_ireturn (n := 120) ⟨dX12_factOf_119, rfl⟩ rfl rfl hk
  replace hf := i_f hc2 hf
  by_cases hc3 : a2 = 11
  · replace hf := i_t hc3 hf
    refine y_tabIn (t := 120) (off := 83) dX12_factOf_37 (sw_lo hc3 (by decide)) (sw_hi hc3 (by decide)) (sw_at hc3 (by decide)) rfl ?_
    refine y_aload_n (i := 0) (n := 121) ⟨dX12_factOf_120, rfl⟩ rfl ?_
    refine y_getR (n := 124) ⟨dX12_factOf_121, rfl⟩ kfX12_49 l_66 rfl r_66_16 ?_
    refine y_iload_n (i := 1) (n := 125) ⟨dX12_factOf_124, rfl⟩ rfl ?_
    refine y_iaload (n := 126) ⟨dX12_factOf_125, rfl⟩ l_80 hg1 ?_
    cases hf
    exact y_ireturn (n := 127) ⟨dX12_factOf_126, rfl⟩ rfl rfl hk
  replace hf := i_f hc3 hf
  by_cases hc4 : a2 = 12
  · replace hf := i_t hc4 hf
    refine y_tabIn (t := 127) (off := 90) dX12_factOf_37 (sw_lo hc4 (by decide)) (sw_hi hc4 (by decide)) (sw_at hc4 (by decide)) rfl ?_
    refine y_iconst (n := 128) (v := 0) ⟨dX12_factOf_127, rfl⟩ ki_0 ?_
    refine y_istore (i := 6) (n := 130) (L2 := [some (.ref 66), some (.int a1), some (.int a2), some (.int v2), some (.int ((1 : Int32) <<< ((gI M 78 a1.toNatClampNeg) &&& 31))), some (.int 0), some (.int 0)]) ⟨dX12_factOf_128, rfl⟩ (by decide) rfl rfl ?_
    obtain ⟨t10, hl11, hf⟩ := b_s hf
    refine y_wk (L2 := [some (.ref 66), some (.int a1), none, none, none, some (.int 0), some (.int 0)]) ⟨Or.inr rfl, Or.inr rfl, Or.inl rfl, Or.inl rfl, Or.inl rfl, Or.inr rfl, Or.inr rfl, trivial⟩ (wl_mo_factOf_130 a1 0 0 M hl11 ?_)
    show mW mX12_factOf 2 Q 166 [none, none, none, none, none, some (.int t10), none] [] M
    refine y_iload (i := 5) (n := 168) ⟨dX12_factOf_166, rfl⟩ rfl ?_
    refine y_if_ne (t := 175) (n := 171) ⟨dX12_factOf_168, rfl, rfl⟩ (fun (hc : ¬ (t10 = 0)) => ?_) (fun (hc : t10 = 0) => ?_)
    · replace hf := i_f hc hf
      refine y_iconst (n := 176) (v := 0) ⟨dX12_factOf_175, rfl⟩ ki_0 ?_
      cases hf
      exact y_ireturn (n := 177) ⟨dX12_factOf_176, rfl⟩ rfl rfl hk
    · replace hf := i_t hc hf
      refine y_iconst (n := 172) (v := 1) ⟨dX12_factOf_171, rfl⟩ ki_1 ?_
      refine y_goto (t := 176) ⟨dX12_factOf_172, rfl, rfl⟩ ?_
      cases hf
      exact y_ireturn (n := 177) ⟨dX12_factOf_176, rfl⟩ rfl rfl hk
  replace hf := i_f hc4 hf
  by_cases hc5 : a2 = 13
  · replace hf := i_t hc5 hf
    refine y_tabIn (t := 177) (off := 140) dX12_factOf_37 (sw_lo hc5 (by decide)) (sw_hi hc5 (by decide)) (sw_at hc5 (by decide)) rfl ?_
    refine y_iload_n (i := 3) (n := 178) ⟨dX12_factOf_177, rfl⟩ rfl ?_
    refine y_iload (i := 4) (n := 180) ⟨dX12_factOf_178, rfl⟩ rfl ?_
    refine y_icmp_ne (t := 187) (n := 183) ⟨dX12_factOf_180, rfl, rfl⟩ (fun (hc : ¬ (v2 = ((1 : Int32) <<< ((gI M 78 a1.toNatClampNeg) &&& 31)))) => ?_) (fun (hc : v2 = ((1 : Int32) <<< ((gI M 78 a1.toNatClampNeg) &&& 31))) => ?_)
    · replace hf := i_f hc hf
      refine y_iconst (n := 188) (v := 0) ⟨dX12_factOf_187, rfl⟩ ki_0 ?_
      cases hf
      exact y_ireturn (n := 189) ⟨dX12_factOf_188, rfl⟩ rfl rfl hk
    · replace hf := i_t hc hf
      refine y_iconst (n := 184) (v := 1) ⟨dX12_factOf_183, rfl⟩ ki_1 ?_
      refine y_goto (t := 188) ⟨dX12_factOf_184, rfl, rfl⟩ ?_
      cases hf
      exact y_ireturn (n := 189) ⟨dX12_factOf_188, rfl⟩ rfl rfl hk
  replace hf := i_f hc5 hf
  by_cases hc6 : a2 = 14
  · replace hf := i_t hc6 hf
    refine y_tabIn (t := 189) (off := 152) dX12_factOf_37 (sw_lo hc6 (by decide)) (sw_hi hc6 (by decide)) (sw_at hc6 (by decide)) rfl ?_
    refine y_iconst (n := 190) (v := 0) ⟨dX12_factOf_189, rfl⟩ ki_0 ?_
    refine y_istore (i := 6) (n := 192) (L2 := [some (.ref 66), some (.int a1), some (.int a2), some (.int v2), some (.int ((1 : Int32) <<< ((gI M 78 a1.toNatClampNeg) &&& 31))), some (.int 0), some (.int 0)]) ⟨dX12_factOf_190, rfl⟩ (by decide) rfl rfl ?_
    obtain ⟨r18, hl17, hf⟩ := b_s hf
    cases hf
    exact y_wk (L2 := [some (.ref 66), some (.int a1), none, none, some (.int ((1 : Int32) <<< ((gI M 78 a1.toNatClampNeg) &&& 31))), some (.int 0), some (.int 0)]) ⟨Or.inr rfl, Or.inr rfl, Or.inl rfl, Or.inl rfl, Or.inr rfl, Or.inr rfl, Or.inr rfl, trivial⟩ (wl_mo_factOf_192 a1 ((1 : Int32) <<< ((gI M 78 a1.toNatClampNeg) &&& 31)) 0 0 M hl17 hk)
  replace hf := i_f hc6 hf
  by_cases hc7 : a2 = 15
  · replace hf := i_t hc7 hf
    refine y_tabIn (t := 245) (off := 208) dX12_factOf_37 (sw_lo hc7 (by decide)) (sw_hi hc7 (by decide)) (sw_at hc7 (by decide)) rfl ?_
    refine y_iload_n (i := 3) (n := 246) ⟨dX12_factOf_245, rfl⟩ rfl ?_
    obtain ⟨v19, hv20, hf⟩ := b_s hf
    refine c_mo_bits v2 M (n := 249) ⟨dX12_factOf_246, rfl⟩ klX12_242 hv20 (by decide) (Nat.le_of_ble_eq_true rfl) rfl rfl ?_
    refine y_iconst (n := 250) (v := 1) ⟨dX12_factOf_249, rfl⟩ ki_1 ?_
    refine y_isub (n := 251) ⟨dX12_factOf_250, rfl⟩ ?_
    cases hf
    exact y_ireturn (n := 252) ⟨dX12_factOf_251, rfl⟩ rfl rfl hk
  replace hf := i_f hc7 hf
  by_cases hc8 : a2 = 16
  · replace hf := i_t hc8 hf
    refine y_tabIn (t := 252) (off := 215) dX12_factOf_37 (sw_lo hc8 (by decide)) (sw_hi hc8 (by decide)) (sw_at hc8 (by decide)) rfl ?_
    refine y_iconst (n := 253) (v := 0) ⟨dX12_factOf_252, rfl⟩ ki_0 ?_
    refine y_istore (i := 6) (n := 255) (L2 := [some (.ref 66), some (.int a1), some (.int a2), some (.int v2), some (.int ((1 : Int32) <<< ((gI M 78 a1.toNatClampNeg) &&& 31))), some (.int 0), some (.int 0)]) ⟨dX12_factOf_253, rfl⟩ (by decide) rfl rfl ?_
    obtain ⟨r25, hl24, hf⟩ := b_s hf
    cases hf
    exact y_wk (L2 := [some (.ref 66), some (.int a1), none, none, none, some (.int 0), some (.int 0)]) ⟨Or.inr rfl, Or.inr rfl, Or.inl rfl, Or.inl rfl, Or.inl rfl, Or.inr rfl, Or.inr rfl, trivial⟩ (wl_mo_factOf_255 a1 0 0 M hl24 hk)
  replace hf := i_f hc8 hf
  by_cases hc9 : a2 = 17
  · replace hf := i_t hc9 hf
    refine y_tabIn (t := 293) (off := 256) dX12_factOf_37 (sw_lo hc9 (by decide)) (sw_hi hc9 (by decide)) (sw_at hc9 (by decide)) rfl ?_
    refine y_aload_n (i := 0) (n := 294) ⟨dX12_factOf_293, rfl⟩ rfl ?_
    refine y_getR (n := 297) ⟨dX12_factOf_294, rfl⟩ kfX12_31 l_66 rfl r_66_10 ?_
    refine y_iload_n (i := 1) (n := 298) ⟨dX12_factOf_297, rfl⟩ rfl ?_
    refine y_iaload (n := 299) ⟨dX12_factOf_298, rfl⟩ l_74 hg1 ?_
    cases hf
    exact y_ireturn (n := 300) ⟨dX12_factOf_299, rfl⟩ rfl rfl hk
  replace hf := i_f hc9 hf
  by_cases hc10 : a2 = 18
  · replace hf := i_t hc10 hf
    refine y_tabIn (t := 300) (off := 263) dX12_factOf_37 (sw_lo hc10 (by decide)) (sw_hi hc10 (by decide)) (sw_at hc10 (by decide)) rfl ?_
    refine y_aload_n (i := 0) (n := 301) ⟨dX12_factOf_300, rfl⟩ rfl ?_
    refine y_getR (n := 304) ⟨dX12_factOf_301, rfl⟩ kfX12_37 l_66 rfl r_66_12 ?_
    refine y_iload_n (i := 1) (n := 305) ⟨dX12_factOf_304, rfl⟩ rfl ?_
    refine y_iaload (n := 306) ⟨dX12_factOf_305, rfl⟩ l_76 hg1 ?_
    cases hf
    exact y_ireturn (n := 307) ⟨dX12_factOf_306, rfl⟩ rfl rfl hk
  replace hf := i_f hc10 hf
  by_cases hc11 : a2 = 19
  · replace hf := i_t hc11 hf
    refine y_tabIn (t := 307) (off := 270) dX12_factOf_37 (sw_lo hc11 (by decide)) (sw_hi hc11 (by decide)) (sw_at hc11 (by decide)) rfl ?_
    refine y_aload_n (i := 0) (n := 308) ⟨dX12_factOf_307, rfl⟩ rfl ?_
    refine y_getR (n := 311) ⟨dX12_factOf_308, rfl⟩ kfX12_43 l_66 rfl r_66_14 ?_
    refine y_iload_n (i := 1) (n := 312) ⟨dX12_factOf_311, rfl⟩ rfl ?_
    refine y_iaload (n := 313) ⟨dX12_factOf_312, rfl⟩ l_78 hg1 ?_
    cases hf
    exact y_ireturn (n := 314) ⟨dX12_factOf_313, rfl⟩ rfl rfl hk
  replace hf := i_f hc11 hf
  refine y_tabOut (t := 314) dX12_factOf_37 (sw_out (lo := 8) (cs := [8, 9, 10, 11, 12, 13, 14, 15, 16, 17, 18, 19]) (by decide) (by decide) ⟨hc0, hc1, hc2, hc3, hc4, hc5, hc6, hc7, hc8, hc9, hc10, hc11, trivial⟩) rfl ?_
  refine y_aload_n (i := 0) (n := 315) ⟨dX12_factOf_314, rfl⟩ rfl ?_
  refine y_getR (n := 318) ⟨dX12_factOf_315, rfl⟩ kfX12_46 l_66 rfl r_66_15 ?_
  refine y_iload_n (i := 1) (n := 319) ⟨dX12_factOf_318, rfl⟩ rfl ?_
  refine y_iaload (n := 320) ⟨dX12_factOf_319, rfl⟩ l_79 hg1 ?_
  refine y_iload_n (i := 2) (n := 321) ⟨dX12_factOf_320, rfl⟩ rfl ?_
  refine y_ishr (n := 322) ⟨dX12_factOf_321, rfl⟩ ?_
  refine y_iconst (n := 323) (v := 1) ⟨dX12_factOf_322, rfl⟩ ki_1 ?_
  refine y_iand (n := 324) ⟨dX12_factOf_323, rfl⟩ ?_
  cases hf
  exact y_ireturn (n := 325) ⟨dX12_factOf_324, rfl⟩ rfl rfl hk
theorem c_mo_factOf (a1 : Int32) (a2 : Int32) (M : dM) {o : Int32} {y : mz_M} {d : Nat} {Q : mz_P} {pc n i : Nat} {L : List (Option Value)} {st : List Value} (h : mz_d y.2.1 pc n 3 (.invokevirtual i)) (hl : mz_ml y.1.cls i yX12_factOf) (hf : f_mo_factOf a1 a2 M = some o) (hd : 2 + 1 ≤ d) (hsm : (st.map (fun v => v.category)).sum ≤ 8) (hLr : mz_rL 133 L = true) (hSr : mz_rS 133 st = true) (kk : mW y d Q n L (.int o :: st) M) : mW y d Q pc L (.int a2 :: .int a1 :: .ref 66 :: st) M :=
  y_callV kmX12_factOf kvX12_factOf l_66 (by decide +kernel) (by decide +kernel) h hl (ok_mo_factOf a1 a2 M hf) (vs := [.int a1, .int a2]) rfl rfl hd hsm hLr hSr kk
noncomputable def t_mo_fact_24 (x1 : Int32) (x2 : Int32) (y1 : Int32) (M : dM) : Option (Int32 × dM) :=
  if (gI (sI M 66 0 y1) 66 0) = 1 then
    some (0, (sI M 66 0 y1))
  else
    (f_mo_factOf x1 x2 (sI M 66 0 y1)).bind fun v1 =>
    some (v1, (sI M 66 0 y1))
noncomputable def t_mo_fact_23 (x1 : Int32) (x2 : Int32) (M : dM) : Option (Int32 × dM) :=
  t_mo_fact_24 x1 x2 1 M
noncomputable def f_mo_fact (a1 : Int32) (a2 : Int32) (M : dM) : Option (Int32 × dM) :=
  if (f_mo_isFind a1 M) = true then
    if (f_mo_within a2 0 19) = true then
      t_mo_fact_24 a1 a2 0 M
    else
      t_mo_fact_23 a1 a2 M
  else
    t_mo_fact_23 a1 a2 M
theorem w_t_mo_fact_24 (x1 : Int32) (x2 : Int32) (y1 : Int32) (M : dM) {Q : mz_P} {o : (Int32 × dM)} (hf : t_mo_fact_24 x1 x2 y1 M = some o) (hk : mR Q (some (.int o.1)) o.2) : mW mX12_fact 3 Q 24 [some (.ref 66), some (.int x1), some (.int x2)] [.int y1, .ref 66] M := by
  unfold t_mo_fact_24 at hf
  refine y_putI (n := 27) ⟨dX12_fact_24, rfl⟩ kfX12_214 l_66 (by decide +kernel) rfl ?_
  refine y_aload_n (i := 0) (n := 28) ⟨dX12_fact_27, rfl⟩ rfl ?_
  refine y_getI (n := 31) ⟨dX12_fact_28, rfl⟩ kfX12_214 l_66 rfl ?_
  refine y_iconst (n := 32) (v := 1) ⟨dX12_fact_31, rfl⟩ ki_1 ?_
  refine y_icmp_ne (t := 39) (n := 35) ⟨dX12_fact_32, rfl, rfl⟩ (fun (hc : ¬ ((gI (sI M 66 0 y1) 66 0) = 1)) => ?_) (fun (hc : (gI (sI M 66 0 y1) 66 0) = 1) => ?_)
  · replace hf := i_f hc hf
    refine y_aload_n (i := 0) (n := 40) ⟨dX12_fact_39, rfl⟩ rfl ?_
    refine y_iload_n (i := 1) (n := 41) ⟨dX12_fact_40, rfl⟩ rfl ?_
    refine y_iload_n (i := 2) (n := 42) ⟨dX12_fact_41, rfl⟩ rfl ?_
    obtain ⟨v1, hv2, hf⟩ := b_s hf
    refine c_mo_factOf x1 x2 (sI M 66 0 y1) (n := 45) ⟨dX12_fact_42, rfl⟩ klX12_252 hv2 (by decide) (Nat.le_of_ble_eq_true rfl) rfl rfl ?_
    cases hf
    exact y_ireturn (n := 46) ⟨dX12_fact_45, rfl⟩ rfl rfl hk
  · replace hf := i_t hc hf
    refine y_iconst (n := 36) (v := 0) ⟨dX12_fact_35, rfl⟩ ki_0 ?_
    refine y_goto (t := 45) ⟨dX12_fact_36, rfl, rfl⟩ ?_
    cases hf
    exact y_ireturn (n := 46) ⟨dX12_fact_45, rfl⟩ rfl rfl hk
theorem w_t_mo_fact_23 (x1 : Int32) (x2 : Int32) (M : dM) {Q : mz_P} {o : (Int32 × dM)} (hf : t_mo_fact_23 x1 x2 M = some o) (hk : mR Q (some (.int o.1)) o.2) : mW mX12_fact 3 Q 23 [some (.ref 66), some (.int x1), some (.int x2)] [.ref 66] M := by
  unfold t_mo_fact_23 at hf
  refine y_iconst (n := 24) (v := 1) ⟨dX12_fact_23, rfl⟩ ki_1 ?_
  exact y_wk (L2 := [some (.ref 66), some (.int x1), some (.int x2)]) ⟨Or.inr rfl, Or.inr rfl, Or.inr rfl, trivial⟩ (w_t_mo_fact_24 x1 x2 1 M hf hk)
theorem ok_mo_fact (a1 : Int32) (a2 : Int32) (M : dM) {o : (Int32 × dM)} (hf : f_mo_fact a1 a2 M = some o) : mO mX12_fact 3 [.ref 66, .int a1, .int a2] M (some (.int o.1)) o.2 := by
  refine y_ok (by decide +kernel) (Nat.le_of_ble_eq_true rfl) (L0 := [some (.ref 66), some (.int a1), some (.int a2)]) rfl ?_
  have hk := mR_mQ (some (.int o.1)) o.2
  generalize mQ _ _ = Q at hk ⊢
  unfold f_mo_fact at hf
  refine y_aload_n (i := 0) (n := 1) ⟨dX12_fact_0, rfl⟩ rfl ?_
  refine y_aload_n (i := 0) (n := 2) ⟨dX12_fact_1, rfl⟩ rfl ?_
  refine y_iload_n (i := 1) (n := 3) ⟨dX12_fact_2, rfl⟩ rfl ?_
  refine c_mo_isFind a1 M (n := 6) ⟨dX12_fact_3, rfl⟩ klX12_249 rfl (by decide) (Nat.le_of_ble_eq_true rfl) rfl rfl ?_
  refine y_if_eq (t := 23) (n := 9) ⟨dX12_fact_6, rfl, rfl⟩ (fun h0 => ?_) (fun h0 => ?_)
  · have hc := bI_0 h0
    replace hf := i_f hc hf
    exact y_wk (L2 := [some (.ref 66), some (.int a1), some (.int a2)]) ⟨Or.inr rfl, Or.inr rfl, Or.inr rfl, trivial⟩ (w_t_mo_fact_23 a1 a2 M hf hk)
  · have hc := bI_1 h0
    replace hf := i_t hc hf
    refine y_iload_n (i := 2) (n := 10) ⟨dX12_fact_9, rfl⟩ rfl ?_
    refine y_iconst (n := 11) (v := 0) ⟨dX12_fact_10, rfl⟩ ki_0 ?_
    refine y_bipush (n := 13) (v := 19) ⟨dX12_fact_11, rfl⟩ kb_19 ?_
    refine c_mo_within a2 0 19 M (n := 16) ⟨dX12_fact_13, rfl⟩ klX12_221 rfl (by decide) (Nat.le_of_ble_eq_true rfl) rfl rfl ?_
    refine y_if_eq (t := 23) (n := 19) ⟨dX12_fact_16, rfl, rfl⟩ (fun h0 => ?_) (fun h0 => ?_)
    · have hc := bI_0 h0
      replace hf := i_f hc hf
      exact y_wk (L2 := [some (.ref 66), some (.int a1), some (.int a2)]) ⟨Or.inr rfl, Or.inr rfl, Or.inr rfl, trivial⟩ (w_t_mo_fact_23 a1 a2 M hf hk)
    · have hc := bI_1 h0
      replace hf := i_t hc hf
      refine y_iconst (n := 20) (v := 0) ⟨dX12_fact_19, rfl⟩ ki_0 ?_
      refine y_goto (t := 24) ⟨dX12_fact_20, rfl, rfl⟩ ?_
      exact y_wk (L2 := [some (.ref 66), some (.int a1), some (.int a2)]) ⟨Or.inr rfl, Or.inr rfl, Or.inr rfl, trivial⟩ (w_t_mo_fact_24 a1 a2 0 M hf hk)
theorem c_mo_fact (a1 : Int32) (a2 : Int32) (M : dM) {o : (Int32 × dM)} {y : mz_M} {d : Nat} {Q : mz_P} {pc n i : Nat} {L : List (Option Value)} {st : List Value} (h : mz_d y.2.1 pc n 3 (.invokevirtual i)) (hl : mz_ml y.1.cls i yX12_fact) (hf : f_mo_fact a1 a2 M = some o) (hd : 3 + 1 ≤ d) (hsm : (st.map (fun v => v.category)).sum ≤ 8) (hLr : mz_rL 133 L = true) (hSr : mz_rS 133 st = true) (kk : mW y d Q n L (.int o.1 :: st) o.2) : mW y d Q pc L (.int a2 :: .int a1 :: .ref 66 :: st) M :=
  y_callV kmX12_fact kvX12_fact l_66 (by decide +kernel) (by decide +kernel) h hl (ok_mo_fact a1 a2 M hf) (vs := [.int a1, .int a2]) rfl rfl hd hsm hLr hSr kk
def K_mo_feed_8 (Q : mz_P) (x1 : Int64) (x3 : Int64) (x5 : Int64) : ((Int32 × dM) ⊕ (Int32 × dM)) → Prop
  | .inl s => mW mX12_feed 1 Q 8 [some (.ref 66), some (.long x1), none, some (.long x3), none, some (.long x5), none, some (.int s.1), none, none, none] [] s.2
  | .inr r => mR Q (some (.int r.1)) r.2
noncomputable def b_mo_feed_8_93 (x1 : Int64) (x3 : Int64) (x5 : Int64) (x7 : Int32) (x10 : Int32) (M : dM) : Option ((Int32 × dM) ⊕ (Int32 × dM)) :=
  gd (vp_in (gI M 66 17) 1000) <|
  some (.inl ((x7 + 1), (sI (sI M 81 (gI M 66 17).toNatClampNeg x10) 66 17 ((gI (sI M 81 (gI M 66 17).toNatClampNeg x10) 66 17) + 1))))
noncomputable def b_mo_feed_8_39 (x1 : Int64) (x3 : Int64) (x5 : Int64) (x7 : Int32) (y0 : Int64) (M : dM) : Option ((Int32 × dM) ⊕ (Int32 × dM)) :=
  if (1000 : Int32) ≤ (gI M 66 17) then
    some (.inl ((x7 + 1), M))
  else
    if (((y0.toUInt64 >>> ((56 - (8 * (x7 &&& 7))).toInt64.toUInt64 &&& Int64.toUInt64 63)).toInt64) &&& 255).toInt32 = 10 then
      b_mo_feed_8_93 x1 x3 x5 x7 ((((y0.toUInt64 >>> ((56 - (8 * (x7 &&& 7))).toInt64.toUInt64 &&& Int64.toUInt64 63)).toInt64) &&& 255).toInt32) M
    else
      if (((y0.toUInt64 >>> ((56 - (8 * (x7 &&& 7))).toInt64.toUInt64 &&& Int64.toUInt64 63)).toInt64) &&& 255).toInt32 < 32 then
        some (.inl ((x7 + 1), M))
      else
        if 126 < (((y0.toUInt64 >>> ((56 - (8 * (x7 &&& 7))).toInt64.toUInt64 &&& Int64.toUInt64 63)).toInt64) &&& 255).toInt32 then
          some (.inl ((x7 + 1), M))
        else
          b_mo_feed_8_93 x1 x3 x5 x7 ((((y0.toUInt64 >>> ((56 - (8 * (x7 &&& 7))).toInt64.toUInt64 &&& Int64.toUInt64 63)).toInt64) &&& 255).toInt32) M
noncomputable def b_mo_feed_8_8 (x1 : Int64) (x3 : Int64) (x5 : Int64) (x7 : Int32) (M : dM) : Option ((Int32 × dM) ⊕ (Int32 × dM)) :=
  if 24 ≤ x7 then
    some (.inr ((gI M 66 17), M))
  else
    if 8 ≤ x7 then
      if 16 ≤ x7 then
        b_mo_feed_8_39 x1 x3 x5 x7 x5 M
      else
        b_mo_feed_8_39 x1 x3 x5 x7 x3 M
    else
      b_mo_feed_8_39 x1 x3 x5 x7 x1 M
noncomputable def l_mo_feed_8 (x1 : Int64) (x3 : Int64) (x5 : Int64) (x7 : Int32) (M : dM) : Option (Int32 × dM) := lpc (fun s => b_mo_feed_8_8 x1 x3 x5 s.1 s.2) (x7, M)
noncomputable def f_mo_feed (a1 : Int64) (a2 : Int64) (a3 : Int64) (M : dM) : Option (Int32 × dM) :=
  (l_mo_feed_8 a1 a2 a3 0 (sI M 66 0 0)).bind fun r4 => some r4
theorem w_b_mo_feed_8_93 (x1 : Int64) (x3 : Int64) (x5 : Int64) (x7 : Int32) (x10 : Int32)  (M : dM) {Q : mz_P} {o : ((Int32 × dM) ⊕ (Int32 × dM))} (hf : b_mo_feed_8_93 x1 x3 x5 x7 x10 M = some o) (hk : K_mo_feed_8 Q x1 x3 x5 o) : mW mX12_feed 1 Q 93 [some (.ref 66), some (.long x1), none, some (.long x3), none, some (.long x5), none, some (.int x7), none, none, some (.int x10)] [] M := by
  unfold b_mo_feed_8_93 at hf
  refine y_aload_n (i := 0) (n := 94) ⟨dX12_feed_93, rfl⟩ rfl ?_
  refine y_getR (n := 97) ⟨dX12_feed_94, rfl⟩ kfX12_52 l_66 rfl r_66_18 ?_
  refine y_aload_n (i := 0) (n := 98) ⟨dX12_feed_97, rfl⟩ rfl ?_
  refine y_getI (n := 101) ⟨dX12_feed_98, rfl⟩ kfX12_258 l_66 rfl ?_
  refine y_iload (i := 10) (n := 103) ⟨dX12_feed_101, rfl⟩ rfl ?_
  obtain ⟨hg1, hf⟩ := g_s hf
  refine y_iastore (n := 104) ⟨dX12_feed_103, rfl⟩ l_81 hg1 ?_
  refine y_aload_n (i := 0) (n := 105) ⟨dX12_feed_104, rfl⟩ rfl ?_
  refine y_dup_r (n := 106) ⟨dX12_feed_105, rfl⟩ ?_
  refine y_getI (n := 109) ⟨dX12_feed_106, rfl⟩ kfX12_258 l_66 rfl ?_
  refine y_iconst (n := 110) (v := 1) ⟨dX12_feed_109, rfl⟩ ki_1 ?_
  refine y_iadd (n := 111) ⟨dX12_feed_110, rfl⟩ ?_
  refine y_putI (n := 114) ⟨dX12_feed_111, rfl⟩ kfX12_258 l_66 (by decide +kernel) rfl ?_
  refine y_iinc (i := 7) (n := 117) (b := (x7 + 1)) (L2 := [some (.ref 66), some (.long x1), none, some (.long x3), none, some (.long x5), none, some (.int (x7 + 1)), none, none, some (.int x10)]) ⟨dX12_feed_114, rfl⟩ rfl (by rw [ki_1]) (by decide) rfl rfl ?_
  refine y_goto (t := 8) ⟨dX12_feed_117, rfl, rfl⟩ ?_
  cases hf
  exact y_wk (L2 := [some (.ref 66), some (.long x1), none, some (.long x3), none, some (.long x5), none, some (.int (x7 + 1)), none, none, none]) ⟨Or.inr rfl, Or.inr rfl, Or.inr rfl, Or.inr rfl, Or.inr rfl, Or.inr rfl, Or.inr rfl, Or.inr rfl, Or.inr rfl, Or.inr rfl, Or.inl rfl, trivial⟩ hk
theorem w_b_mo_feed_8_39 (x1 : Int64) (x3 : Int64) (x5 : Int64) (x7 : Int32) (y0 : Int64)  (M : dM) {Q : mz_P} {o : ((Int32 × dM) ⊕ (Int32 × dM))} (hf : b_mo_feed_8_39 x1 x3 x5 x7 y0 M = some o) (hk : K_mo_feed_8 Q x1 x3 x5 o) : mW mX12_feed 1 Q 39 [some (.ref 66), some (.long x1), none, some (.long x3), none, some (.long x5), none, some (.int x7), none, none, none] [.long y0] M := by
  unfold b_mo_feed_8_39 at hf
  refine y_lstore (i := 8) (n := 41) (L2 := [some (.ref 66), some (.long x1), none, some (.long x3), none, some (.long x5), none, some (.int x7), some (.long y0), none, none]) ⟨dX12_feed_39, rfl⟩ (by decide) rfl rfl ?_
  refine y_lload (i := 8) (n := 43) ⟨dX12_feed_41, rfl⟩ rfl ?_
  refine y_bipush (n := 45) (v := 56) ⟨dX12_feed_43, rfl⟩ kb_56 ?_
  refine y_bipush (n := 47) (v := 8) ⟨dX12_feed_45, rfl⟩ kb_8 ?_
  refine y_iload (i := 7) (n := 49) ⟨dX12_feed_47, rfl⟩ rfl ?_
  refine y_bipush (n := 51) (v := 7) ⟨dX12_feed_49, rfl⟩ kb_7 ?_
  refine y_iand (n := 52) ⟨dX12_feed_51, rfl⟩ ?_
  refine y_imul (n := 53) ⟨dX12_feed_52, rfl⟩ ?_
  refine y_isub (n := 54) ⟨dX12_feed_53, rfl⟩ ?_
  refine y_lushr (n := 55) ⟨dX12_feed_54, rfl⟩ ?_
  refine y_ldc2 (n := 58) ⟨dX12_feed_55, rfl⟩ kcX12_256 ?_
  refine y_land (n := 59) ⟨dX12_feed_58, rfl⟩ ?_
  refine y_l2i (n := 60) ⟨dX12_feed_59, rfl⟩ ?_
  refine y_istore (i := 10) (n := 62) (L2 := [some (.ref 66), some (.long x1), none, some (.long x3), none, some (.long x5), none, some (.int x7), some (.long y0), none, some (.int ((((y0.toUInt64 >>> ((56 - (8 * (x7 &&& 7))).toInt64.toUInt64 &&& Int64.toUInt64 63)).toInt64) &&& 255).toInt32))]) ⟨dX12_feed_60, rfl⟩ (by decide) rfl rfl ?_
  refine y_aload_n (i := 0) (n := 63) ⟨dX12_feed_62, rfl⟩ rfl ?_
  refine y_getI (n := 66) ⟨dX12_feed_63, rfl⟩ kfX12_258 l_66 rfl ?_
  refine y_sipush (n := 69) (v := 1000) ⟨dX12_feed_66, rfl⟩ ks_1000 ?_
  refine y_icmp_ge (t := 114) (n := 72) ⟨dX12_feed_69, rfl, rfl⟩ (fun (hc : (1000 : Int32) ≤ (gI M 66 17)) => ?_) (fun (hc : ¬ ((1000 : Int32) ≤ (gI M 66 17))) => ?_)
  · replace hf := i_t hc hf
    refine y_iinc (i := 7) (n := 117) (b := (x7 + 1)) (L2 := [some (.ref 66), some (.long x1), none, some (.long x3), none, some (.long x5), none, some (.int (x7 + 1)), some (.long y0), none, some (.int ((((y0.toUInt64 >>> ((56 - (8 * (x7 &&& 7))).toInt64.toUInt64 &&& Int64.toUInt64 63)).toInt64) &&& 255).toInt32))]) ⟨dX12_feed_114, rfl⟩ rfl (by rw [ki_1]) (by decide) rfl rfl ?_
    refine y_goto (t := 8) ⟨dX12_feed_117, rfl, rfl⟩ ?_
    cases hf
    exact y_wk (L2 := [some (.ref 66), some (.long x1), none, some (.long x3), none, some (.long x5), none, some (.int (x7 + 1)), none, none, none]) ⟨Or.inr rfl, Or.inr rfl, Or.inr rfl, Or.inr rfl, Or.inr rfl, Or.inr rfl, Or.inr rfl, Or.inr rfl, Or.inl rfl, Or.inr rfl, Or.inl rfl, trivial⟩ hk
  · replace hf := i_f hc hf
    refine y_iload (i := 10) (n := 74) ⟨dX12_feed_72, rfl⟩ rfl ?_
    refine y_bipush (n := 76) (v := 10) ⟨dX12_feed_74, rfl⟩ kb_10 ?_
    refine y_icmp_eq (t := 93) (n := 79) ⟨dX12_feed_76, rfl, rfl⟩ (fun (hc : (((y0.toUInt64 >>> ((56 - (8 * (x7 &&& 7))).toInt64.toUInt64 &&& Int64.toUInt64 63)).toInt64) &&& 255).toInt32 = 10) => ?_) (fun (hc : ¬ ((((y0.toUInt64 >>> ((56 - (8 * (x7 &&& 7))).toInt64.toUInt64 &&& Int64.toUInt64 63)).toInt64) &&& 255).toInt32 = 10)) => ?_)
    · replace hf := i_t hc hf
      exact y_wk (L2 := [some (.ref 66), some (.long x1), none, some (.long x3), none, some (.long x5), none, some (.int x7), none, none, some (.int ((((y0.toUInt64 >>> ((56 - (8 * (x7 &&& 7))).toInt64.toUInt64 &&& Int64.toUInt64 63)).toInt64) &&& 255).toInt32))]) ⟨Or.inr rfl, Or.inr rfl, Or.inr rfl, Or.inr rfl, Or.inr rfl, Or.inr rfl, Or.inr rfl, Or.inr rfl, Or.inl rfl, Or.inr rfl, Or.inr rfl, trivial⟩ (w_b_mo_feed_8_93 x1 x3 x5 x7 ((((y0.toUInt64 >>> ((56 - (8 * (x7 &&& 7))).toInt64.toUInt64 &&& Int64.toUInt64 63)).toInt64) &&& 255).toInt32) M hf hk)
    · replace hf := i_f hc hf
      refine y_iload (i := 10) (n := 81) ⟨dX12_feed_79, rfl⟩ rfl ?_
      refine y_bipush (n := 83) (v := 32) ⟨dX12_feed_81, rfl⟩ kb_32 ?_
      refine y_icmp_lt (t := 114) (n := 86) ⟨dX12_feed_83, rfl, rfl⟩ (fun (hc : (((y0.toUInt64 >>> ((56 - (8 * (x7 &&& 7))).toInt64.toUInt64 &&& Int64.toUInt64 63)).toInt64) &&& 255).toInt32 < 32) => ?_) (fun (hc : ¬ ((((y0.toUInt64 >>> ((56 - (8 * (x7 &&& 7))).toInt64.toUInt64 &&& Int64.toUInt64 63)).toInt64) &&& 255).toInt32 < 32)) => ?_)
      · replace hf := i_t hc hf
        refine y_iinc (i := 7) (n := 117) (b := (x7 + 1)) (L2 := [some (.ref 66), some (.long x1), none, some (.long x3), none, some (.long x5), none, some (.int (x7 + 1)), some (.long y0), none, some (.int ((((y0.toUInt64 >>> ((56 - (8 * (x7 &&& 7))).toInt64.toUInt64 &&& Int64.toUInt64 63)).toInt64) &&& 255).toInt32))]) ⟨dX12_feed_114, rfl⟩ rfl (by rw [ki_1]) (by decide) rfl rfl ?_
        refine y_goto (t := 8) ⟨dX12_feed_117, rfl, rfl⟩ ?_
        cases hf
        exact y_wk (L2 := [some (.ref 66), some (.long x1), none, some (.long x3), none, some (.long x5), none, some (.int (x7 + 1)), none, none, none]) ⟨Or.inr rfl, Or.inr rfl, Or.inr rfl, Or.inr rfl, Or.inr rfl, Or.inr rfl, Or.inr rfl, Or.inr rfl, Or.inl rfl, Or.inr rfl, Or.inl rfl, trivial⟩ hk
      · replace hf := i_f hc hf
        refine y_iload (i := 10) (n := 88) ⟨dX12_feed_86, rfl⟩ rfl ?_
        refine y_bipush (n := 90) (v := 126) ⟨dX12_feed_88, rfl⟩ kb_126 ?_
        refine y_icmp_gt (t := 114) (n := 93) ⟨dX12_feed_90, rfl, rfl⟩ (fun (hc : 126 < (((y0.toUInt64 >>> ((56 - (8 * (x7 &&& 7))).toInt64.toUInt64 &&& Int64.toUInt64 63)).toInt64) &&& 255).toInt32) => ?_) (fun (hc : ¬ (126 < (((y0.toUInt64 >>> ((56 - (8 * (x7 &&& 7))).toInt64.toUInt64 &&& Int64.toUInt64 63)).toInt64) &&& 255).toInt32)) => ?_)
        · replace hf := i_t hc hf
          refine y_iinc (i := 7) (n := 117) (b := (x7 + 1)) (L2 := [some (.ref 66), some (.long x1), none, some (.long x3), none, some (.long x5), none, some (.int (x7 + 1)), some (.long y0), none, some (.int ((((y0.toUInt64 >>> ((56 - (8 * (x7 &&& 7))).toInt64.toUInt64 &&& Int64.toUInt64 63)).toInt64) &&& 255).toInt32))]) ⟨dX12_feed_114, rfl⟩ rfl (by rw [ki_1]) (by decide) rfl rfl ?_
          refine y_goto (t := 8) ⟨dX12_feed_117, rfl, rfl⟩ ?_
          cases hf
          exact y_wk (L2 := [some (.ref 66), some (.long x1), none, some (.long x3), none, some (.long x5), none, some (.int (x7 + 1)), none, none, none]) ⟨Or.inr rfl, Or.inr rfl, Or.inr rfl, Or.inr rfl, Or.inr rfl, Or.inr rfl, Or.inr rfl, Or.inr rfl, Or.inl rfl, Or.inr rfl, Or.inl rfl, trivial⟩ hk
        · replace hf := i_f hc hf
          exact y_wk (L2 := [some (.ref 66), some (.long x1), none, some (.long x3), none, some (.long x5), none, some (.int x7), none, none, some (.int ((((y0.toUInt64 >>> ((56 - (8 * (x7 &&& 7))).toInt64.toUInt64 &&& Int64.toUInt64 63)).toInt64) &&& 255).toInt32))]) ⟨Or.inr rfl, Or.inr rfl, Or.inr rfl, Or.inr rfl, Or.inr rfl, Or.inr rfl, Or.inr rfl, Or.inr rfl, Or.inl rfl, Or.inr rfl, Or.inr rfl, trivial⟩ (w_b_mo_feed_8_93 x1 x3 x5 x7 ((((y0.toUInt64 >>> ((56 - (8 * (x7 &&& 7))).toInt64.toUInt64 &&& Int64.toUInt64 63)).toInt64) &&& 255).toInt32) M hf hk)
theorem w_b_mo_feed_8_8 (x1 : Int64) (x3 : Int64) (x5 : Int64) (x7 : Int32)  (M : dM) {Q : mz_P} {o : ((Int32 × dM) ⊕ (Int32 × dM))} (hf : b_mo_feed_8_8 x1 x3 x5 x7 M = some o) (hk : K_mo_feed_8 Q x1 x3 x5 o) : mW mX12_feed 1 Q 8 [some (.ref 66), some (.long x1), none, some (.long x3), none, some (.long x5), none, some (.int x7), none, none, none] [] M := by
  unfold b_mo_feed_8_8 at hf
  refine y_iload (i := 7) (n := 10) ⟨dX12_feed_8, rfl⟩ rfl ?_
  refine y_bipush (n := 12) (v := 24) ⟨dX12_feed_10, rfl⟩ kb_24 ?_
  refine y_icmp_ge (t := 120) (n := 15) ⟨dX12_feed_12, rfl, rfl⟩ (fun (hc : 24 ≤ x7) => ?_) (fun (hc : ¬ (24 ≤ x7)) => ?_)
  · replace hf := i_t hc hf
    refine y_aload_n (i := 0) (n := 121) ⟨dX12_feed_120, rfl⟩ rfl ?_
    refine y_getI (n := 124) ⟨dX12_feed_121, rfl⟩ kfX12_258 l_66 rfl ?_
    cases hf
    exact y_ireturn (n := 125) ⟨dX12_feed_124, rfl⟩ rfl rfl hk
  · replace hf := i_f hc hf
    refine y_iload (i := 7) (n := 17) ⟨dX12_feed_15, rfl⟩ rfl ?_
    refine y_bipush (n := 19) (v := 8) ⟨dX12_feed_17, rfl⟩ kb_8 ?_
    refine y_icmp_ge (t := 26) (n := 22) ⟨dX12_feed_19, rfl, rfl⟩ (fun (hc : 8 ≤ x7) => ?_) (fun (hc : ¬ (8 ≤ x7)) => ?_)
    · replace hf := i_t hc hf
      refine y_iload (i := 7) (n := 28) ⟨dX12_feed_26, rfl⟩ rfl ?_
      refine y_bipush (n := 30) (v := 16) ⟨dX12_feed_28, rfl⟩ kb_16 ?_
      refine y_icmp_ge (t := 37) (n := 33) ⟨dX12_feed_30, rfl, rfl⟩ (fun (hc : 16 ≤ x7) => ?_) (fun (hc : ¬ (16 ≤ x7)) => ?_)
      · replace hf := i_t hc hf
        refine y_lload (i := 5) (n := 39) ⟨dX12_feed_37, rfl⟩ rfl ?_
        exact y_wk (L2 := [some (.ref 66), some (.long x1), none, some (.long x3), none, some (.long x5), none, some (.int x7), none, none, none]) ⟨Or.inr rfl, Or.inr rfl, Or.inr rfl, Or.inr rfl, Or.inr rfl, Or.inr rfl, Or.inr rfl, Or.inr rfl, Or.inr rfl, Or.inr rfl, Or.inr rfl, trivial⟩ (w_b_mo_feed_8_39 x1 x3 x5 x7 x5 M hf hk)
      · replace hf := i_f hc hf
        refine y_lload_n (i := 3) (n := 34) ⟨dX12_feed_33, rfl⟩ rfl ?_
        refine y_goto (t := 39) ⟨dX12_feed_34, rfl, rfl⟩ ?_
        exact y_wk (L2 := [some (.ref 66), some (.long x1), none, some (.long x3), none, some (.long x5), none, some (.int x7), none, none, none]) ⟨Or.inr rfl, Or.inr rfl, Or.inr rfl, Or.inr rfl, Or.inr rfl, Or.inr rfl, Or.inr rfl, Or.inr rfl, Or.inr rfl, Or.inr rfl, Or.inr rfl, trivial⟩ (w_b_mo_feed_8_39 x1 x3 x5 x7 x3 M hf hk)
    · replace hf := i_f hc hf
      refine y_lload_n (i := 1) (n := 23) ⟨dX12_feed_22, rfl⟩ rfl ?_
      refine y_goto (t := 39) ⟨dX12_feed_23, rfl, rfl⟩ ?_
      exact y_wk (L2 := [some (.ref 66), some (.long x1), none, some (.long x3), none, some (.long x5), none, some (.int x7), none, none, none]) ⟨Or.inr rfl, Or.inr rfl, Or.inr rfl, Or.inr rfl, Or.inr rfl, Or.inr rfl, Or.inr rfl, Or.inr rfl, Or.inr rfl, Or.inr rfl, Or.inr rfl, trivial⟩ (w_b_mo_feed_8_39 x1 x3 x5 x7 x1 M hf hk)
theorem wl_mo_feed_8 (x1 : Int64) (x3 : Int64) (x5 : Int64) (x7 : Int32) (M : dM) {Q : mz_P} {x : (Int32 × dM)} (hf : l_mo_feed_8 x1 x3 x5 x7 M = some x) (hk : K_mo_feed_8 Q x1 x3 x5 (.inr x)) : mW mX12_feed 1 Q 8 [some (.ref 66), some (.long x1), none, some (.long x3), none, some (.long x5), none, some (.int x7), none, none, none] [] M :=
  lpc_wp (σ := (Int32 × dM)) (ξ := (Int32 × dM)) (s := (x7, M)) (Wh := fun s => mW mX12_feed 1 Q 8 [some (.ref 66), some (.long x1), none, some (.long x3), none, some (.long x5), none, some (.int s.1), none, none, none] [] s.2) (K := K_mo_feed_8 Q x1 x3 x5) (fun _ h => h) (fun s o hb hk => w_b_mo_feed_8_8 x1 x3 x5 s.1 s.2 hb hk) hf hk
theorem ok_mo_feed (a1 : Int64) (a2 : Int64) (a3 : Int64) (M : dM) {o : (Int32 × dM)} (hf : f_mo_feed a1 a2 a3 M = some o) : mO mX12_feed 1 [.ref 66, .long a1, .long a2, .long a3] M (some (.int o.1)) o.2 := by
  refine y_ok (by decide +kernel) (Nat.le_of_ble_eq_true rfl) (L0 := [some (.ref 66), some (.long a1), none, some (.long a2), none, some (.long a3), none, none, none, none, none]) rfl ?_
  have hk := mR_mQ (some (.int o.1)) o.2
  generalize mQ _ _ = Q at hk ⊢
  unfold f_mo_feed at hf
  refine y_aload_n (i := 0) (n := 1) ⟨dX12_feed_0, rfl⟩ rfl ?_
  refine y_iconst (n := 2) (v := 0) ⟨dX12_feed_1, rfl⟩ ki_0 ?_
  refine y_putI (n := 5) ⟨dX12_feed_2, rfl⟩ kfX12_214 l_66 (by decide +kernel) rfl ?_
  refine y_iconst (n := 6) (v := 0) ⟨dX12_feed_5, rfl⟩ ki_0 ?_
  refine y_istore (i := 7) (n := 8) (L2 := [some (.ref 66), some (.long a1), none, some (.long a2), none, some (.long a3), none, some (.int 0), none, none, none]) ⟨dX12_feed_6, rfl⟩ (by decide) rfl rfl ?_
  obtain ⟨r4, hl3, hf⟩ := b_s hf
  cases hf
  exact y_wk (L2 := [some (.ref 66), some (.long a1), none, some (.long a2), none, some (.long a3), none, some (.int 0), none, none, none]) ⟨Or.inr rfl, Or.inr rfl, Or.inr rfl, Or.inr rfl, Or.inr rfl, Or.inr rfl, Or.inr rfl, Or.inr rfl, Or.inr rfl, Or.inr rfl, Or.inr rfl, trivial⟩ (wl_mo_feed_8 a1 a2 a3 0 (sI M 66 0 0) hl3 hk)
theorem c_mo_feed (a1 : Int64) (a2 : Int64) (a3 : Int64) (M : dM) {o : (Int32 × dM)} {y : mz_M} {d : Nat} {Q : mz_P} {pc n i : Nat} {L : List (Option Value)} {st : List Value} (h : mz_d y.2.1 pc n 3 (.invokevirtual i)) (hl : mz_ml y.1.cls i yX12_feed) (hf : f_mo_feed a1 a2 a3 M = some o) (hd : 1 + 1 ≤ d) (hsm : (st.map (fun v => v.category)).sum ≤ 8) (hLr : mz_rL 133 L = true) (hSr : mz_rS 133 st = true) (kk : mW y d Q n L (.int o.1 :: st) o.2) : mW y d Q pc L (.long a3 :: .long a2 :: .long a1 :: .ref 66 :: st) M :=
  y_callV kmX12_feed kvX12_feed l_66 (by decide +kernel) (by decide +kernel) h hl (ok_mo_feed a1 a2 a3 M hf) (vs := [.long a1, .long a2, .long a3]) rfl rfl hd hsm hLr hSr kk
noncomputable def f_mo_signAt (a1 : Int32) (M : dM) : Option Int32 :=
  if (gI M 66 19) ≤ a1 then
    some 0
  else
    gd (vp_in a1 1000) <|
    some (gI M 81 a1.toNatClampNeg)
theorem ok_mo_signAt (a1 : Int32) (M : dM) {o : Int32} (hf : f_mo_signAt a1 M = some o) : mO mX12_signAt 1 [.ref 66, .int a1] M (some (.int o)) M := by
  refine y_ok (by decide +kernel) (Nat.le_of_ble_eq_true rfl) (L0 := [some (.ref 66), some (.int a1)]) rfl ?_
  have hk := mR_mQ (some (.int o)) M
  generalize mQ _ _ = Q at hk ⊢
  unfold f_mo_signAt at hf
  refine y_iload_n (i := 1) (n := 1) ⟨dX12_signAt_0, rfl⟩ rfl ?_
  refine y_aload_n (i := 0) (n := 2) ⟨dX12_signAt_1, rfl⟩ rfl ?_
  refine y_getI (n := 5) ⟨dX12_signAt_2, rfl⟩ kfX12_261 l_66 rfl ?_
  refine y_icmp_ge (t := 17) (n := 8) ⟨dX12_signAt_5, rfl, rfl⟩ (fun (hc : (gI M 66 19) ≤ a1) => ?_) (fun (hc : ¬ ((gI M 66 19) ≤ a1)) => ?_)
  · replace hf := i_t hc hf
    refine y_iconst (n := 18) (v := 0) ⟨dX12_signAt_17, rfl⟩ ki_0 ?_
    cases hf
    exact y_ireturn (n := 19) ⟨dX12_signAt_18, rfl⟩ rfl rfl hk
  · replace hf := i_f hc hf
    refine y_aload_n (i := 0) (n := 9) ⟨dX12_signAt_8, rfl⟩ rfl ?_
    refine y_getR (n := 12) ⟨dX12_signAt_9, rfl⟩ kfX12_52 l_66 rfl r_66_18 ?_
    refine y_iload_n (i := 1) (n := 13) ⟨dX12_signAt_12, rfl⟩ rfl ?_
    obtain ⟨hg1, hf⟩ := g_s hf
    refine y_iaload (n := 14) ⟨dX12_signAt_13, rfl⟩ l_81 hg1 ?_
    refine y_goto (t := 18) ⟨dX12_signAt_14, rfl, rfl⟩ ?_
    cases hf
    exact y_ireturn (n := 19) ⟨dX12_signAt_18, rfl⟩ rfl rfl hk
theorem c_mo_signAt (a1 : Int32) (M : dM) {o : Int32} {y : mz_M} {d : Nat} {Q : mz_P} {pc n i : Nat} {L : List (Option Value)} {st : List Value} (h : mz_d y.2.1 pc n 3 (.invokevirtual i)) (hl : mz_ml y.1.cls i yX12_signAt) (hf : f_mo_signAt a1 M = some o) (hd : 1 + 1 ≤ d) (hsm : (st.map (fun v => v.category)).sum ≤ 8) (hLr : mz_rL 133 L = true) (hSr : mz_rS 133 st = true) (kk : mW y d Q n L (.int o :: st) M) : mW y d Q pc L (.int a1 :: .ref 66 :: st) M :=
  y_callV kmX12_signAt kvX12_signAt l_66 (by decide +kernel) (by decide +kernel) h hl (ok_mo_signAt a1 M hf) (vs := [.int a1]) rfl rfl hd hsm hLr hSr kk
def K_mo_nextToken_0 (Q : mz_P)  : (dM ⊕ dM) → Prop
  | .inl s => mW mX12_nextToken 2 Q 0 [some (.ref 66), none] [] s
  | .inr t => mW mX12_nextToken 2 Q 52 [some (.ref 66), none] [] t
noncomputable def b_mo_nextToken_0_39 (M : dM) : Option (dM ⊕ dM) :=
  some (.inl (sI M 66 20 ((gI M 66 20) + 1)))
noncomputable def b_mo_nextToken_0_0 (M : dM) : Option (dM ⊕ dM) :=
  if (gI M 66 19) ≤ (gI M 66 20) then
    some (.inr M)
  else
    gd (vp_in (gI M 66 20) 1000) <|
    if (gI M 81 (gI M 66 20).toNatClampNeg) = 32 then
      b_mo_nextToken_0_39 M
    else
      if (gI M 81 (gI M 66 20).toNatClampNeg) = 10 then
        b_mo_nextToken_0_39 M
      else
        some (.inr M)
noncomputable def l_mo_nextToken_0 (M : dM) : Option dM := lpc (fun s => b_mo_nextToken_0_0 s) M
noncomputable def t_mo_nextToken_368 (y1 : Int32) (M : dM) : Option dM :=
  some (sI M 66 22 y1)
noncomputable def t_mo_nextToken_363 (M : dM) : Option dM :=
  t_mo_nextToken_368 3 M
noncomputable def t_mo_nextToken_367 (M : dM) : Option dM :=
  t_mo_nextToken_368 4 M
noncomputable def t_mo_nextToken_345 (x1 : Int32) (M : dM) : Option dM :=
  if x1 = 45 then
    t_mo_nextToken_363 M
  else
    if x1 < 59 then
      t_mo_nextToken_367 M
    else
      if 61 < x1 then
        t_mo_nextToken_367 M
      else
        t_mo_nextToken_363 M
noncomputable def t_mo_nextToken_322 (x1 : Int32) (M : dM) : Option dM :=
  if x1 < 40 then
    t_mo_nextToken_345 x1 (sI M 66 20 ((gI M 66 20) + 1))
  else
    if x1 ≤ 43 then
      t_mo_nextToken_363 (sI M 66 20 ((gI M 66 20) + 1))
    else
      t_mo_nextToken_345 x1 (sI M 66 20 ((gI M 66 20) + 1))
def K_mo_nextToken_224 (Q : mz_P)  : (dM ⊕ dM) → Prop
  | .inl s => mW mX12_nextToken 2 Q 224 [some (.ref 66), none] [] s
  | .inr t => mW mX12_nextToken 2 Q 299 [some (.ref 66), none] [] t
noncomputable def b_mo_nextToken_224_286 (M : dM) : Option (dM ⊕ dM) :=
  some (.inl (sI M 66 20 ((gI M 66 20) + 1)))
noncomputable def b_mo_nextToken_224_224 (M : dM) : Option (dM ⊕ dM) :=
  (f_mo_signAt (gI M 66 20) M).bind fun v6 =>
  if v6 < 48 then
    some (.inr M)
  else
    (f_mo_signAt (gI M 66 20) M).bind fun v8 =>
    if 57 < v8 then
      some (.inr M)
    else
      if 4 ≤ ((gI M 66 20) - (gI M 66 21)) then
        b_mo_nextToken_224_286 M
      else
        (f_mo_signAt (gI M 66 20) M).bind fun v10 =>
        b_mo_nextToken_224_286 (sI M 66 24 ((((gI M 66 24) * 10) + v10) - 48))
noncomputable def l_mo_nextToken_224 (M : dM) : Option dM := lpc (fun s => b_mo_nextToken_224_224 s) M
noncomputable def t_mo_nextToken_318 (y1 : Int32) (M : dM) : Option dM :=
  some (sI M 66 22 y1)
noncomputable def t_mo_nextToken_299 (M : dM) : Option dM :=
  if ((gI M 66 20) - (gI M 66 21)) ≤ 4 then
    t_mo_nextToken_318 2 M
  else
    t_mo_nextToken_318 4 M
noncomputable def t_mo_nextToken_212 (x1 : Int32) (M : dM) : Option dM :=
  if x1 < 48 then
    t_mo_nextToken_322 x1 M
  else
    if 57 < x1 then
      t_mo_nextToken_322 x1 M
    else
      (l_mo_nextToken_224 M).bind fun t12 =>
        t_mo_nextToken_299 t12
def K_mo_nextToken_109 (Q : mz_P)  : (dM ⊕ dM) → Prop
  | .inl s => mW mX12_nextToken 2 Q 109 [some (.ref 66), none] [] s
  | .inr t => mW mX12_nextToken 2 Q 188 [some (.ref 66), none] [] t
noncomputable def b_mo_nextToken_109_175 (M : dM) : Option (dM ⊕ dM) :=
  some (.inl (sI M 66 20 ((gI M 66 20) + 1)))
noncomputable def b_mo_nextToken_109_109 (M : dM) : Option (dM ⊕ dM) :=
  (f_mo_signAt (gI M 66 20) M).bind fun v15 =>
  if v15 < 97 then
    some (.inr M)
  else
    (f_mo_signAt (gI M 66 20) M).bind fun v17 =>
    if 122 < v17 then
      some (.inr M)
    else
      if 8 ≤ ((gI M 66 20) - (gI M 66 21)) then
        b_mo_nextToken_109_175 M
      else
        (f_mo_signAt (gI M 66 20) M).bind fun v19 =>
        b_mo_nextToken_109_175 (sJ M 66 23 ((((gJ M 66 23) * 27) + v19.toInt64) - 96))
noncomputable def l_mo_nextToken_109 (M : dM) : Option dM := lpc (fun s => b_mo_nextToken_109_109 s) M
noncomputable def t_mo_nextToken_208 (y1 : Int32) (M : dM) : Option dM :=
  some (sI M 66 22 y1)
noncomputable def t_mo_nextToken_188 (M : dM) : Option dM :=
  if ((gI M 66 20) - (gI M 66 21)) ≤ 8 then
    t_mo_nextToken_208 1 M
  else
    t_mo_nextToken_208 4 M
noncomputable def t_mo_nextToken_52 (M : dM) : Option dM :=
  if (gI (sI (sJ (sI M 66 21 (gI M 66 20)) 66 23 0) 66 24 0) 66 20) = (gI (sI (sJ (sI M 66 21 (gI M 66 20)) 66 23 0) 66 24 0) 66 19) then
    some (sI (sI (sJ (sI M 66 21 (gI M 66 20)) 66 23 0) 66 24 0) 66 22 0)
  else
    gd (vp_in (gI (sI (sJ (sI M 66 21 (gI M 66 20)) 66 23 0) 66 24 0) 66 20) 1000) <|
    if (gI (sI (sJ (sI M 66 21 (gI M 66 20)) 66 23 0) 66 24 0) 81 (gI (sI (sJ (sI M 66 21 (gI M 66 20)) 66 23 0) 66 24 0) 66 20).toNatClampNeg) < 97 then
      t_mo_nextToken_212 (gI (sI (sJ (sI M 66 21 (gI M 66 20)) 66 23 0) 66 24 0) 81 (gI (sI (sJ (sI M 66 21 (gI M 66 20)) 66 23 0) 66 24 0) 66 20).toNatClampNeg) (sI (sJ (sI M 66 21 (gI M 66 20)) 66 23 0) 66 24 0)
    else
      if 122 < (gI (sI (sJ (sI M 66 21 (gI M 66 20)) 66 23 0) 66 24 0) 81 (gI (sI (sJ (sI M 66 21 (gI M 66 20)) 66 23 0) 66 24 0) 66 20).toNatClampNeg) then
        t_mo_nextToken_212 (gI (sI (sJ (sI M 66 21 (gI M 66 20)) 66 23 0) 66 24 0) 81 (gI (sI (sJ (sI M 66 21 (gI M 66 20)) 66 23 0) 66 24 0) 66 20).toNatClampNeg) (sI (sJ (sI M 66 21 (gI M 66 20)) 66 23 0) 66 24 0)
      else
        (l_mo_nextToken_109 (sI (sJ (sI M 66 21 (gI M 66 20)) 66 23 0) 66 24 0)).bind fun t21 =>
          t_mo_nextToken_188 t21
noncomputable def f_mo_nextToken (M : dM) : Option dM :=
  (l_mo_nextToken_0 M).bind fun t2 =>
    t_mo_nextToken_52 t2
theorem w_b_mo_nextToken_0_39   (M : dM) {Q : mz_P} {o : (dM ⊕ dM)} (hf : b_mo_nextToken_0_39 M = some o) (hk : K_mo_nextToken_0 Q  o) : mW mX12_nextToken 2 Q 39 [some (.ref 66), none] [] M := by
  unfold b_mo_nextToken_0_39 at hf
  refine y_aload_n (i := 0) (n := 40) ⟨dX12_nextToken_39, rfl⟩ rfl ?_
  refine y_dup_r (n := 41) ⟨dX12_nextToken_40, rfl⟩ ?_
  refine y_getI (n := 44) ⟨dX12_nextToken_41, rfl⟩ kfX12_264 l_66 rfl ?_
  refine y_iconst (n := 45) (v := 1) ⟨dX12_nextToken_44, rfl⟩ ki_1 ?_
  refine y_iadd (n := 46) ⟨dX12_nextToken_45, rfl⟩ ?_
  refine y_putI (n := 49) ⟨dX12_nextToken_46, rfl⟩ kfX12_264 l_66 (by decide +kernel) rfl ?_
  refine y_goto (t := 0) ⟨dX12_nextToken_49, rfl, rfl⟩ ?_
  cases hf
  exact y_wk (L2 := [some (.ref 66), none]) ⟨Or.inr rfl, Or.inr rfl, trivial⟩ hk
theorem w_b_mo_nextToken_0_0   (M : dM) {Q : mz_P} {o : (dM ⊕ dM)} (hf : b_mo_nextToken_0_0 M = some o) (hk : K_mo_nextToken_0 Q  o) : mW mX12_nextToken 2 Q 0 [some (.ref 66), none] [] M := by
  unfold b_mo_nextToken_0_0 at hf
  refine y_aload_n (i := 0) (n := 1) ⟨dX12_nextToken_0, rfl⟩ rfl ?_
  refine y_getI (n := 4) ⟨dX12_nextToken_1, rfl⟩ kfX12_264 l_66 rfl ?_
  refine y_aload_n (i := 0) (n := 5) ⟨dX12_nextToken_4, rfl⟩ rfl ?_
  refine y_getI (n := 8) ⟨dX12_nextToken_5, rfl⟩ kfX12_261 l_66 rfl ?_
  refine y_icmp_ge (t := 52) (n := 11) ⟨dX12_nextToken_8, rfl, rfl⟩ (fun (hc : (gI M 66 19) ≤ (gI M 66 20)) => ?_) (fun (hc : ¬ ((gI M 66 19) ≤ (gI M 66 20))) => ?_)
  · replace hf := i_t hc hf
    cases hf
    exact y_wk (L2 := [some (.ref 66), none]) ⟨Or.inr rfl, Or.inr rfl, trivial⟩ hk
  · replace hf := i_f hc hf
    refine y_aload_n (i := 0) (n := 12) ⟨dX12_nextToken_11, rfl⟩ rfl ?_
    refine y_getR (n := 15) ⟨dX12_nextToken_12, rfl⟩ kfX12_52 l_66 rfl r_66_18 ?_
    refine y_aload_n (i := 0) (n := 16) ⟨dX12_nextToken_15, rfl⟩ rfl ?_
    refine y_getI (n := 19) ⟨dX12_nextToken_16, rfl⟩ kfX12_264 l_66 rfl ?_
    obtain ⟨hg1, hf⟩ := g_s hf
    refine y_iaload (n := 20) ⟨dX12_nextToken_19, rfl⟩ l_81 hg1 ?_
    refine y_bipush (n := 22) (v := 32) ⟨dX12_nextToken_20, rfl⟩ kb_32 ?_
    refine y_icmp_eq (t := 39) (n := 25) ⟨dX12_nextToken_22, rfl, rfl⟩ (fun (hc : (gI M 81 (gI M 66 20).toNatClampNeg) = 32) => ?_) (fun (hc : ¬ ((gI M 81 (gI M 66 20).toNatClampNeg) = 32)) => ?_)
    · replace hf := i_t hc hf
      exact y_wk (L2 := [some (.ref 66), none]) ⟨Or.inr rfl, Or.inr rfl, trivial⟩ (w_b_mo_nextToken_0_39 M hf hk)
    · replace hf := i_f hc hf
      refine y_aload_n (i := 0) (n := 26) ⟨dX12_nextToken_25, rfl⟩ rfl ?_
      refine y_getR (n := 29) ⟨dX12_nextToken_26, rfl⟩ kfX12_52 l_66 rfl r_66_18 ?_
      refine y_aload_n (i := 0) (n := 30) ⟨dX12_nextToken_29, rfl⟩ rfl ?_
      refine y_getI (n := 33) ⟨dX12_nextToken_30, rfl⟩ kfX12_264 l_66 rfl ?_
      refine y_iaload (n := 34) ⟨dX12_nextToken_33, rfl⟩ l_81 hg1 ?_
      refine y_bipush (n := 36) (v := 10) ⟨dX12_nextToken_34, rfl⟩ kb_10 ?_
      refine y_icmp_ne (t := 52) (n := 39) ⟨dX12_nextToken_36, rfl, rfl⟩ (fun (hc : ¬ ((gI M 81 (gI M 66 20).toNatClampNeg) = 10)) => ?_) (fun (hc : (gI M 81 (gI M 66 20).toNatClampNeg) = 10) => ?_)
      · replace hf := i_f hc hf
        cases hf
        exact y_wk (L2 := [some (.ref 66), none]) ⟨Or.inr rfl, Or.inr rfl, trivial⟩ hk
      · replace hf := i_t hc hf
        exact y_wk (L2 := [some (.ref 66), none]) ⟨Or.inr rfl, Or.inr rfl, trivial⟩ (w_b_mo_nextToken_0_39 M hf hk)
theorem wl_mo_nextToken_0  (M : dM) {Q : mz_P} {x : dM} (hf : l_mo_nextToken_0 M = some x) (hk : K_mo_nextToken_0 Q  (.inr x)) : mW mX12_nextToken 2 Q 0 [some (.ref 66), none] [] M :=
  lpc_wp (σ := dM) (ξ := dM) (s := M) (Wh := fun s => mW mX12_nextToken 2 Q 0 [some (.ref 66), none] [] s) (K := K_mo_nextToken_0 Q ) (fun _ h => h) (fun s o hb hk => w_b_mo_nextToken_0_0 s hb hk) hf hk
theorem w_t_mo_nextToken_368 (y1 : Int32) (M : dM) {Q : mz_P} {o : dM} (hf : t_mo_nextToken_368 y1 M = some o) (hk : mR Q none o) : mW mX12_nextToken 2 Q 368 [none, none] [.int y1, .ref 66] M := by
  unfold t_mo_nextToken_368 at hf
  refine y_putI (n := 371) ⟨dX12_nextToken_368, rfl⟩ kfX12_277 l_66 (by decide +kernel) rfl ?_
  cases hf
  exact y_return (n := 372) ⟨dX12_nextToken_371, rfl⟩ rfl hk
theorem w_t_mo_nextToken_363  (M : dM) {Q : mz_P} {o : dM} (hf : t_mo_nextToken_363 M = some o) (hk : mR Q none o) : mW mX12_nextToken 2 Q 363 [none, none] [.ref 66] M := by
  unfold t_mo_nextToken_363 at hf
  refine y_iconst (n := 364) (v := 3) ⟨dX12_nextToken_363, rfl⟩ ki_3 ?_
  refine y_goto (t := 368) ⟨dX12_nextToken_364, rfl, rfl⟩ ?_
  exact y_wk (L2 := [none, none]) ⟨Or.inr rfl, Or.inr rfl, trivial⟩ (w_t_mo_nextToken_368 3 M hf hk)
theorem w_t_mo_nextToken_367  (M : dM) {Q : mz_P} {o : dM} (hf : t_mo_nextToken_367 M = some o) (hk : mR Q none o) : mW mX12_nextToken 2 Q 367 [none, none] [.ref 66] M := by
  unfold t_mo_nextToken_367 at hf
  refine y_iconst (n := 368) (v := 4) ⟨dX12_nextToken_367, rfl⟩ ki_4 ?_
  exact y_wk (L2 := [none, none]) ⟨Or.inr rfl, Or.inr rfl, trivial⟩ (w_t_mo_nextToken_368 4 M hf hk)
theorem w_t_mo_nextToken_345 (x1 : Int32) (M : dM) {Q : mz_P} {o : dM} (hf : t_mo_nextToken_345 x1 M = some o) (hk : mR Q none o) : mW mX12_nextToken 2 Q 345 [none, some (.int x1)] [.ref 66] M := by
  unfold t_mo_nextToken_345 at hf
  refine y_iload_n (i := 1) (n := 346) ⟨dX12_nextToken_345, rfl⟩ rfl ?_
  refine y_bipush (n := 348) (v := 45) ⟨dX12_nextToken_346, rfl⟩ kb_45 ?_
  refine y_icmp_eq (t := 363) (n := 351) ⟨dX12_nextToken_348, rfl, rfl⟩ (fun (hc : x1 = 45) => ?_) (fun (hc : ¬ (x1 = 45)) => ?_)
  · replace hf := i_t hc hf
    exact y_wk (L2 := [none, none]) ⟨Or.inr rfl, Or.inl rfl, trivial⟩ (w_t_mo_nextToken_363 M hf hk)
  · replace hf := i_f hc hf
    refine y_iload_n (i := 1) (n := 352) ⟨dX12_nextToken_351, rfl⟩ rfl ?_
    refine y_bipush (n := 354) (v := 59) ⟨dX12_nextToken_352, rfl⟩ kb_59 ?_
    refine y_icmp_lt (t := 367) (n := 357) ⟨dX12_nextToken_354, rfl, rfl⟩ (fun (hc : x1 < 59) => ?_) (fun (hc : ¬ (x1 < 59)) => ?_)
    · replace hf := i_t hc hf
      exact y_wk (L2 := [none, none]) ⟨Or.inr rfl, Or.inl rfl, trivial⟩ (w_t_mo_nextToken_367 M hf hk)
    · replace hf := i_f hc hf
      refine y_iload_n (i := 1) (n := 358) ⟨dX12_nextToken_357, rfl⟩ rfl ?_
      refine y_bipush (n := 360) (v := 61) ⟨dX12_nextToken_358, rfl⟩ kb_61 ?_
      refine y_icmp_gt (t := 367) (n := 363) ⟨dX12_nextToken_360, rfl, rfl⟩ (fun (hc : 61 < x1) => ?_) (fun (hc : ¬ (61 < x1)) => ?_)
      · replace hf := i_t hc hf
        exact y_wk (L2 := [none, none]) ⟨Or.inr rfl, Or.inl rfl, trivial⟩ (w_t_mo_nextToken_367 M hf hk)
      · replace hf := i_f hc hf
        exact y_wk (L2 := [none, none]) ⟨Or.inr rfl, Or.inl rfl, trivial⟩ (w_t_mo_nextToken_363 M hf hk)
theorem w_t_mo_nextToken_322 (x1 : Int32) (M : dM) {Q : mz_P} {o : dM} (hf : t_mo_nextToken_322 x1 M = some o) (hk : mR Q none o) : mW mX12_nextToken 2 Q 322 [some (.ref 66), some (.int x1)] [] M := by
  unfold t_mo_nextToken_322 at hf
  refine y_aload_n (i := 0) (n := 323) ⟨dX12_nextToken_322, rfl⟩ rfl ?_
  refine y_dup_r (n := 324) ⟨dX12_nextToken_323, rfl⟩ ?_
  refine y_getI (n := 327) ⟨dX12_nextToken_324, rfl⟩ kfX12_264 l_66 rfl ?_
  refine y_iconst (n := 328) (v := 1) ⟨dX12_nextToken_327, rfl⟩ ki_1 ?_
  refine y_iadd (n := 329) ⟨dX12_nextToken_328, rfl⟩ ?_
  refine y_putI (n := 332) ⟨dX12_nextToken_329, rfl⟩ kfX12_264 l_66 (by decide +kernel) rfl ?_
  refine y_aload_n (i := 0) (n := 333) ⟨dX12_nextToken_332, rfl⟩ rfl ?_
  refine y_iload_n (i := 1) (n := 334) ⟨dX12_nextToken_333, rfl⟩ rfl ?_
  refine y_bipush (n := 336) (v := 40) ⟨dX12_nextToken_334, rfl⟩ kb_40 ?_
  refine y_icmp_lt (t := 345) (n := 339) ⟨dX12_nextToken_336, rfl, rfl⟩ (fun (hc : x1 < 40) => ?_) (fun (hc : ¬ (x1 < 40)) => ?_)
  · replace hf := i_t hc hf
    exact y_wk (L2 := [none, some (.int x1)]) ⟨Or.inl rfl, Or.inr rfl, trivial⟩ (w_t_mo_nextToken_345 x1 (sI M 66 20 ((gI M 66 20) + 1)) hf hk)
  · replace hf := i_f hc hf
    refine y_iload_n (i := 1) (n := 340) ⟨dX12_nextToken_339, rfl⟩ rfl ?_
    refine y_bipush (n := 342) (v := 43) ⟨dX12_nextToken_340, rfl⟩ kb_43 ?_
    refine y_icmp_le (t := 363) (n := 345) ⟨dX12_nextToken_342, rfl, rfl⟩ (fun (hc : x1 ≤ 43) => ?_) (fun (hc : ¬ (x1 ≤ 43)) => ?_)
    · replace hf := i_t hc hf
      exact y_wk (L2 := [none, none]) ⟨Or.inl rfl, Or.inl rfl, trivial⟩ (w_t_mo_nextToken_363 (sI M 66 20 ((gI M 66 20) + 1)) hf hk)
    · replace hf := i_f hc hf
      exact y_wk (L2 := [none, some (.int x1)]) ⟨Or.inl rfl, Or.inr rfl, trivial⟩ (w_t_mo_nextToken_345 x1 (sI M 66 20 ((gI M 66 20) + 1)) hf hk)
theorem w_b_mo_nextToken_224_286   (M : dM) {Q : mz_P} {o : (dM ⊕ dM)} (hf : b_mo_nextToken_224_286 M = some o) (hk : K_mo_nextToken_224 Q  o) : mW mX12_nextToken 2 Q 286 [some (.ref 66), none] [] M := by
  unfold b_mo_nextToken_224_286 at hf
  refine y_aload_n (i := 0) (n := 287) ⟨dX12_nextToken_286, rfl⟩ rfl ?_
  refine y_dup_r (n := 288) ⟨dX12_nextToken_287, rfl⟩ ?_
  refine y_getI (n := 291) ⟨dX12_nextToken_288, rfl⟩ kfX12_264 l_66 rfl ?_
  refine y_iconst (n := 292) (v := 1) ⟨dX12_nextToken_291, rfl⟩ ki_1 ?_
  refine y_iadd (n := 293) ⟨dX12_nextToken_292, rfl⟩ ?_
  refine y_putI (n := 296) ⟨dX12_nextToken_293, rfl⟩ kfX12_264 l_66 (by decide +kernel) rfl ?_
  refine y_goto (t := 224) ⟨dX12_nextToken_296, rfl, rfl⟩ ?_
  cases hf
  exact y_wk (L2 := [some (.ref 66), none]) ⟨Or.inr rfl, Or.inr rfl, trivial⟩ hk
theorem w_b_mo_nextToken_224_224   (M : dM) {Q : mz_P} {o : (dM ⊕ dM)} (hf : b_mo_nextToken_224_224 M = some o) (hk : K_mo_nextToken_224 Q  o) : mW mX12_nextToken 2 Q 224 [some (.ref 66), none] [] M := by
  unfold b_mo_nextToken_224_224 at hf
  refine y_aload_n (i := 0) (n := 225) ⟨dX12_nextToken_224, rfl⟩ rfl ?_
  refine y_aload_n (i := 0) (n := 226) ⟨dX12_nextToken_225, rfl⟩ rfl ?_
  refine y_getI (n := 229) ⟨dX12_nextToken_226, rfl⟩ kfX12_264 l_66 rfl ?_
  obtain ⟨v6, hv7, hf⟩ := b_s hf
  refine c_mo_signAt (gI M 66 20) M (n := 232) ⟨dX12_nextToken_229, rfl⟩ klX12_280 hv7 (by decide) (Nat.le_of_ble_eq_true rfl) rfl rfl ?_
  refine y_bipush (n := 234) (v := 48) ⟨dX12_nextToken_232, rfl⟩ kb_48 ?_
  refine y_icmp_lt (t := 299) (n := 237) ⟨dX12_nextToken_234, rfl, rfl⟩ (fun (hc : v6 < 48) => ?_) (fun (hc : ¬ (v6 < 48)) => ?_)
  · replace hf := i_t hc hf
    cases hf
    exact y_wk (L2 := [some (.ref 66), none]) ⟨Or.inr rfl, Or.inr rfl, trivial⟩ hk
  · replace hf := i_f hc hf
    refine y_aload_n (i := 0) (n := 238) ⟨dX12_nextToken_237, rfl⟩ rfl ?_
    refine y_aload_n (i := 0) (n := 239) ⟨dX12_nextToken_238, rfl⟩ rfl ?_
    refine y_getI (n := 242) ⟨dX12_nextToken_239, rfl⟩ kfX12_264 l_66 rfl ?_
    obtain ⟨v8, hv9, hf⟩ := b_s hf
    refine c_mo_signAt (gI M 66 20) M (n := 245) ⟨dX12_nextToken_242, rfl⟩ klX12_280 hv9 (by decide) (Nat.le_of_ble_eq_true rfl) rfl rfl ?_
    refine y_bipush (n := 247) (v := 57) ⟨dX12_nextToken_245, rfl⟩ kb_57 ?_
    refine y_icmp_gt (t := 299) (n := 250) ⟨dX12_nextToken_247, rfl, rfl⟩ (fun (hc : 57 < v8) => ?_) (fun (hc : ¬ (57 < v8)) => ?_)
    · replace hf := i_t hc hf
      cases hf
      exact y_wk (L2 := [some (.ref 66), none]) ⟨Or.inr rfl, Or.inr rfl, trivial⟩ hk
    · replace hf := i_f hc hf
      refine y_aload_n (i := 0) (n := 251) ⟨dX12_nextToken_250, rfl⟩ rfl ?_
      refine y_getI (n := 254) ⟨dX12_nextToken_251, rfl⟩ kfX12_264 l_66 rfl ?_
      refine y_aload_n (i := 0) (n := 255) ⟨dX12_nextToken_254, rfl⟩ rfl ?_
      refine y_getI (n := 258) ⟨dX12_nextToken_255, rfl⟩ kfX12_267 l_66 rfl ?_
      refine y_isub (n := 259) ⟨dX12_nextToken_258, rfl⟩ ?_
      refine y_iconst (n := 260) (v := 4) ⟨dX12_nextToken_259, rfl⟩ ki_4 ?_
      refine y_icmp_ge (t := 286) (n := 263) ⟨dX12_nextToken_260, rfl, rfl⟩ (fun (hc : 4 ≤ ((gI M 66 20) - (gI M 66 21))) => ?_) (fun (hc : ¬ (4 ≤ ((gI M 66 20) - (gI M 66 21)))) => ?_)
      · replace hf := i_t hc hf
        exact y_wk (L2 := [some (.ref 66), none]) ⟨Or.inr rfl, Or.inr rfl, trivial⟩ (w_b_mo_nextToken_224_286 M hf hk)
      · replace hf := i_f hc hf
        refine y_aload_n (i := 0) (n := 264) ⟨dX12_nextToken_263, rfl⟩ rfl ?_
        refine y_aload_n (i := 0) (n := 265) ⟨dX12_nextToken_264, rfl⟩ rfl ?_
        refine y_getI (n := 268) ⟨dX12_nextToken_265, rfl⟩ kfX12_274 l_66 rfl ?_
        refine y_bipush (n := 270) (v := 10) ⟨dX12_nextToken_268, rfl⟩ kb_10 ?_
        refine y_imul (n := 271) ⟨dX12_nextToken_270, rfl⟩ ?_
        refine y_aload_n (i := 0) (n := 272) ⟨dX12_nextToken_271, rfl⟩ rfl ?_
        refine y_aload_n (i := 0) (n := 273) ⟨dX12_nextToken_272, rfl⟩ rfl ?_
        refine y_getI (n := 276) ⟨dX12_nextToken_273, rfl⟩ kfX12_264 l_66 rfl ?_
        obtain ⟨v10, hv11, hf⟩ := b_s hf
        refine c_mo_signAt (gI M 66 20) M (n := 279) ⟨dX12_nextToken_276, rfl⟩ klX12_280 hv11 (by decide) (Nat.le_of_ble_eq_true rfl) rfl rfl ?_
        refine y_iadd (n := 280) ⟨dX12_nextToken_279, rfl⟩ ?_
        refine y_bipush (n := 282) (v := 48) ⟨dX12_nextToken_280, rfl⟩ kb_48 ?_
        refine y_isub (n := 283) ⟨dX12_nextToken_282, rfl⟩ ?_
        refine y_putI (n := 286) ⟨dX12_nextToken_283, rfl⟩ kfX12_274 l_66 (by decide +kernel) rfl ?_
        exact y_wk (L2 := [some (.ref 66), none]) ⟨Or.inr rfl, Or.inr rfl, trivial⟩ (w_b_mo_nextToken_224_286 (sI M 66 24 ((((gI M 66 24) * 10) + v10) - 48)) hf hk)
theorem wl_mo_nextToken_224  (M : dM) {Q : mz_P} {x : dM} (hf : l_mo_nextToken_224 M = some x) (hk : K_mo_nextToken_224 Q  (.inr x)) : mW mX12_nextToken 2 Q 224 [some (.ref 66), none] [] M :=
  lpc_wp (σ := dM) (ξ := dM) (s := M) (Wh := fun s => mW mX12_nextToken 2 Q 224 [some (.ref 66), none] [] s) (K := K_mo_nextToken_224 Q ) (fun _ h => h) (fun s o hb hk => w_b_mo_nextToken_224_224 s hb hk) hf hk
theorem w_t_mo_nextToken_318 (y1 : Int32) (M : dM) {Q : mz_P} {o : dM} (hf : t_mo_nextToken_318 y1 M = some o) (hk : mR Q none o) : mW mX12_nextToken 2 Q 318 [none, none] [.int y1, .ref 66] M := by
  unfold t_mo_nextToken_318 at hf
  refine y_putI (n := 321) ⟨dX12_nextToken_318, rfl⟩ kfX12_277 l_66 (by decide +kernel) rfl ?_
  cases hf
  exact y_return (n := 322) ⟨dX12_nextToken_321, rfl⟩ rfl hk
theorem w_t_mo_nextToken_299  (M : dM) {Q : mz_P} {o : dM} (hf : t_mo_nextToken_299 M = some o) (hk : mR Q none o) : mW mX12_nextToken 2 Q 299 [some (.ref 66), none] [] M := by
  unfold t_mo_nextToken_299 at hf
  refine y_aload_n (i := 0) (n := 300) ⟨dX12_nextToken_299, rfl⟩ rfl ?_
  refine y_aload_n (i := 0) (n := 301) ⟨dX12_nextToken_300, rfl⟩ rfl ?_
  refine y_getI (n := 304) ⟨dX12_nextToken_301, rfl⟩ kfX12_264 l_66 rfl ?_
  refine y_aload_n (i := 0) (n := 305) ⟨dX12_nextToken_304, rfl⟩ rfl ?_
  refine y_getI (n := 308) ⟨dX12_nextToken_305, rfl⟩ kfX12_267 l_66 rfl ?_
  refine y_isub (n := 309) ⟨dX12_nextToken_308, rfl⟩ ?_
  refine y_iconst (n := 310) (v := 4) ⟨dX12_nextToken_309, rfl⟩ ki_4 ?_
  refine y_icmp_le (t := 317) (n := 313) ⟨dX12_nextToken_310, rfl, rfl⟩ (fun (hc : ((gI M 66 20) - (gI M 66 21)) ≤ 4) => ?_) (fun (hc : ¬ (((gI M 66 20) - (gI M 66 21)) ≤ 4)) => ?_)
  · replace hf := i_t hc hf
    refine y_iconst (n := 318) (v := 2) ⟨dX12_nextToken_317, rfl⟩ ki_2 ?_
    exact y_wk (L2 := [none, none]) ⟨Or.inl rfl, Or.inr rfl, trivial⟩ (w_t_mo_nextToken_318 2 M hf hk)
  · replace hf := i_f hc hf
    refine y_iconst (n := 314) (v := 4) ⟨dX12_nextToken_313, rfl⟩ ki_4 ?_
    refine y_goto (t := 318) ⟨dX12_nextToken_314, rfl, rfl⟩ ?_
    exact y_wk (L2 := [none, none]) ⟨Or.inl rfl, Or.inr rfl, trivial⟩ (w_t_mo_nextToken_318 4 M hf hk)
theorem w_t_mo_nextToken_212 (x1 : Int32) (M : dM) {Q : mz_P} {o : dM} (hf : t_mo_nextToken_212 x1 M = some o) (hk : mR Q none o) : mW mX12_nextToken 2 Q 212 [some (.ref 66), some (.int x1)] [] M := by
  unfold t_mo_nextToken_212 at hf
  refine y_iload_n (i := 1) (n := 213) ⟨dX12_nextToken_212, rfl⟩ rfl ?_
  refine y_bipush (n := 215) (v := 48) ⟨dX12_nextToken_213, rfl⟩ kb_48 ?_
  refine y_icmp_lt (t := 322) (n := 218) ⟨dX12_nextToken_215, rfl, rfl⟩ (fun (hc : x1 < 48) => ?_) (fun (hc : ¬ (x1 < 48)) => ?_)
  · replace hf := i_t hc hf
    exact y_wk (L2 := [some (.ref 66), some (.int x1)]) ⟨Or.inr rfl, Or.inr rfl, trivial⟩ (w_t_mo_nextToken_322 x1 M hf hk)
  · replace hf := i_f hc hf
    refine y_iload_n (i := 1) (n := 219) ⟨dX12_nextToken_218, rfl⟩ rfl ?_
    refine y_bipush (n := 221) (v := 57) ⟨dX12_nextToken_219, rfl⟩ kb_57 ?_
    refine y_icmp_gt (t := 322) (n := 224) ⟨dX12_nextToken_221, rfl, rfl⟩ (fun (hc : 57 < x1) => ?_) (fun (hc : ¬ (57 < x1)) => ?_)
    · replace hf := i_t hc hf
      exact y_wk (L2 := [some (.ref 66), some (.int x1)]) ⟨Or.inr rfl, Or.inr rfl, trivial⟩ (w_t_mo_nextToken_322 x1 M hf hk)
    · replace hf := i_f hc hf
      obtain ⟨t12, hl13, hf⟩ := b_s hf
      refine y_wk (L2 := [some (.ref 66), none]) ⟨Or.inr rfl, Or.inl rfl, trivial⟩ (wl_mo_nextToken_224 M hl13 ?_)
      show mW mX12_nextToken 2 Q 299 [some (.ref 66), none] [] t12
      exact y_wk (L2 := [some (.ref 66), none]) ⟨Or.inr rfl, Or.inr rfl, trivial⟩ (w_t_mo_nextToken_299 t12 hf hk)
theorem w_b_mo_nextToken_109_175   (M : dM) {Q : mz_P} {o : (dM ⊕ dM)} (hf : b_mo_nextToken_109_175 M = some o) (hk : K_mo_nextToken_109 Q  o) : mW mX12_nextToken 2 Q 175 [some (.ref 66), none] [] M := by
  unfold b_mo_nextToken_109_175 at hf
  refine y_aload_n (i := 0) (n := 176) ⟨dX12_nextToken_175, rfl⟩ rfl ?_
  refine y_dup_r (n := 177) ⟨dX12_nextToken_176, rfl⟩ ?_
  refine y_getI (n := 180) ⟨dX12_nextToken_177, rfl⟩ kfX12_264 l_66 rfl ?_
  refine y_iconst (n := 181) (v := 1) ⟨dX12_nextToken_180, rfl⟩ ki_1 ?_
  refine y_iadd (n := 182) ⟨dX12_nextToken_181, rfl⟩ ?_
  refine y_putI (n := 185) ⟨dX12_nextToken_182, rfl⟩ kfX12_264 l_66 (by decide +kernel) rfl ?_
  refine y_goto (t := 109) ⟨dX12_nextToken_185, rfl, rfl⟩ ?_
  cases hf
  exact y_wk (L2 := [some (.ref 66), none]) ⟨Or.inr rfl, Or.inr rfl, trivial⟩ hk
theorem w_b_mo_nextToken_109_109   (M : dM) {Q : mz_P} {o : (dM ⊕ dM)} (hf : b_mo_nextToken_109_109 M = some o) (hk : K_mo_nextToken_109 Q  o) : mW mX12_nextToken 2 Q 109 [some (.ref 66), none] [] M := by
  unfold b_mo_nextToken_109_109 at hf
  refine y_aload_n (i := 0) (n := 110) ⟨dX12_nextToken_109, rfl⟩ rfl ?_
  refine y_aload_n (i := 0) (n := 111) ⟨dX12_nextToken_110, rfl⟩ rfl ?_
  refine y_getI (n := 114) ⟨dX12_nextToken_111, rfl⟩ kfX12_264 l_66 rfl ?_
  obtain ⟨v15, hv16, hf⟩ := b_s hf
  refine c_mo_signAt (gI M 66 20) M (n := 117) ⟨dX12_nextToken_114, rfl⟩ klX12_280 hv16 (by decide) (Nat.le_of_ble_eq_true rfl) rfl rfl ?_
  refine y_bipush (n := 119) (v := 97) ⟨dX12_nextToken_117, rfl⟩ kb_97 ?_
  refine y_icmp_lt (t := 188) (n := 122) ⟨dX12_nextToken_119, rfl, rfl⟩ (fun (hc : v15 < 97) => ?_) (fun (hc : ¬ (v15 < 97)) => ?_)
  · replace hf := i_t hc hf
    cases hf
    exact y_wk (L2 := [some (.ref 66), none]) ⟨Or.inr rfl, Or.inr rfl, trivial⟩ hk
  · replace hf := i_f hc hf
    refine y_aload_n (i := 0) (n := 123) ⟨dX12_nextToken_122, rfl⟩ rfl ?_
    refine y_aload_n (i := 0) (n := 124) ⟨dX12_nextToken_123, rfl⟩ rfl ?_
    refine y_getI (n := 127) ⟨dX12_nextToken_124, rfl⟩ kfX12_264 l_66 rfl ?_
    obtain ⟨v17, hv18, hf⟩ := b_s hf
    refine c_mo_signAt (gI M 66 20) M (n := 130) ⟨dX12_nextToken_127, rfl⟩ klX12_280 hv18 (by decide) (Nat.le_of_ble_eq_true rfl) rfl rfl ?_
    refine y_bipush (n := 132) (v := 122) ⟨dX12_nextToken_130, rfl⟩ kb_122 ?_
    refine y_icmp_gt (t := 188) (n := 135) ⟨dX12_nextToken_132, rfl, rfl⟩ (fun (hc : 122 < v17) => ?_) (fun (hc : ¬ (122 < v17)) => ?_)
    · replace hf := i_t hc hf
      cases hf
      exact y_wk (L2 := [some (.ref 66), none]) ⟨Or.inr rfl, Or.inr rfl, trivial⟩ hk
    · replace hf := i_f hc hf
      refine y_aload_n (i := 0) (n := 136) ⟨dX12_nextToken_135, rfl⟩ rfl ?_
      refine y_getI (n := 139) ⟨dX12_nextToken_136, rfl⟩ kfX12_264 l_66 rfl ?_
      refine y_aload_n (i := 0) (n := 140) ⟨dX12_nextToken_139, rfl⟩ rfl ?_
      refine y_getI (n := 143) ⟨dX12_nextToken_140, rfl⟩ kfX12_267 l_66 rfl ?_
      refine y_isub (n := 144) ⟨dX12_nextToken_143, rfl⟩ ?_
      refine y_bipush (n := 146) (v := 8) ⟨dX12_nextToken_144, rfl⟩ kb_8 ?_
      refine y_icmp_ge (t := 175) (n := 149) ⟨dX12_nextToken_146, rfl, rfl⟩ (fun (hc : 8 ≤ ((gI M 66 20) - (gI M 66 21))) => ?_) (fun (hc : ¬ (8 ≤ ((gI M 66 20) - (gI M 66 21)))) => ?_)
      · replace hf := i_t hc hf
        exact y_wk (L2 := [some (.ref 66), none]) ⟨Or.inr rfl, Or.inr rfl, trivial⟩ (w_b_mo_nextToken_109_175 M hf hk)
      · replace hf := i_f hc hf
        refine y_aload_n (i := 0) (n := 150) ⟨dX12_nextToken_149, rfl⟩ rfl ?_
        refine y_aload_n (i := 0) (n := 151) ⟨dX12_nextToken_150, rfl⟩ rfl ?_
        refine y_getJ (n := 154) ⟨dX12_nextToken_151, rfl⟩ kfX12_270 l_66 rfl ?_
        refine y_ldc2 (n := 157) ⟨dX12_nextToken_154, rfl⟩ kcX12_283 ?_
        refine y_lmul (n := 158) ⟨dX12_nextToken_157, rfl⟩ ?_
        refine y_aload_n (i := 0) (n := 159) ⟨dX12_nextToken_158, rfl⟩ rfl ?_
        refine y_aload_n (i := 0) (n := 160) ⟨dX12_nextToken_159, rfl⟩ rfl ?_
        refine y_getI (n := 163) ⟨dX12_nextToken_160, rfl⟩ kfX12_264 l_66 rfl ?_
        obtain ⟨v19, hv20, hf⟩ := b_s hf
        refine c_mo_signAt (gI M 66 20) M (n := 166) ⟨dX12_nextToken_163, rfl⟩ klX12_280 hv20 (by decide) (Nat.le_of_ble_eq_true rfl) rfl rfl ?_
        refine y_i2l (n := 167) ⟨dX12_nextToken_166, rfl⟩ ?_
        refine y_ladd (n := 168) ⟨dX12_nextToken_167, rfl⟩ ?_
        refine y_ldc2 (n := 171) ⟨dX12_nextToken_168, rfl⟩ kcX12_285 ?_
        refine y_lsub (n := 172) ⟨dX12_nextToken_171, rfl⟩ ?_
        refine y_putJ (n := 175) ⟨dX12_nextToken_172, rfl⟩ kfX12_270 l_66 (by decide +kernel) rfl ?_
        exact y_wk (L2 := [some (.ref 66), none]) ⟨Or.inr rfl, Or.inr rfl, trivial⟩ (w_b_mo_nextToken_109_175 (sJ M 66 23 ((((gJ M 66 23) * 27) + v19.toInt64) - 96)) hf hk)
theorem wl_mo_nextToken_109  (M : dM) {Q : mz_P} {x : dM} (hf : l_mo_nextToken_109 M = some x) (hk : K_mo_nextToken_109 Q  (.inr x)) : mW mX12_nextToken 2 Q 109 [some (.ref 66), none] [] M :=
  lpc_wp (σ := dM) (ξ := dM) (s := M) (Wh := fun s => mW mX12_nextToken 2 Q 109 [some (.ref 66), none] [] s) (K := K_mo_nextToken_109 Q ) (fun _ h => h) (fun s o hb hk => w_b_mo_nextToken_109_109 s hb hk) hf hk
theorem w_t_mo_nextToken_208 (y1 : Int32) (M : dM) {Q : mz_P} {o : dM} (hf : t_mo_nextToken_208 y1 M = some o) (hk : mR Q none o) : mW mX12_nextToken 2 Q 208 [none, none] [.int y1, .ref 66] M := by
  unfold t_mo_nextToken_208 at hf
  refine y_putI (n := 211) ⟨dX12_nextToken_208, rfl⟩ kfX12_277 l_66 (by decide +kernel) rfl ?_
  cases hf
  exact y_return (n := 212) ⟨dX12_nextToken_211, rfl⟩ rfl hk
theorem w_t_mo_nextToken_188  (M : dM) {Q : mz_P} {o : dM} (hf : t_mo_nextToken_188 M = some o) (hk : mR Q none o) : mW mX12_nextToken 2 Q 188 [some (.ref 66), none] [] M := by
  unfold t_mo_nextToken_188 at hf
  refine y_aload_n (i := 0) (n := 189) ⟨dX12_nextToken_188, rfl⟩ rfl ?_
  refine y_aload_n (i := 0) (n := 190) ⟨dX12_nextToken_189, rfl⟩ rfl ?_
  refine y_getI (n := 193) ⟨dX12_nextToken_190, rfl⟩ kfX12_264 l_66 rfl ?_
  refine y_aload_n (i := 0) (n := 194) ⟨dX12_nextToken_193, rfl⟩ rfl ?_
  refine y_getI (n := 197) ⟨dX12_nextToken_194, rfl⟩ kfX12_267 l_66 rfl ?_
  refine y_isub (n := 198) ⟨dX12_nextToken_197, rfl⟩ ?_
  refine y_bipush (n := 200) (v := 8) ⟨dX12_nextToken_198, rfl⟩ kb_8 ?_
  refine y_icmp_le (t := 207) (n := 203) ⟨dX12_nextToken_200, rfl, rfl⟩ (fun (hc : ((gI M 66 20) - (gI M 66 21)) ≤ 8) => ?_) (fun (hc : ¬ (((gI M 66 20) - (gI M 66 21)) ≤ 8)) => ?_)
  · replace hf := i_t hc hf
    refine y_iconst (n := 208) (v := 1) ⟨dX12_nextToken_207, rfl⟩ ki_1 ?_
    exact y_wk (L2 := [none, none]) ⟨Or.inl rfl, Or.inr rfl, trivial⟩ (w_t_mo_nextToken_208 1 M hf hk)
  · replace hf := i_f hc hf
    refine y_iconst (n := 204) (v := 4) ⟨dX12_nextToken_203, rfl⟩ ki_4 ?_
    refine y_goto (t := 208) ⟨dX12_nextToken_204, rfl, rfl⟩ ?_
    exact y_wk (L2 := [none, none]) ⟨Or.inl rfl, Or.inr rfl, trivial⟩ (w_t_mo_nextToken_208 4 M hf hk)
theorem w_t_mo_nextToken_52  (M : dM) {Q : mz_P} {o : dM} (hf : t_mo_nextToken_52 M = some o) (hk : mR Q none o) : mW mX12_nextToken 2 Q 52 [some (.ref 66), none] [] M := by
  unfold t_mo_nextToken_52 at hf
  refine y_aload_n (i := 0) (n := 53) ⟨dX12_nextToken_52, rfl⟩ rfl ?_
  refine y_aload_n (i := 0) (n := 54) ⟨dX12_nextToken_53, rfl⟩ rfl ?_
  refine y_getI (n := 57) ⟨dX12_nextToken_54, rfl⟩ kfX12_264 l_66 rfl ?_
  refine y_putI (n := 60) ⟨dX12_nextToken_57, rfl⟩ kfX12_267 l_66 (by decide +kernel) rfl ?_
  refine y_aload_n (i := 0) (n := 61) ⟨dX12_nextToken_60, rfl⟩ rfl ?_
  refine y_lconst (n := 62) (v := 0) ⟨dX12_nextToken_61, rfl⟩ kl_0 ?_
  refine y_putJ (n := 65) ⟨dX12_nextToken_62, rfl⟩ kfX12_270 l_66 (by decide +kernel) rfl ?_
  refine y_aload_n (i := 0) (n := 66) ⟨dX12_nextToken_65, rfl⟩ rfl ?_
  refine y_iconst (n := 67) (v := 0) ⟨dX12_nextToken_66, rfl⟩ ki_0 ?_
  refine y_putI (n := 70) ⟨dX12_nextToken_67, rfl⟩ kfX12_274 l_66 (by decide +kernel) rfl ?_
  refine y_aload_n (i := 0) (n := 71) ⟨dX12_nextToken_70, rfl⟩ rfl ?_
  refine y_getI (n := 74) ⟨dX12_nextToken_71, rfl⟩ kfX12_264 l_66 rfl ?_
  refine y_aload_n (i := 0) (n := 75) ⟨dX12_nextToken_74, rfl⟩ rfl ?_
  refine y_getI (n := 78) ⟨dX12_nextToken_75, rfl⟩ kfX12_261 l_66 rfl ?_
  refine y_icmp_ne (t := 87) (n := 81) ⟨dX12_nextToken_78, rfl, rfl⟩ (fun (hc : ¬ ((gI (sI (sJ (sI M 66 21 (gI M 66 20)) 66 23 0) 66 24 0) 66 20) = (gI (sI (sJ (sI M 66 21 (gI M 66 20)) 66 23 0) 66 24 0) 66 19))) => ?_) (fun (hc : (gI (sI (sJ (sI M 66 21 (gI M 66 20)) 66 23 0) 66 24 0) 66 20) = (gI (sI (sJ (sI M 66 21 (gI M 66 20)) 66 23 0) 66 24 0) 66 19)) => ?_)
  · replace hf := i_f hc hf
    refine y_aload_n (i := 0) (n := 88) ⟨dX12_nextToken_87, rfl⟩ rfl ?_
    refine y_getR (n := 91) ⟨dX12_nextToken_88, rfl⟩ kfX12_52 l_66 rfl r_66_18 ?_
    refine y_aload_n (i := 0) (n := 92) ⟨dX12_nextToken_91, rfl⟩ rfl ?_
    refine y_getI (n := 95) ⟨dX12_nextToken_92, rfl⟩ kfX12_264 l_66 rfl ?_
    obtain ⟨hg5, hf⟩ := g_s hf
    refine y_iaload (n := 96) ⟨dX12_nextToken_95, rfl⟩ l_81 hg5 ?_
    refine y_istore_n (i := 1) (n := 97) (L2 := [some (.ref 66), some (.int (gI (sI (sJ (sI M 66 21 (gI M 66 20)) 66 23 0) 66 24 0) 81 (gI (sI (sJ (sI M 66 21 (gI M 66 20)) 66 23 0) 66 24 0) 66 20).toNatClampNeg))]) ⟨dX12_nextToken_96, rfl⟩ (by decide) rfl rfl ?_
    refine y_iload_n (i := 1) (n := 98) ⟨dX12_nextToken_97, rfl⟩ rfl ?_
    refine y_bipush (n := 100) (v := 97) ⟨dX12_nextToken_98, rfl⟩ kb_97 ?_
    refine y_icmp_lt (t := 212) (n := 103) ⟨dX12_nextToken_100, rfl, rfl⟩ (fun (hc : (gI (sI (sJ (sI M 66 21 (gI M 66 20)) 66 23 0) 66 24 0) 81 (gI (sI (sJ (sI M 66 21 (gI M 66 20)) 66 23 0) 66 24 0) 66 20).toNatClampNeg) < 97) => ?_) (fun (hc : ¬ ((gI (sI (sJ (sI M 66 21 (gI M 66 20)) 66 23 0) 66 24 0) 81 (gI (sI (sJ (sI M 66 21 (gI M 66 20)) 66 23 0) 66 24 0) 66 20).toNatClampNeg) < 97)) => ?_)
    · replace hf := i_t hc hf
      exact y_wk (L2 := [some (.ref 66), some (.int (gI (sI (sJ (sI M 66 21 (gI M 66 20)) 66 23 0) 66 24 0) 81 (gI (sI (sJ (sI M 66 21 (gI M 66 20)) 66 23 0) 66 24 0) 66 20).toNatClampNeg))]) ⟨Or.inr rfl, Or.inr rfl, trivial⟩ (w_t_mo_nextToken_212 (gI (sI (sJ (sI M 66 21 (gI M 66 20)) 66 23 0) 66 24 0) 81 (gI (sI (sJ (sI M 66 21 (gI M 66 20)) 66 23 0) 66 24 0) 66 20).toNatClampNeg) (sI (sJ (sI M 66 21 (gI M 66 20)) 66 23 0) 66 24 0) hf hk)
    · replace hf := i_f hc hf
      refine y_iload_n (i := 1) (n := 104) ⟨dX12_nextToken_103, rfl⟩ rfl ?_
      refine y_bipush (n := 106) (v := 122) ⟨dX12_nextToken_104, rfl⟩ kb_122 ?_
      refine y_icmp_gt (t := 212) (n := 109) ⟨dX12_nextToken_106, rfl, rfl⟩ (fun (hc : 122 < (gI (sI (sJ (sI M 66 21 (gI M 66 20)) 66 23 0) 66 24 0) 81 (gI (sI (sJ (sI M 66 21 (gI M 66 20)) 66 23 0) 66 24 0) 66 20).toNatClampNeg)) => ?_) (fun (hc : ¬ (122 < (gI (sI (sJ (sI M 66 21 (gI M 66 20)) 66 23 0) 66 24 0) 81 (gI (sI (sJ (sI M 66 21 (gI M 66 20)) 66 23 0) 66 24 0) 66 20).toNatClampNeg))) => ?_)
      · replace hf := i_t hc hf
        exact y_wk (L2 := [some (.ref 66), some (.int (gI (sI (sJ (sI M 66 21 (gI M 66 20)) 66 23 0) 66 24 0) 81 (gI (sI (sJ (sI M 66 21 (gI M 66 20)) 66 23 0) 66 24 0) 66 20).toNatClampNeg))]) ⟨Or.inr rfl, Or.inr rfl, trivial⟩ (w_t_mo_nextToken_212 (gI (sI (sJ (sI M 66 21 (gI M 66 20)) 66 23 0) 66 24 0) 81 (gI (sI (sJ (sI M 66 21 (gI M 66 20)) 66 23 0) 66 24 0) 66 20).toNatClampNeg) (sI (sJ (sI M 66 21 (gI M 66 20)) 66 23 0) 66 24 0) hf hk)
      · replace hf := i_f hc hf
        obtain ⟨t21, hl22, hf⟩ := b_s hf
        refine y_wk (L2 := [some (.ref 66), none]) ⟨Or.inr rfl, Or.inl rfl, trivial⟩ (wl_mo_nextToken_109 (sI (sJ (sI M 66 21 (gI M 66 20)) 66 23 0) 66 24 0) hl22 ?_)
        show mW mX12_nextToken 2 Q 188 [some (.ref 66), none] [] t21
        exact y_wk (L2 := [some (.ref 66), none]) ⟨Or.inr rfl, Or.inr rfl, trivial⟩ (w_t_mo_nextToken_188 t21 hf hk)
  · replace hf := i_t hc hf
    refine y_aload_n (i := 0) (n := 82) ⟨dX12_nextToken_81, rfl⟩ rfl ?_
    refine y_iconst (n := 83) (v := 0) ⟨dX12_nextToken_82, rfl⟩ ki_0 ?_
    refine y_putI (n := 86) ⟨dX12_nextToken_83, rfl⟩ kfX12_277 l_66 (by decide +kernel) rfl ?_
    cases hf
    exact y_return (n := 87) ⟨dX12_nextToken_86, rfl⟩ rfl hk
theorem ok_mo_nextToken  (M : dM) {o : dM} (hf : f_mo_nextToken M = some o) : mO mX12_nextToken 2 [.ref 66] M none o := by
  refine y_ok (by decide +kernel) (Nat.le_of_ble_eq_true rfl) (L0 := [some (.ref 66), none]) rfl ?_
  have hk := mR_mQ none o
  generalize mQ _ _ = Q at hk ⊢
  unfold f_mo_nextToken at hf
  obtain ⟨t2, hl3, hf⟩ := b_s hf
  refine y_wk (L2 := [some (.ref 66), none]) ⟨Or.inr rfl, Or.inr rfl, trivial⟩ (wl_mo_nextToken_0 M hl3 ?_)
  show mW mX12_nextToken 2 Q 52 [some (.ref 66), none] [] t2
  exact y_wk (L2 := [some (.ref 66), none]) ⟨Or.inr rfl, Or.inr rfl, trivial⟩ (w_t_mo_nextToken_52 t2 hf hk)
theorem c_mo_nextToken  (M : dM) {o : dM} {y : mz_M} {d : Nat} {Q : mz_P} {pc n i : Nat} {L : List (Option Value)} {st : List Value} (h : mz_d y.2.1 pc n 3 (.invokevirtual i)) (hl : mz_ml y.1.cls i yX12_nextToken) (hf : f_mo_nextToken M = some o) (hd : 2 + 1 ≤ d) (hsm : (st.map (fun v => v.category)).sum ≤ 8) (hLr : mz_rL 133 L = true) (hSr : mz_rS 133 st = true) (kk : mW y d Q n L st o) : mW y d Q pc L (.ref 66 :: st) M :=
  y_callV kmX12_nextToken kvX12_nextToken l_66 (by decide +kernel) (by decide +kernel) h hl (ok_mo_nextToken  M hf) (vs := []) rfl rfl hd hsm hLr hSr kk
noncomputable def f_mo_isWord (a1 : Int64) (M : dM) : Bool :=
  if (gI M 66 22) = 1 then
    if (gJ M 66 23) = a1 then
      true
    else
      false
  else
    false
theorem ok_mo_isWord (a1 : Int64) (M : dM) {o : Bool} (hf : f_mo_isWord a1 M = o) : mO mX12_isWord 1 [.ref 66, .long a1] M (some (.int (bI o))) M := by
  refine y_ok (by decide +kernel) (Nat.le_of_ble_eq_true rfl) (L0 := [some (.ref 66), some (.long a1), none]) rfl ?_
  have hk := mR_mQ (some (.int (bI o))) M
  generalize mQ _ _ = Q at hk ⊢
  unfold f_mo_isWord at hf
  refine y_aload_n (i := 0) (n := 1) ⟨dX12_isWord_0, rfl⟩ rfl ?_
  refine y_getI (n := 4) ⟨dX12_isWord_1, rfl⟩ kfX12_277 l_66 rfl ?_
  refine y_iconst (n := 5) (v := 1) ⟨dX12_isWord_4, rfl⟩ ki_1 ?_
  refine y_icmp_ne (t := 21) (n := 8) ⟨dX12_isWord_5, rfl, rfl⟩ (fun (hc : ¬ ((gI M 66 22) = 1)) => ?_) (fun (hc : (gI M 66 22) = 1) => ?_)
  · replace hf := i_f hc hf
    refine y_iconst (n := 22) (v := 0) ⟨dX12_isWord_21, rfl⟩ ki_0 ?_
    cases hf
    exact y_ireturn (n := 23) ⟨dX12_isWord_22, rfl⟩ rfl rfl hk
  · replace hf := i_t hc hf
    refine y_aload_n (i := 0) (n := 9) ⟨dX12_isWord_8, rfl⟩ rfl ?_
    refine y_getJ (n := 12) ⟨dX12_isWord_9, rfl⟩ kfX12_270 l_66 rfl ?_
    refine y_lload_n (i := 1) (n := 13) ⟨dX12_isWord_12, rfl⟩ rfl ?_
    refine y_lcmp (n := 14) ⟨dX12_isWord_13, rfl⟩ ?_
    refine y_if_ne (t := 21) (n := 17) ⟨dX12_isWord_14, rfl, rfl⟩ (fun h0 => ?_) (fun h0 => ?_)
    · have hc : ¬ ((gJ M 66 23) = a1) := fun e => h0 ((lc_eq _ _).mpr e)
      replace hf := i_f hc hf
      refine y_iconst (n := 22) (v := 0) ⟨dX12_isWord_21, rfl⟩ ki_0 ?_
      cases hf
      exact y_ireturn (n := 23) ⟨dX12_isWord_22, rfl⟩ rfl rfl hk
    · have hc : (gJ M 66 23) = a1 := (lc_eq _ _).mp h0
      replace hf := i_t hc hf
      refine y_iconst (n := 18) (v := 1) ⟨dX12_isWord_17, rfl⟩ ki_1 ?_
      refine y_goto (t := 22) ⟨dX12_isWord_18, rfl, rfl⟩ ?_
      cases hf
      exact y_ireturn (n := 23) ⟨dX12_isWord_22, rfl⟩ rfl rfl hk
theorem c_mo_isWord (a1 : Int64) (M : dM) {o : Bool} {y : mz_M} {d : Nat} {Q : mz_P} {pc n i : Nat} {L : List (Option Value)} {st : List Value} (h : mz_d y.2.1 pc n 3 (.invokevirtual i)) (hl : mz_ml y.1.cls i yX12_isWord) (hf : f_mo_isWord a1 M = o) (hd : 1 + 1 ≤ d) (hsm : (st.map (fun v => v.category)).sum ≤ 8) (hLr : mz_rL 133 L = true) (hSr : mz_rS 133 st = true) (kk : mW y d Q n L (.int (bI o) :: st) M) : mW y d Q pc L (.long a1 :: .ref 66 :: st) M :=
  y_callV kmX12_isWord kvX12_isWord l_66 (by decide +kernel) (by decide +kernel) h hl (ok_mo_isWord a1 M hf) (vs := [.long a1]) rfl rfl hd hsm hLr hSr kk
noncomputable def f_mo_fails (a1 : Int32) (M : dM) : (Bool × dM) :=
  (false, (sI M 66 25 (a1 + (16 * (gI M 66 21)))))
theorem ok_mo_fails (a1 : Int32) (M : dM) {o : (Bool × dM)} (hf : f_mo_fails a1 M = o) : mO mX12_fails 1 [.ref 66, .int a1] M (some (.int (bI o.1))) o.2 := by
  refine y_ok (by decide +kernel) (Nat.le_of_ble_eq_true rfl) (L0 := [some (.ref 66), some (.int a1)]) rfl ?_
  have hk := mR_mQ (some (.int (bI o.1))) o.2
  generalize mQ _ _ = Q at hk ⊢
  unfold f_mo_fails at hf
  refine y_aload_n (i := 0) (n := 1) ⟨dX12_fails_0, rfl⟩ rfl ?_
  refine y_iload_n (i := 1) (n := 2) ⟨dX12_fails_1, rfl⟩ rfl ?_
  refine y_bipush (n := 4) (v := 16) ⟨dX12_fails_2, rfl⟩ kb_16 ?_
  refine y_aload_n (i := 0) (n := 5) ⟨dX12_fails_4, rfl⟩ rfl ?_
  refine y_getI (n := 8) ⟨dX12_fails_5, rfl⟩ kfX12_267 l_66 rfl ?_
  refine y_imul (n := 9) ⟨dX12_fails_8, rfl⟩ ?_
  refine y_iadd (n := 10) ⟨dX12_fails_9, rfl⟩ ?_
  refine y_putI (n := 13) ⟨dX12_fails_10, rfl⟩ kfX12_287 l_66 (by decide +kernel) rfl ?_
  refine y_iconst (n := 14) (v := 0) ⟨dX12_fails_13, rfl⟩ ki_0 ?_
  cases hf
  exact y_ireturn (n := 15) ⟨dX12_fails_14, rfl⟩ rfl rfl hk
theorem c_mo_fails (a1 : Int32) (M : dM) {o : (Bool × dM)} {y : mz_M} {d : Nat} {Q : mz_P} {pc n i : Nat} {L : List (Option Value)} {st : List Value} (h : mz_d y.2.1 pc n 3 (.invokevirtual i)) (hl : mz_ml y.1.cls i yX12_fails) (hf : f_mo_fails a1 M = o) (hd : 1 + 1 ≤ d) (hsm : (st.map (fun v => v.category)).sum ≤ 8) (hLr : mz_rL 133 L = true) (hSr : mz_rS 133 st = true) (kk : mW y d Q n L (.int (bI o.1) :: st) o.2) : mW y d Q pc L (.int a1 :: .ref 66 :: st) M :=
  y_callV kmX12_fails kvX12_fails l_66 (by decide +kernel) (by decide +kernel) h hl (ok_mo_fails a1 M hf) (vs := [.int a1]) rfl rfl hd hsm hLr hSr kk
noncomputable def f_mo_dayFact (M : dM) : Int32 :=
  if (gJ M 66 23) = 2968 then
    1
  else
    if (gJ M 66 23) = 3376126 then
      2
    else
      if (gJ M 66 23) = 29596810 then
        3
      else
        if (gJ M 66 23) = 11047 then
          4
        else
          if (gJ M 66 23) = 8529805 then
            5
          else
            if (gJ M 66 23) = 267347 then
              6
            else
              if (gJ M 66 23) = 2162611 then
                7
              else
                if (gJ M 66 23) = 230433031 then
                  8
                else
                  0
theorem ok_mo_dayFact  (M : dM) {o : Int32} (hf : f_mo_dayFact M = o) : mO mX12_dayFact 1 [.ref 66] M (some (.int o)) M := by
  refine y_ok (by decide +kernel) (Nat.le_of_ble_eq_true rfl) (L0 := [some (.ref 66)]) rfl ?_
  have hk := mR_mQ (some (.int o)) M
  generalize mQ _ _ = Q at hk ⊢
  unfold f_mo_dayFact at hf
  refine y_aload_n (i := 0) (n := 1) ⟨dX12_dayFact_0, rfl⟩ rfl ?_
  refine y_getJ (n := 4) ⟨dX12_dayFact_1, rfl⟩ kfX12_270 l_66 rfl ?_
  refine y_ldc2 (n := 7) ⟨dX12_dayFact_4, rfl⟩ kcX12_293 ?_
  refine y_lcmp (n := 8) ⟨dX12_dayFact_7, rfl⟩ ?_
  refine y_if_ne (t := 13) (n := 11) ⟨dX12_dayFact_8, rfl, rfl⟩ (fun h0 => ?_) (fun h0 => ?_)
  · have hc : ¬ ((gJ M 66 23) = 2968) := fun e => h0 ((lc_eq _ _).mpr e)
    replace hf := i_f hc hf
    refine y_aload_n (i := 0) (n := 14) ⟨dX12_dayFact_13, rfl⟩ rfl ?_
    refine y_getJ (n := 17) ⟨dX12_dayFact_14, rfl⟩ kfX12_270 l_66 rfl ?_
    refine y_ldc2 (n := 20) ⟨dX12_dayFact_17, rfl⟩ kcX12_295 ?_
    refine y_lcmp (n := 21) ⟨dX12_dayFact_20, rfl⟩ ?_
    refine y_if_ne (t := 26) (n := 24) ⟨dX12_dayFact_21, rfl, rfl⟩ (fun h0 => ?_) (fun h0 => ?_)
    · have hc : ¬ ((gJ M 66 23) = 3376126) := fun e => h0 ((lc_eq _ _).mpr e)
      replace hf := i_f hc hf
      refine y_aload_n (i := 0) (n := 27) ⟨dX12_dayFact_26, rfl⟩ rfl ?_
      refine y_getJ (n := 30) ⟨dX12_dayFact_27, rfl⟩ kfX12_270 l_66 rfl ?_
      refine y_ldc2 (n := 33) ⟨dX12_dayFact_30, rfl⟩ kcX12_297 ?_
      refine y_lcmp (n := 34) ⟨dX12_dayFact_33, rfl⟩ ?_
      refine y_if_ne (t := 39) (n := 37) ⟨dX12_dayFact_34, rfl, rfl⟩ (fun h0 => ?_) (fun h0 => ?_)
      · have hc : ¬ ((gJ M 66 23) = 29596810) := fun e => h0 ((lc_eq _ _).mpr e)
        replace hf := i_f hc hf
        refine y_aload_n (i := 0) (n := 40) ⟨dX12_dayFact_39, rfl⟩ rfl ?_
        refine y_getJ (n := 43) ⟨dX12_dayFact_40, rfl⟩ kfX12_270 l_66 rfl ?_
        refine y_ldc2 (n := 46) ⟨dX12_dayFact_43, rfl⟩ kcX12_299 ?_
        refine y_lcmp (n := 47) ⟨dX12_dayFact_46, rfl⟩ ?_
        refine y_if_ne (t := 52) (n := 50) ⟨dX12_dayFact_47, rfl, rfl⟩ (fun h0 => ?_) (fun h0 => ?_)
        · have hc : ¬ ((gJ M 66 23) = 11047) := fun e => h0 ((lc_eq _ _).mpr e)
          replace hf := i_f hc hf
          refine y_aload_n (i := 0) (n := 53) ⟨dX12_dayFact_52, rfl⟩ rfl ?_
          refine y_getJ (n := 56) ⟨dX12_dayFact_53, rfl⟩ kfX12_270 l_66 rfl ?_
          refine y_ldc2 (n := 59) ⟨dX12_dayFact_56, rfl⟩ kcX12_301 ?_
          refine y_lcmp (n := 60) ⟨dX12_dayFact_59, rfl⟩ ?_
          refine y_if_ne (t := 65) (n := 63) ⟨dX12_dayFact_60, rfl, rfl⟩ (fun h0 => ?_) (fun h0 => ?_)
          · have hc : ¬ ((gJ M 66 23) = 8529805) := fun e => h0 ((lc_eq _ _).mpr e)
            replace hf := i_f hc hf
            refine y_aload_n (i := 0) (n := 66) ⟨dX12_dayFact_65, rfl⟩ rfl ?_
            refine y_getJ (n := 69) ⟨dX12_dayFact_66, rfl⟩ kfX12_270 l_66 rfl ?_
            refine y_ldc2 (n := 72) ⟨dX12_dayFact_69, rfl⟩ kcX12_303 ?_
            refine y_lcmp (n := 73) ⟨dX12_dayFact_72, rfl⟩ ?_
            refine y_if_ne (t := 79) (n := 76) ⟨dX12_dayFact_73, rfl, rfl⟩ (fun h0 => ?_) (fun h0 => ?_)
            · have hc : ¬ ((gJ M 66 23) = 267347) := fun e => h0 ((lc_eq _ _).mpr e)
              replace hf := i_f hc hf
              refine y_aload_n (i := 0) (n := 80) ⟨dX12_dayFact_79, rfl⟩ rfl ?_
              refine y_getJ (n := 83) ⟨dX12_dayFact_80, rfl⟩ kfX12_270 l_66 rfl ?_
              refine y_ldc2 (n := 86) ⟨dX12_dayFact_83, rfl⟩ kcX12_305 ?_
              refine y_lcmp (n := 87) ⟨dX12_dayFact_86, rfl⟩ ?_
              refine y_if_ne (t := 93) (n := 90) ⟨dX12_dayFact_87, rfl, rfl⟩ (fun h0 => ?_) (fun h0 => ?_)
              · have hc : ¬ ((gJ M 66 23) = 2162611) := fun e => h0 ((lc_eq _ _).mpr e)
                replace hf := i_f hc hf
                refine y_aload_n (i := 0) (n := 94) ⟨dX12_dayFact_93, rfl⟩ rfl ?_
                refine y_getJ (n := 97) ⟨dX12_dayFact_94, rfl⟩ kfX12_270 l_66 rfl ?_
                refine y_ldc2 (n := 100) ⟨dX12_dayFact_97, rfl⟩ kcX12_307 ?_
                refine y_lcmp (n := 101) ⟨dX12_dayFact_100, rfl⟩ ?_
                refine y_if_ne (t := 107) (n := 104) ⟨dX12_dayFact_101, rfl, rfl⟩ (fun h0 => ?_) (fun h0 => ?_)
                · have hc : ¬ ((gJ M 66 23) = 230433031) := fun e => h0 ((lc_eq _ _).mpr e)
                  replace hf := i_f hc hf
                  refine y_iconst (n := 108) (v := 0) ⟨dX12_dayFact_107, rfl⟩ ki_0 ?_
                  cases hf
                  exact y_ireturn (n := 109) ⟨dX12_dayFact_108, rfl⟩ rfl rfl hk
                · have hc : (gJ M 66 23) = 230433031 := (lc_eq _ _).mp h0
                  replace hf := i_t hc hf
                  refine y_bipush (n := 106) (v := 8) ⟨dX12_dayFact_104, rfl⟩ kb_8 ?_
                  cases hf
                  exact y_ireturn (n := 107) ⟨dX12_dayFact_106, rfl⟩ rfl rfl hk
              · have hc : (gJ M 66 23) = 2162611 := (lc_eq _ _).mp h0
                replace hf := i_t hc hf
                refine y_bipush (n := 92) (v := 7) ⟨dX12_dayFact_90, rfl⟩ kb_7 ?_
                cases hf
                exact y_ireturn (n := 93) ⟨dX12_dayFact_92, rfl⟩ rfl rfl hk
            · have hc : (gJ M 66 23) = 267347 := (lc_eq _ _).mp h0
              replace hf := i_t hc hf
              refine y_bipush (n := 78) (v := 6) ⟨dX12_dayFact_76, rfl⟩ kb_6 ?_
              cases hf
              exact y_ireturn (n := 79) ⟨dX12_dayFact_78, rfl⟩ rfl rfl hk
          · have hc : (gJ M 66 23) = 8529805 := (lc_eq _ _).mp h0
            replace hf := i_t hc hf
            refine y_iconst (n := 64) (v := 5) ⟨dX12_dayFact_63, rfl⟩ ki_5 ?_
            cases hf
            exact y_ireturn (n := 65) ⟨dX12_dayFact_64, rfl⟩ rfl rfl hk
        · have hc : (gJ M 66 23) = 11047 := (lc_eq _ _).mp h0
          replace hf := i_t hc hf
          refine y_iconst (n := 51) (v := 4) ⟨dX12_dayFact_50, rfl⟩ ki_4 ?_
          cases hf
          exact y_ireturn (n := 52) ⟨dX12_dayFact_51, rfl⟩ rfl rfl hk
      · have hc : (gJ M 66 23) = 29596810 := (lc_eq _ _).mp h0
        replace hf := i_t hc hf
        refine y_iconst (n := 38) (v := 3) ⟨dX12_dayFact_37, rfl⟩ ki_3 ?_
        cases hf
        exact y_ireturn (n := 39) ⟨dX12_dayFact_38, rfl⟩ rfl rfl hk
    · have hc : (gJ M 66 23) = 3376126 := (lc_eq _ _).mp h0
      replace hf := i_t hc hf
      refine y_iconst (n := 25) (v := 2) ⟨dX12_dayFact_24, rfl⟩ ki_2 ?_
      cases hf
      exact y_ireturn (n := 26) ⟨dX12_dayFact_25, rfl⟩ rfl rfl hk
  · have hc : (gJ M 66 23) = 2968 := (lc_eq _ _).mp h0
    replace hf := i_t hc hf
    refine y_iconst (n := 12) (v := 1) ⟨dX12_dayFact_11, rfl⟩ ki_1 ?_
    cases hf
    exact y_ireturn (n := 13) ⟨dX12_dayFact_12, rfl⟩ rfl rfl hk
theorem c_mo_dayFact  (M : dM) {o : Int32} {y : mz_M} {d : Nat} {Q : mz_P} {pc n i : Nat} {L : List (Option Value)} {st : List Value} (h : mz_d y.2.1 pc n 3 (.invokevirtual i)) (hl : mz_ml y.1.cls i yX12_dayFact) (hf : f_mo_dayFact M = o) (hd : 1 + 1 ≤ d) (hsm : (st.map (fun v => v.category)).sum ≤ 8) (hLr : mz_rL 133 L = true) (hSr : mz_rS 133 st = true) (kk : mW y d Q n L (.int o :: st) M) : mW y d Q pc L (.ref 66 :: st) M :=
  y_callV kmX12_dayFact kvX12_dayFact l_66 (by decide +kernel) (by decide +kernel) h hl (ok_mo_dayFact  M hf) (vs := []) rfl rfl hd hsm hLr hSr kk
noncomputable def f_mo_findFact (M : dM) : Int32 :=
  if (gJ M 66 23) = 370136 then
    1
  else
    if (gJ M 66 23) = 11438892 then
      2
    else
      if (gJ M 66 23) = 385167 then
        3
      else
        if (gJ M 66 23) = 168728 then
          4
        else
          if (gJ M 66 23) = 464144 then
            5
          else
            if (gJ M 66 23) = 3547106 then
              6
            else
              if (gJ M 66 23) = 298503040 then
                7
              else
                if (gJ M 66 23) = 1834205 then
                  8
                else
                  if (gJ M 66 23) = 923 then
                    9
                  else
                    if (gJ M 66 23) = 6415353 then
                      10
                    else
                      if (gJ M 66 23) = 168984 then
                        11
                      else
                        if (gJ M 66 23) = 10502357 then
                          12
                        else
                          if (gJ M 66 23) = 3379448 then
                            13
                          else
                            if (gJ M 66 23) = 778955 then
                              14
                            else
                              if (gJ M 66 23) = 80096 then
                                15
                              else
                                if (gJ M 66 23) = 226024039 then
                                  16
                                else
                                  if (gJ M 66 23) = 11088487 then
                                    17
                                  else
                                    0
theorem ok_mo_findFact  (M : dM) {o : Int32} (hf : f_mo_findFact M = o) : mO mX12_findFact 1 [.ref 66] M (some (.int o)) M := by
  refine y_ok (by decide +kernel) (Nat.le_of_ble_eq_true rfl) (L0 := [some (.ref 66)]) rfl ?_
  have hk := mR_mQ (some (.int o)) M
  generalize mQ _ _ = Q at hk ⊢
  unfold f_mo_findFact at hf
  refine y_aload_n (i := 0) (n := 1) ⟨dX12_findFact_0, rfl⟩ rfl ?_
  refine y_getJ (n := 4) ⟨dX12_findFact_1, rfl⟩ kfX12_270 l_66 rfl ?_
  refine y_ldc2 (n := 7) ⟨dX12_findFact_4, rfl⟩ kcX12_309 ?_
  refine y_lcmp (n := 8) ⟨dX12_findFact_7, rfl⟩ ?_
  refine y_if_ne (t := 13) (n := 11) ⟨dX12_findFact_8, rfl, rfl⟩ (fun h0 => ?_) (fun h0 => ?_)
  · have hc : ¬ ((gJ M 66 23) = 370136) := fun e => h0 ((lc_eq _ _).mpr e)
    replace hf := i_f hc hf
    refine y_aload_n (i := 0) (n := 14) ⟨dX12_findFact_13, rfl⟩ rfl ?_
    refine y_getJ (n := 17) ⟨dX12_findFact_14, rfl⟩ kfX12_270 l_66 rfl ?_
    refine y_ldc2 (n := 20) ⟨dX12_findFact_17, rfl⟩ kcX12_311 ?_
    refine y_lcmp (n := 21) ⟨dX12_findFact_20, rfl⟩ ?_
    refine y_if_ne (t := 26) (n := 24) ⟨dX12_findFact_21, rfl, rfl⟩ (fun h0 => ?_) (fun h0 => ?_)
    · have hc : ¬ ((gJ M 66 23) = 11438892) := fun e => h0 ((lc_eq _ _).mpr e)
      replace hf := i_f hc hf
      refine y_aload_n (i := 0) (n := 27) ⟨dX12_findFact_26, rfl⟩ rfl ?_
      refine y_getJ (n := 30) ⟨dX12_findFact_27, rfl⟩ kfX12_270 l_66 rfl ?_
      refine y_ldc2 (n := 33) ⟨dX12_findFact_30, rfl⟩ kcX12_313 ?_
      refine y_lcmp (n := 34) ⟨dX12_findFact_33, rfl⟩ ?_
      refine y_if_ne (t := 39) (n := 37) ⟨dX12_findFact_34, rfl, rfl⟩ (fun h0 => ?_) (fun h0 => ?_)
      · have hc : ¬ ((gJ M 66 23) = 385167) := fun e => h0 ((lc_eq _ _).mpr e)
        replace hf := i_f hc hf
        refine y_aload_n (i := 0) (n := 40) ⟨dX12_findFact_39, rfl⟩ rfl ?_
        refine y_getJ (n := 43) ⟨dX12_findFact_40, rfl⟩ kfX12_270 l_66 rfl ?_
        refine y_ldc2 (n := 46) ⟨dX12_findFact_43, rfl⟩ kcX12_315 ?_
        refine y_lcmp (n := 47) ⟨dX12_findFact_46, rfl⟩ ?_
        refine y_if_ne (t := 52) (n := 50) ⟨dX12_findFact_47, rfl, rfl⟩ (fun h0 => ?_) (fun h0 => ?_)
        · have hc : ¬ ((gJ M 66 23) = 168728) := fun e => h0 ((lc_eq _ _).mpr e)
          replace hf := i_f hc hf
          refine y_aload_n (i := 0) (n := 53) ⟨dX12_findFact_52, rfl⟩ rfl ?_
          refine y_getJ (n := 56) ⟨dX12_findFact_53, rfl⟩ kfX12_270 l_66 rfl ?_
          refine y_ldc2 (n := 59) ⟨dX12_findFact_56, rfl⟩ kcX12_317 ?_
          refine y_lcmp (n := 60) ⟨dX12_findFact_59, rfl⟩ ?_
          refine y_if_ne (t := 65) (n := 63) ⟨dX12_findFact_60, rfl, rfl⟩ (fun h0 => ?_) (fun h0 => ?_)
          · have hc : ¬ ((gJ M 66 23) = 464144) := fun e => h0 ((lc_eq _ _).mpr e)
            replace hf := i_f hc hf
            refine y_aload_n (i := 0) (n := 66) ⟨dX12_findFact_65, rfl⟩ rfl ?_
            refine y_getJ (n := 69) ⟨dX12_findFact_66, rfl⟩ kfX12_270 l_66 rfl ?_
            refine y_ldc2 (n := 72) ⟨dX12_findFact_69, rfl⟩ kcX12_319 ?_
            refine y_lcmp (n := 73) ⟨dX12_findFact_72, rfl⟩ ?_
            refine y_if_ne (t := 79) (n := 76) ⟨dX12_findFact_73, rfl, rfl⟩ (fun h0 => ?_) (fun h0 => ?_)
            · have hc : ¬ ((gJ M 66 23) = 3547106) := fun e => h0 ((lc_eq _ _).mpr e)
              replace hf := i_f hc hf
              refine y_aload_n (i := 0) (n := 80) ⟨dX12_findFact_79, rfl⟩ rfl ?_
              refine y_getJ (n := 83) ⟨dX12_findFact_80, rfl⟩ kfX12_270 l_66 rfl ?_
              refine y_ldc2 (n := 86) ⟨dX12_findFact_83, rfl⟩ kcX12_321 ?_
              refine y_lcmp (n := 87) ⟨dX12_findFact_86, rfl⟩ ?_
              refine y_if_ne (t := 93) (n := 90) ⟨dX12_findFact_87, rfl, rfl⟩ (fun h0 => ?_) (fun h0 => ?_)
              · have hc : ¬ ((gJ M 66 23) = 298503040) := fun e => h0 ((lc_eq _ _).mpr e)
                replace hf := i_f hc hf
                refine y_aload_n (i := 0) (n := 94) ⟨dX12_findFact_93, rfl⟩ rfl ?_
                refine y_getJ (n := 97) ⟨dX12_findFact_94, rfl⟩ kfX12_270 l_66 rfl ?_
                refine y_ldc2 (n := 100) ⟨dX12_findFact_97, rfl⟩ kcX12_323 ?_
                refine y_lcmp (n := 101) ⟨dX12_findFact_100, rfl⟩ ?_
                refine y_if_ne (t := 107) (n := 104) ⟨dX12_findFact_101, rfl, rfl⟩ (fun h0 => ?_) (fun h0 => ?_)
                · have hc : ¬ ((gJ M 66 23) = 1834205) := fun e => h0 ((lc_eq _ _).mpr e)
                  replace hf := i_f hc hf
                  refine y_aload_n (i := 0) (n := 108) ⟨dX12_findFact_107, rfl⟩ rfl ?_
                  refine y_getJ (n := 111) ⟨dX12_findFact_108, rfl⟩ kfX12_270 l_66 rfl ?_
                  refine y_ldc2 (n := 114) ⟨dX12_findFact_111, rfl⟩ kcX12_325 ?_
                  refine y_lcmp (n := 115) ⟨dX12_findFact_114, rfl⟩ ?_
                  refine y_if_ne (t := 121) (n := 118) ⟨dX12_findFact_115, rfl, rfl⟩ (fun h0 => ?_) (fun h0 => ?_)
                  · have hc : ¬ ((gJ M 66 23) = 923) := fun e => h0 ((lc_eq _ _).mpr e)
                    replace hf := i_f hc hf
                    refine y_aload_n (i := 0) (n := 122) ⟨dX12_findFact_121, rfl⟩ rfl ?_
                    refine y_getJ (n := 125) ⟨dX12_findFact_122, rfl⟩ kfX12_270 l_66 rfl ?_
                    refine y_ldc2 (n := 128) ⟨dX12_findFact_125, rfl⟩ kcX12_327 ?_
                    refine y_lcmp (n := 129) ⟨dX12_findFact_128, rfl⟩ ?_
                    refine y_if_ne (t := 135) (n := 132) ⟨dX12_findFact_129, rfl, rfl⟩ (fun h0 => ?_) (fun h0 => ?_)
                    · have hc : ¬ ((gJ M 66 23) = 6415353) := fun e => h0 ((lc_eq _ _).mpr e)
                      replace hf := i_f hc hf
                      refine y_aload_n (i := 0) (n := 136) ⟨dX12_findFact_135, rfl⟩ rfl ?_
                      refine y_getJ (n := 139) ⟨dX12_findFact_136, rfl⟩ kfX12_270 l_66 rfl ?_
                      refine y_ldc2 (n := 142) ⟨dX12_findFact_139, rfl⟩ kcX12_329 ?_
                      refine y_lcmp (n := 143) ⟨dX12_findFact_142, rfl⟩ ?_
                      refine y_if_ne (t := 149) (n := 146) ⟨dX12_findFact_143, rfl, rfl⟩ (fun h0 => ?_) (fun h0 => ?_)
                      · have hc : ¬ ((gJ M 66 23) = 168984) := fun e => h0 ((lc_eq _ _).mpr e)
                        replace hf := i_f hc hf
                        refine y_aload_n (i := 0) (n := 150) ⟨dX12_findFact_149, rfl⟩ rfl ?_
                        refine y_getJ (n := 153) ⟨dX12_findFact_150, rfl⟩ kfX12_270 l_66 rfl ?_
                        refine y_ldc2 (n := 156) ⟨dX12_findFact_153, rfl⟩ kcX12_331 ?_
                        refine y_lcmp (n := 157) ⟨dX12_findFact_156, rfl⟩ ?_
                        refine y_if_ne (t := 163) (n := 160) ⟨dX12_findFact_157, rfl, rfl⟩ (fun h0 => ?_) (fun h0 => ?_)
                        · have hc : ¬ ((gJ M 66 23) = 10502357) := fun e => h0 ((lc_eq _ _).mpr e)
                          replace hf := i_f hc hf
                          refine y_aload_n (i := 0) (n := 164) ⟨dX12_findFact_163, rfl⟩ rfl ?_
                          refine y_getJ (n := 167) ⟨dX12_findFact_164, rfl⟩ kfX12_270 l_66 rfl ?_
                          refine y_ldc2 (n := 170) ⟨dX12_findFact_167, rfl⟩ kcX12_333 ?_
                          refine y_lcmp (n := 171) ⟨dX12_findFact_170, rfl⟩ ?_
                          refine y_if_ne (t := 177) (n := 174) ⟨dX12_findFact_171, rfl, rfl⟩ (fun h0 => ?_) (fun h0 => ?_)
                          · have hc : ¬ ((gJ M 66 23) = 3379448) := fun e => h0 ((lc_eq _ _).mpr e)
                            replace hf := i_f hc hf
                            refine y_aload_n (i := 0) (n := 178) ⟨dX12_findFact_177, rfl⟩ rfl ?_
                            refine y_getJ (n := 181) ⟨dX12_findFact_178, rfl⟩ kfX12_270 l_66 rfl ?_
                            refine y_ldc2 (n := 184) ⟨dX12_findFact_181, rfl⟩ kcX12_335 ?_
                            refine y_lcmp (n := 185) ⟨dX12_findFact_184, rfl⟩ ?_
                            refine y_if_ne (t := 191) (n := 188) ⟨dX12_findFact_185, rfl, rfl⟩ (fun h0 => ?_) (fun h0 => ?_)
                            · have hc : ¬ ((gJ M 66 23) = 778955) := fun e => h0 ((lc_eq _ _).mpr e)
                              replace hf := i_f hc hf
                              refine y_aload_n (i := 0) (n := 192) ⟨dX12_findFact_191, rfl⟩ rfl ?_
                              refine y_getJ (n := 195) ⟨dX12_findFact_192, rfl⟩ kfX12_270 l_66 rfl ?_
                              refine y_ldc2 (n := 198) ⟨dX12_findFact_195, rfl⟩ kcX12_337 ?_
                              refine y_lcmp (n := 199) ⟨dX12_findFact_198, rfl⟩ ?_
                              refine y_if_ne (t := 205) (n := 202) ⟨dX12_findFact_199, rfl, rfl⟩ (fun h0 => ?_) (fun h0 => ?_)
                              · have hc : ¬ ((gJ M 66 23) = 80096) := fun e => h0 ((lc_eq _ _).mpr e)
                                replace hf := i_f hc hf
                                refine y_aload_n (i := 0) (n := 206) ⟨dX12_findFact_205, rfl⟩ rfl ?_
                                refine y_getJ (n := 209) ⟨dX12_findFact_206, rfl⟩ kfX12_270 l_66 rfl ?_
                                refine y_ldc2 (n := 212) ⟨dX12_findFact_209, rfl⟩ kcX12_339 ?_
                                refine y_lcmp (n := 213) ⟨dX12_findFact_212, rfl⟩ ?_
                                refine y_if_ne (t := 219) (n := 216) ⟨dX12_findFact_213, rfl, rfl⟩ (fun h0 => ?_) (fun h0 => ?_)
                                · have hc : ¬ ((gJ M 66 23) = 226024039) := fun e => h0 ((lc_eq _ _).mpr e)
                                  replace hf := i_f hc hf
                                  refine y_aload_n (i := 0) (n := 220) ⟨dX12_findFact_219, rfl⟩ rfl ?_
                                  refine y_getJ (n := 223) ⟨dX12_findFact_220, rfl⟩ kfX12_270 l_66 rfl ?_
                                  refine y_ldc2 (n := 226) ⟨dX12_findFact_223, rfl⟩ kcX12_341 ?_
                                  refine y_lcmp (n := 227) ⟨dX12_findFact_226, rfl⟩ ?_
                                  refine y_if_ne (t := 233) (n := 230) ⟨dX12_findFact_227, rfl, rfl⟩ (fun h0 => ?_) (fun h0 => ?_)
                                  · have hc : ¬ ((gJ M 66 23) = 11088487) := fun e => h0 ((lc_eq _ _).mpr e)
                                    replace hf := i_f hc hf
                                    refine y_iconst (n := 234) (v := 0) ⟨dX12_findFact_233, rfl⟩ ki_0 ?_
                                    cases hf
                                    exact y_ireturn (n := 235) ⟨dX12_findFact_234, rfl⟩ rfl rfl hk
                                  · have hc : (gJ M 66 23) = 11088487 := (lc_eq _ _).mp h0
                                    replace hf := i_t hc hf
                                    refine y_bipush (n := 232) (v := 17) ⟨dX12_findFact_230, rfl⟩ kb_17 ?_
                                    cases hf
                                    exact y_ireturn (n := 233) ⟨dX12_findFact_232, rfl⟩ rfl rfl hk
                                · have hc : (gJ M 66 23) = 226024039 := (lc_eq _ _).mp h0
                                  replace hf := i_t hc hf
                                  refine y_bipush (n := 218) (v := 16) ⟨dX12_findFact_216, rfl⟩ kb_16 ?_
                                  cases hf
                                  exact y_ireturn (n := 219) ⟨dX12_findFact_218, rfl⟩ rfl rfl hk
                              · have hc : (gJ M 66 23) = 80096 := (lc_eq _ _).mp h0
                                replace hf := i_t hc hf
                                refine y_bipush (n := 204) (v := 15) ⟨dX12_findFact_202, rfl⟩ kb_15 ?_
                                cases hf
                                exact y_ireturn (n := 205) ⟨dX12_findFact_204, rfl⟩ rfl rfl hk
                            · have hc : (gJ M 66 23) = 778955 := (lc_eq _ _).mp h0
                              replace hf := i_t hc hf
                              refine y_bipush (n := 190) (v := 14) ⟨dX12_findFact_188, rfl⟩ kb_14 ?_
                              cases hf
                              exact y_ireturn (n := 191) ⟨dX12_findFact_190, rfl⟩ rfl rfl hk
                          · have hc : (gJ M 66 23) = 3379448 := (lc_eq _ _).mp h0
                            replace hf := i_t hc hf
                            refine y_bipush (n := 176) (v := 13) ⟨dX12_findFact_174, rfl⟩ kb_13 ?_
                            cases hf
                            exact y_ireturn (n := 177) ⟨dX12_findFact_176, rfl⟩ rfl rfl hk
                        · have hc : (gJ M 66 23) = 10502357 := (lc_eq _ _).mp h0
                          replace hf := i_t hc hf
                          refine y_bipush (n := 162) (v := 12) ⟨dX12_findFact_160, rfl⟩ kb_12 ?_
                          cases hf
                          exact y_ireturn (n := 163) ⟨dX12_findFact_162, rfl⟩ rfl rfl hk
                      · have hc : (gJ M 66 23) = 168984 := (lc_eq _ _).mp h0
                        replace hf := i_t hc hf
                        refine y_bipush (n := 148) (v := 11) ⟨dX12_findFact_146, rfl⟩ kb_11 ?_
                        cases hf
                        exact y_ireturn (n := 149) ⟨dX12_findFact_148, rfl⟩ rfl rfl hk
                    · have hc : (gJ M 66 23) = 6415353 := (lc_eq _ _).mp h0
                      replace hf := i_t hc hf
                      refine y_bipush (n := 134) (v := 10) ⟨dX12_findFact_132, rfl⟩ kb_10 ?_
                      cases hf
                      exact y_ireturn (n := 135) ⟨dX12_findFact_134, rfl⟩ rfl rfl hk
                  · have hc : (gJ M 66 23) = 923 := (lc_eq _ _).mp h0
                    replace hf := i_t hc hf
                    refine y_bipush (n := 120) (v := 9) ⟨dX12_findFact_118, rfl⟩ kb_9 ?_
                    cases hf
                    exact y_ireturn (n := 121) ⟨dX12_findFact_120, rfl⟩ rfl rfl hk
                · have hc : (gJ M 66 23) = 1834205 := (lc_eq _ _).mp h0
                  replace hf := i_t hc hf
                  refine y_bipush (n := 106) (v := 8) ⟨dX12_findFact_104, rfl⟩ kb_8 ?_
                  cases hf
                  exact y_ireturn (n := 107) ⟨dX12_findFact_106, rfl⟩ rfl rfl hk
              · have hc : (gJ M 66 23) = 298503040 := (lc_eq _ _).mp h0
                replace hf := i_t hc hf
                refine y_bipush (n := 92) (v := 7) ⟨dX12_findFact_90, rfl⟩ kb_7 ?_
                cases hf
                exact y_ireturn (n := 93) ⟨dX12_findFact_92, rfl⟩ rfl rfl hk
            · have hc : (gJ M 66 23) = 3547106 := (lc_eq _ _).mp h0
              replace hf := i_t hc hf
              refine y_bipush (n := 78) (v := 6) ⟨dX12_findFact_76, rfl⟩ kb_6 ?_
              cases hf
              exact y_ireturn (n := 79) ⟨dX12_findFact_78, rfl⟩ rfl rfl hk
          · have hc : (gJ M 66 23) = 464144 := (lc_eq _ _).mp h0
            replace hf := i_t hc hf
            refine y_iconst (n := 64) (v := 5) ⟨dX12_findFact_63, rfl⟩ ki_5 ?_
            cases hf
            exact y_ireturn (n := 65) ⟨dX12_findFact_64, rfl⟩ rfl rfl hk
        · have hc : (gJ M 66 23) = 168728 := (lc_eq _ _).mp h0
          replace hf := i_t hc hf
          refine y_iconst (n := 51) (v := 4) ⟨dX12_findFact_50, rfl⟩ ki_4 ?_
          cases hf
          exact y_ireturn (n := 52) ⟨dX12_findFact_51, rfl⟩ rfl rfl hk
      · have hc : (gJ M 66 23) = 385167 := (lc_eq _ _).mp h0
        replace hf := i_t hc hf
        refine y_iconst (n := 38) (v := 3) ⟨dX12_findFact_37, rfl⟩ ki_3 ?_
        cases hf
        exact y_ireturn (n := 39) ⟨dX12_findFact_38, rfl⟩ rfl rfl hk
    · have hc : (gJ M 66 23) = 11438892 := (lc_eq _ _).mp h0
      replace hf := i_t hc hf
      refine y_iconst (n := 25) (v := 2) ⟨dX12_findFact_24, rfl⟩ ki_2 ?_
      cases hf
      exact y_ireturn (n := 26) ⟨dX12_findFact_25, rfl⟩ rfl rfl hk
  · have hc : (gJ M 66 23) = 370136 := (lc_eq _ _).mp h0
    replace hf := i_t hc hf
    refine y_iconst (n := 12) (v := 1) ⟨dX12_findFact_11, rfl⟩ ki_1 ?_
    cases hf
    exact y_ireturn (n := 13) ⟨dX12_findFact_12, rfl⟩ rfl rfl hk
theorem c_mo_findFact  (M : dM) {o : Int32} {y : mz_M} {d : Nat} {Q : mz_P} {pc n i : Nat} {L : List (Option Value)} {st : List Value} (h : mz_d y.2.1 pc n 3 (.invokevirtual i)) (hl : mz_ml y.1.cls i yX12_findFact) (hf : f_mo_findFact M = o) (hd : 1 + 1 ≤ d) (hsm : (st.map (fun v => v.category)).sum ≤ 8) (hLr : mz_rL 133 L = true) (hSr : mz_rS 133 st = true) (kk : mW y d Q n L (.int o :: st) M) : mW y d Q pc L (.ref 66 :: st) M :=
  y_callV kmX12_findFact kvX12_findFact l_66 (by decide +kernel) (by decide +kernel) h hl (ok_mo_findFact  M hf) (vs := []) rfl rfl hd hsm hLr hSr kk
noncomputable def f_mo_fact0 (M : dM) : Int32 :=
  if (gI M 66 22) = 1 then
    if (gI M 66 38) = 0 then
      (f_mo_findFact M)
    else
      (f_mo_dayFact M)
  else
    0
theorem ok_mo_fact0  (M : dM) {o : Int32} (hf : f_mo_fact0 M = o) : mO mX12_fact0 2 [.ref 66] M (some (.int o)) M := by
  refine y_ok (by decide +kernel) (Nat.le_of_ble_eq_true rfl) (L0 := [some (.ref 66)]) rfl ?_
  have hk := mR_mQ (some (.int o)) M
  generalize mQ _ _ = Q at hk ⊢
  unfold f_mo_fact0 at hf
  refine y_aload_n (i := 0) (n := 1) ⟨dX12_fact0_0, rfl⟩ rfl ?_
  refine y_getI (n := 4) ⟨dX12_fact0_1, rfl⟩ kfX12_277 l_66 rfl ?_
  refine y_iconst (n := 5) (v := 1) ⟨dX12_fact0_4, rfl⟩ ki_1 ?_
  refine y_icmp_eq (t := 12) (n := 8) ⟨dX12_fact0_5, rfl, rfl⟩ (fun (hc : (gI M 66 22) = 1) => ?_) (fun (hc : ¬ ((gI M 66 22) = 1)) => ?_)
  · replace hf := i_t hc hf
    refine y_aload_n (i := 0) (n := 13) ⟨dX12_fact0_12, rfl⟩ rfl ?_
    refine y_getI (n := 16) ⟨dX12_fact0_13, rfl⟩ kfX12_343 l_66 rfl ?_
    refine y_if_eq (t := 26) (n := 19) ⟨dX12_fact0_16, rfl, rfl⟩ (fun (hc : (gI M 66 38) = 0) => ?_) (fun (hc : ¬ ((gI M 66 38) = 0)) => ?_)
    · replace hf := i_t hc hf
      refine y_aload_n (i := 0) (n := 27) ⟨dX12_fact0_26, rfl⟩ rfl ?_
      refine c_mo_findFact M (n := 30) ⟨dX12_fact0_27, rfl⟩ klX12_351 rfl (by decide) (Nat.le_of_ble_eq_true rfl) rfl rfl ?_
      cases hf
      exact y_ireturn (n := 31) ⟨dX12_fact0_30, rfl⟩ rfl rfl hk
    · replace hf := i_f hc hf
      refine y_aload_n (i := 0) (n := 20) ⟨dX12_fact0_19, rfl⟩ rfl ?_
      refine c_mo_dayFact M (n := 23) ⟨dX12_fact0_20, rfl⟩ klX12_347 rfl (by decide) (Nat.le_of_ble_eq_true rfl) rfl rfl ?_
      refine y_goto (t := 30) ⟨dX12_fact0_23, rfl, rfl⟩ ?_
      cases hf
      exact y_ireturn (n := 31) ⟨dX12_fact0_30, rfl⟩ rfl rfl hk
  · replace hf := i_f hc hf
    refine y_iconst (n := 9) (v := 0) ⟨dX12_fact0_8, rfl⟩ ki_0 ?_
    refine y_goto (t := 30) ⟨dX12_fact0_9, rfl, rfl⟩ ?_
    cases hf
    exact y_ireturn (n := 31) ⟨dX12_fact0_30, rfl⟩ rfl rfl hk
theorem c_mo_fact0  (M : dM) {o : Int32} {y : mz_M} {d : Nat} {Q : mz_P} {pc n i : Nat} {L : List (Option Value)} {st : List Value} (h : mz_d y.2.1 pc n 3 (.invokevirtual i)) (hl : mz_ml y.1.cls i yX12_fact0) (hf : f_mo_fact0 M = o) (hd : 2 + 1 ≤ d) (hsm : (st.map (fun v => v.category)).sum ≤ 8) (hLr : mz_rL 133 L = true) (hSr : mz_rS 133 st = true) (kk : mW y d Q n L (.int o :: st) M) : mW y d Q pc L (.ref 66 :: st) M :=
  y_callV kmX12_fact0 kvX12_fact0 l_66 (by decide +kernel) (by decide +kernel) h hl (ok_mo_fact0  M hf) (vs := []) rfl rfl hd hsm hLr hSr kk
noncomputable def f_mo_isSign (a1 : Int32) (M : dM) : Option Bool :=
  if (gI M 66 22) = 3 then
    gd (vp_in (gI M 66 21) 1000) <|
    if (gI M 81 (gI M 66 21).toNatClampNeg) = a1 then
      some true
    else
      some false
  else
    some false
theorem ok_mo_isSign (a1 : Int32) (M : dM) {o : Bool} (hf : f_mo_isSign a1 M = some o) : mO mX12_isSign 1 [.ref 66, .int a1] M (some (.int (bI o))) M := by
  refine y_ok (by decide +kernel) (Nat.le_of_ble_eq_true rfl) (L0 := [some (.ref 66), some (.int a1)]) rfl ?_
  have hk := mR_mQ (some (.int (bI o))) M
  generalize mQ _ _ = Q at hk ⊢
  unfold f_mo_isSign at hf
  refine y_aload_n (i := 0) (n := 1) ⟨dX12_isSign_0, rfl⟩ rfl ?_
  refine y_getI (n := 4) ⟨dX12_isSign_1, rfl⟩ kfX12_277 l_66 rfl ?_
  refine y_iconst (n := 5) (v := 3) ⟨dX12_isSign_4, rfl⟩ ki_3 ?_
  refine y_icmp_ne (t := 25) (n := 8) ⟨dX12_isSign_5, rfl, rfl⟩ (fun (hc : ¬ ((gI M 66 22) = 3)) => ?_) (fun (hc : (gI M 66 22) = 3) => ?_)
  · replace hf := i_f hc hf
    refine y_iconst (n := 26) (v := 0) ⟨dX12_isSign_25, rfl⟩ ki_0 ?_
    cases hf
    exact y_ireturn (n := 27) ⟨dX12_isSign_26, rfl⟩ rfl rfl hk
  · replace hf := i_t hc hf
    refine y_aload_n (i := 0) (n := 9) ⟨dX12_isSign_8, rfl⟩ rfl ?_
    refine y_getR (n := 12) ⟨dX12_isSign_9, rfl⟩ kfX12_52 l_66 rfl r_66_18 ?_
    refine y_aload_n (i := 0) (n := 13) ⟨dX12_isSign_12, rfl⟩ rfl ?_
    refine y_getI (n := 16) ⟨dX12_isSign_13, rfl⟩ kfX12_267 l_66 rfl ?_
    obtain ⟨hg1, hf⟩ := g_s hf
    refine y_iaload (n := 17) ⟨dX12_isSign_16, rfl⟩ l_81 hg1 ?_
    refine y_iload_n (i := 1) (n := 18) ⟨dX12_isSign_17, rfl⟩ rfl ?_
    refine y_icmp_ne (t := 25) (n := 21) ⟨dX12_isSign_18, rfl, rfl⟩ (fun (hc : ¬ ((gI M 81 (gI M 66 21).toNatClampNeg) = a1)) => ?_) (fun (hc : (gI M 81 (gI M 66 21).toNatClampNeg) = a1) => ?_)
    · replace hf := i_f hc hf
      refine y_iconst (n := 26) (v := 0) ⟨dX12_isSign_25, rfl⟩ ki_0 ?_
      cases hf
      exact y_ireturn (n := 27) ⟨dX12_isSign_26, rfl⟩ rfl rfl hk
    · replace hf := i_t hc hf
      refine y_iconst (n := 22) (v := 1) ⟨dX12_isSign_21, rfl⟩ ki_1 ?_
      refine y_goto (t := 26) ⟨dX12_isSign_22, rfl, rfl⟩ ?_
      cases hf
      exact y_ireturn (n := 27) ⟨dX12_isSign_26, rfl⟩ rfl rfl hk
theorem c_mo_isSign (a1 : Int32) (M : dM) {o : Bool} {y : mz_M} {d : Nat} {Q : mz_P} {pc n i : Nat} {L : List (Option Value)} {st : List Value} (h : mz_d y.2.1 pc n 3 (.invokevirtual i)) (hl : mz_ml y.1.cls i yX12_isSign) (hf : f_mo_isSign a1 M = some o) (hd : 1 + 1 ≤ d) (hsm : (st.map (fun v => v.category)).sum ≤ 8) (hLr : mz_rL 133 L = true) (hSr : mz_rS 133 st = true) (kk : mW y d Q n L (.int (bI o) :: st) M) : mW y d Q pc L (.int a1 :: .ref 66 :: st) M :=
  y_callV kmX12_isSign kvX12_isSign l_66 (by decide +kernel) (by decide +kernel) h hl (ok_mo_isSign a1 M hf) (vs := [.int a1]) rfl rfl hd hsm hLr hSr kk
noncomputable def f_mo_puts (a1 : Int32) (M : dM) : Option dM :=
  gd (vp_in (gI M 66 37) 2000) <|
  some (sI (sI M 88 (gI M 66 37).toNatClampNeg a1) 66 37 ((gI (sI M 88 (gI M 66 37).toNatClampNeg a1) 66 37) + 1))
theorem ok_mo_puts (a1 : Int32) (M : dM) {o : dM} (hf : f_mo_puts a1 M = some o) : mO mX12_puts 1 [.ref 66, .int a1] M none o := by
  refine y_ok (by decide +kernel) (Nat.le_of_ble_eq_true rfl) (L0 := [some (.ref 66), some (.int a1)]) rfl ?_
  have hk := mR_mQ none o
  generalize mQ _ _ = Q at hk ⊢
  unfold f_mo_puts at hf
  refine y_aload_n (i := 0) (n := 1) ⟨dX12_puts_0, rfl⟩ rfl ?_
  refine y_getR (n := 4) ⟨dX12_puts_1, rfl⟩ kfX12_74 l_66 rfl r_66_36 ?_
  refine y_aload_n (i := 0) (n := 5) ⟨dX12_puts_4, rfl⟩ rfl ?_
  refine y_getI (n := 8) ⟨dX12_puts_5, rfl⟩ kfX12_290 l_66 rfl ?_
  refine y_iload_n (i := 1) (n := 9) ⟨dX12_puts_8, rfl⟩ rfl ?_
  obtain ⟨hg1, hf⟩ := g_s hf
  refine y_iastore (n := 10) ⟨dX12_puts_9, rfl⟩ l_88 hg1 ?_
  refine y_aload_n (i := 0) (n := 11) ⟨dX12_puts_10, rfl⟩ rfl ?_
  refine y_dup_r (n := 12) ⟨dX12_puts_11, rfl⟩ ?_
  refine y_getI (n := 15) ⟨dX12_puts_12, rfl⟩ kfX12_290 l_66 rfl ?_
  refine y_iconst (n := 16) (v := 1) ⟨dX12_puts_15, rfl⟩ ki_1 ?_
  refine y_iadd (n := 17) ⟨dX12_puts_16, rfl⟩ ?_
  refine y_putI (n := 20) ⟨dX12_puts_17, rfl⟩ kfX12_290 l_66 (by decide +kernel) rfl ?_
  cases hf
  exact y_return (n := 21) ⟨dX12_puts_20, rfl⟩ rfl hk
theorem c_mo_puts (a1 : Int32) (M : dM) {o : dM} {y : mz_M} {d : Nat} {Q : mz_P} {pc n i : Nat} {L : List (Option Value)} {st : List Value} (h : mz_d y.2.1 pc n 3 (.invokevirtual i)) (hl : mz_ml y.1.cls i yX12_puts) (hf : f_mo_puts a1 M = some o) (hd : 1 + 1 ≤ d) (hsm : (st.map (fun v => v.category)).sum ≤ 8) (hLr : mz_rL 133 L = true) (hSr : mz_rS 133 st = true) (kk : mW y d Q n L st o) : mW y d Q pc L (.int a1 :: .ref 66 :: st) M :=
  y_callV kmX12_puts kvX12_puts l_66 (by decide +kernel) (by decide +kernel) h hl (ok_mo_puts a1 M hf) (vs := [.int a1]) rfl rfl hd hsm hLr hSr kk
def K_mo_reads_11 (Q : mz_P)  : ((Int32 × Int32 × dM) ⊕ ((Int32 × dM) ⊕ (Bool × dM))) → Prop
  | .inl s => mW mX12_reads 3 Q 11 [some (.ref 66), some (.int s.1), some (.int s.2.1), none, none, none] [] s.2.2
  | .inr (.inl t) => mW mX12_reads 3 Q 399 [some (.ref 66), some (.int t.1), none, none, none, none] [] t.2
  | .inr (.inr r) => mR Q (some (.int (bI r.1))) r.2
noncomputable def b_mo_reads_11_424 (x1 : Int32) (x2 : Int32) (M : dM) : Option ((Int32 × Int32 × dM) ⊕ ((Int32 × dM) ⊕ (Bool × dM))) :=
  (f_mo_nextToken M).bind fun q9 =>
  some (.inl (x1, x2, q9))
noncomputable def b_mo_reads_11_237 (x1 : Int32) (y1 : Int32) (M : dM) : Option ((Int32 × Int32 × dM) ⊕ ((Int32 × dM) ⊕ (Bool × dM))) :=
  (f_mo_puts y1 M).bind fun q7 =>
  b_mo_reads_11_424 x1 1 q7
noncomputable def b_mo_reads_11_206 (x1 : Int32) (M : dM) : Option ((Int32 × Int32 × dM) ⊕ ((Int32 × dM) ⊕ (Bool × dM))) :=
  (f_mo_isSign 43 M).bind fun v3 =>
  if v3 = true then
    b_mo_reads_11_237 x1 20 M
  else
    (f_mo_isSign 45 M).bind fun v5 =>
    if v5 = true then
      b_mo_reads_11_237 x1 21 M
    else
      b_mo_reads_11_237 x1 22 M
noncomputable def b_mo_reads_11_342 (x1 : Int32) (y1 : Int32) (M : dM) : Option ((Int32 × Int32 × dM) ⊕ ((Int32 × dM) ⊕ (Bool × dM))) :=
  (f_mo_puts y1 M).bind fun q18 =>
  gd (vp_in x1 7) <|
  b_mo_reads_11_424 x1 1 (sI q18 90 x1.toNatClampNeg 0)
noncomputable def b_mo_reads_11_324 (x1 : Int32) (M : dM) : Option ((Int32 × Int32 × dM) ⊕ ((Int32 × dM) ⊕ (Bool × dM))) :=
  if (f_mo_isWord 1111 M) = true then
    b_mo_reads_11_342 x1 26 M
  else
    b_mo_reads_11_342 x1 27 M
def K_mo_reads_379 (Q : mz_P) (x2 : Int32) (M : dM) : (Int32 ⊕ Int32) → Prop
  | .inl s => mW mX12_reads 3 Q 379 [some (.ref 66), some (.int s), some (.int x2), none, none, none] [] M
  | .inr t => mW mX12_reads 3 Q 424 [some (.ref 66), some (.int t), some (.int x2), none, none, none] [] M
noncomputable def b_mo_reads_379_379 (x1 : Int32) (x2 : Int32) (M : dM) : Option (Int32 ⊕ Int32) :=
  if x1 ≤ 0 then
    some (.inr x1)
  else
    gd (vp_in x1 7) <|
    if (gI M 89 x1.toNatClampNeg) = 1 then
      some (.inl (x1 + (-1)))
    else
      some (.inr x1)
noncomputable def l_mo_reads_379 (x1 : Int32) (x2 : Int32) (M : dM) : Option Int32 := lpc (fun s => b_mo_reads_379_379 s x2 M) x1
noncomputable def b_mo_reads_11_304 (x1 : Int32) (x2 : Int32) (M : dM) : Option ((Int32 × Int32 × dM) ⊕ ((Int32 × dM) ⊕ (Bool × dM))) :=
  if (f_mo_isWord 1111 M) = true then
    b_mo_reads_11_324 x1 M
  else
    if (f_mo_isWord 423 M) = true then
      b_mo_reads_11_324 x1 M
    else
      (f_mo_isSign 41 M).bind fun v21 =>
      if v21 = true then
        if x1 ≤ 0 then
          some (.inr (.inl (x1, M)))
        else
          (f_mo_puts 29 M).bind fun q23 =>
          (l_mo_reads_379 (x1 + (-1)) x2 q23).bind fun t26 =>
            b_mo_reads_11_424 t26 x2 q23
      else
        some (.inr (.inl (x1, M)))
noncomputable def b_mo_reads_11_289 (x1 : Int32) (y1 : Int32) (M : dM) : Option ((Int32 × Int32 × dM) ⊕ ((Int32 × dM) ⊕ (Bool × dM))) :=
  (f_mo_puts y1 M).bind fun q31 =>
  gd (vp_in x1 7) <|
  b_mo_reads_11_424 x1 1 (sI q31 90 x1.toNatClampNeg 1)
noncomputable def b_mo_reads_11_263 (x1 : Int32) (x2 : Int32) (M : dM) : Option ((Int32 × Int32 × dM) ⊕ ((Int32 × dM) ⊕ (Bool × dM))) :=
  gd (vp_in x1 7) <|
  if (gI M 90 x1.toNatClampNeg) = 0 then
    (f_mo_isSign 60 M).bind fun v29 =>
    if v29 = true then
      b_mo_reads_11_289 x1 24 M
    else
      b_mo_reads_11_289 x1 25 M
  else
    b_mo_reads_11_304 x1 x2 M
noncomputable def b_mo_reads_11_172 (x1 : Int32) (x2 : Int32) (M : dM) : Option ((Int32 × Int32 × dM) ⊕ ((Int32 × dM) ⊕ (Bool × dM))) :=
  (f_mo_nextToken M).bind fun q42 =>
  some (.inl (x1, x2, q42))
noncomputable def b_mo_reads_11_120 (x1 : Int32) (x2 : Int32) (y1 : Int32) (y2 : Int32) (M : dM) : Option ((Int32 × Int32 × dM) ⊕ ((Int32 × dM) ⊕ (Bool × dM))) :=
  gd (vp_in y1 7) <|
  gd (vp_in x1 7) <|
  b_mo_reads_11_172 x1 x2 (sI (sI M 89 y1.toNatClampNeg y2) 90 x1.toNatClampNeg 0)
noncomputable def b_mo_reads_11_99 (x1 : Int32) (x2 : Int32) (x4 : Int32) (y1 : Int32) (M : dM) : Option ((Int32 × Int32 × dM) ⊕ ((Int32 × dM) ⊕ (Bool × dM))) :=
  (f_mo_puts y1 M).bind fun q38 =>
  if x4 = 0 then
    b_mo_reads_11_120 (x1 + 1) x2 (x1 + 1) 2 q38
  else
    b_mo_reads_11_120 (x1 + 1) x2 (x1 + 1) 1 q38
noncomputable def b_mo_reads_11_86 (x1 : Int32) (x2 : Int32) (x4 : Int32) (M : dM) : Option ((Int32 × Int32 × dM) ⊕ ((Int32 × dM) ⊕ (Bool × dM))) :=
  if x4 = 0 then
    b_mo_reads_11_99 x1 x2 x4 28 M
  else
    b_mo_reads_11_99 x1 x2 x4 30 M
def K_mo_reads_152 (Q : mz_P) (x2 : Int32) (M : dM) : (Int32 ⊕ Int32) → Prop
  | .inl s => mW mX12_reads 3 Q 152 [some (.ref 66), some (.int s), some (.int x2), none, none, none] [] M
  | .inr t => mW mX12_reads 3 Q 172 [some (.ref 66), some (.int t), some (.int x2), none, none, none] [] M
noncomputable def b_mo_reads_152_152 (x1 : Int32) (x2 : Int32) (M : dM) : Option (Int32 ⊕ Int32) :=
  if x1 ≤ 0 then
    some (.inr x1)
  else
    gd (vp_in x1 7) <|
    if (gI M 89 x1.toNatClampNeg) = 1 then
      some (.inl (x1 + (-1)))
    else
      some (.inr x1)
noncomputable def l_mo_reads_152 (x1 : Int32) (x2 : Int32) (M : dM) : Option Int32 := lpc (fun s => b_mo_reads_152_152 s x2 M) x1
noncomputable def b_mo_reads_11_147 (x1 : Int32) (y1 : Int32) (M : dM) : Option ((Int32 × Int32 × dM) ⊕ ((Int32 × dM) ⊕ (Bool × dM))) :=
  (f_mo_puts y1 M).bind fun q44 =>
  (l_mo_reads_152 x1 0 q44).bind fun t47 =>
    b_mo_reads_11_172 t47 0 q44
noncomputable def b_mo_reads_11_65 (x1 : Int32) (x2 : Int32) (x3 : Int32) (x4 : Int32) (x5 : Int32) (M : dM) : Option ((Int32 × Int32 × dM) ⊕ ((Int32 × dM) ⊕ (Bool × dM))) :=
  if x1 = 5 then
    some (.inr (.inr (((f_mo_fails 5 M).1), (f_mo_fails 5 M).2)))
  else
    if x4 = 0 then
      if x5 = 0 then
        if x3 ≤ 0 then
          b_mo_reads_11_147 x1 (100 + (gI M 66 24)) M
        else
          b_mo_reads_11_147 x1 x3 M
      else
        b_mo_reads_11_86 x1 x2 x4 M
    else
      b_mo_reads_11_86 x1 x2 x4 M
noncomputable def b_mo_reads_11_11 (x1 : Int32) (x2 : Int32) (M : dM) : Option ((Int32 × Int32 × dM) ⊕ ((Int32 × dM) ⊕ (Bool × dM))) :=
  if x2 = 0 then
    (f_mo_isSign 43 M).bind fun v1 =>
    if v1 = true then
      b_mo_reads_11_206 x1 M
    else
      (f_mo_isSign 45 M).bind fun v11 =>
      if v11 = true then
        b_mo_reads_11_206 x1 M
      else
        (f_mo_isSign 42 M).bind fun v13 =>
        if v13 = true then
          b_mo_reads_11_206 x1 M
        else
          (f_mo_isSign 60 M).bind fun v15 =>
          if v15 = true then
            b_mo_reads_11_263 x1 x2 M
          else
            (f_mo_isSign 61 M).bind fun v34 =>
            if v34 = true then
              b_mo_reads_11_263 x1 x2 M
            else
              b_mo_reads_11_304 x1 x2 M
  else
    (f_mo_isSign 40 M).bind fun v36 =>
    if (f_mo_fact0 M) = 0 then
      if (f_mo_isWord 10631 M) = true then
        b_mo_reads_11_65 x1 x2 (f_mo_fact0 M) (bI (f_mo_isWord 10631 M)) (bI v36) M
      else
        if v36 = true then
          b_mo_reads_11_65 x1 x2 (f_mo_fact0 M) (bI (f_mo_isWord 10631 M)) (bI v36) M
        else
          if (gI M 66 22) = 2 then
            b_mo_reads_11_65 x1 x2 (f_mo_fact0 M) (bI (f_mo_isWord 10631 M)) (bI v36) M
          else
            some (.inr (.inr (((f_mo_fails 1 M).1), (f_mo_fails 1 M).2)))
    else
      b_mo_reads_11_65 x1 x2 (f_mo_fact0 M) (bI (f_mo_isWord 10631 M)) (bI v36) M
noncomputable def l_mo_reads_11 (x1 : Int32) (x2 : Int32) (M : dM) : Option ((Int32 × dM) ⊕ (Bool × dM)) := lpc (fun s => b_mo_reads_11_11 s.1 s.2.1 s.2.2) (x1, x2, M)
noncomputable def t_mo_reads_418 (M : dM) : Option (Bool × dM) :=
  some (((f_mo_fails 1 M).1), (f_mo_fails 1 M).2)
noncomputable def t_mo_reads_399 (x1 : Int32) (M : dM) : Option (Bool × dM) :=
  if x1 = 0 then
    (f_mo_isSign 59 M).bind fun v56 =>
    if v56 = true then
      (f_mo_nextToken M).bind fun q58 =>
      some (true, q58)
    else
      t_mo_reads_418 M
  else
    t_mo_reads_418 M
noncomputable def f_mo_reads (M : dM) : Option (Bool × dM) :=
  (l_mo_reads_11 0 1 (sI M 90 0 0)).bind (Sum.elim (fun t52 =>
      t_mo_reads_399 t52.1 t52.2
    ) (fun r54 => some r54))
theorem w_b_mo_reads_11_424 (x1 : Int32) (x2 : Int32)  (M : dM) {Q : mz_P} {o : ((Int32 × Int32 × dM) ⊕ ((Int32 × dM) ⊕ (Bool × dM)))} (hf : b_mo_reads_11_424 x1 x2 M = some o) (hk : K_mo_reads_11 Q  o) : mW mX12_reads 3 Q 424 [some (.ref 66), some (.int x1), some (.int x2), none, none, none] [] M := by
  unfold b_mo_reads_11_424 at hf
  refine y_aload_n (i := 0) (n := 425) ⟨dX12_reads_424, rfl⟩ rfl ?_
  obtain ⟨q9, hv10, hf⟩ := b_s hf
  refine c_mo_nextToken M (n := 428) ⟨dX12_reads_425, rfl⟩ klX12_373 hv10 (by decide) (Nat.le_of_ble_eq_true rfl) rfl rfl ?_
  refine y_goto (t := 11) ⟨dX12_reads_428, rfl, rfl⟩ ?_
  cases hf
  exact y_wk (L2 := [some (.ref 66), some (.int x1), some (.int x2), none, none, none]) ⟨Or.inr rfl, Or.inr rfl, Or.inr rfl, Or.inr rfl, Or.inr rfl, Or.inr rfl, trivial⟩ hk
theorem w_b_mo_reads_11_237 (x1 : Int32) (y1 : Int32)  (M : dM) {Q : mz_P} {o : ((Int32 × Int32 × dM) ⊕ ((Int32 × dM) ⊕ (Bool × dM)))} (hf : b_mo_reads_11_237 x1 y1 M = some o) (hk : K_mo_reads_11 Q  o) : mW mX12_reads 3 Q 237 [some (.ref 66), some (.int x1), none, none, none, none] [.int y1, .ref 66] M := by
  unfold b_mo_reads_11_237 at hf
  obtain ⟨q7, hv8, hf⟩ := b_s hf
  refine c_mo_puts y1 M (n := 240) ⟨dX12_reads_237, rfl⟩ klX12_369 hv8 (by decide) (Nat.le_of_ble_eq_true rfl) rfl rfl ?_
  refine y_iconst (n := 241) (v := 1) ⟨dX12_reads_240, rfl⟩ ki_1 ?_
  refine y_istore_n (i := 2) (n := 242) (L2 := [some (.ref 66), some (.int x1), some (.int 1), none, none, none]) ⟨dX12_reads_241, rfl⟩ (by decide) rfl rfl ?_
  refine y_goto (t := 424) ⟨dX12_reads_242, rfl, rfl⟩ ?_
  exact y_wk (L2 := [some (.ref 66), some (.int x1), some (.int 1), none, none, none]) ⟨Or.inr rfl, Or.inr rfl, Or.inr rfl, Or.inr rfl, Or.inr rfl, Or.inr rfl, trivial⟩ (w_b_mo_reads_11_424 x1 1 q7 hf hk)
theorem w_b_mo_reads_11_206 (x1 : Int32)  (M : dM) {Q : mz_P} {o : ((Int32 × Int32 × dM) ⊕ ((Int32 × dM) ⊕ (Bool × dM)))} (hf : b_mo_reads_11_206 x1 M = some o) (hk : K_mo_reads_11 Q  o) : mW mX12_reads 3 Q 206 [some (.ref 66), some (.int x1), none, none, none, none] [] M := by
  unfold b_mo_reads_11_206 at hf
  refine y_aload_n (i := 0) (n := 207) ⟨dX12_reads_206, rfl⟩ rfl ?_
  refine y_aload_n (i := 0) (n := 208) ⟨dX12_reads_207, rfl⟩ rfl ?_
  refine y_bipush (n := 210) (v := 43) ⟨dX12_reads_208, rfl⟩ kb_43 ?_
  obtain ⟨v3, hv4, hf⟩ := b_s hf
  refine c_mo_isSign 43 M (n := 213) ⟨dX12_reads_210, rfl⟩ klX12_363 hv4 (by decide) (Nat.le_of_ble_eq_true rfl) rfl rfl ?_
  refine y_if_eq (t := 221) (n := 216) ⟨dX12_reads_213, rfl, rfl⟩ (fun h0 => ?_) (fun h0 => ?_)
  · have hc := bI_0 h0
    replace hf := i_f hc hf
    refine y_aload_n (i := 0) (n := 222) ⟨dX12_reads_221, rfl⟩ rfl ?_
    refine y_bipush (n := 224) (v := 45) ⟨dX12_reads_222, rfl⟩ kb_45 ?_
    obtain ⟨v5, hv6, hf⟩ := b_s hf
    refine c_mo_isSign 45 M (n := 227) ⟨dX12_reads_224, rfl⟩ klX12_363 hv6 (by decide) (Nat.le_of_ble_eq_true rfl) rfl rfl ?_
    refine y_if_eq (t := 235) (n := 230) ⟨dX12_reads_227, rfl, rfl⟩ (fun h0 => ?_) (fun h0 => ?_)
    · have hc := bI_0 h0
      replace hf := i_f hc hf
      refine y_bipush (n := 237) (v := 22) ⟨dX12_reads_235, rfl⟩ kb_22 ?_
      exact y_wk (L2 := [some (.ref 66), some (.int x1), none, none, none, none]) ⟨Or.inr rfl, Or.inr rfl, Or.inr rfl, Or.inr rfl, Or.inr rfl, Or.inr rfl, trivial⟩ (w_b_mo_reads_11_237 x1 22 M hf hk)
    · have hc := bI_1 h0
      replace hf := i_t hc hf
      refine y_bipush (n := 232) (v := 21) ⟨dX12_reads_230, rfl⟩ kb_21 ?_
      refine y_goto (t := 237) ⟨dX12_reads_232, rfl, rfl⟩ ?_
      exact y_wk (L2 := [some (.ref 66), some (.int x1), none, none, none, none]) ⟨Or.inr rfl, Or.inr rfl, Or.inr rfl, Or.inr rfl, Or.inr rfl, Or.inr rfl, trivial⟩ (w_b_mo_reads_11_237 x1 21 M hf hk)
  · have hc := bI_1 h0
    replace hf := i_t hc hf
    refine y_bipush (n := 218) (v := 20) ⟨dX12_reads_216, rfl⟩ kb_20 ?_
    refine y_goto (t := 237) ⟨dX12_reads_218, rfl, rfl⟩ ?_
    exact y_wk (L2 := [some (.ref 66), some (.int x1), none, none, none, none]) ⟨Or.inr rfl, Or.inr rfl, Or.inr rfl, Or.inr rfl, Or.inr rfl, Or.inr rfl, trivial⟩ (w_b_mo_reads_11_237 x1 20 M hf hk)
theorem w_b_mo_reads_11_342 (x1 : Int32) (y1 : Int32)  (M : dM) {Q : mz_P} {o : ((Int32 × Int32 × dM) ⊕ ((Int32 × dM) ⊕ (Bool × dM)))} (hf : b_mo_reads_11_342 x1 y1 M = some o) (hk : K_mo_reads_11 Q  o) : mW mX12_reads 3 Q 342 [some (.ref 66), some (.int x1), none, none, none, none] [.int y1, .ref 66] M := by
  unfold b_mo_reads_11_342 at hf
  obtain ⟨q18, hv19, hf⟩ := b_s hf
  refine c_mo_puts y1 M (n := 345) ⟨dX12_reads_342, rfl⟩ klX12_369 hv19 (by decide) (Nat.le_of_ble_eq_true rfl) rfl rfl ?_
  refine y_aload_n (i := 0) (n := 346) ⟨dX12_reads_345, rfl⟩ rfl ?_
  refine y_getR (n := 349) ⟨dX12_reads_346, rfl⟩ kfX12_80 l_66 rfl r_66_40 ?_
  refine y_iload_n (i := 1) (n := 350) ⟨dX12_reads_349, rfl⟩ rfl ?_
  refine y_iconst (n := 351) (v := 0) ⟨dX12_reads_350, rfl⟩ ki_0 ?_
  obtain ⟨hg20, hf⟩ := g_s hf
  refine y_bastore (x' := 0) (n := 352) ⟨dX12_reads_351, rfl⟩ l_90 hg20 rfl ?_
  refine y_iconst (n := 353) (v := 1) ⟨dX12_reads_352, rfl⟩ ki_1 ?_
  refine y_istore_n (i := 2) (n := 354) (L2 := [some (.ref 66), some (.int x1), some (.int 1), none, none, none]) ⟨dX12_reads_353, rfl⟩ (by decide) rfl rfl ?_
  refine y_goto (t := 424) ⟨dX12_reads_354, rfl, rfl⟩ ?_
  exact y_wk (L2 := [some (.ref 66), some (.int x1), some (.int 1), none, none, none]) ⟨Or.inr rfl, Or.inr rfl, Or.inr rfl, Or.inr rfl, Or.inr rfl, Or.inr rfl, trivial⟩ (w_b_mo_reads_11_424 x1 1 (sI q18 90 x1.toNatClampNeg 0) hf hk)
theorem w_b_mo_reads_11_324 (x1 : Int32)  (M : dM) {Q : mz_P} {o : ((Int32 × Int32 × dM) ⊕ ((Int32 × dM) ⊕ (Bool × dM)))} (hf : b_mo_reads_11_324 x1 M = some o) (hk : K_mo_reads_11 Q  o) : mW mX12_reads 3 Q 324 [some (.ref 66), some (.int x1), none, none, none, none] [] M := by
  unfold b_mo_reads_11_324 at hf
  refine y_aload_n (i := 0) (n := 325) ⟨dX12_reads_324, rfl⟩ rfl ?_
  refine y_aload_n (i := 0) (n := 326) ⟨dX12_reads_325, rfl⟩ rfl ?_
  refine y_ldc2 (n := 329) ⟨dX12_reads_326, rfl⟩ kcX12_376 ?_
  refine c_mo_isWord 1111 M (n := 332) ⟨dX12_reads_329, rfl⟩ klX12_359 rfl (by decide) (Nat.le_of_ble_eq_true rfl) rfl rfl ?_
  refine y_if_eq (t := 340) (n := 335) ⟨dX12_reads_332, rfl, rfl⟩ (fun h0 => ?_) (fun h0 => ?_)
  · have hc := bI_0 h0
    replace hf := i_f hc hf
    refine y_bipush (n := 342) (v := 27) ⟨dX12_reads_340, rfl⟩ kb_27 ?_
    exact y_wk (L2 := [some (.ref 66), some (.int x1), none, none, none, none]) ⟨Or.inr rfl, Or.inr rfl, Or.inr rfl, Or.inr rfl, Or.inr rfl, Or.inr rfl, trivial⟩ (w_b_mo_reads_11_342 x1 27 M hf hk)
  · have hc := bI_1 h0
    replace hf := i_t hc hf
    refine y_bipush (n := 337) (v := 26) ⟨dX12_reads_335, rfl⟩ kb_26 ?_
    refine y_goto (t := 342) ⟨dX12_reads_337, rfl, rfl⟩ ?_
    exact y_wk (L2 := [some (.ref 66), some (.int x1), none, none, none, none]) ⟨Or.inr rfl, Or.inr rfl, Or.inr rfl, Or.inr rfl, Or.inr rfl, Or.inr rfl, trivial⟩ (w_b_mo_reads_11_342 x1 26 M hf hk)
theorem w_b_mo_reads_379_379 (x1 : Int32) (x2 : Int32)  (M : dM) {Q : mz_P} {o : (Int32 ⊕ Int32)} (hf : b_mo_reads_379_379 x1 x2 M = some o) (hk : K_mo_reads_379 Q x2 M o) : mW mX12_reads 3 Q 379 [some (.ref 66), some (.int x1), some (.int x2), none, none, none] [] M := by
  unfold b_mo_reads_379_379 at hf
  refine y_iload_n (i := 1) (n := 380) ⟨dX12_reads_379, rfl⟩ rfl ?_
  refine y_if_le (t := 424) (n := 383) ⟨dX12_reads_380, rfl, rfl⟩ (fun (hc : x1 ≤ 0) => ?_) (fun (hc : ¬ (x1 ≤ 0)) => ?_)
  · replace hf := i_t hc hf
    cases hf
    exact y_wk (L2 := [some (.ref 66), some (.int x1), some (.int x2), none, none, none]) ⟨Or.inr rfl, Or.inr rfl, Or.inr rfl, Or.inr rfl, Or.inr rfl, Or.inr rfl, trivial⟩ hk
  · replace hf := i_f hc hf
    refine y_aload_n (i := 0) (n := 384) ⟨dX12_reads_383, rfl⟩ rfl ?_
    refine y_getR (n := 387) ⟨dX12_reads_384, rfl⟩ kfX12_77 l_66 rfl r_66_39 ?_
    refine y_iload_n (i := 1) (n := 388) ⟨dX12_reads_387, rfl⟩ rfl ?_
    obtain ⟨hg25, hf⟩ := g_s hf
    refine y_iaload (n := 389) ⟨dX12_reads_388, rfl⟩ l_89 hg25 ?_
    refine y_iconst (n := 390) (v := 1) ⟨dX12_reads_389, rfl⟩ ki_1 ?_
    refine y_icmp_ne (t := 424) (n := 393) ⟨dX12_reads_390, rfl, rfl⟩ (fun (hc : ¬ ((gI M 89 x1.toNatClampNeg) = 1)) => ?_) (fun (hc : (gI M 89 x1.toNatClampNeg) = 1) => ?_)
    · replace hf := i_f hc hf
      cases hf
      exact y_wk (L2 := [some (.ref 66), some (.int x1), some (.int x2), none, none, none]) ⟨Or.inr rfl, Or.inr rfl, Or.inr rfl, Or.inr rfl, Or.inr rfl, Or.inr rfl, trivial⟩ hk
    · replace hf := i_t hc hf
      refine y_iinc (i := 1) (n := 396) (b := (x1 + (-1))) (L2 := [some (.ref 66), some (.int (x1 + (-1))), some (.int x2), none, none, none]) ⟨dX12_reads_393, rfl⟩ rfl (by rw [ki_m1]) (by decide) rfl rfl ?_
      refine y_goto (t := 379) ⟨dX12_reads_396, rfl, rfl⟩ ?_
      cases hf
      exact y_wk (L2 := [some (.ref 66), some (.int (x1 + (-1))), some (.int x2), none, none, none]) ⟨Or.inr rfl, Or.inr rfl, Or.inr rfl, Or.inr rfl, Or.inr rfl, Or.inr rfl, trivial⟩ hk
theorem wl_mo_reads_379 (x1 : Int32) (x2 : Int32) (M : dM) {Q : mz_P} {x : Int32} (hf : l_mo_reads_379 x1 x2 M = some x) (hk : K_mo_reads_379 Q x2 M (.inr x)) : mW mX12_reads 3 Q 379 [some (.ref 66), some (.int x1), some (.int x2), none, none, none] [] M :=
  lpc_wp (σ := Int32) (ξ := Int32) (s := x1) (Wh := fun s => mW mX12_reads 3 Q 379 [some (.ref 66), some (.int s), some (.int x2), none, none, none] [] M) (K := K_mo_reads_379 Q x2 M) (fun _ h => h) (fun s o hb hk => w_b_mo_reads_379_379 s x2 M hb hk) hf hk
theorem w_b_mo_reads_11_304 (x1 : Int32) (x2 : Int32)  (M : dM) {Q : mz_P} {o : ((Int32 × Int32 × dM) ⊕ ((Int32 × dM) ⊕ (Bool × dM)))} (hf : b_mo_reads_11_304 x1 x2 M = some o) (hk : K_mo_reads_11 Q  o) : mW mX12_reads 3 Q 304 [some (.ref 66), some (.int x1), some (.int x2), none, none, none] [] M := by
  unfold b_mo_reads_11_304 at hf
  refine y_aload_n (i := 0) (n := 305) ⟨dX12_reads_304, rfl⟩ rfl ?_
  refine y_ldc2 (n := 308) ⟨dX12_reads_305, rfl⟩ kcX12_376 ?_
  refine c_mo_isWord 1111 M (n := 311) ⟨dX12_reads_308, rfl⟩ klX12_359 rfl (by decide) (Nat.le_of_ble_eq_true rfl) rfl rfl ?_
  refine y_if_ne (t := 324) (n := 314) ⟨dX12_reads_311, rfl, rfl⟩ (fun h0 => ?_) (fun h0 => ?_)
  · have hc := bI_1 h0
    replace hf := i_t hc hf
    exact y_wk (L2 := [some (.ref 66), some (.int x1), none, none, none, none]) ⟨Or.inr rfl, Or.inr rfl, Or.inl rfl, Or.inr rfl, Or.inr rfl, Or.inr rfl, trivial⟩ (w_b_mo_reads_11_324 x1 M hf hk)
  · have hc := bI_0 h0
    replace hf := i_f hc hf
    refine y_aload_n (i := 0) (n := 315) ⟨dX12_reads_314, rfl⟩ rfl ?_
    refine y_ldc2 (n := 318) ⟨dX12_reads_315, rfl⟩ kcX12_378 ?_
    refine c_mo_isWord 423 M (n := 321) ⟨dX12_reads_318, rfl⟩ klX12_359 rfl (by decide) (Nat.le_of_ble_eq_true rfl) rfl rfl ?_
    refine y_if_eq (t := 357) (n := 324) ⟨dX12_reads_321, rfl, rfl⟩ (fun h0 => ?_) (fun h0 => ?_)
    · have hc := bI_0 h0
      replace hf := i_f hc hf
      refine y_aload_n (i := 0) (n := 358) ⟨dX12_reads_357, rfl⟩ rfl ?_
      refine y_bipush (n := 360) (v := 41) ⟨dX12_reads_358, rfl⟩ kb_41 ?_
      obtain ⟨v21, hv22, hf⟩ := b_s hf
      refine c_mo_isSign 41 M (n := 363) ⟨dX12_reads_360, rfl⟩ klX12_363 hv22 (by decide) (Nat.le_of_ble_eq_true rfl) rfl rfl ?_
      refine y_if_eq (t := 399) (n := 366) ⟨dX12_reads_363, rfl, rfl⟩ (fun h0 => ?_) (fun h0 => ?_)
      · have hc := bI_0 h0
        replace hf := i_f hc hf
        cases hf
        exact y_wk (L2 := [some (.ref 66), some (.int x1), none, none, none, none]) ⟨Or.inr rfl, Or.inr rfl, Or.inl rfl, Or.inr rfl, Or.inr rfl, Or.inr rfl, trivial⟩ hk
      · have hc := bI_1 h0
        replace hf := i_t hc hf
        refine y_iload_n (i := 1) (n := 367) ⟨dX12_reads_366, rfl⟩ rfl ?_
        refine y_if_le (t := 399) (n := 370) ⟨dX12_reads_367, rfl, rfl⟩ (fun (hc : x1 ≤ 0) => ?_) (fun (hc : ¬ (x1 ≤ 0)) => ?_)
        · replace hf := i_t hc hf
          cases hf
          exact y_wk (L2 := [some (.ref 66), some (.int x1), none, none, none, none]) ⟨Or.inr rfl, Or.inr rfl, Or.inl rfl, Or.inr rfl, Or.inr rfl, Or.inr rfl, trivial⟩ hk
        · replace hf := i_f hc hf
          refine y_aload_n (i := 0) (n := 371) ⟨dX12_reads_370, rfl⟩ rfl ?_
          refine y_bipush (n := 373) (v := 29) ⟨dX12_reads_371, rfl⟩ kb_29 ?_
          obtain ⟨q23, hv24, hf⟩ := b_s hf
          refine c_mo_puts 29 M (n := 376) ⟨dX12_reads_373, rfl⟩ klX12_369 hv24 (by decide) (Nat.le_of_ble_eq_true rfl) rfl rfl ?_
          refine y_iinc (i := 1) (n := 379) (b := (x1 + (-1))) (L2 := [some (.ref 66), some (.int (x1 + (-1))), some (.int x2), none, none, none]) ⟨dX12_reads_376, rfl⟩ rfl (by rw [ki_m1]) (by decide) rfl rfl ?_
          obtain ⟨t26, hl27, hf⟩ := b_s hf
          refine y_wk (L2 := [some (.ref 66), some (.int (x1 + (-1))), some (.int x2), none, none, none]) ⟨Or.inr rfl, Or.inr rfl, Or.inr rfl, Or.inr rfl, Or.inr rfl, Or.inr rfl, trivial⟩ (wl_mo_reads_379 (x1 + (-1)) x2 q23 hl27 ?_)
          show mW mX12_reads 3 Q 424 [some (.ref 66), some (.int t26), some (.int x2), none, none, none] [] q23
          exact y_wk (L2 := [some (.ref 66), some (.int t26), some (.int x2), none, none, none]) ⟨Or.inr rfl, Or.inr rfl, Or.inr rfl, Or.inr rfl, Or.inr rfl, Or.inr rfl, trivial⟩ (w_b_mo_reads_11_424 t26 x2 q23 hf hk)
    · have hc := bI_1 h0
      replace hf := i_t hc hf
      exact y_wk (L2 := [some (.ref 66), some (.int x1), none, none, none, none]) ⟨Or.inr rfl, Or.inr rfl, Or.inl rfl, Or.inr rfl, Or.inr rfl, Or.inr rfl, trivial⟩ (w_b_mo_reads_11_324 x1 M hf hk)
theorem w_b_mo_reads_11_289 (x1 : Int32) (y1 : Int32)  (M : dM) {Q : mz_P} {o : ((Int32 × Int32 × dM) ⊕ ((Int32 × dM) ⊕ (Bool × dM)))} (hf : b_mo_reads_11_289 x1 y1 M = some o) (hk : K_mo_reads_11 Q  o) : mW mX12_reads 3 Q 289 [some (.ref 66), some (.int x1), none, none, none, none] [.int y1, .ref 66] M := by
  unfold b_mo_reads_11_289 at hf
  obtain ⟨q31, hv32, hf⟩ := b_s hf
  refine c_mo_puts y1 M (n := 292) ⟨dX12_reads_289, rfl⟩ klX12_369 hv32 (by decide) (Nat.le_of_ble_eq_true rfl) rfl rfl ?_
  refine y_aload_n (i := 0) (n := 293) ⟨dX12_reads_292, rfl⟩ rfl ?_
  refine y_getR (n := 296) ⟨dX12_reads_293, rfl⟩ kfX12_80 l_66 rfl r_66_40 ?_
  refine y_iload_n (i := 1) (n := 297) ⟨dX12_reads_296, rfl⟩ rfl ?_
  refine y_iconst (n := 298) (v := 1) ⟨dX12_reads_297, rfl⟩ ki_1 ?_
  obtain ⟨hg33, hf⟩ := g_s hf
  refine y_bastore (x' := 1) (n := 299) ⟨dX12_reads_298, rfl⟩ l_90 hg33 rfl ?_
  refine y_iconst (n := 300) (v := 1) ⟨dX12_reads_299, rfl⟩ ki_1 ?_
  refine y_istore_n (i := 2) (n := 301) (L2 := [some (.ref 66), some (.int x1), some (.int 1), none, none, none]) ⟨dX12_reads_300, rfl⟩ (by decide) rfl rfl ?_
  refine y_goto (t := 424) ⟨dX12_reads_301, rfl, rfl⟩ ?_
  exact y_wk (L2 := [some (.ref 66), some (.int x1), some (.int 1), none, none, none]) ⟨Or.inr rfl, Or.inr rfl, Or.inr rfl, Or.inr rfl, Or.inr rfl, Or.inr rfl, trivial⟩ (w_b_mo_reads_11_424 x1 1 (sI q31 90 x1.toNatClampNeg 1) hf hk)
theorem w_b_mo_reads_11_263 (x1 : Int32) (x2 : Int32)  (M : dM) {Q : mz_P} {o : ((Int32 × Int32 × dM) ⊕ ((Int32 × dM) ⊕ (Bool × dM)))} (hf : b_mo_reads_11_263 x1 x2 M = some o) (hk : K_mo_reads_11 Q  o) : mW mX12_reads 3 Q 263 [some (.ref 66), some (.int x1), some (.int x2), none, none, none] [] M := by
  unfold b_mo_reads_11_263 at hf
  refine y_aload_n (i := 0) (n := 264) ⟨dX12_reads_263, rfl⟩ rfl ?_
  refine y_getR (n := 267) ⟨dX12_reads_264, rfl⟩ kfX12_80 l_66 rfl r_66_40 ?_
  refine y_iload_n (i := 1) (n := 268) ⟨dX12_reads_267, rfl⟩ rfl ?_
  obtain ⟨hg17, hf⟩ := g_s hf
  refine y_baload (n := 269) ⟨dX12_reads_268, rfl⟩ l_90 hg17 ?_
  refine y_if_ne (t := 304) (n := 272) ⟨dX12_reads_269, rfl, rfl⟩ (fun (hc : ¬ ((gI M 90 x1.toNatClampNeg) = 0)) => ?_) (fun (hc : (gI M 90 x1.toNatClampNeg) = 0) => ?_)
  · replace hf := i_f hc hf
    exact y_wk (L2 := [some (.ref 66), some (.int x1), some (.int x2), none, none, none]) ⟨Or.inr rfl, Or.inr rfl, Or.inr rfl, Or.inr rfl, Or.inr rfl, Or.inr rfl, trivial⟩ (w_b_mo_reads_11_304 x1 x2 M hf hk)
  · replace hf := i_t hc hf
    refine y_aload_n (i := 0) (n := 273) ⟨dX12_reads_272, rfl⟩ rfl ?_
    refine y_aload_n (i := 0) (n := 274) ⟨dX12_reads_273, rfl⟩ rfl ?_
    refine y_bipush (n := 276) (v := 60) ⟨dX12_reads_274, rfl⟩ kb_60 ?_
    obtain ⟨v29, hv30, hf⟩ := b_s hf
    refine c_mo_isSign 60 M (n := 279) ⟨dX12_reads_276, rfl⟩ klX12_363 hv30 (by decide) (Nat.le_of_ble_eq_true rfl) rfl rfl ?_
    refine y_if_eq (t := 287) (n := 282) ⟨dX12_reads_279, rfl, rfl⟩ (fun h0 => ?_) (fun h0 => ?_)
    · have hc := bI_0 h0
      replace hf := i_f hc hf
      refine y_bipush (n := 289) (v := 25) ⟨dX12_reads_287, rfl⟩ kb_25 ?_
      exact y_wk (L2 := [some (.ref 66), some (.int x1), none, none, none, none]) ⟨Or.inr rfl, Or.inr rfl, Or.inl rfl, Or.inr rfl, Or.inr rfl, Or.inr rfl, trivial⟩ (w_b_mo_reads_11_289 x1 25 M hf hk)
    · have hc := bI_1 h0
      replace hf := i_t hc hf
      refine y_bipush (n := 284) (v := 24) ⟨dX12_reads_282, rfl⟩ kb_24 ?_
      refine y_goto (t := 289) ⟨dX12_reads_284, rfl, rfl⟩ ?_
      exact y_wk (L2 := [some (.ref 66), some (.int x1), none, none, none, none]) ⟨Or.inr rfl, Or.inr rfl, Or.inl rfl, Or.inr rfl, Or.inr rfl, Or.inr rfl, trivial⟩ (w_b_mo_reads_11_289 x1 24 M hf hk)
theorem w_b_mo_reads_11_172 (x1 : Int32) (x2 : Int32)  (M : dM) {Q : mz_P} {o : ((Int32 × Int32 × dM) ⊕ ((Int32 × dM) ⊕ (Bool × dM)))} (hf : b_mo_reads_11_172 x1 x2 M = some o) (hk : K_mo_reads_11 Q  o) : mW mX12_reads 3 Q 172 [some (.ref 66), some (.int x1), some (.int x2), none, none, none] [] M := by
  unfold b_mo_reads_11_172 at hf
  refine y_aload_n (i := 0) (n := 173) ⟨dX12_reads_172, rfl⟩ rfl ?_
  obtain ⟨q42, hv43, hf⟩ := b_s hf
  refine c_mo_nextToken M (n := 176) ⟨dX12_reads_173, rfl⟩ klX12_373 hv43 (by decide) (Nat.le_of_ble_eq_true rfl) rfl rfl ?_
  refine y_goto (t := 11) ⟨dX12_reads_176, rfl, rfl⟩ ?_
  cases hf
  exact y_wk (L2 := [some (.ref 66), some (.int x1), some (.int x2), none, none, none]) ⟨Or.inr rfl, Or.inr rfl, Or.inr rfl, Or.inr rfl, Or.inr rfl, Or.inr rfl, trivial⟩ hk
theorem w_b_mo_reads_11_120 (x1 : Int32) (x2 : Int32) (y1 : Int32) (y2 : Int32)  (M : dM) {Q : mz_P} {o : ((Int32 × Int32 × dM) ⊕ ((Int32 × dM) ⊕ (Bool × dM)))} (hf : b_mo_reads_11_120 x1 x2 y1 y2 M = some o) (hk : K_mo_reads_11 Q  o) : mW mX12_reads 3 Q 120 [some (.ref 66), some (.int x1), some (.int x2), none, none, none] [.int y2, .int y1, .ref 89] M := by
  unfold b_mo_reads_11_120 at hf
  obtain ⟨hg40, hf⟩ := g_s hf
  refine y_iastore (n := 121) ⟨dX12_reads_120, rfl⟩ l_89 hg40 ?_
  refine y_aload_n (i := 0) (n := 122) ⟨dX12_reads_121, rfl⟩ rfl ?_
  refine y_getR (n := 125) ⟨dX12_reads_122, rfl⟩ kfX12_80 l_66 rfl r_66_40 ?_
  refine y_iload_n (i := 1) (n := 126) ⟨dX12_reads_125, rfl⟩ rfl ?_
  refine y_iconst (n := 127) (v := 0) ⟨dX12_reads_126, rfl⟩ ki_0 ?_
  obtain ⟨hg41, hf⟩ := g_s hf
  refine y_bastore (x' := 0) (n := 128) ⟨dX12_reads_127, rfl⟩ l_90 hg41 rfl ?_
  refine y_goto (t := 172) ⟨dX12_reads_128, rfl, rfl⟩ ?_
  exact y_wk (L2 := [some (.ref 66), some (.int x1), some (.int x2), none, none, none]) ⟨Or.inr rfl, Or.inr rfl, Or.inr rfl, Or.inr rfl, Or.inr rfl, Or.inr rfl, trivial⟩ (w_b_mo_reads_11_172 x1 x2 (sI (sI M 89 y1.toNatClampNeg y2) 90 x1.toNatClampNeg 0) hf hk)
theorem w_b_mo_reads_11_99 (x1 : Int32) (x2 : Int32) (x4 : Int32) (y1 : Int32)  (M : dM) {Q : mz_P} {o : ((Int32 × Int32 × dM) ⊕ ((Int32 × dM) ⊕ (Bool × dM)))} (hf : b_mo_reads_11_99 x1 x2 x4 y1 M = some o) (hk : K_mo_reads_11 Q  o) : mW mX12_reads 3 Q 99 [some (.ref 66), some (.int x1), some (.int x2), none, some (.int x4), none] [.int y1, .ref 66] M := by
  unfold b_mo_reads_11_99 at hf
  obtain ⟨q38, hv39, hf⟩ := b_s hf
  refine c_mo_puts y1 M (n := 102) ⟨dX12_reads_99, rfl⟩ klX12_369 hv39 (by decide) (Nat.le_of_ble_eq_true rfl) rfl rfl ?_
  refine y_iinc (i := 1) (n := 105) (b := (x1 + 1)) (L2 := [some (.ref 66), some (.int (x1 + 1)), some (.int x2), none, some (.int x4), none]) ⟨dX12_reads_102, rfl⟩ rfl (by rw [ki_1]) (by decide) rfl rfl ?_
  refine y_aload_n (i := 0) (n := 106) ⟨dX12_reads_105, rfl⟩ rfl ?_
  refine y_getR (n := 109) ⟨dX12_reads_106, rfl⟩ kfX12_77 l_66 rfl r_66_39 ?_
  refine y_iload_n (i := 1) (n := 110) ⟨dX12_reads_109, rfl⟩ rfl ?_
  refine y_iload (i := 4) (n := 112) ⟨dX12_reads_110, rfl⟩ rfl ?_
  refine y_if_eq (t := 119) (n := 115) ⟨dX12_reads_112, rfl, rfl⟩ (fun (hc : x4 = 0) => ?_) (fun (hc : ¬ (x4 = 0)) => ?_)
  · replace hf := i_t hc hf
    refine y_iconst (n := 120) (v := 2) ⟨dX12_reads_119, rfl⟩ ki_2 ?_
    exact y_wk (L2 := [some (.ref 66), some (.int (x1 + 1)), some (.int x2), none, none, none]) ⟨Or.inr rfl, Or.inr rfl, Or.inr rfl, Or.inr rfl, Or.inl rfl, Or.inr rfl, trivial⟩ (w_b_mo_reads_11_120 (x1 + 1) x2 (x1 + 1) 2 q38 hf hk)
  · replace hf := i_f hc hf
    refine y_iconst (n := 116) (v := 1) ⟨dX12_reads_115, rfl⟩ ki_1 ?_
    refine y_goto (t := 120) ⟨dX12_reads_116, rfl, rfl⟩ ?_
    exact y_wk (L2 := [some (.ref 66), some (.int (x1 + 1)), some (.int x2), none, none, none]) ⟨Or.inr rfl, Or.inr rfl, Or.inr rfl, Or.inr rfl, Or.inl rfl, Or.inr rfl, trivial⟩ (w_b_mo_reads_11_120 (x1 + 1) x2 (x1 + 1) 1 q38 hf hk)
theorem w_b_mo_reads_11_86 (x1 : Int32) (x2 : Int32) (x4 : Int32)  (M : dM) {Q : mz_P} {o : ((Int32 × Int32 × dM) ⊕ ((Int32 × dM) ⊕ (Bool × dM)))} (hf : b_mo_reads_11_86 x1 x2 x4 M = some o) (hk : K_mo_reads_11 Q  o) : mW mX12_reads 3 Q 86 [some (.ref 66), some (.int x1), some (.int x2), none, some (.int x4), none] [] M := by
  unfold b_mo_reads_11_86 at hf
  refine y_aload_n (i := 0) (n := 87) ⟨dX12_reads_86, rfl⟩ rfl ?_
  refine y_iload (i := 4) (n := 89) ⟨dX12_reads_87, rfl⟩ rfl ?_
  refine y_if_eq (t := 97) (n := 92) ⟨dX12_reads_89, rfl, rfl⟩ (fun (hc : x4 = 0) => ?_) (fun (hc : ¬ (x4 = 0)) => ?_)
  · replace hf := i_t hc hf
    refine y_bipush (n := 99) (v := 28) ⟨dX12_reads_97, rfl⟩ kb_28 ?_
    exact y_wk (L2 := [some (.ref 66), some (.int x1), some (.int x2), none, some (.int x4), none]) ⟨Or.inr rfl, Or.inr rfl, Or.inr rfl, Or.inr rfl, Or.inr rfl, Or.inr rfl, trivial⟩ (w_b_mo_reads_11_99 x1 x2 x4 28 M hf hk)
  · replace hf := i_f hc hf
    refine y_bipush (n := 94) (v := 30) ⟨dX12_reads_92, rfl⟩ kb_30 ?_
    refine y_goto (t := 99) ⟨dX12_reads_94, rfl, rfl⟩ ?_
    exact y_wk (L2 := [some (.ref 66), some (.int x1), some (.int x2), none, some (.int x4), none]) ⟨Or.inr rfl, Or.inr rfl, Or.inr rfl, Or.inr rfl, Or.inr rfl, Or.inr rfl, trivial⟩ (w_b_mo_reads_11_99 x1 x2 x4 30 M hf hk)
theorem w_b_mo_reads_152_152 (x1 : Int32) (x2 : Int32)  (M : dM) {Q : mz_P} {o : (Int32 ⊕ Int32)} (hf : b_mo_reads_152_152 x1 x2 M = some o) (hk : K_mo_reads_152 Q x2 M o) : mW mX12_reads 3 Q 152 [some (.ref 66), some (.int x1), some (.int x2), none, none, none] [] M := by
  unfold b_mo_reads_152_152 at hf
  refine y_iload_n (i := 1) (n := 153) ⟨dX12_reads_152, rfl⟩ rfl ?_
  refine y_if_le (t := 172) (n := 156) ⟨dX12_reads_153, rfl, rfl⟩ (fun (hc : x1 ≤ 0) => ?_) (fun (hc : ¬ (x1 ≤ 0)) => ?_)
  · replace hf := i_t hc hf
    cases hf
    exact y_wk (L2 := [some (.ref 66), some (.int x1), some (.int x2), none, none, none]) ⟨Or.inr rfl, Or.inr rfl, Or.inr rfl, Or.inr rfl, Or.inr rfl, Or.inr rfl, trivial⟩ hk
  · replace hf := i_f hc hf
    refine y_aload_n (i := 0) (n := 157) ⟨dX12_reads_156, rfl⟩ rfl ?_
    refine y_getR (n := 160) ⟨dX12_reads_157, rfl⟩ kfX12_77 l_66 rfl r_66_39 ?_
    refine y_iload_n (i := 1) (n := 161) ⟨dX12_reads_160, rfl⟩ rfl ?_
    obtain ⟨hg46, hf⟩ := g_s hf
    refine y_iaload (n := 162) ⟨dX12_reads_161, rfl⟩ l_89 hg46 ?_
    refine y_iconst (n := 163) (v := 1) ⟨dX12_reads_162, rfl⟩ ki_1 ?_
    refine y_icmp_ne (t := 172) (n := 166) ⟨dX12_reads_163, rfl, rfl⟩ (fun (hc : ¬ ((gI M 89 x1.toNatClampNeg) = 1)) => ?_) (fun (hc : (gI M 89 x1.toNatClampNeg) = 1) => ?_)
    · replace hf := i_f hc hf
      cases hf
      exact y_wk (L2 := [some (.ref 66), some (.int x1), some (.int x2), none, none, none]) ⟨Or.inr rfl, Or.inr rfl, Or.inr rfl, Or.inr rfl, Or.inr rfl, Or.inr rfl, trivial⟩ hk
    · replace hf := i_t hc hf
      refine y_iinc (i := 1) (n := 169) (b := (x1 + (-1))) (L2 := [some (.ref 66), some (.int (x1 + (-1))), some (.int x2), none, none, none]) ⟨dX12_reads_166, rfl⟩ rfl (by rw [ki_m1]) (by decide) rfl rfl ?_
      refine y_goto (t := 152) ⟨dX12_reads_169, rfl, rfl⟩ ?_
      cases hf
      exact y_wk (L2 := [some (.ref 66), some (.int (x1 + (-1))), some (.int x2), none, none, none]) ⟨Or.inr rfl, Or.inr rfl, Or.inr rfl, Or.inr rfl, Or.inr rfl, Or.inr rfl, trivial⟩ hk
theorem wl_mo_reads_152 (x1 : Int32) (x2 : Int32) (M : dM) {Q : mz_P} {x : Int32} (hf : l_mo_reads_152 x1 x2 M = some x) (hk : K_mo_reads_152 Q x2 M (.inr x)) : mW mX12_reads 3 Q 152 [some (.ref 66), some (.int x1), some (.int x2), none, none, none] [] M :=
  lpc_wp (σ := Int32) (ξ := Int32) (s := x1) (Wh := fun s => mW mX12_reads 3 Q 152 [some (.ref 66), some (.int s), some (.int x2), none, none, none] [] M) (K := K_mo_reads_152 Q x2 M) (fun _ h => h) (fun s o hb hk => w_b_mo_reads_152_152 s x2 M hb hk) hf hk
theorem w_b_mo_reads_11_147 (x1 : Int32) (y1 : Int32)  (M : dM) {Q : mz_P} {o : ((Int32 × Int32 × dM) ⊕ ((Int32 × dM) ⊕ (Bool × dM)))} (hf : b_mo_reads_11_147 x1 y1 M = some o) (hk : K_mo_reads_11 Q  o) : mW mX12_reads 3 Q 147 [some (.ref 66), some (.int x1), none, none, none, none] [.int y1, .ref 66] M := by
  unfold b_mo_reads_11_147 at hf
  obtain ⟨q44, hv45, hf⟩ := b_s hf
  refine c_mo_puts y1 M (n := 150) ⟨dX12_reads_147, rfl⟩ klX12_369 hv45 (by decide) (Nat.le_of_ble_eq_true rfl) rfl rfl ?_
  refine y_iconst (n := 151) (v := 0) ⟨dX12_reads_150, rfl⟩ ki_0 ?_
  refine y_istore_n (i := 2) (n := 152) (L2 := [some (.ref 66), some (.int x1), some (.int 0), none, none, none]) ⟨dX12_reads_151, rfl⟩ (by decide) rfl rfl ?_
  obtain ⟨t47, hl48, hf⟩ := b_s hf
  refine y_wk (L2 := [some (.ref 66), some (.int x1), some (.int 0), none, none, none]) ⟨Or.inr rfl, Or.inr rfl, Or.inr rfl, Or.inr rfl, Or.inr rfl, Or.inr rfl, trivial⟩ (wl_mo_reads_152 x1 0 q44 hl48 ?_)
  show mW mX12_reads 3 Q 172 [some (.ref 66), some (.int t47), some (.int 0), none, none, none] [] q44
  exact y_wk (L2 := [some (.ref 66), some (.int t47), some (.int 0), none, none, none]) ⟨Or.inr rfl, Or.inr rfl, Or.inr rfl, Or.inr rfl, Or.inr rfl, Or.inr rfl, trivial⟩ (w_b_mo_reads_11_172 t47 0 q44 hf hk)
theorem w_b_mo_reads_11_65 (x1 : Int32) (x2 : Int32) (x3 : Int32) (x4 : Int32) (x5 : Int32)  (M : dM) {Q : mz_P} {o : ((Int32 × Int32 × dM) ⊕ ((Int32 × dM) ⊕ (Bool × dM)))} (hf : b_mo_reads_11_65 x1 x2 x3 x4 x5 M = some o) (hk : K_mo_reads_11 Q  o) : mW mX12_reads 3 Q 65 [some (.ref 66), some (.int x1), some (.int x2), some (.int x3), some (.int x4), some (.int x5)] [] M := by
  unfold b_mo_reads_11_65 at hf
  refine y_iload_n (i := 1) (n := 66) ⟨dX12_reads_65, rfl⟩ rfl ?_
  refine y_iconst (n := 67) (v := 5) ⟨dX12_reads_66, rfl⟩ ki_5 ?_
  refine y_icmp_ne (t := 76) (n := 70) ⟨dX12_reads_67, rfl, rfl⟩ (fun (hc : ¬ (x1 = 5)) => ?_) (fun (hc : x1 = 5) => ?_)
  · replace hf := i_f hc hf
    refine y_iload (i := 4) (n := 78) ⟨dX12_reads_76, rfl⟩ rfl ?_
    refine y_if_ne (t := 86) (n := 81) ⟨dX12_reads_78, rfl, rfl⟩ (fun (hc : ¬ (x4 = 0)) => ?_) (fun (hc : x4 = 0) => ?_)
    · replace hf := i_f hc hf
      exact y_wk (L2 := [some (.ref 66), some (.int x1), some (.int x2), none, some (.int x4), none]) ⟨Or.inr rfl, Or.inr rfl, Or.inr rfl, Or.inl rfl, Or.inr rfl, Or.inl rfl, trivial⟩ (w_b_mo_reads_11_86 x1 x2 x4 M hf hk)
    · replace hf := i_t hc hf
      refine y_iload (i := 5) (n := 83) ⟨dX12_reads_81, rfl⟩ rfl ?_
      refine y_if_eq (t := 131) (n := 86) ⟨dX12_reads_83, rfl, rfl⟩ (fun (hc : x5 = 0) => ?_) (fun (hc : ¬ (x5 = 0)) => ?_)
      · replace hf := i_t hc hf
        refine y_aload_n (i := 0) (n := 132) ⟨dX12_reads_131, rfl⟩ rfl ?_
        refine y_iload_n (i := 3) (n := 133) ⟨dX12_reads_132, rfl⟩ rfl ?_
        refine y_if_le (t := 140) (n := 136) ⟨dX12_reads_133, rfl, rfl⟩ (fun (hc : x3 ≤ 0) => ?_) (fun (hc : ¬ (x3 ≤ 0)) => ?_)
        · replace hf := i_t hc hf
          refine y_bipush (n := 142) (v := 100) ⟨dX12_reads_140, rfl⟩ kb_100 ?_
          refine y_aload_n (i := 0) (n := 143) ⟨dX12_reads_142, rfl⟩ rfl ?_
          refine y_getI (n := 146) ⟨dX12_reads_143, rfl⟩ kfX12_274 l_66 rfl ?_
          refine y_iadd (n := 147) ⟨dX12_reads_146, rfl⟩ ?_
          exact y_wk (L2 := [some (.ref 66), some (.int x1), none, none, none, none]) ⟨Or.inr rfl, Or.inr rfl, Or.inl rfl, Or.inl rfl, Or.inl rfl, Or.inl rfl, trivial⟩ (w_b_mo_reads_11_147 x1 (100 + (gI M 66 24)) M hf hk)
        · replace hf := i_f hc hf
          refine y_iload_n (i := 3) (n := 137) ⟨dX12_reads_136, rfl⟩ rfl ?_
          refine y_goto (t := 147) ⟨dX12_reads_137, rfl, rfl⟩ ?_
          exact y_wk (L2 := [some (.ref 66), some (.int x1), none, none, none, none]) ⟨Or.inr rfl, Or.inr rfl, Or.inl rfl, Or.inl rfl, Or.inl rfl, Or.inl rfl, trivial⟩ (w_b_mo_reads_11_147 x1 x3 M hf hk)
      · replace hf := i_f hc hf
        exact y_wk (L2 := [some (.ref 66), some (.int x1), some (.int x2), none, some (.int x4), none]) ⟨Or.inr rfl, Or.inr rfl, Or.inr rfl, Or.inl rfl, Or.inr rfl, Or.inl rfl, trivial⟩ (w_b_mo_reads_11_86 x1 x2 x4 M hf hk)
  · replace hf := i_t hc hf
    refine y_aload_n (i := 0) (n := 71) ⟨dX12_reads_70, rfl⟩ rfl ?_
    refine y_iconst (n := 72) (v := 5) ⟨dX12_reads_71, rfl⟩ ki_5 ?_
    refine c_mo_fails 5 M (n := 75) ⟨dX12_reads_72, rfl⟩ klX12_366 rfl (by decide) (Nat.le_of_ble_eq_true rfl) rfl rfl ?_
    cases hf
    exact y_ireturn (n := 76) ⟨dX12_reads_75, rfl⟩ rfl (bI_n _) hk
theorem w_b_mo_reads_11_11 (x1 : Int32) (x2 : Int32)  (M : dM) {Q : mz_P} {o : ((Int32 × Int32 × dM) ⊕ ((Int32 × dM) ⊕ (Bool × dM)))} (hf : b_mo_reads_11_11 x1 x2 M = some o) (hk : K_mo_reads_11 Q  o) : mW mX12_reads 3 Q 11 [some (.ref 66), some (.int x1), some (.int x2), none, none, none] [] M := by
  unfold b_mo_reads_11_11 at hf
  refine y_iload_n (i := 2) (n := 12) ⟨dX12_reads_11, rfl⟩ rfl ?_
  refine y_if_eq (t := 179) (n := 15) ⟨dX12_reads_12, rfl, rfl⟩ (fun (hc : x2 = 0) => ?_) (fun (hc : ¬ (x2 = 0)) => ?_)
  · replace hf := i_t hc hf
    refine y_aload_n (i := 0) (n := 180) ⟨dX12_reads_179, rfl⟩ rfl ?_
    refine y_bipush (n := 182) (v := 43) ⟨dX12_reads_180, rfl⟩ kb_43 ?_
    obtain ⟨v1, hv2, hf⟩ := b_s hf
    refine c_mo_isSign 43 M (n := 185) ⟨dX12_reads_182, rfl⟩ klX12_363 hv2 (by decide) (Nat.le_of_ble_eq_true rfl) rfl rfl ?_
    refine y_if_ne (t := 206) (n := 188) ⟨dX12_reads_185, rfl, rfl⟩ (fun h0 => ?_) (fun h0 => ?_)
    · have hc := bI_1 h0
      replace hf := i_t hc hf
      exact y_wk (L2 := [some (.ref 66), some (.int x1), none, none, none, none]) ⟨Or.inr rfl, Or.inr rfl, Or.inl rfl, Or.inr rfl, Or.inr rfl, Or.inr rfl, trivial⟩ (w_b_mo_reads_11_206 x1 M hf hk)
    · have hc := bI_0 h0
      replace hf := i_f hc hf
      refine y_aload_n (i := 0) (n := 189) ⟨dX12_reads_188, rfl⟩ rfl ?_
      refine y_bipush (n := 191) (v := 45) ⟨dX12_reads_189, rfl⟩ kb_45 ?_
      obtain ⟨v11, hv12, hf⟩ := b_s hf
      refine c_mo_isSign 45 M (n := 194) ⟨dX12_reads_191, rfl⟩ klX12_363 hv12 (by decide) (Nat.le_of_ble_eq_true rfl) rfl rfl ?_
      refine y_if_ne (t := 206) (n := 197) ⟨dX12_reads_194, rfl, rfl⟩ (fun h0 => ?_) (fun h0 => ?_)
      · have hc := bI_1 h0
        replace hf := i_t hc hf
        exact y_wk (L2 := [some (.ref 66), some (.int x1), none, none, none, none]) ⟨Or.inr rfl, Or.inr rfl, Or.inl rfl, Or.inr rfl, Or.inr rfl, Or.inr rfl, trivial⟩ (w_b_mo_reads_11_206 x1 M hf hk)
      · have hc := bI_0 h0
        replace hf := i_f hc hf
        refine y_aload_n (i := 0) (n := 198) ⟨dX12_reads_197, rfl⟩ rfl ?_
        refine y_bipush (n := 200) (v := 42) ⟨dX12_reads_198, rfl⟩ kb_42 ?_
        obtain ⟨v13, hv14, hf⟩ := b_s hf
        refine c_mo_isSign 42 M (n := 203) ⟨dX12_reads_200, rfl⟩ klX12_363 hv14 (by decide) (Nat.le_of_ble_eq_true rfl) rfl rfl ?_
        refine y_if_eq (t := 245) (n := 206) ⟨dX12_reads_203, rfl, rfl⟩ (fun h0 => ?_) (fun h0 => ?_)
        · have hc := bI_0 h0
          replace hf := i_f hc hf
          refine y_aload_n (i := 0) (n := 246) ⟨dX12_reads_245, rfl⟩ rfl ?_
          refine y_bipush (n := 248) (v := 60) ⟨dX12_reads_246, rfl⟩ kb_60 ?_
          obtain ⟨v15, hv16, hf⟩ := b_s hf
          refine c_mo_isSign 60 M (n := 251) ⟨dX12_reads_248, rfl⟩ klX12_363 hv16 (by decide) (Nat.le_of_ble_eq_true rfl) rfl rfl ?_
          refine y_if_ne (t := 263) (n := 254) ⟨dX12_reads_251, rfl, rfl⟩ (fun h0 => ?_) (fun h0 => ?_)
          · have hc := bI_1 h0
            replace hf := i_t hc hf
            exact y_wk (L2 := [some (.ref 66), some (.int x1), some (.int x2), none, none, none]) ⟨Or.inr rfl, Or.inr rfl, Or.inr rfl, Or.inr rfl, Or.inr rfl, Or.inr rfl, trivial⟩ (w_b_mo_reads_11_263 x1 x2 M hf hk)
          · have hc := bI_0 h0
            replace hf := i_f hc hf
            refine y_aload_n (i := 0) (n := 255) ⟨dX12_reads_254, rfl⟩ rfl ?_
            refine y_bipush (n := 257) (v := 61) ⟨dX12_reads_255, rfl⟩ kb_61 ?_
            obtain ⟨v34, hv35, hf⟩ := b_s hf
            refine c_mo_isSign 61 M (n := 260) ⟨dX12_reads_257, rfl⟩ klX12_363 hv35 (by decide) (Nat.le_of_ble_eq_true rfl) rfl rfl ?_
            refine y_if_eq (t := 304) (n := 263) ⟨dX12_reads_260, rfl, rfl⟩ (fun h0 => ?_) (fun h0 => ?_)
            · have hc := bI_0 h0
              replace hf := i_f hc hf
              exact y_wk (L2 := [some (.ref 66), some (.int x1), some (.int x2), none, none, none]) ⟨Or.inr rfl, Or.inr rfl, Or.inr rfl, Or.inr rfl, Or.inr rfl, Or.inr rfl, trivial⟩ (w_b_mo_reads_11_304 x1 x2 M hf hk)
            · have hc := bI_1 h0
              replace hf := i_t hc hf
              exact y_wk (L2 := [some (.ref 66), some (.int x1), some (.int x2), none, none, none]) ⟨Or.inr rfl, Or.inr rfl, Or.inr rfl, Or.inr rfl, Or.inr rfl, Or.inr rfl, trivial⟩ (w_b_mo_reads_11_263 x1 x2 M hf hk)
        · have hc := bI_1 h0
          replace hf := i_t hc hf
          exact y_wk (L2 := [some (.ref 66), some (.int x1), none, none, none, none]) ⟨Or.inr rfl, Or.inr rfl, Or.inl rfl, Or.inr rfl, Or.inr rfl, Or.inr rfl, trivial⟩ (w_b_mo_reads_11_206 x1 M hf hk)
  · replace hf := i_f hc hf
    refine y_aload_n (i := 0) (n := 16) ⟨dX12_reads_15, rfl⟩ rfl ?_
    refine c_mo_fact0 M (n := 19) ⟨dX12_reads_16, rfl⟩ klX12_354 rfl (by decide) (Nat.le_of_ble_eq_true rfl) rfl rfl ?_
    refine y_istore_n (i := 3) (n := 20) (L2 := [some (.ref 66), some (.int x1), some (.int x2), some (.int (f_mo_fact0 M)), none, none]) ⟨dX12_reads_19, rfl⟩ (by decide) rfl rfl ?_
    refine y_aload_n (i := 0) (n := 21) ⟨dX12_reads_20, rfl⟩ rfl ?_
    refine y_ldc2 (n := 24) ⟨dX12_reads_21, rfl⟩ kcX12_357 ?_
    refine c_mo_isWord 10631 M (n := 27) ⟨dX12_reads_24, rfl⟩ klX12_359 rfl (by decide) (Nat.le_of_ble_eq_true rfl) rfl rfl ?_
    refine y_istore (i := 4) (n := 29) (L2 := [some (.ref 66), some (.int x1), some (.int x2), some (.int (f_mo_fact0 M)), some (.int (bI (f_mo_isWord 10631 M))), none]) ⟨dX12_reads_27, rfl⟩ (by decide) rfl rfl ?_
    refine y_aload_n (i := 0) (n := 30) ⟨dX12_reads_29, rfl⟩ rfl ?_
    refine y_bipush (n := 32) (v := 40) ⟨dX12_reads_30, rfl⟩ kb_40 ?_
    obtain ⟨v36, hv37, hf⟩ := b_s hf
    refine c_mo_isSign 40 M (n := 35) ⟨dX12_reads_32, rfl⟩ klX12_363 hv37 (by decide) (Nat.le_of_ble_eq_true rfl) rfl rfl ?_
    refine y_istore (i := 5) (n := 37) (L2 := [some (.ref 66), some (.int x1), some (.int x2), some (.int (f_mo_fact0 M)), some (.int (bI (f_mo_isWord 10631 M))), some (.int (bI v36))]) ⟨dX12_reads_35, rfl⟩ (by decide) rfl rfl ?_
    refine y_iload_n (i := 3) (n := 38) ⟨dX12_reads_37, rfl⟩ rfl ?_
    refine y_if_ne (t := 65) (n := 41) ⟨dX12_reads_38, rfl, rfl⟩ (fun (hc : ¬ ((f_mo_fact0 M) = 0)) => ?_) (fun (hc : (f_mo_fact0 M) = 0) => ?_)
    · replace hf := i_f hc hf
      exact y_wk (L2 := [some (.ref 66), some (.int x1), some (.int x2), some (.int (f_mo_fact0 M)), some (.int (bI (f_mo_isWord 10631 M))), some (.int (bI v36))]) ⟨Or.inr rfl, Or.inr rfl, Or.inr rfl, Or.inr rfl, Or.inr rfl, Or.inr rfl, trivial⟩ (w_b_mo_reads_11_65 x1 x2 (f_mo_fact0 M) (bI (f_mo_isWord 10631 M)) (bI v36) M hf hk)
    · replace hf := i_t hc hf
      refine y_iload (i := 4) (n := 43) ⟨dX12_reads_41, rfl⟩ rfl ?_
      refine y_if_ne (t := 65) (n := 46) ⟨dX12_reads_43, rfl, rfl⟩ (fun h0 => ?_) (fun h0 => ?_)
      · have hc := bI_1 h0
        replace hf := i_t hc hf
        exact y_wk (L2 := [some (.ref 66), some (.int x1), some (.int x2), some (.int (f_mo_fact0 M)), some (.int (bI (f_mo_isWord 10631 M))), some (.int (bI v36))]) ⟨Or.inr rfl, Or.inr rfl, Or.inr rfl, Or.inr rfl, Or.inr rfl, Or.inr rfl, trivial⟩ (w_b_mo_reads_11_65 x1 x2 (f_mo_fact0 M) (bI (f_mo_isWord 10631 M)) (bI v36) M hf hk)
      · have hc := bI_0 h0
        replace hf := i_f hc hf
        refine y_iload (i := 5) (n := 48) ⟨dX12_reads_46, rfl⟩ rfl ?_
        refine y_if_ne (t := 65) (n := 51) ⟨dX12_reads_48, rfl, rfl⟩ (fun h0 => ?_) (fun h0 => ?_)
        · have hc := bI_1 h0
          replace hf := i_t hc hf
          exact y_wk (L2 := [some (.ref 66), some (.int x1), some (.int x2), some (.int (f_mo_fact0 M)), some (.int (bI (f_mo_isWord 10631 M))), some (.int (bI v36))]) ⟨Or.inr rfl, Or.inr rfl, Or.inr rfl, Or.inr rfl, Or.inr rfl, Or.inr rfl, trivial⟩ (w_b_mo_reads_11_65 x1 x2 (f_mo_fact0 M) (bI (f_mo_isWord 10631 M)) (bI v36) M hf hk)
        · have hc := bI_0 h0
          replace hf := i_f hc hf
          refine y_aload_n (i := 0) (n := 52) ⟨dX12_reads_51, rfl⟩ rfl ?_
          refine y_getI (n := 55) ⟨dX12_reads_52, rfl⟩ kfX12_277 l_66 rfl ?_
          refine y_iconst (n := 56) (v := 2) ⟨dX12_reads_55, rfl⟩ ki_2 ?_
          refine y_icmp_eq (t := 65) (n := 59) ⟨dX12_reads_56, rfl, rfl⟩ (fun (hc : (gI M 66 22) = 2) => ?_) (fun (hc : ¬ ((gI M 66 22) = 2)) => ?_)
          · replace hf := i_t hc hf
            exact y_wk (L2 := [some (.ref 66), some (.int x1), some (.int x2), some (.int (f_mo_fact0 M)), some (.int (bI (f_mo_isWord 10631 M))), some (.int (bI v36))]) ⟨Or.inr rfl, Or.inr rfl, Or.inr rfl, Or.inr rfl, Or.inr rfl, Or.inr rfl, trivial⟩ (w_b_mo_reads_11_65 x1 x2 (f_mo_fact0 M) (bI (f_mo_isWord 10631 M)) (bI v36) M hf hk)
          · replace hf := i_f hc hf
            refine y_aload_n (i := 0) (n := 60) ⟨dX12_reads_59, rfl⟩ rfl ?_
            refine y_iconst (n := 61) (v := 1) ⟨dX12_reads_60, rfl⟩ ki_1 ?_
            refine c_mo_fails 1 M (n := 64) ⟨dX12_reads_61, rfl⟩ klX12_366 rfl (by decide) (Nat.le_of_ble_eq_true rfl) rfl rfl ?_
            cases hf
            exact y_ireturn (n := 65) ⟨dX12_reads_64, rfl⟩ rfl (bI_n _) hk
theorem wl_mo_reads_11 (x1 : Int32) (x2 : Int32) (M : dM) {Q : mz_P} {x : ((Int32 × dM) ⊕ (Bool × dM))} (hf : l_mo_reads_11 x1 x2 M = some x) (hk : K_mo_reads_11 Q  (.inr x)) : mW mX12_reads 3 Q 11 [some (.ref 66), some (.int x1), some (.int x2), none, none, none] [] M :=
  lpc_wp (σ := (Int32 × Int32 × dM)) (ξ := ((Int32 × dM) ⊕ (Bool × dM))) (s := (x1, x2, M)) (Wh := fun s => mW mX12_reads 3 Q 11 [some (.ref 66), some (.int s.1), some (.int s.2.1), none, none, none] [] s.2.2) (K := K_mo_reads_11 Q ) (fun _ h => h) (fun s o hb hk => w_b_mo_reads_11_11 s.1 s.2.1 s.2.2 hb hk) hf hk
theorem w_t_mo_reads_418  (M : dM) {Q : mz_P} {o : (Bool × dM)} (hf : t_mo_reads_418 M = some o) (hk : mR Q (some (.int (bI o.1))) o.2) : mW mX12_reads 3 Q 418 [some (.ref 66), none, none, none, none, none] [] M := by
  unfold t_mo_reads_418 at hf
  refine y_aload_n (i := 0) (n := 419) ⟨dX12_reads_418, rfl⟩ rfl ?_
  refine y_iconst (n := 420) (v := 1) ⟨dX12_reads_419, rfl⟩ ki_1 ?_
  refine c_mo_fails 1 M (n := 423) ⟨dX12_reads_420, rfl⟩ klX12_366 rfl (by decide) (Nat.le_of_ble_eq_true rfl) rfl rfl ?_
  cases hf
  exact y_ireturn (n := 424) ⟨dX12_reads_423, rfl⟩ rfl (bI_n _) hk
theorem w_t_mo_reads_399 (x1 : Int32) (M : dM) {Q : mz_P} {o : (Bool × dM)} (hf : t_mo_reads_399 x1 M = some o) (hk : mR Q (some (.int (bI o.1))) o.2) : mW mX12_reads 3 Q 399 [some (.ref 66), some (.int x1), none, none, none, none] [] M := by
  unfold t_mo_reads_399 at hf
  refine y_iload_n (i := 1) (n := 400) ⟨dX12_reads_399, rfl⟩ rfl ?_
  refine y_if_ne (t := 418) (n := 403) ⟨dX12_reads_400, rfl, rfl⟩ (fun (hc : ¬ (x1 = 0)) => ?_) (fun (hc : x1 = 0) => ?_)
  · replace hf := i_f hc hf
    exact y_wk (L2 := [some (.ref 66), none, none, none, none, none]) ⟨Or.inr rfl, Or.inl rfl, Or.inr rfl, Or.inr rfl, Or.inr rfl, Or.inr rfl, trivial⟩ (w_t_mo_reads_418 M hf hk)
  · replace hf := i_t hc hf
    refine y_aload_n (i := 0) (n := 404) ⟨dX12_reads_403, rfl⟩ rfl ?_
    refine y_bipush (n := 406) (v := 59) ⟨dX12_reads_404, rfl⟩ kb_59 ?_
    obtain ⟨v56, hv57, hf⟩ := b_s hf
    refine c_mo_isSign 59 M (n := 409) ⟨dX12_reads_406, rfl⟩ klX12_363 hv57 (by decide) (Nat.le_of_ble_eq_true rfl) rfl rfl ?_
    refine y_if_eq (t := 418) (n := 412) ⟨dX12_reads_409, rfl, rfl⟩ (fun h0 => ?_) (fun h0 => ?_)
    · have hc := bI_0 h0
      replace hf := i_f hc hf
      exact y_wk (L2 := [some (.ref 66), none, none, none, none, none]) ⟨Or.inr rfl, Or.inl rfl, Or.inr rfl, Or.inr rfl, Or.inr rfl, Or.inr rfl, trivial⟩ (w_t_mo_reads_418 M hf hk)
    · have hc := bI_1 h0
      replace hf := i_t hc hf
      refine y_aload_n (i := 0) (n := 413) ⟨dX12_reads_412, rfl⟩ rfl ?_
      obtain ⟨q58, hv59, hf⟩ := b_s hf
      refine c_mo_nextToken M (n := 416) ⟨dX12_reads_413, rfl⟩ klX12_373 hv59 (by decide) (Nat.le_of_ble_eq_true rfl) rfl rfl ?_
      refine y_iconst (n := 417) (v := 1) ⟨dX12_reads_416, rfl⟩ ki_1 ?_
      cases hf
      exact y_ireturn (n := 418) ⟨dX12_reads_417, rfl⟩ rfl rfl hk
theorem ok_mo_reads  (M : dM) {o : (Bool × dM)} (hf : f_mo_reads M = some o) : mO mX12_reads 3 [.ref 66] M (some (.int (bI o.1))) o.2 := by
  refine y_ok (by decide +kernel) (Nat.le_of_ble_eq_true rfl) (L0 := [some (.ref 66), none, none, none, none, none]) rfl ?_
  have hk := mR_mQ (some (.int (bI o.1))) o.2
  generalize mQ _ _ = Q at hk ⊢
  unfold f_mo_reads at hf
  refine y_iconst (n := 1) (v := 0) ⟨dX12_reads_0, rfl⟩ ki_0 ?_
  refine y_istore_n (i := 1) (n := 2) (L2 := [some (.ref 66), some (.int 0), none, none, none, none]) ⟨dX12_reads_1, rfl⟩ (by decide) rfl rfl ?_
  refine y_iconst (n := 3) (v := 1) ⟨dX12_reads_2, rfl⟩ ki_1 ?_
  refine y_istore_n (i := 2) (n := 4) (L2 := [some (.ref 66), some (.int 0), some (.int 1), none, none, none]) ⟨dX12_reads_3, rfl⟩ (by decide) rfl rfl ?_
  refine y_aload_n (i := 0) (n := 5) ⟨dX12_reads_4, rfl⟩ rfl ?_
  refine y_getR (n := 8) ⟨dX12_reads_5, rfl⟩ kfX12_80 l_66 rfl r_66_40 ?_
  refine y_iconst (n := 9) (v := 0) ⟨dX12_reads_8, rfl⟩ ki_0 ?_
  refine y_iconst (n := 10) (v := 0) ⟨dX12_reads_9, rfl⟩ ki_0 ?_
  refine y_bastore (x' := 0) (n := 11) ⟨dX12_reads_10, rfl⟩ l_90 (by unfold vp_in; decide) rfl ?_
  obtain ⟨z60, hl53, hf⟩ := b_s hf
  refine y_wk (L2 := [some (.ref 66), some (.int 0), some (.int 1), none, none, none]) ⟨Or.inr rfl, Or.inr rfl, Or.inr rfl, Or.inr rfl, Or.inr rfl, Or.inr rfl, trivial⟩ (wl_mo_reads_11 0 1 (sI M 90 0 0) hl53 ?_)
  rcases z60 with t52 | r54
  · show mW mX12_reads 3 Q 399 [some (.ref 66), some (.int t52.1), none, none, none, none] [] t52.2
    exact y_wk (L2 := [some (.ref 66), some (.int t52.1), none, none, none, none]) ⟨Or.inr rfl, Or.inr rfl, Or.inr rfl, Or.inr rfl, Or.inr rfl, Or.inr rfl, trivial⟩ (w_t_mo_reads_399 t52.1 t52.2 hf hk)
  · cases hf
    exact hk
theorem c_mo_reads  (M : dM) {o : (Bool × dM)} {y : mz_M} {d : Nat} {Q : mz_P} {pc n i : Nat} {L : List (Option Value)} {st : List Value} (h : mz_d y.2.1 pc n 3 (.invokevirtual i)) (hl : mz_ml y.1.cls i yX12_reads) (hf : f_mo_reads M = some o) (hd : 3 + 1 ≤ d) (hsm : (st.map (fun v => v.category)).sum ≤ 8) (hLr : mz_rL 133 L = true) (hSr : mz_rS 133 st = true) (kk : mW y d Q n L (.int (bI o.1) :: st) o.2) : mW y d Q pc L (.ref 66 :: st) M :=
  y_callV kmX12_reads kvX12_reads l_66 (by decide +kernel) (by decide +kernel) h hl (ok_mo_reads  M hf) (vs := []) rfl rfl hd hsm hLr hSr kk
