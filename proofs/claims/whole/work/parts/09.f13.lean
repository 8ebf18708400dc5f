def K_mo_stopsAll_2 (Q : mz_P) (x1 : Int32) : ((Int32 × dM) ⊕ (Bool × dM)) → Prop
  | .inl s => mW mX12_stopsAll 5 Q 2 [some (.ref 66), some (.int x1), some (.int s.1), none, none] [] s.2
  | .inr r => mR Q (some (.int (bI r.1))) r.2
def K_mo_stopsAll_40 (Q : mz_P) (x1 : Int32) (x2 : Int32) : ((Int32 × Int32 × dM) ⊕ (Int32 × dM)) → Prop
  | .inl s => mW mX12_stopsAll 5 Q 40 [some (.ref 66), some (.int x1), some (.int x2), some (.int s.1), some (.int s.2.1)] [] s.2.2
  | .inr t => mW mX12_stopsAll 5 Q 83 [some (.ref 66), some (.int x1), some (.int x2), some (.int t.1), none] [] t.2
noncomputable def b_mo_stopsAll_40_71 (x1 : Int32) (x2 : Int32) (x4 : Int32) (M : dM) : Option ((Int32 × Int32 × dM) ⊕ (Int32 × dM)) :=
  some (.inl (1, (x4 + 1), M))
noncomputable def b_mo_stopsAll_40_40 (x1 : Int32) (x2 : Int32) (x3 : Int32) (x4 : Int32) (M : dM) : Option ((Int32 × Int32 × dM) ⊕ (Int32 × dM)) :=
  if 8 ≤ x4 then
    some (.inr (x3, M))
  else
    if x3 = 0 then
      if ((x1 >>> (x4 &&& 31)) &&& 1) = 1 then
        (f_mo_isStopped x4 x2 M).bind fun q2 =>
        if q2.1 = true then
          b_mo_stopsAll_40_71 x1 x2 x4 q2.2
        else
          some (.inl (0, (x4 + 1), q2.2))
      else
        some (.inl (0, (x4 + 1), M))
    else
      b_mo_stopsAll_40_71 x1 x2 x4 M
noncomputable def l_mo_stopsAll_40 (x1 : Int32) (x2 : Int32) (x3 : Int32) (x4 : Int32) (M : dM) : Option (Int32 × dM) := lpc (fun s => b_mo_stopsAll_40_40 x1 x2 s.1 s.2.1 s.2.2) (x3, x4, M)
noncomputable def b_mo_stopsAll_2_2 (x1 : Int32) (x2 : Int32) (M : dM) : Option ((Int32 × dM) ⊕ (Bool × dM)) :=
  if (gI M 66 9) ≤ x2 then
    some (.inr (true, M))
  else
    if (((gJ M 66 63) >>> (x2.toInt64 &&& 63)) &&& 1) = 0 then
      some (.inl ((x2 + 1), M))
    else
      gd (vp_in x2 40) <|
      if (gI M 105 x2.toNatClampNeg) = 0 then
        some (.inl ((x2 + 1), M))
      else
        (l_mo_stopsAll_40 x1 x2 0 0 M).bind fun t4 =>
          if t4.1 = 0 then
            some (.inr (false, t4.2))
          else
            some (.inl ((x2 + 1), t4.2))
noncomputable def l_mo_stopsAll_2 (x1 : Int32) (x2 : Int32) (M : dM) : Option (Bool × dM) := lpc (fun s => b_mo_stopsAll_2_2 x1 s.1 s.2) (x2, M)
noncomputable def f_mo_stopsAll (a1 : Int32) (M : dM) : Option (Bool × dM) :=
  (l_mo_stopsAll_2 a1 0 M).bind fun r9 => some r9
theorem w_b_mo_stopsAll_40_71 (x1 : Int32) (x2 : Int32) (x4 : Int32)  (M : dM) {Q : mz_P} {o : ((Int32 × Int32 × dM) ⊕ (Int32 × dM))} (hf : b_mo_stopsAll_40_71 x1 x2 x4 M = some o) (hk : K_mo_stopsAll_40 Q x1 x2 o) : mW mX12_stopsAll 5 Q 71 [some (.ref 66), some (.int x1), some (.int x2), none, some (.int x4)] [] M := by
  unfold b_mo_stopsAll_40_71 at hf
  refine y_iconst (n := 72) (v := 1) ⟨dX12_stopsAll_71, rfl⟩ ki_1 ?_
  refine y_goto (t := 76) ⟨dX12_stopsAll_72, rfl, rfl⟩ ?_
  refine y_istore_n (i := 3) (n := 77) (L2 := [some (.ref 66), some (.int x1), some (.int x2), some (.int 1), some (.int x4)]) ⟨dX12_stopsAll_76, rfl⟩ (by decide) rfl rfl ?_
  refine y_iinc (i := 4) (n := 80) (b := (x4 + 1)) (L2 := [some (.ref 66), some (.int x1), some (.int x2), some (.int 1), some (.int (x4 + 1))]) ⟨dX12_stopsAll_77, rfl⟩ rfl (by rw [ki_1]) (by decide) rfl rfl ?_
  refine y_goto (t := 40) ⟨dX12_stopsAll_80, rfl, rfl⟩ ?_
  cases hf
  exact y_wk (L2 := [some (.ref 66), some (.int x1), some (.int x2), some (.int 1), some (.int (x4 + 1))]) ⟨Or.inr rfl, Or.inr rfl, Or.inr rfl, Or.inr rfl, Or.inr rfl, trivial⟩ hk
theorem w_b_mo_stopsAll_40_40 (x1 : Int32) (x2 : Int32) (x3 : Int32) (x4 : Int32)  (M : dM) {Q : mz_P} {o : ((Int32 × Int32 × dM) ⊕ (Int32 × dM))} (hf : b_mo_stopsAll_40_40 x1 x2 x3 x4 M = some o) (hk : K_mo_stopsAll_40 Q x1 x2 o) : mW mX12_stopsAll 5 Q 40 [some (.ref 66), some (.int x1), some (.int x2), some (.int x3), some (.int x4)] [] M := by
  unfold b_mo_stopsAll_40_40 at hf
  refine y_iload (i := 4) (n := 42) ⟨dX12_stopsAll_40, rfl⟩ rfl ?_
  refine y_bipush (n := 44) (v := 8) ⟨dX12_stopsAll_42, rfl⟩ kb_8 ?_
  refine y_icmp_ge (t := 83) (n := 47) ⟨dX12_stopsAll_44, rfl, rfl⟩ (fun (hc : 8 ≤ x4) => ?_) (fun (hc : ¬ (8 ≤ x4)) => ?_)
  · replace hf := i_t hc hf
    cases hf
    exact y_wk (L2 := [some (.ref 66), some (.int x1), some (.int x2), some (.int x3), none]) ⟨Or.inr rfl, Or.inr rfl, Or.inr rfl, Or.inr rfl, Or.inl rfl, trivial⟩ hk
  · replace hf := i_f hc hf
    refine y_iload_n (i := 3) (n := 48) ⟨dX12_stopsAll_47, rfl⟩ rfl ?_
    refine y_if_ne (t := 71) (n := 51) ⟨dX12_stopsAll_48, rfl, rfl⟩ (fun (hc : ¬ (x3 = 0)) => ?_) (fun (hc : x3 = 0) => ?_)
    · replace hf := i_f hc hf
      exact y_wk (L2 := [some (.ref 66), some (.int x1), some (.int x2), none, some (.int x4)]) ⟨Or.inr rfl, Or.inr rfl, Or.inr rfl, Or.inl rfl, Or.inr rfl, trivial⟩ (w_b_mo_stopsAll_40_71 x1 x2 x4 M hf hk)
    · replace hf := i_t hc hf
      refine y_iload_n (i := 1) (n := 52) ⟨dX12_stopsAll_51, rfl⟩ rfl ?_
      refine y_iload (i := 4) (n := 54) ⟨dX12_stopsAll_52, rfl⟩ rfl ?_
      refine y_ishr (n := 55) ⟨dX12_stopsAll_54, rfl⟩ ?_
      refine y_iconst (n := 56) (v := 1) ⟨dX12_stopsAll_55, rfl⟩ ki_1 ?_
      refine y_iand (n := 57) ⟨dX12_stopsAll_56, rfl⟩ ?_
      refine y_iconst (n := 58) (v := 1) ⟨dX12_stopsAll_57, rfl⟩ ki_1 ?_
      refine y_icmp_ne (t := 75) (n := 61) ⟨dX12_stopsAll_58, rfl, rfl⟩ (fun (hc : ¬ (((x1 >>> (x4 &&& 31)) &&& 1) = 1)) => ?_) (fun (hc : ((x1 >>> (x4 &&& 31)) &&& 1) = 1) => ?_)
      · replace hf := i_f hc hf
        refine y_iconst (n := 76) (v := 0) ⟨dX12_stopsAll_75, rfl⟩ ki_0 ?_
        refine y_istore_n (i := 3) (n := 77) (L2 := [some (.ref 66), some (.int x1), some (.int x2), some (.int 0), some (.int x4)]) ⟨dX12_stopsAll_76, rfl⟩ (by decide) rfl rfl ?_
        refine y_iinc (i := 4) (n := 80) (b := (x4 + 1)) (L2 := [some (.ref 66), some (.int x1), some (.int x2), some (.int 0), some (.int (x4 + 1))]) ⟨dX12_stopsAll_77, rfl⟩ rfl (by rw [ki_1]) (by decide) rfl rfl ?_
        refine y_goto (t := 40) ⟨dX12_stopsAll_80, rfl, rfl⟩ ?_
        cases hf
        exact y_wk (L2 := [some (.ref 66), some (.int x1), some (.int x2), some (.int 0), some (.int (x4 + 1))]) ⟨Or.inr rfl, Or.inr rfl, Or.inr rfl, Or.inr rfl, Or.inr rfl, trivial⟩ hk
      · replace hf := i_t hc hf
        refine y_aload_n (i := 0) (n := 62) ⟨dX12_stopsAll_61, rfl⟩ rfl ?_
        refine y_iload (i := 4) (n := 64) ⟨dX12_stopsAll_62, rfl⟩ rfl ?_
        refine y_iload_n (i := 2) (n := 65) ⟨dX12_stopsAll_64, rfl⟩ rfl ?_
        obtain ⟨q2, hv3, hf⟩ := b_s hf
        refine c_mo_isStopped x4 x2 M (n := 68) ⟨dX12_stopsAll_65, rfl⟩ klX12_441 hv3 (by decide) (Nat.le_of_ble_eq_true rfl) rfl rfl ?_
        refine y_if_eq (t := 75) (n := 71) ⟨dX12_stopsAll_68, rfl, rfl⟩ (fun h0 => ?_) (fun h0 => ?_)
        · have hc := bI_0 h0
          replace hf := i_f hc hf
          refine y_iconst (n := 76) (v := 0) ⟨dX12_stopsAll_75, rfl⟩ ki_0 ?_
          refine y_istore_n (i := 3) (n := 77) (L2 := [some (.ref 66), some (.int x1), some (.int x2), some (.int 0), some (.int x4)]) ⟨dX12_stopsAll_76, rfl⟩ (by decide) rfl rfl ?_
          refine y_iinc (i := 4) (n := 80) (b := (x4 + 1)) (L2 := [some (.ref 66), some (.int x1), some (.int x2), some (.int 0), some (.int (x4 + 1))]) ⟨dX12_stopsAll_77, rfl⟩ rfl (by rw [ki_1]) (by decide) rfl rfl ?_
          refine y_goto (t := 40) ⟨dX12_stopsAll_80, rfl, rfl⟩ ?_
          cases hf
          exact y_wk (L2 := [some (.ref 66), some (.int x1), some (.int x2), some (.int 0), some (.int (x4 + 1))]) ⟨Or.inr rfl, Or.inr rfl, Or.inr rfl, Or.inr rfl, Or.inr rfl, trivial⟩ hk
        · have hc := bI_1 h0
          replace hf := i_t hc hf
          exact y_wk (L2 := [some (.ref 66), some (.int x1), some (.int x2), none, some (.int x4)]) ⟨Or.inr rfl, Or.inr rfl, Or.inr rfl, Or.inl rfl, Or.inr rfl, trivial⟩ (w_b_mo_stopsAll_40_71 x1 x2 x4 q2.2 hf hk)
theorem wl_mo_stopsAll_40 (x1 : Int32) (x2 : Int32) (x3 : Int32) (x4 : Int32) (M : dM) {Q : mz_P} {x : (Int32 × dM)} (hf : l_mo_stopsAll_40 x1 x2 x3 x4 M = some x) (hk : K_mo_stopsAll_40 Q x1 x2 (.inr x)) : mW mX12_stopsAll 5 Q 40 [some (.ref 66), some (.int x1), some (.int x2), some (.int x3), some (.int x4)] [] M :=
  lpc_wp (σ := (Int32 × Int32 × dM)) (ξ := (Int32 × dM)) (s := (x3, x4, M)) (Wh := fun s => mW mX12_stopsAll 5 Q 40 [some (.ref 66), some (.int x1), some (.int x2), some (.int s.1), some (.int s.2.1)] [] s.2.2) (K := K_mo_stopsAll_40 Q x1 x2) (fun _ h => h) (fun s o hb hk => w_b_mo_stopsAll_40_40 x1 x2 s.1 s.2.1 s.2.2 hb hk) hf hk
theorem w_b_mo_stopsAll_2_2 (x1 : Int32) (x2 : Int32)  (M : dM) {Q : mz_P} {o : ((Int32 × dM) ⊕ (Bool × dM))} (hf : b_mo_stopsAll_2_2 x1 x2 M = some o) (hk : K_mo_stopsAll_2 Q x1 o) : mW mX12_stopsAll 5 Q 2 [some (.ref 66), some (.int x1), some (.int x2), none, none] [] M := by
  unfold b_mo_stopsAll_2_2 at hf
  refine y_iload_n (i := 2) (n := 3) ⟨dX12_stopsAll_2, rfl⟩ rfl ?_
  refine y_aload_n (i := 0) (n := 4) ⟨dX12_stopsAll_3, rfl⟩ rfl ?_
  refine y_getI (n := 7) ⟨dX12_stopsAll_4, rfl⟩ kfX12_235 l_66 rfl ?_
  refine y_icmp_ge (t := 95) (n := 10) ⟨dX12_stopsAll_7, rfl, rfl⟩ (fun (hc : (gI M 66 9) ≤ x2) => ?_) (fun (hc : ¬ ((gI M 66 9) ≤ x2)) => ?_)
  · replace hf := i_t hc hf
    refine y_iconst (n := 96) (v := 1) ⟨dX12_stopsAll_95, rfl⟩ ki_1 ?_
    cases hf
    exact y_ireturn (n := 97) ⟨dX12_stopsAll_96, rfl⟩ rfl rfl hk
  · replace hf := i_f hc hf
    refine y_aload_n (i := 0) (n := 11) ⟨dX12_stopsAll_10, rfl⟩ rfl ?_
    refine y_getJ (n := 14) ⟨dX12_stopsAll_11, rfl⟩ kfX12_502 l_66 rfl ?_
    refine y_iload_n (i := 2) (n := 15) ⟨dX12_stopsAll_14, rfl⟩ rfl ?_
    refine y_lshr (n := 16) ⟨dX12_stopsAll_15, rfl⟩ ?_
    refine y_lconst (n := 17) (v := 1) ⟨dX12_stopsAll_16, rfl⟩ kl_1 ?_
    refine y_land (n := 18) ⟨dX12_stopsAll_17, rfl⟩ ?_
    refine y_lconst (n := 19) (v := 0) ⟨dX12_stopsAll_18, rfl⟩ kl_0 ?_
    refine y_lcmp (n := 20) ⟨dX12_stopsAll_19, rfl⟩ ?_
    refine y_if_eq (t := 89) (n := 23) ⟨dX12_stopsAll_20, rfl, rfl⟩ (fun h0 => ?_) (fun h0 => ?_)
    · have hc : (((gJ M 66 63) >>> (x2.toInt64 &&& 63)) &&& 1) = 0 := (lc_eq _ _).mp h0
      replace hf := i_t hc hf
      refine y_iinc (i := 2) (n := 92) (b := (x2 + 1)) (L2 := [some (.ref 66), some (.int x1), some (.int (x2 + 1)), none, none]) ⟨dX12_stopsAll_89, rfl⟩ rfl (by rw [ki_1]) (by decide) rfl rfl ?_
      refine y_goto (t := 2) ⟨dX12_stopsAll_92, rfl, rfl⟩ ?_
      cases hf
      exact y_wk (L2 := [some (.ref 66), some (.int x1), some (.int (x2 + 1)), none, none]) ⟨Or.inr rfl, Or.inr rfl, Or.inr rfl, Or.inr rfl, Or.inr rfl, trivial⟩ hk
    · have hc : ¬ ((((gJ M 66 63) >>> (x2.toInt64 &&& 63)) &&& 1) = 0) := fun e => h0 ((lc_eq _ _).mpr e)
      replace hf := i_f hc hf
      refine y_aload_n (i := 0) (n := 24) ⟨dX12_stopsAll_23, rfl⟩ rfl ?_
      refine y_getR (n := 27) ⟨dX12_stopsAll_24, rfl⟩ kfX12_125 l_66 rfl r_66_60 ?_
      refine y_iload_n (i := 2) (n := 28) ⟨dX12_stopsAll_27, rfl⟩ rfl ?_
      obtain ⟨hg1, hf⟩ := g_s hf
      refine y_iaload (n := 29) ⟨dX12_stopsAll_28, rfl⟩ l_105 hg1 ?_
      refine y_if_ne (t := 35) (n := 32) ⟨dX12_stopsAll_29, rfl, rfl⟩ (fun (hc : ¬ ((gI M 105 x2.toNatClampNeg) = 0)) => ?_) (fun (hc : (gI M 105 x2.toNatClampNeg) = 0) => ?_)
      · replace hf := i_f hc hf
        refine y_iconst (n := 36) (v := 0) ⟨dX12_stopsAll_35, rfl⟩ ki_0 ?_
        refine y_istore_n (i := 3) (n := 37) (L2 := [some (.ref 66), some (.int x1), some (.int x2), some (.int 0), none]) ⟨dX12_stopsAll_36, rfl⟩ (by decide) rfl rfl ?_
        refine y_iconst (n := 38) (v := 0) ⟨dX12_stopsAll_37, rfl⟩ ki_0 ?_
        refine y_istore (i := 4) (n := 40) (L2 := [some (.ref 66), some (.int x1), some (.int x2), some (.int 0), some (.int 0)]) ⟨dX12_stopsAll_38, rfl⟩ (by decide) rfl rfl ?_
        obtain ⟨t4, hl5, hf⟩ := b_s hf
        refine y_wk (L2 := [some (.ref 66), some (.int x1), some (.int x2), some (.int 0), some (.int 0)]) ⟨Or.inr rfl, Or.inr rfl, Or.inr rfl, Or.inr rfl, Or.inr rfl, trivial⟩ (wl_mo_stopsAll_40 x1 x2 0 0 M hl5 ?_)
        show mW mX12_stopsAll 5 Q 83 [some (.ref 66), some (.int x1), some (.int x2), some (.int t4.1), none] [] t4.2
        refine y_iload_n (i := 3) (n := 84) ⟨dX12_stopsAll_83, rfl⟩ rfl ?_
        refine y_if_ne (t := 89) (n := 87) ⟨dX12_stopsAll_84, rfl, rfl⟩ (fun (hc : ¬ (t4.1 = 0)) => ?_) (fun (hc : t4.1 = 0) => ?_)
        · replace hf := i_f hc hf
          refine y_iinc (i := 2) (n := 92) (b := (x2 + 1)) (L2 := [some (.ref 66), some (.int x1), some (.int (x2 + 1)), some (.int t4.1), none]) ⟨dX12_stopsAll_89, rfl⟩ rfl (by rw [ki_1]) (by decide) rfl rfl ?_
          refine y_goto (t := 2) ⟨dX12_stopsAll_92, rfl, rfl⟩ ?_
          cases hf
          exact y_wk (L2 := [some (.ref 66), some (.int x1), some (.int (x2 + 1)), none, none]) ⟨Or.inr rfl, Or.inr rfl, Or.inr rfl, Or.inl rfl, Or.inr rfl, trivial⟩ hk
        · replace hf := i_t hc hf
          refine y_iconst (n := 88) (v := 0) ⟨dX12_stopsAll_87, rfl⟩ ki_0 ?_
          cases hf
          exact y_ireturn (n := 89) ⟨dX12_stopsAll_88, rfl⟩ rfl rfl hk
      · replace hf := i_t hc hf
        refine y_goto (t := 89) ⟨dX12_stopsAll_32, rfl, rfl⟩ ?_
        refine y_iinc (i := 2) (n := 92) (b := (x2 + 1)) (L2 := [some (.ref 66), some (.int x1), some (.int (x2 + 1)), none, none]) ⟨dX12_stopsAll_89, rfl⟩ rfl (by rw [ki_1]) (by decide) rfl rfl ?_
        refine y_goto (t := 2) ⟨dX12_stopsAll_92, rfl, rfl⟩ ?_
        cases hf
        exact y_wk (L2 := [some (.ref 66), some (.int x1), some (.int (x2 + 1)), none, none]) ⟨Or.inr rfl, Or.inr rfl, Or.inr rfl, Or.inr rfl, Or.inr rfl, trivial⟩ hk
theorem wl_mo_stopsAll_2 (x1 : Int32) (x2 : Int32) (M : dM) {Q : mz_P} {x : (Bool × dM)} (hf : l_mo_stopsAll_2 x1 x2 M = some x) (hk : K_mo_stopsAll_2 Q x1 (.inr x)) : mW mX12_stopsAll 5 Q 2 [some (.ref 66), some (.int x1), some (.int x2), none, none] [] M :=
  lpc_wp (σ := (Int32 × dM)) (ξ := (Bool × dM)) (s := (x2, M)) (Wh := fun s => mW mX12_stopsAll 5 Q 2 [some (.ref 66), some (.int x1), some (.int s.1), none, none] [] s.2) (K := K_mo_stopsAll_2 Q x1) (fun _ h => h) (fun s o hb hk => w_b_mo_stopsAll_2_2 x1 s.1 s.2 hb hk) hf hk
theorem ok_mo_stopsAll (a1 : Int32) (M : dM) {o : (Bool × dM)} (hf : f_mo_stopsAll a1 M = some o) : mO mX12_stopsAll 5 [.ref 66, .int a1] M (some (.int (bI o.1))) o.2 := by
  refine y_ok (by decide +kernel) (Nat.le_of_ble_eq_true rfl) (L0 := [some (.ref 66), some (.int a1), none, none, none]) rfl ?_
  have hk := mR_mQ (some (.int (bI o.1))) o.2
  generalize mQ _ _ = Q at hk ⊢
  unfold f_mo_stopsAll at hf
  refine y_iconst (n := 1) (v := 0) ⟨dX12_stopsAll_0, rfl⟩ ki_0 ?_
  refine y_istore_n (i := 2) (n := 2) (L2 := [some (.ref 66), some (.int a1), some (.int 0), none, none]) ⟨dX12_stopsAll_1, rfl⟩ (by decide) rfl rfl ?_
  obtain ⟨r9, hl8, hf⟩ := b_s hf
  cases hf
  exact y_wk (L2 := [some (.ref 66), some (.int a1), some (.int 0), none, none]) ⟨Or.inr rfl, Or.inr rfl, Or.inr rfl, Or.inr rfl, Or.inr rfl, trivial⟩ (wl_mo_stopsAll_2 a1 0 M hl8 hk)
theorem c_mo_stopsAll (a1 : Int32) (M : dM) {o : (Bool × dM)} {y : mz_M} {d : Nat} {Q : mz_P} {pc n i : Nat} {L : List (Option Value)} {st : List Value} (h : mz_d y.2.1 pc n 3 (.invokevirtual i)) (hl : mz_ml y.1.cls i yX12_stopsAll) (hf : f_mo_stopsAll a1 M = some o) (hd : 5 + 1 ≤ d) (hsm : (st.map (fun v => v.category)).sum ≤ 8) (hLr : mz_rL 133 L = true) (hSr : mz_rS 133 st = true) (kk : mW y d Q n L (.int (bI o.1) :: st) o.2) : mW y d Q pc L (.int a1 :: .ref 66 :: st) M :=
  y_callV kmX12_stopsAll kvX12_stopsAll l_66 (by decide +kernel) (by decide +kernel) h hl (ok_mo_stopsAll a1 M hf) (vs := [.int a1]) rfl rfl hd hsm hLr hSr kk
def K_mo_rules_24 (Q : mz_P) (x1 : Int32) : ((Int32 × Int32 × dM) ⊕ (Int32 × dM)) → Prop
  | .inl s => mW mX12_rules 7 Q 24 [some (.ref 66), some (.int x1), some (.int s.1), some (.int s.2.1)] [] s.2.2
  | .inr t => mW mX12_rules 7 Q 73 [none, some (.int x1), some (.int t.1), none] [] t.2
noncomputable def b_mo_rules_24_57 (x1 : Int32) (x2 : Int32) (x3 : Int32) (M : dM) : Option ((Int32 × Int32 × dM) ⊕ (Int32 × dM)) :=
  (f_mo_stopsAll x3 M).bind fun q5 =>
  if q5.1 = true then
    some (.inl (x3, (x3 + 1), q5.2))
  else
    some (.inl (x2, (x3 + 1), q5.2))
noncomputable def b_mo_rules_24_24 (x1 : Int32) (x2 : Int32) (x3 : Int32) (M : dM) : Option ((Int32 × Int32 × dM) ⊕ (Int32 × dM)) :=
  if 256 ≤ x3 then
    some (.inr (x2, M))
  else
    (f_mo_ruled M).bind fun v3 =>
    if (x3 &&& (v3 ^^^ (-1))) = 0 then
      if x2 < 0 then
        b_mo_rules_24_57 x1 x2 x3 M
      else
        (f_mo_bits x3).bind fun v7 =>
        (f_mo_bits x2).bind fun v9 =>
        if v9 ≤ v7 then
          some (.inl (x2, (x3 + 1), M))
        else
          b_mo_rules_24_57 x1 x2 x3 M
    else
      some (.inl (x2, (x3 + 1), M))
noncomputable def l_mo_rules_24 (x1 : Int32) (x2 : Int32) (x3 : Int32) (M : dM) : Option (Int32 × dM) := lpc (fun s => b_mo_rules_24_24 x1 s.1 s.2.1 s.2.2) (x2, x3, M)
noncomputable def f_mo_rules (a1 : Int32) (M : dM) : Option (Int32 × dM) :=
  if (f_mo_within a1 0 1) = true then
    (f_mo_knows (sI M 66 0 0)).bind fun q1 =>
    (l_mo_rules_24 a1 (-1) 0 q1).bind fun t11 =>
      if 0 ≤ t11.1 then
        if a1 = 0 then
          (f_mo_bits t11.1).bind fun v14 =>
          some (v14, t11.2)
        else
          some (t11.1, t11.2)
      else
        some ((-1), t11.2)
  else
    some ((-1), (sI M 66 0 0))
theorem w_b_mo_rules_24_57 (x1 : Int32) (x2 : Int32) (x3 : Int32)  (M : dM) {Q : mz_P} {o : ((Int32 × Int32 × dM) ⊕ (Int32 × dM))} (hf : b_mo_rules_24_57 x1 x2 x3 M = some o) (hk : K_mo_rules_24 Q x1 o) : mW mX12_rules 7 Q 57 [some (.ref 66), some (.int x1), some (.int x2), some (.int x3)] [] M := by
  unfold b_mo_rules_24_57 at hf
  refine y_aload_n (i := 0) (n := 58) ⟨dX12_rules_57, rfl⟩ rfl ?_
  refine y_iload_n (i := 3) (n := 59) ⟨dX12_rules_58, rfl⟩ rfl ?_
  obtain ⟨q5, hv6, hf⟩ := b_s hf
  refine c_mo_stopsAll x3 M (n := 62) ⟨dX12_rules_59, rfl⟩ klX12_542 hv6 (by decide) (Nat.le_of_ble_eq_true rfl) rfl rfl ?_
  refine y_if_eq (t := 67) (n := 65) ⟨dX12_rules_62, rfl, rfl⟩ (fun h0 => ?_) (fun h0 => ?_)
  · have hc := bI_0 h0
    replace hf := i_f hc hf
    refine y_iinc (i := 3) (n := 70) (b := (x3 + 1)) (L2 := [some (.ref 66), some (.int x1), some (.int x2), some (.int (x3 + 1))]) ⟨dX12_rules_67, rfl⟩ rfl (by rw [ki_1]) (by decide) rfl rfl ?_
    refine y_goto (t := 24) ⟨dX12_rules_70, rfl, rfl⟩ ?_
    cases hf
    exact y_wk (L2 := [some (.ref 66), some (.int x1), some (.int x2), some (.int (x3 + 1))]) ⟨Or.inr rfl, Or.inr rfl, Or.inr rfl, Or.inr rfl, trivial⟩ hk
  · have hc := bI_1 h0
    replace hf := i_t hc hf
    refine y_iload_n (i := 3) (n := 66) ⟨dX12_rules_65, rfl⟩ rfl ?_
    refine y_istore_n (i := 2) (n := 67) (L2 := [some (.ref 66), some (.int x1), some (.int x3), some (.int x3)]) ⟨dX12_rules_66, rfl⟩ (by decide) rfl rfl ?_
    refine y_iinc (i := 3) (n := 70) (b := (x3 + 1)) (L2 := [some (.ref 66), some (.int x1), some (.int x3), some (.int (x3 + 1))]) ⟨dX12_rules_67, rfl⟩ rfl (by rw [ki_1]) (by decide) rfl rfl ?_
    refine y_goto (t := 24) ⟨dX12_rules_70, rfl, rfl⟩ ?_
    cases hf
    exact y_wk (L2 := [some (.ref 66), some (.int x1), some (.int x3), some (.int (x3 + 1))]) ⟨Or.inr rfl, Or.inr rfl, Or.inr rfl, Or.inr rfl, trivial⟩ hk
theorem w_b_mo_rules_24_24 (x1 : Int32) (x2 : Int32) (x3 : Int32)  (M : dM) {Q : mz_P} {o : ((Int32 × Int32 × dM) ⊕ (Int32 × dM))} (hf : b_mo_rules_24_24 x1 x2 x3 M = some o) (hk : K_mo_rules_24 Q x1 o) : mW mX12_rules 7 Q 24 [some (.ref 66), some (.int x1), some (.int x2), some (.int x3)] [] M := by
  unfold b_mo_rules_24_24 at hf
  refine y_iload_n (i := 3) (n := 25) ⟨dX12_rules_24, rfl⟩ rfl ?_
  refine y_sipush (n := 28) (v := 256) ⟨dX12_rules_25, rfl⟩ ks_256 ?_
  refine y_icmp_ge (t := 73) (n := 31) ⟨dX12_rules_28, rfl, rfl⟩ (fun (hc : 256 ≤ x3) => ?_) (fun (hc : ¬ (256 ≤ x3)) => ?_)
  · replace hf := i_t hc hf
    cases hf
    exact y_wk (L2 := [none, some (.int x1), some (.int x2), none]) ⟨Or.inl rfl, Or.inr rfl, Or.inr rfl, Or.inl rfl, trivial⟩ hk
  · replace hf := i_f hc hf
    refine y_iload_n (i := 3) (n := 32) ⟨dX12_rules_31, rfl⟩ rfl ?_
    refine y_aload_n (i := 0) (n := 33) ⟨dX12_rules_32, rfl⟩ rfl ?_
    obtain ⟨v3, hv4, hf⟩ := b_s hf
    refine c_mo_ruled M (n := 36) ⟨dX12_rules_33, rfl⟩ klX12_539 hv4 (by decide) (Nat.le_of_ble_eq_true rfl) rfl rfl ?_
    refine y_iconst (n := 37) (v := (-1)) ⟨dX12_rules_36, rfl⟩ ki_m1 ?_
    refine y_ixor (n := 38) ⟨dX12_rules_37, rfl⟩ ?_
    refine y_iand (n := 39) ⟨dX12_rules_38, rfl⟩ ?_
    refine y_if_ne (t := 67) (n := 42) ⟨dX12_rules_39, rfl, rfl⟩ (fun (hc : ¬ ((x3 &&& (v3 ^^^ (-1))) = 0)) => ?_) (fun (hc : (x3 &&& (v3 ^^^ (-1))) = 0) => ?_)
    · replace hf := i_f hc hf
      refine y_iinc (i := 3) (n := 70) (b := (x3 + 1)) (L2 := [some (.ref 66), some (.int x1), some (.int x2), some (.int (x3 + 1))]) ⟨dX12_rules_67, rfl⟩ rfl (by rw [ki_1]) (by decide) rfl rfl ?_
      refine y_goto (t := 24) ⟨dX12_rules_70, rfl, rfl⟩ ?_
      cases hf
      exact y_wk (L2 := [some (.ref 66), some (.int x1), some (.int x2), some (.int (x3 + 1))]) ⟨Or.inr rfl, Or.inr rfl, Or.inr rfl, Or.inr rfl, trivial⟩ hk
    · replace hf := i_t hc hf
      refine y_iload_n (i := 2) (n := 43) ⟨dX12_rules_42, rfl⟩ rfl ?_
      refine y_if_lt (t := 57) (n := 46) ⟨dX12_rules_43, rfl, rfl⟩ (fun (hc : x2 < 0) => ?_) (fun (hc : ¬ (x2 < 0)) => ?_)
      · replace hf := i_t hc hf
        exact y_wk (L2 := [some (.ref 66), some (.int x1), some (.int x2), some (.int x3)]) ⟨Or.inr rfl, Or.inr rfl, Or.inr rfl, Or.inr rfl, trivial⟩ (w_b_mo_rules_24_57 x1 x2 x3 M hf hk)
      · replace hf := i_f hc hf
        refine y_iload_n (i := 3) (n := 47) ⟨dX12_rules_46, rfl⟩ rfl ?_
        obtain ⟨v7, hv8, hf⟩ := b_s hf
        refine c_mo_bits x3 M (n := 50) ⟨dX12_rules_47, rfl⟩ klX12_242 hv8 (by decide) (Nat.le_of_ble_eq_true rfl) rfl rfl ?_
        refine y_iload_n (i := 2) (n := 51) ⟨dX12_rules_50, rfl⟩ rfl ?_
        obtain ⟨v9, hv10, hf⟩ := b_s hf
        refine c_mo_bits x2 M (n := 54) ⟨dX12_rules_51, rfl⟩ klX12_242 hv10 (by decide) (Nat.le_of_ble_eq_true rfl) rfl rfl ?_
        refine y_icmp_ge (t := 67) (n := 57) ⟨dX12_rules_54, rfl, rfl⟩ (fun (hc : v9 ≤ v7) => ?_) (fun (hc : ¬ (v9 ≤ v7)) => ?_)
        · replace hf := i_t hc hf
          refine y_iinc (i := 3) (n := 70) (b := (x3 + 1)) (L2 := [some (.ref 66), some (.int x1), some (.int x2), some (.int (x3 + 1))]) ⟨dX12_rules_67, rfl⟩ rfl (by rw [ki_1]) (by decide) rfl rfl ?_
          refine y_goto (t := 24) ⟨dX12_rules_70, rfl, rfl⟩ ?_
          cases hf
          exact y_wk (L2 := [some (.ref 66), some (.int x1), some (.int x2), some (.int (x3 + 1))]) ⟨Or.inr rfl, Or.inr rfl, Or.inr rfl, Or.inr rfl, trivial⟩ hk
        · replace hf := i_f hc hf
          exact y_wk (L2 := [some (.ref 66), some (.int x1), some (.int x2), some (.int x3)]) ⟨Or.inr rfl, Or.inr rfl, Or.inr rfl, Or.inr rfl, trivial⟩ (w_b_mo_rules_24_57 x1 x2 x3 M hf hk)
theorem wl_mo_rules_24 (x1 : Int32) (x2 : Int32) (x3 : Int32) (M : dM) {Q : mz_P} {x : (Int32 × dM)} (hf : l_mo_rules_24 x1 x2 x3 M = some x) (hk : K_mo_rules_24 Q x1 (.inr x)) : mW mX12_rules 7 Q 24 [some (.ref 66), some (.int x1), some (.int x2), some (.int x3)] [] M :=
  lpc_wp (σ := (Int32 × Int32 × dM)) (ξ := (Int32 × dM)) (s := (x2, x3, M)) (Wh := fun s => mW mX12_rules 7 Q 24 [some (.ref 66), some (.int x1), some (.int s.1), some (.int s.2.1)] [] s.2.2) (K := K_mo_rules_24 Q x1) (fun _ h => h) (fun s o hb hk => w_b_mo_rules_24_24 x1 s.1 s.2.1 s.2.2 hb hk) hf hk
theorem ok_mo_rules (a1 : Int32) (M : dM) {o : (Int32 × dM)} (hf : f_mo_rules a1 M = some o) : mO mX12_rules 7 [.ref 66, .int a1] M (some (.int o.1)) o.2 := by
  refine y_ok (by decide +kernel) (Nat.le_of_ble_eq_true rfl) (L0 := [some (.ref 66), some (.int a1), none, none]) rfl ?_
  have hk := mR_mQ (some (.int o.1)) o.2
  generalize mQ _ _ = Q at hk ⊢
  unfold f_mo_rules at hf
  refine y_aload_n (i := 0) (n := 1) ⟨dX12_rules_0, rfl⟩ rfl ?_
  refine y_iconst (n := 2) (v := 0) ⟨dX12_rules_1, rfl⟩ ki_0 ?_
  refine y_putI (n := 5) ⟨dX12_rules_2, rfl⟩ kfX12_214 l_66 (by decide +kernel) rfl ?_
  refine y_iload_n (i := 1) (n := 6) ⟨dX12_rules_5, rfl⟩ rfl ?_
  refine y_iconst (n := 7) (v := 0) ⟨dX12_rules_6, rfl⟩ ki_0 ?_
  refine y_iconst (n := 8) (v := 1) ⟨dX12_rules_7, rfl⟩ ki_1 ?_
  refine c_mo_within a1 0 1 (sI M 66 0 0) (n := 11) ⟨dX12_rules_8, rfl⟩ klX12_221 rfl (by decide) (Nat.le_of_ble_eq_true rfl) rfl rfl ?_
  refine y_if_ne (t := 16) (n := 14) ⟨dX12_rules_11, rfl, rfl⟩ (fun h0 => ?_) (fun h0 => ?_)
  · have hc := bI_1 h0
    replace hf := i_t hc hf
    refine y_aload_n (i := 0) (n := 17) ⟨dX12_rules_16, rfl⟩ rfl ?_
    obtain ⟨q1, hv2, hf⟩ := b_s hf
    refine c_mo_knows (sI M 66 0 0) (n := 20) ⟨dX12_rules_17, rfl⟩ klX12_505 hv2 (by decide) (Nat.le_of_ble_eq_true rfl) rfl rfl ?_
    refine y_iconst (n := 21) (v := (-1)) ⟨dX12_rules_20, rfl⟩ ki_m1 ?_
    refine y_istore_n (i := 2) (n := 22) (L2 := [some (.ref 66), some (.int a1), some (.int (-1)), none]) ⟨dX12_rules_21, rfl⟩ (by decide) rfl rfl ?_
    refine y_iconst (n := 23) (v := 0) ⟨dX12_rules_22, rfl⟩ ki_0 ?_
    refine y_istore_n (i := 3) (n := 24) (L2 := [some (.ref 66), some (.int a1), some (.int (-1)), some (.int 0)]) ⟨dX12_rules_23, rfl⟩ (by decide) rfl rfl ?_
    obtain ⟨t11, hl12, hf⟩ := b_s hf
    refine y_wk (L2 := [some (.ref 66), some (.int a1), some (.int (-1)), some (.int 0)]) ⟨Or.inr rfl, Or.inr rfl, Or.inr rfl, Or.inr rfl, trivial⟩ (wl_mo_rules_24 a1 (-1) 0 q1 hl12 ?_)
    show mW mX12_rules 7 Q 73 [none, some (.int a1), some (.int t11.1), none] [] t11.2
    refine y_iload_n (i := 2) (n := 74) ⟨dX12_rules_73, rfl⟩ rfl ?_
    refine y_if_ge (t := 81) (n := 77) ⟨dX12_rules_74, rfl, rfl⟩ (fun (hc : 0 ≤ t11.1) => ?_) (fun (hc : ¬ (0 ≤ t11.1)) => ?_)
    · replace hf := i_t hc hf
      refine y_iload_n (i := 1) (n := 82) ⟨dX12_rules_81, rfl⟩ rfl ?_
      refine y_if_ne (t := 92) (n := 85) ⟨dX12_rules_82, rfl, rfl⟩ (fun (hc : ¬ (a1 = 0)) => ?_) (fun (hc : a1 = 0) => ?_)
      · replace hf := i_f hc hf
        refine y_iload_n (i := 2) (n := 93) ⟨dX12_rules_92, rfl⟩ rfl ?_
        cases hf
        exact y_ireturn (n := 94) ⟨dX12_rules_93, rfl⟩ rfl rfl hk
      · replace hf := i_t hc hf
        refine y_iload_n (i := 2) (n := 86) ⟨dX12_rules_85, rfl⟩ rfl ?_
        obtain ⟨v14, hv15, hf⟩ := b_s hf
        refine c_mo_bits t11.1 t11.2 (n := 89) ⟨dX12_rules_86, rfl⟩ klX12_242 hv15 (by decide) (Nat.le_of_ble_eq_true rfl) rfl rfl ?_
        refine y_goto (t := 93) ⟨dX12_rules_89, rfl, rfl⟩ ?_
        cases hf
        exact y_ireturn (n := 94) ⟨dX12_rules_93, rfl⟩ rfl rfl hk
    · replace hf := i_f hc hf
      refine y_iconst (n := 78) (v := (-1)) ⟨dX12_rules_77, rfl⟩ ki_m1 ?_
      refine y_goto (t := 93) ⟨dX12_rules_78, rfl, rfl⟩ ?_
      cases hf
      exact y_ireturn (n := 94) ⟨dX12_rules_93, rfl⟩ rfl rfl hk
  · have hc := bI_0 h0
    replace hf := i_f hc hf
    refine y_iconst (n := 15) (v := (-1)) ⟨dX12_rules_14, rfl⟩ ki_m1 ?_
    cases hf
    exact y_ireturn (n := 16) ⟨dX12_rules_15, rfl⟩ rfl rfl hk
theorem c_mo_rules (a1 : Int32) (M : dM) {o : (Int32 × dM)} {y : mz_M} {d : Nat} {Q : mz_P} {pc n i : Nat} {L : List (Option Value)} {st : List Value} (h : mz_d y.2.1 pc n 3 (.invokevirtual i)) (hl : mz_ml y.1.cls i yX12_rules) (hf : f_mo_rules a1 M = some o) (hd : 7 + 1 ≤ d) (hsm : (st.map (fun v => v.category)).sum ≤ 8) (hLr : mz_rL 133 L = true) (hSr : mz_rS 133 st = true) (kk : mW y d Q n L (.int o.1 :: st) o.2) : mW y d Q pc L (.int a1 :: .ref 66 :: st) M :=
  y_callV kmX12_rules kvX12_rules l_66 (by decide +kernel) (by decide +kernel) h hl (ok_mo_rules a1 M hf) (vs := [.int a1]) rfl rfl hd hsm hLr hSr kk
noncomputable def f_mo_paper (a1 : Int32) (M : dM) : Option (Bool × dM) :=
  if (f_mo_within a1 0 999) = true then
    if (gI (sI M 66 0 0) 66 77) = 40 then
      some (false, (sI M 66 0 0))
    else
      gd (vp_in (gI (sI M 66 0 0) 66 77) 40) <|
      some (true, (sI (sI (sI M 66 0 0) 113 (gI (sI M 66 0 0) 66 77).toNatClampNeg a1) 66 77 ((gI (sI (sI M 66 0 0) 113 (gI (sI M 66 0 0) 66 77).toNatClampNeg a1) 66 77) + 1)))
  else
    some (false, (sI M 66 0 0))
theorem ok_mo_paper (a1 : Int32) (M : dM) {o : (Bool × dM)} (hf : f_mo_paper a1 M = some o) : mO mX12_paper 2 [.ref 66, .int a1] M (some (.int (bI o.1))) o.2 := by
  refine y_ok (by decide +kernel) (Nat.le_of_ble_eq_true rfl) (L0 := [some (.ref 66), some (.int a1)]) rfl ?_
  have hk := mR_mQ (some (.int (bI o.1))) o.2
  generalize mQ _ _ = Q at hk ⊢
  unfold f_mo_paper at hf
  refine y_aload_n (i := 0) (n := 1) ⟨dX12_paper_0, rfl⟩ rfl ?_
  refine y_iconst (n := 2) (v := 0) ⟨dX12_paper_1, rfl⟩ ki_0 ?_
  refine y_putI (n := 5) ⟨dX12_paper_2, rfl⟩ kfX12_214 l_66 (by decide +kernel) rfl ?_
  refine y_iload_n (i := 1) (n := 6) ⟨dX12_paper_5, rfl⟩ rfl ?_
  refine y_iconst (n := 7) (v := 0) ⟨dX12_paper_6, rfl⟩ ki_0 ?_
  refine y_sipush (n := 10) (v := 999) ⟨dX12_paper_7, rfl⟩ ks_999 ?_
  refine c_mo_within a1 0 999 (sI M 66 0 0) (n := 13) ⟨dX12_paper_10, rfl⟩ klX12_221 rfl (by decide) (Nat.le_of_ble_eq_true rfl) rfl rfl ?_
  refine y_if_eq (t := 25) (n := 16) ⟨dX12_paper_13, rfl, rfl⟩ (fun h0 => ?_) (fun h0 => ?_)
  · have hc := bI_0 h0
    replace hf := i_f hc hf
    refine y_iconst (n := 26) (v := 0) ⟨dX12_paper_25, rfl⟩ ki_0 ?_
    cases hf
    exact y_ireturn (n := 27) ⟨dX12_paper_26, rfl⟩ rfl rfl hk
  · have hc := bI_1 h0
    replace hf := i_t hc hf
    refine y_aload_n (i := 0) (n := 17) ⟨dX12_paper_16, rfl⟩ rfl ?_
    refine y_getI (n := 20) ⟨dX12_paper_17, rfl⟩ kfX12_545 l_66 rfl ?_
    refine y_bipush (n := 22) (v := 40) ⟨dX12_paper_20, rfl⟩ kb_40 ?_
    refine y_icmp_ne (t := 27) (n := 25) ⟨dX12_paper_22, rfl, rfl⟩ (fun (hc : ¬ ((gI (sI M 66 0 0) 66 77) = 40)) => ?_) (fun (hc : (gI (sI M 66 0 0) 66 77) = 40) => ?_)
    · replace hf := i_f hc hf
      refine y_aload_n (i := 0) (n := 28) ⟨dX12_paper_27, rfl⟩ rfl ?_
      refine y_getR (n := 31) ⟨dX12_paper_28, rfl⟩ kfX12_150 l_66 rfl r_66_78 ?_
      refine y_aload_n (i := 0) (n := 32) ⟨dX12_paper_31, rfl⟩ rfl ?_
      refine y_getI (n := 35) ⟨dX12_paper_32, rfl⟩ kfX12_545 l_66 rfl ?_
      refine y_iload_n (i := 1) (n := 36) ⟨dX12_paper_35, rfl⟩ rfl ?_
      obtain ⟨hg1, hf⟩ := g_s hf
      refine y_iastore (n := 37) ⟨dX12_paper_36, rfl⟩ l_113 hg1 ?_
      refine y_aload_n (i := 0) (n := 38) ⟨dX12_paper_37, rfl⟩ rfl ?_
      refine y_dup_r (n := 39) ⟨dX12_paper_38, rfl⟩ ?_
      refine y_getI (n := 42) ⟨dX12_paper_39, rfl⟩ kfX12_545 l_66 rfl ?_
      refine y_iconst (n := 43) (v := 1) ⟨dX12_paper_42, rfl⟩ ki_1 ?_
      refine y_iadd (n := 44) ⟨dX12_paper_43, rfl⟩ ?_
      refine y_putI (n := 47) ⟨dX12_paper_44, rfl⟩ kfX12_545 l_66 (by decide +kernel) rfl ?_
      refine y_iconst (n := 48) (v := 1) ⟨dX12_paper_47, rfl⟩ ki_1 ?_
      cases hf
      exact y_ireturn (n := 49) ⟨dX12_paper_48, rfl⟩ rfl rfl hk
    · replace hf := i_t hc hf
      refine y_iconst (n := 26) (v := 0) ⟨dX12_paper_25, rfl⟩ ki_0 ?_
      cases hf
      exact y_ireturn (n := 27) ⟨dX12_paper_26, rfl⟩ rfl rfl hk
theorem c_mo_paper (a1 : Int32) (M : dM) {o : (Bool × dM)} {y : mz_M} {d : Nat} {Q : mz_P} {pc n i : Nat} {L : List (Option Value)} {st : List Value} (h : mz_d y.2.1 pc n 3 (.invokevirtual i)) (hl : mz_ml y.1.cls i yX12_paper) (hf : f_mo_paper a1 M = some o) (hd : 2 + 1 ≤ d) (hsm : (st.map (fun v => v.category)).sum ≤ 8) (hLr : mz_rL 133 L = true) (hSr : mz_rS 133 st = true) (kk : mW y d Q n L (.int (bI o.1) :: st) o.2) : mW y d Q pc L (.int a1 :: .ref 66 :: st) M :=
  y_callV kmX12_paper kvX12_paper l_66 (by decide +kernel) (by decide +kernel) h hl (ok_mo_paper a1 M hf) (vs := [.int a1]) rfl rfl hd hsm hLr hSr kk
def K_mo_laysDay_2 (Q : mz_P) (x1 : Int32) : ((Int32 × dM) ⊕ dM) → Prop
  | .inl s => mW mX12_laysDay 2 Q 2 [some (.ref 66), some (.int x1), some (.int s.1), none, none] [] s.2
  | .inr t => mW mX12_laysDay 2 Q 21 [some (.ref 66), some (.int x1), none, none, none] [] t
noncomputable def b_mo_laysDay_2_2 (x1 : Int32) (x2 : Int32) (M : dM) : Option ((Int32 × dM) ⊕ dM) :=
  if 9 ≤ x2 then
    some (.inr M)
  else
    gd (vp_in x2 20) <|
    some (.inl ((x2 + 1), (sI M 100 x2.toNatClampNeg 0)))
noncomputable def l_mo_laysDay_2 (x1 : Int32) (x2 : Int32) (M : dM) : Option dM := lpc (fun s => b_mo_laysDay_2_2 x1 s.1 s.2) (x2, M)
def K_mo_laysDay_30 (Q : mz_P) (x1 : Int32) : ((Int32 × dM) ⊕ dM) → Prop
  | .inl s => mW mX12_laysDay 2 Q 30 [some (.ref 66), some (.int x1), some (.int s.1), none, none] [] s.2
  | .inr t => mW mX12_laysDay 2 Q 256 [some (.ref 66), some (.int x1), none, none, none] [] t
def K_mo_laysDay_56 (Q : mz_P) (x1 : Int32) (x2 : Int32) : ((Int32 × Int32 × dM) ⊕ (Int32 × dM)) → Prop
  | .inl s => mW mX12_laysDay 2 Q 56 [some (.ref 66), some (.int x1), some (.int x2), some (.int s.1), some (.int s.2.1)] [] s.2.2
  | .inr t => mW mX12_laysDay 2 Q 139 [some (.ref 66), some (.int x1), some (.int x2), some (.int t.1), none] [] t.2
noncomputable def b_mo_laysDay_56_131 (x1 : Int32) (x2 : Int32) (x3 : Int32) (x4 : Int32) (y1 : Int32) (y2 : Int32) (y3 : Int32) (M : dM) : Option ((Int32 × Int32 × dM) ⊕ (Int32 × dM)) :=
  gd (vp_in y1 20) <|
  some (.inl (x3, (x4 + 1), (sI M 100 y1.toNatClampNeg (y2 + y3))))
noncomputable def b_mo_laysDay_56_130 (x1 : Int32) (x2 : Int32) (x3 : Int32) (x4 : Int32) (y1 : Int32) (y2 : Int32) (M : dM) : Option ((Int32 × Int32 × dM) ⊕ (Int32 × dM)) :=
  b_mo_laysDay_56_131 x1 x2 x3 x4 y1 y2 0 M
noncomputable def b_mo_laysDay_56_101 (x1 : Int32) (x2 : Int32) (x4 : Int32) (y0 : Int32) (y1 : Int32) (M : dM) : Option ((Int32 × Int32 × dM) ⊕ (Int32 × dM)) :=
  if x2 ≤ x4 then
    b_mo_laysDay_56_130 x1 x2 (y0 + y1) x4 5 (gI M 100 5) M
  else
    (f_mo_isTwin x2 x4 M).bind fun v9 =>
    if v9 = true then
      b_mo_laysDay_56_131 x1 x2 (y0 + y1) x4 5 (gI M 100 5) 1 M
    else
      b_mo_laysDay_56_130 x1 x2 (y0 + y1) x4 5 (gI M 100 5) M
noncomputable def b_mo_laysDay_56_56 (x1 : Int32) (x2 : Int32) (x3 : Int32) (x4 : Int32) (M : dM) : Option ((Int32 × Int32 × dM) ⊕ (Int32 × dM)) :=
  if (gI M 66 9) ≤ x4 then
    some (.inr (x3, M))
  else
    gd (vp_in x4 40) <|
    if (gI M 76 x4.toNatClampNeg) ≤ x1 then
      gd (vp_in x2 40) <|
      if (gI M 78 x4.toNatClampNeg) = (gI M 78 x2.toNatClampNeg) then
        b_mo_laysDay_56_101 x1 x2 x4 x3 1 M
      else
        b_mo_laysDay_56_101 x1 x2 x4 x3 0 M
    else
      some (.inl (x3, (x4 + 1), M))
noncomputable def l_mo_laysDay_56 (x1 : Int32) (x2 : Int32) (x3 : Int32) (x4 : Int32) (M : dM) : Option (Int32 × dM) := lpc (fun s => b_mo_laysDay_56_56 x1 x2 s.1 s.2.1 s.2.2) (x3, x4, M)
noncomputable def b_mo_laysDay_30_248 (x1 : Int32) (x2 : Int32) (y1 : Int32) (y2 : Int32) (y3 : Int32) (M : dM) : Option ((Int32 × dM) ⊕ dM) :=
  gd (vp_in y1 20) <|
  some (.inl ((x2 + 1), (sI M 100 y1.toNatClampNeg (y2 + y3))))
noncomputable def b_mo_laysDay_30_225 (x1 : Int32) (x2 : Int32) (y1 : Int32) (y2 : Int32) (M : dM) : Option ((Int32 × dM) ⊕ dM) :=
  gd (vp_in y1 20) <|
  gd (vp_in x2 40) <|
  if (gI (sI M 100 y1.toNatClampNeg y2) 114 x2.toNatClampNeg) ≤ 0 then
    b_mo_laysDay_30_248 x1 x2 7 (gI (sI M 100 y1.toNatClampNeg y2) 100 7) 0 (sI M 100 y1.toNatClampNeg y2)
  else
    b_mo_laysDay_30_248 x1 x2 7 (gI (sI M 100 y1.toNatClampNeg y2) 100 7) 1 (sI M 100 y1.toNatClampNeg y2)
noncomputable def b_mo_laysDay_30_195 (x1 : Int32) (x2 : Int32) (x3 : Int32) (y1 : Int32) (y2 : Int32) (y3 : Int32) (M : dM) : Option ((Int32 × dM) ⊕ dM) :=
  gd (vp_in y1 20) <|
  if x3 ≤ (gI (sI M 100 y1.toNatClampNeg (y2 + y3)) 100 6) then
    b_mo_laysDay_30_225 x1 x2 6 (gI (sI M 100 y1.toNatClampNeg (y2 + y3)) 100 6) (sI M 100 y1.toNatClampNeg (y2 + y3))
  else
    b_mo_laysDay_30_225 x1 x2 6 x3 (sI M 100 y1.toNatClampNeg (y2 + y3))
noncomputable def b_mo_laysDay_30_171 (x1 : Int32) (x2 : Int32) (x3 : Int32) (y1 : Int32) (y2 : Int32) (y3 : Int32) (M : dM) : Option ((Int32 × dM) ⊕ dM) :=
  gd (vp_in y1 20) <|
  gd (vp_in x2 40) <|
  if (gI (sI M 100 y1.toNatClampNeg (y2 + y3)) 104 x2.toNatClampNeg) = 1 then
    b_mo_laysDay_30_195 x1 x2 x3 4 (gI (sI M 100 y1.toNatClampNeg (y2 + y3)) 100 4) 1 (sI M 100 y1.toNatClampNeg (y2 + y3))
  else
    b_mo_laysDay_30_195 x1 x2 x3 4 (gI (sI M 100 y1.toNatClampNeg (y2 + y3)) 100 4) 0 (sI M 100 y1.toNatClampNeg (y2 + y3))
noncomputable def b_mo_laysDay_30_30 (x1 : Int32) (x2 : Int32) (M : dM) : Option ((Int32 × dM) ⊕ dM) :=
  if (gI M 66 9) ≤ x2 then
    some (.inr M)
  else
    gd (vp_in x2 40) <|
    if (gI M 76 x2.toNatClampNeg) ≤ x1 then
      (l_mo_laysDay_56 x1 x2 0 0 M).bind fun t11 =>
        if (gI (sI t11.2 100 2 ((gI t11.2 100 2) + 1)) 104 x2.toNatClampNeg) = 2 then
          b_mo_laysDay_30_171 x1 x2 t11.1 3 (gI (sI t11.2 100 2 ((gI t11.2 100 2) + 1)) 100 3) 1 (sI t11.2 100 2 ((gI t11.2 100 2) + 1))
        else
          b_mo_laysDay_30_171 x1 x2 t11.1 3 (gI (sI t11.2 100 2 ((gI t11.2 100 2) + 1)) 100 3) 0 (sI t11.2 100 2 ((gI t11.2 100 2) + 1))
    else
      some (.inl ((x2 + 1), M))
noncomputable def l_mo_laysDay_30 (x1 : Int32) (x2 : Int32) (M : dM) : Option dM := lpc (fun s => b_mo_laysDay_30_30 x1 s.1 s.2) (x2, M)
def K_mo_laysDay_258 (Q : mz_P) (x1 : Int32) : ((Int32 × dM) ⊕ dM) → Prop
  | .inl s => mW mX12_laysDay 2 Q 258 [some (.ref 66), some (.int x1), some (.int s.1), none, none] [] s.2
  | .inr r => mR Q none r
noncomputable def b_mo_laysDay_258_289 (x1 : Int32) (x2 : Int32) (y1 : Int32) (y2 : Int32) (y3 : Int32) (M : dM) : Option ((Int32 × dM) ⊕ dM) :=
  gd (vp_in y1 20) <|
  some (.inl ((x2 + 1), (sI M 100 y1.toNatClampNeg (y2 + y3))))
noncomputable def b_mo_laysDay_258_258 (x1 : Int32) (x2 : Int32) (M : dM) : Option ((Int32 × dM) ⊕ dM) :=
  if (gI M 66 77) ≤ x2 then
    some (.inr M)
  else
    gd (vp_in x2 40) <|
    if x1 < (gI M 113 x2.toNatClampNeg) then
      b_mo_laysDay_258_289 x1 x2 8 (gI M 100 8) 0 M
    else
      b_mo_laysDay_258_289 x1 x2 8 (gI M 100 8) 1 M
noncomputable def l_mo_laysDay_258 (x1 : Int32) (x2 : Int32) (M : dM) : Option dM := lpc (fun s => b_mo_laysDay_258_258 x1 s.1 s.2) (x2, M)
noncomputable def f_mo_laysDay (a1 : Int32) (M : dM) : Option dM :=
  (l_mo_laysDay_2 a1 1 M).bind fun t2 =>
    (l_mo_laysDay_30 a1 0 (sI t2 100 1 a1)).bind fun t20 =>
      (l_mo_laysDay_258 a1 0 t20).bind fun r27 => some r27
theorem w_b_mo_laysDay_2_2 (x1 : Int32) (x2 : Int32)  (M : dM) {Q : mz_P} {o : ((Int32 × dM) ⊕ dM)} (hf : b_mo_laysDay_2_2 x1 x2 M = some o) (hk : K_mo_laysDay_2 Q x1 o) : mW mX12_laysDay 2 Q 2 [some (.ref 66), some (.int x1), some (.int x2), none, none] [] M := by
  unfold b_mo_laysDay_2_2 at hf
  refine y_iload_n (i := 2) (n := 3) ⟨dX12_laysDay_2, rfl⟩ rfl ?_
  refine y_bipush (n := 5) (v := 9) ⟨dX12_laysDay_3, rfl⟩ kb_9 ?_
  refine y_icmp_ge (t := 21) (n := 8) ⟨dX12_laysDay_5, rfl, rfl⟩ (fun (hc : 9 ≤ x2) => ?_) (fun (hc : ¬ (9 ≤ x2)) => ?_)
  · replace hf := i_t hc hf
    cases hf
    exact y_wk (L2 := [some (.ref 66), some (.int x1), none, none, none]) ⟨Or.inr rfl, Or.inr rfl, Or.inl rfl, Or.inr rfl, Or.inr rfl, trivial⟩ hk
  · replace hf := i_f hc hf
    refine y_aload_n (i := 0) (n := 9) ⟨dX12_laysDay_8, rfl⟩ rfl ?_
    refine y_getR (n := 12) ⟨dX12_laysDay_9, rfl⟩ kfX12_110 l_66 rfl r_66_50 ?_
    refine y_iload_n (i := 2) (n := 13) ⟨dX12_laysDay_12, rfl⟩ rfl ?_
    refine y_iconst (n := 14) (v := 0) ⟨dX12_laysDay_13, rfl⟩ ki_0 ?_
    obtain ⟨hg1, hf⟩ := g_s hf
    refine y_iastore (n := 15) ⟨dX12_laysDay_14, rfl⟩ l_100 hg1 ?_
    refine y_iinc (i := 2) (n := 18) (b := (x2 + 1)) (L2 := [some (.ref 66), some (.int x1), some (.int (x2 + 1)), none, none]) ⟨dX12_laysDay_15, rfl⟩ rfl (by rw [ki_1]) (by decide) rfl rfl ?_
    refine y_goto (t := 2) ⟨dX12_laysDay_18, rfl, rfl⟩ ?_
    cases hf
    exact y_wk (L2 := [some (.ref 66), some (.int x1), some (.int (x2 + 1)), none, none]) ⟨Or.inr rfl, Or.inr rfl, Or.inr rfl, Or.inr rfl, Or.inr rfl, trivial⟩ hk
theorem wl_mo_laysDay_2 (x1 : Int32) (x2 : Int32) (M : dM) {Q : mz_P} {x : dM} (hf : l_mo_laysDay_2 x1 x2 M = some x) (hk : K_mo_laysDay_2 Q x1 (.inr x)) : mW mX12_laysDay 2 Q 2 [some (.ref 66), some (.int x1), some (.int x2), none, none] [] M :=
  lpc_wp (σ := (Int32 × dM)) (ξ := dM) (s := (x2, M)) (Wh := fun s => mW mX12_laysDay 2 Q 2 [some (.ref 66), some (.int x1), some (.int s.1), none, none] [] s.2) (K := K_mo_laysDay_2 Q x1) (fun _ h => h) (fun s o hb hk => w_b_mo_laysDay_2_2 x1 s.1 s.2 hb hk) hf hk
theorem w_b_mo_laysDay_56_131 (x1 : Int32) (x2 : Int32) (x3 : Int32) (x4 : Int32) (y1 : Int32) (y2 : Int32) (y3 : Int32)  (M : dM) {Q : mz_P} {o : ((Int32 × Int32 × dM) ⊕ (Int32 × dM))} (hf : b_mo_laysDay_56_131 x1 x2 x3 x4 y1 y2 y3 M = some o) (hk : K_mo_laysDay_56 Q x1 x2 o) : mW mX12_laysDay 2 Q 131 [some (.ref 66), some (.int x1), some (.int x2), some (.int x3), some (.int x4)] [.int y3, .int y2, .int y1, .ref 100] M := by
  unfold b_mo_laysDay_56_131 at hf
  refine y_iadd (n := 132) ⟨dX12_laysDay_131, rfl⟩ ?_
  obtain ⟨hg8, hf⟩ := g_s hf
  refine y_iastore (n := 133) ⟨dX12_laysDay_132, rfl⟩ l_100 hg8 ?_
  refine y_iinc (i := 4) (n := 136) (b := (x4 + 1)) (L2 := [some (.ref 66), some (.int x1), some (.int x2), some (.int x3), some (.int (x4 + 1))]) ⟨dX12_laysDay_133, rfl⟩ rfl (by rw [ki_1]) (by decide) rfl rfl ?_
  refine y_goto (t := 56) ⟨dX12_laysDay_136, rfl, rfl⟩ ?_
  cases hf
  exact y_wk (L2 := [some (.ref 66), some (.int x1), some (.int x2), some (.int x3), some (.int (x4 + 1))]) ⟨Or.inr rfl, Or.inr rfl, Or.inr rfl, Or.inr rfl, Or.inr rfl, trivial⟩ hk
theorem w_b_mo_laysDay_56_130 (x1 : Int32) (x2 : Int32) (x3 : Int32) (x4 : Int32) (y1 : Int32) (y2 : Int32)  (M : dM) {Q : mz_P} {o : ((Int32 × Int32 × dM) ⊕ (Int32 × dM))} (hf : b_mo_laysDay_56_130 x1 x2 x3 x4 y1 y2 M = some o) (hk : K_mo_laysDay_56 Q x1 x2 o) : mW mX12_laysDay 2 Q 130 [some (.ref 66), some (.int x1), some (.int x2), some (.int x3), some (.int x4)] [.int y2, .int y1, .ref 100] M := by
  unfold b_mo_laysDay_56_130 at hf
  refine y_iconst (n := 131) (v := 0) ⟨dX12_laysDay_130, rfl⟩ ki_0 ?_
  exact y_wk (L2 := [some (.ref 66), some (.int x1), some (.int x2), some (.int x3), some (.int x4)]) ⟨Or.inr rfl, Or.inr rfl, Or.inr rfl, Or.inr rfl, Or.inr rfl, trivial⟩ (w_b_mo_laysDay_56_131 x1 x2 x3 x4 y1 y2 0 M hf hk)
theorem w_b_mo_laysDay_56_101 (x1 : Int32) (x2 : Int32) (x4 : Int32) (y0 : Int32) (y1 : Int32)  (M : dM) {Q : mz_P} {o : ((Int32 × Int32 × dM) ⊕ (Int32 × dM))} (hf : b_mo_laysDay_56_101 x1 x2 x4 y0 y1 M = some o) (hk : K_mo_laysDay_56 Q x1 x2 o) : mW mX12_laysDay 2 Q 101 [some (.ref 66), some (.int x1), some (.int x2), none, some (.int x4)] [.int y1, .int y0] M := by
  unfold b_mo_laysDay_56_101 at hf
  refine y_iadd (n := 102) ⟨dX12_laysDay_101, rfl⟩ ?_
  refine y_istore_n (i := 3) (n := 103) (L2 := [some (.ref 66), some (.int x1), some (.int x2), some (.int (y0 + y1)), some (.int x4)]) ⟨dX12_laysDay_102, rfl⟩ (by decide) rfl rfl ?_
  refine y_aload_n (i := 0) (n := 104) ⟨dX12_laysDay_103, rfl⟩ rfl ?_
  refine y_getR (n := 107) ⟨dX12_laysDay_104, rfl⟩ kfX12_110 l_66 rfl r_66_50 ?_
  refine y_iconst (n := 108) (v := 5) ⟨dX12_laysDay_107, rfl⟩ ki_5 ?_
  refine y_dup2 (n := 109) ⟨dX12_laysDay_108, rfl⟩ ?_
  refine y_iaload (n := 110) ⟨dX12_laysDay_109, rfl⟩ l_100 (by unfold vp_in; decide) ?_
  refine y_iload (i := 4) (n := 112) ⟨dX12_laysDay_110, rfl⟩ rfl ?_
  refine y_iload_n (i := 2) (n := 113) ⟨dX12_laysDay_112, rfl⟩ rfl ?_
  refine y_icmp_ge (t := 130) (n := 116) ⟨dX12_laysDay_113, rfl, rfl⟩ (fun (hc : x2 ≤ x4) => ?_) (fun (hc : ¬ (x2 ≤ x4)) => ?_)
  · replace hf := i_t hc hf
    exact y_wk (L2 := [some (.ref 66), some (.int x1), some (.int x2), some (.int (y0 + y1)), some (.int x4)]) ⟨Or.inr rfl, Or.inr rfl, Or.inr rfl, Or.inr rfl, Or.inr rfl, trivial⟩ (w_b_mo_laysDay_56_130 x1 x2 (y0 + y1) x4 5 (gI M 100 5) M hf hk)
  · replace hf := i_f hc hf
    refine y_aload_n (i := 0) (n := 117) ⟨dX12_laysDay_116, rfl⟩ rfl ?_
    refine y_iload_n (i := 2) (n := 118) ⟨dX12_laysDay_117, rfl⟩ rfl ?_
    refine y_iload (i := 4) (n := 120) ⟨dX12_laysDay_118, rfl⟩ rfl ?_
    obtain ⟨v9, hv10, hf⟩ := b_s hf
    refine c_mo_isTwin x2 x4 M (n := 123) ⟨dX12_laysDay_120, rfl⟩ klX12_245 hv10 (by decide) (Nat.le_of_ble_eq_true rfl) rfl rfl ?_
    refine y_if_eq (t := 130) (n := 126) ⟨dX12_laysDay_123, rfl, rfl⟩ (fun h0 => ?_) (fun h0 => ?_)
    · have hc := bI_0 h0
      replace hf := i_f hc hf
      exact y_wk (L2 := [some (.ref 66), some (.int x1), some (.int x2), some (.int (y0 + y1)), some (.int x4)]) ⟨Or.inr rfl, Or.inr rfl, Or.inr rfl, Or.inr rfl, Or.inr rfl, trivial⟩ (w_b_mo_laysDay_56_130 x1 x2 (y0 + y1) x4 5 (gI M 100 5) M hf hk)
    · have hc := bI_1 h0
      replace hf := i_t hc hf
      refine y_iconst (n := 127) (v := 1) ⟨dX12_laysDay_126, rfl⟩ ki_1 ?_
      refine y_goto (t := 131) ⟨dX12_laysDay_127, rfl, rfl⟩ ?_
      exact y_wk (L2 := [some (.ref 66), some (.int x1), some (.int x2), some (.int (y0 + y1)), some (.int x4)]) ⟨Or.inr rfl, Or.inr rfl, Or.inr rfl, Or.inr rfl, Or.inr rfl, trivial⟩ (w_b_mo_laysDay_56_131 x1 x2 (y0 + y1) x4 5 (gI M 100 5) 1 M hf hk)
theorem w_b_mo_laysDay_56_56 (x1 : Int32) (x2 : Int32) (x3 : Int32) (x4 : Int32)  (M : dM) {Q : mz_P} {o : ((Int32 × Int32 × dM) ⊕ (Int32 × dM))} (hf : b_mo_laysDay_56_56 x1 x2 x3 x4 M = some o) (hk : K_mo_laysDay_56 Q x1 x2 o) : mW mX12_laysDay 2 Q 56 [some (.ref 66), some (.int x1), some (.int x2), some (.int x3), some (.int x4)] [] M := by
  unfold b_mo_laysDay_56_56 at hf
  refine y_iload (i := 4) (n := 58) ⟨dX12_laysDay_56, rfl⟩ rfl ?_
  refine y_aload_n (i := 0) (n := 59) ⟨dX12_laysDay_58, rfl⟩ rfl ?_
  refine y_getI (n := 62) ⟨dX12_laysDay_59, rfl⟩ kfX12_235 l_66 rfl ?_
  refine y_icmp_ge (t := 139) (n := 65) ⟨dX12_laysDay_62, rfl, rfl⟩ (fun (hc : (gI M 66 9) ≤ x4) => ?_) (fun (hc : ¬ ((gI M 66 9) ≤ x4)) => ?_)
  · replace hf := i_t hc hf
    cases hf
    exact y_wk (L2 := [some (.ref 66), some (.int x1), some (.int x2), some (.int x3), none]) ⟨Or.inr rfl, Or.inr rfl, Or.inr rfl, Or.inr rfl, Or.inl rfl, trivial⟩ hk
  · replace hf := i_f hc hf
    refine y_aload_n (i := 0) (n := 66) ⟨dX12_laysDay_65, rfl⟩ rfl ?_
    refine y_getR (n := 69) ⟨dX12_laysDay_66, rfl⟩ kfX12_37 l_66 rfl r_66_12 ?_
    refine y_iload (i := 4) (n := 71) ⟨dX12_laysDay_69, rfl⟩ rfl ?_
    obtain ⟨hg6, hf⟩ := g_s hf
    refine y_iaload (n := 72) ⟨dX12_laysDay_71, rfl⟩ l_76 hg6 ?_
    refine y_iload_n (i := 1) (n := 73) ⟨dX12_laysDay_72, rfl⟩ rfl ?_
    refine y_icmp_le (t := 79) (n := 76) ⟨dX12_laysDay_73, rfl, rfl⟩ (fun (hc : (gI M 76 x4.toNatClampNeg) ≤ x1) => ?_) (fun (hc : ¬ ((gI M 76 x4.toNatClampNeg) ≤ x1)) => ?_)
    · replace hf := i_t hc hf
      refine y_iload_n (i := 3) (n := 80) ⟨dX12_laysDay_79, rfl⟩ rfl ?_
      refine y_aload_n (i := 0) (n := 81) ⟨dX12_laysDay_80, rfl⟩ rfl ?_
      refine y_getR (n := 84) ⟨dX12_laysDay_81, rfl⟩ kfX12_43 l_66 rfl r_66_14 ?_
      refine y_iload (i := 4) (n := 86) ⟨dX12_laysDay_84, rfl⟩ rfl ?_
      refine y_iaload (n := 87) ⟨dX12_laysDay_86, rfl⟩ l_78 hg6 ?_
      refine y_aload_n (i := 0) (n := 88) ⟨dX12_laysDay_87, rfl⟩ rfl ?_
      refine y_getR (n := 91) ⟨dX12_laysDay_88, rfl⟩ kfX12_43 l_66 rfl r_66_14 ?_
      refine y_iload_n (i := 2) (n := 92) ⟨dX12_laysDay_91, rfl⟩ rfl ?_
      obtain ⟨hg7, hf⟩ := g_s hf
      refine y_iaload (n := 93) ⟨dX12_laysDay_92, rfl⟩ l_78 hg7 ?_
      refine y_icmp_ne (t := 100) (n := 96) ⟨dX12_laysDay_93, rfl, rfl⟩ (fun (hc : ¬ ((gI M 78 x4.toNatClampNeg) = (gI M 78 x2.toNatClampNeg))) => ?_) (fun (hc : (gI M 78 x4.toNatClampNeg) = (gI M 78 x2.toNatClampNeg)) => ?_)
      · replace hf := i_f hc hf
        refine y_iconst (n := 101) (v := 0) ⟨dX12_laysDay_100, rfl⟩ ki_0 ?_
        exact y_wk (L2 := [some (.ref 66), some (.int x1), some (.int x2), none, some (.int x4)]) ⟨Or.inr rfl, Or.inr rfl, Or.inr rfl, Or.inl rfl, Or.inr rfl, trivial⟩ (w_b_mo_laysDay_56_101 x1 x2 x4 x3 0 M hf hk)
      · replace hf := i_t hc hf
        refine y_iconst (n := 97) (v := 1) ⟨dX12_laysDay_96, rfl⟩ ki_1 ?_
        refine y_goto (t := 101) ⟨dX12_laysDay_97, rfl, rfl⟩ ?_
        exact y_wk (L2 := [some (.ref 66), some (.int x1), some (.int x2), none, some (.int x4)]) ⟨Or.inr rfl, Or.inr rfl, Or.inr rfl, Or.inl rfl, Or.inr rfl, trivial⟩ (w_b_mo_laysDay_56_101 x1 x2 x4 x3 1 M hf hk)
    · replace hf := i_f hc hf
      refine y_goto (t := 133) ⟨dX12_laysDay_76, rfl, rfl⟩ ?_
      refine y_iinc (i := 4) (n := 136) (b := (x4 + 1)) (L2 := [some (.ref 66), some (.int x1), some (.int x2), some (.int x3), some (.int (x4 + 1))]) ⟨dX12_laysDay_133, rfl⟩ rfl (by rw [ki_1]) (by decide) rfl rfl ?_
      refine y_goto (t := 56) ⟨dX12_laysDay_136, rfl, rfl⟩ ?_
      cases hf
      exact y_wk (L2 := [some (.ref 66), some (.int x1), some (.int x2), some (.int x3), some (.int (x4 + 1))]) ⟨Or.inr rfl, Or.inr rfl, Or.inr rfl, Or.inr rfl, Or.inr rfl, trivial⟩ hk
theorem wl_mo_laysDay_56 (x1 : Int32) (x2 : Int32) (x3 : Int32) (x4 : Int32) (M : dM) {Q : mz_P} {x : (Int32 × dM)} (hf : l_mo_laysDay_56 x1 x2 x3 x4 M = some x) (hk : K_mo_laysDay_56 Q x1 x2 (.inr x)) : mW mX12_laysDay 2 Q 56 [some (.ref 66), some (.int x1), some (.int x2), some (.int x3), some (.int x4)] [] M :=
  lpc_wp (σ := (Int32 × Int32 × dM)) (ξ := (Int32 × dM)) (s := (x3, x4, M)) (Wh := fun s => mW mX12_laysDay 2 Q 56 [some (.ref 66), some (.int x1), some (.int x2), some (.int s.1), some (.int s.2.1)] [] s.2.2) (K := K_mo_laysDay_56 Q x1 x2) (fun _ h => h) (fun s o hb hk => w_b_mo_laysDay_56_56 x1 x2 s.1 s.2.1 s.2.2 hb hk) hf hk
theorem w_b_mo_laysDay_30_248 (x1 : Int32) (x2 : Int32) (y1 : Int32) (y2 : Int32) (y3 : Int32)  (M : dM) {Q : mz_P} {o : ((Int32 × dM) ⊕ dM)} (hf : b_mo_laysDay_30_248 x1 x2 y1 y2 y3 M = some o) (hk : K_mo_laysDay_30 Q x1 o) : mW mX12_laysDay 2 Q 248 [some (.ref 66), some (.int x1), some (.int x2), none, none] [.int y3, .int y2, .int y1, .ref 100] M := by
  unfold b_mo_laysDay_30_248 at hf
  refine y_iadd (n := 249) ⟨dX12_laysDay_248, rfl⟩ ?_
  obtain ⟨hg19, hf⟩ := g_s hf
  refine y_iastore (n := 250) ⟨dX12_laysDay_249, rfl⟩ l_100 hg19 ?_
  refine y_iinc (i := 2) (n := 253) (b := (x2 + 1)) (L2 := [some (.ref 66), some (.int x1), some (.int (x2 + 1)), none, none]) ⟨dX12_laysDay_250, rfl⟩ rfl (by rw [ki_1]) (by decide) rfl rfl ?_
  refine y_goto (t := 30) ⟨dX12_laysDay_253, rfl, rfl⟩ ?_
  cases hf
  exact y_wk (L2 := [some (.ref 66), some (.int x1), some (.int (x2 + 1)), none, none]) ⟨Or.inr rfl, Or.inr rfl, Or.inr rfl, Or.inr rfl, Or.inr rfl, trivial⟩ hk
theorem w_b_mo_laysDay_30_225 (x1 : Int32) (x2 : Int32) (y1 : Int32) (y2 : Int32)  (M : dM) {Q : mz_P} {o : ((Int32 × dM) ⊕ dM)} (hf : b_mo_laysDay_30_225 x1 x2 y1 y2 M = some o) (hk : K_mo_laysDay_30 Q x1 o) : mW mX12_laysDay 2 Q 225 [some (.ref 66), some (.int x1), some (.int x2), none, none] [.int y2, .int y1, .ref 100] M := by
  unfold b_mo_laysDay_30_225 at hf
  obtain ⟨hg17, hf⟩ := g_s hf
  refine y_iastore (n := 226) ⟨dX12_laysDay_225, rfl⟩ l_100 hg17 ?_
  refine y_aload_n (i := 0) (n := 227) ⟨dX12_laysDay_226, rfl⟩ rfl ?_
  refine y_getR (n := 230) ⟨dX12_laysDay_227, rfl⟩ kfX12_110 l_66 rfl r_66_50 ?_
  refine y_bipush (n := 232) (v := 7) ⟨dX12_laysDay_230, rfl⟩ kb_7 ?_
  refine y_dup2 (n := 233) ⟨dX12_laysDay_232, rfl⟩ ?_
  refine y_iaload (n := 234) ⟨dX12_laysDay_233, rfl⟩ l_100 (by unfold vp_in; decide) ?_
  refine y_aload_n (i := 0) (n := 235) ⟨dX12_laysDay_234, rfl⟩ rfl ?_
  refine y_getR (n := 238) ⟨dX12_laysDay_235, rfl⟩ kfX12_153 l_66 rfl r_66_79 ?_
  refine y_iload_n (i := 2) (n := 239) ⟨dX12_laysDay_238, rfl⟩ rfl ?_
  obtain ⟨hg18, hf⟩ := g_s hf
  refine y_iaload (n := 240) ⟨dX12_laysDay_239, rfl⟩ l_114 hg18 ?_
  refine y_if_le (t := 247) (n := 243) ⟨dX12_laysDay_240, rfl, rfl⟩ (fun (hc : (gI (sI M 100 y1.toNatClampNeg y2) 114 x2.toNatClampNeg) ≤ 0) => ?_) (fun (hc : ¬ ((gI (sI M 100 y1.toNatClampNeg y2) 114 x2.toNatClampNeg) ≤ 0)) => ?_)
  · replace hf := i_t hc hf
    refine y_iconst (n := 248) (v := 0) ⟨dX12_laysDay_247, rfl⟩ ki_0 ?_
    exact y_wk (L2 := [some (.ref 66), some (.int x1), some (.int x2), none, none]) ⟨Or.inr rfl, Or.inr rfl, Or.inr rfl, Or.inr rfl, Or.inr rfl, trivial⟩ (w_b_mo_laysDay_30_248 x1 x2 7 (gI (sI M 100 y1.toNatClampNeg y2) 100 7) 0 (sI M 100 y1.toNatClampNeg y2) hf hk)
  · replace hf := i_f hc hf
    refine y_iconst (n := 244) (v := 1) ⟨dX12_laysDay_243, rfl⟩ ki_1 ?_
    refine y_goto (t := 248) ⟨dX12_laysDay_244, rfl, rfl⟩ ?_
    exact y_wk (L2 := [some (.ref 66), some (.int x1), some (.int x2), none, none]) ⟨Or.inr rfl, Or.inr rfl, Or.inr rfl, Or.inr rfl, Or.inr rfl, trivial⟩ (w_b_mo_laysDay_30_248 x1 x2 7 (gI (sI M 100 y1.toNatClampNeg y2) 100 7) 1 (sI M 100 y1.toNatClampNeg y2) hf hk)
theorem w_b_mo_laysDay_30_195 (x1 : Int32) (x2 : Int32) (x3 : Int32) (y1 : Int32) (y2 : Int32) (y3 : Int32)  (M : dM) {Q : mz_P} {o : ((Int32 × dM) ⊕ dM)} (hf : b_mo_laysDay_30_195 x1 x2 x3 y1 y2 y3 M = some o) (hk : K_mo_laysDay_30 Q x1 o) : mW mX12_laysDay 2 Q 195 [some (.ref 66), some (.int x1), some (.int x2), some (.int x3), none] [.int y3, .int y2, .int y1, .ref 100] M := by
  unfold b_mo_laysDay_30_195 at hf
  refine y_iadd (n := 196) ⟨dX12_laysDay_195, rfl⟩ ?_
  obtain ⟨hg16, hf⟩ := g_s hf
  refine y_iastore (n := 197) ⟨dX12_laysDay_196, rfl⟩ l_100 hg16 ?_
  refine y_aload_n (i := 0) (n := 198) ⟨dX12_laysDay_197, rfl⟩ rfl ?_
  refine y_getR (n := 201) ⟨dX12_laysDay_198, rfl⟩ kfX12_110 l_66 rfl r_66_50 ?_
  refine y_bipush (n := 203) (v := 6) ⟨dX12_laysDay_201, rfl⟩ kb_6 ?_
  refine y_iload_n (i := 3) (n := 204) ⟨dX12_laysDay_203, rfl⟩ rfl ?_
  refine y_aload_n (i := 0) (n := 205) ⟨dX12_laysDay_204, rfl⟩ rfl ?_
  refine y_getR (n := 208) ⟨dX12_laysDay_205, rfl⟩ kfX12_110 l_66 rfl r_66_50 ?_
  refine y_bipush (n := 210) (v := 6) ⟨dX12_laysDay_208, rfl⟩ kb_6 ?_
  refine y_iaload (n := 211) ⟨dX12_laysDay_210, rfl⟩ l_100 (by unfold vp_in; decide) ?_
  refine y_icmp_le (t := 218) (n := 214) ⟨dX12_laysDay_211, rfl, rfl⟩ (fun (hc : x3 ≤ (gI (sI M 100 y1.toNatClampNeg (y2 + y3)) 100 6)) => ?_) (fun (hc : ¬ (x3 ≤ (gI (sI M 100 y1.toNatClampNeg (y2 + y3)) 100 6))) => ?_)
  · replace hf := i_t hc hf
    refine y_aload_n (i := 0) (n := 219) ⟨dX12_laysDay_218, rfl⟩ rfl ?_
    refine y_getR (n := 222) ⟨dX12_laysDay_219, rfl⟩ kfX12_110 l_66 rfl r_66_50 ?_
    refine y_bipush (n := 224) (v := 6) ⟨dX12_laysDay_222, rfl⟩ kb_6 ?_
    refine y_iaload (n := 225) ⟨dX12_laysDay_224, rfl⟩ l_100 (by unfold vp_in; decide) ?_
    exact y_wk (L2 := [some (.ref 66), some (.int x1), some (.int x2), none, none]) ⟨Or.inr rfl, Or.inr rfl, Or.inr rfl, Or.inl rfl, Or.inr rfl, trivial⟩ (w_b_mo_laysDay_30_225 x1 x2 6 (gI (sI M 100 y1.toNatClampNeg (y2 + y3)) 100 6) (sI M 100 y1.toNatClampNeg (y2 + y3)) hf hk)
  · replace hf := i_f hc hf
    refine y_iload_n (i := 3) (n := 215) ⟨dX12_laysDay_214, rfl⟩ rfl ?_
    refine y_goto (t := 225) ⟨dX12_laysDay_215, rfl, rfl⟩ ?_
    exact y_wk (L2 := [some (.ref 66), some (.int x1), some (.int x2), none, none]) ⟨Or.inr rfl, Or.inr rfl, Or.inr rfl, Or.inl rfl, Or.inr rfl, trivial⟩ (w_b_mo_laysDay_30_225 x1 x2 6 x3 (sI M 100 y1.toNatClampNeg (y2 + y3)) hf hk)
theorem w_b_mo_laysDay_30_171 (x1 : Int32) (x2 : Int32) (x3 : Int32) (y1 : Int32) (y2 : Int32) (y3 : Int32)  (M : dM) {Q : mz_P} {o : ((Int32 × dM) ⊕ dM)} (hf : b_mo_laysDay_30_171 x1 x2 x3 y1 y2 y3 M = some o) (hk : K_mo_laysDay_30 Q x1 o) : mW mX12_laysDay 2 Q 171 [some (.ref 66), some (.int x1), some (.int x2), some (.int x3), none] [.int y3, .int y2, .int y1, .ref 100] M := by
  unfold b_mo_laysDay_30_171 at hf
  refine y_iadd (n := 172) ⟨dX12_laysDay_171, rfl⟩ ?_
  obtain ⟨hg14, hf⟩ := g_s hf
  refine y_iastore (n := 173) ⟨dX12_laysDay_172, rfl⟩ l_100 hg14 ?_
  refine y_aload_n (i := 0) (n := 174) ⟨dX12_laysDay_173, rfl⟩ rfl ?_
  refine y_getR (n := 177) ⟨dX12_laysDay_174, rfl⟩ kfX12_110 l_66 rfl r_66_50 ?_
  refine y_iconst (n := 178) (v := 4) ⟨dX12_laysDay_177, rfl⟩ ki_4 ?_
  refine y_dup2 (n := 179) ⟨dX12_laysDay_178, rfl⟩ ?_
  refine y_iaload (n := 180) ⟨dX12_laysDay_179, rfl⟩ l_100 (by unfold vp_in; decide) ?_
  refine y_aload_n (i := 0) (n := 181) ⟨dX12_laysDay_180, rfl⟩ rfl ?_
  refine y_getR (n := 184) ⟨dX12_laysDay_181, rfl⟩ kfX12_122 l_66 rfl r_66_59 ?_
  refine y_iload_n (i := 2) (n := 185) ⟨dX12_laysDay_184, rfl⟩ rfl ?_
  obtain ⟨hg15, hf⟩ := g_s hf
  refine y_iaload (n := 186) ⟨dX12_laysDay_185, rfl⟩ l_104 hg15 ?_
  refine y_iconst (n := 187) (v := 1) ⟨dX12_laysDay_186, rfl⟩ ki_1 ?_
  refine y_icmp_ne (t := 194) (n := 190) ⟨dX12_laysDay_187, rfl, rfl⟩ (fun (hc : ¬ ((gI (sI M 100 y1.toNatClampNeg (y2 + y3)) 104 x2.toNatClampNeg) = 1)) => ?_) (fun (hc : (gI (sI M 100 y1.toNatClampNeg (y2 + y3)) 104 x2.toNatClampNeg) = 1) => ?_)
  · replace hf := i_f hc hf
    refine y_iconst (n := 195) (v := 0) ⟨dX12_laysDay_194, rfl⟩ ki_0 ?_
    exact y_wk (L2 := [some (.ref 66), some (.int x1), some (.int x2), some (.int x3), none]) ⟨Or.inr rfl, Or.inr rfl, Or.inr rfl, Or.inr rfl, Or.inr rfl, trivial⟩ (w_b_mo_laysDay_30_195 x1 x2 x3 4 (gI (sI M 100 y1.toNatClampNeg (y2 + y3)) 100 4) 0 (sI M 100 y1.toNatClampNeg (y2 + y3)) hf hk)
  · replace hf := i_t hc hf
    refine y_iconst (n := 191) (v := 1) ⟨dX12_laysDay_190, rfl⟩ ki_1 ?_
    refine y_goto (t := 195) ⟨dX12_laysDay_191, rfl, rfl⟩ ?_
    exact y_wk (L2 := [some (.ref 66), some (.int x1), some (.int x2), some (.int x3), none]) ⟨Or.inr rfl, Or.inr rfl, Or.inr rfl, Or.inr rfl, Or.inr rfl, trivial⟩ (w_b_mo_laysDay_30_195 x1 x2 x3 4 (gI (sI M 100 y1.toNatClampNeg (y2 + y3)) 100 4) 1 (sI M 100 y1.toNatClampNeg (y2 + y3)) hf hk)
theorem w_b_mo_laysDay_30_30 (x1 : Int32) (x2 : Int32)  (M : dM) {Q : mz_P} {o : ((Int32 × dM) ⊕ dM)} (hf : b_mo_laysDay_30_30 x1 x2 M = some o) (hk : K_mo_laysDay_30 Q x1 o) : mW mX12_laysDay 2 Q 30 [some (.ref 66), some (.int x1), some (.int x2), none, none] [] M := by
  unfold b_mo_laysDay_30_30 at hf
  refine y_iload_n (i := 2) (n := 31) ⟨dX12_laysDay_30, rfl⟩ rfl ?_
  refine y_aload_n (i := 0) (n := 32) ⟨dX12_laysDay_31, rfl⟩ rfl ?_
  refine y_getI (n := 35) ⟨dX12_laysDay_32, rfl⟩ kfX12_235 l_66 rfl ?_
  refine y_icmp_ge (t := 256) (n := 38) ⟨dX12_laysDay_35, rfl, rfl⟩ (fun (hc : (gI M 66 9) ≤ x2) => ?_) (fun (hc : ¬ ((gI M 66 9) ≤ x2)) => ?_)
  · replace hf := i_t hc hf
    cases hf
    exact y_wk (L2 := [some (.ref 66), some (.int x1), none, none, none]) ⟨Or.inr rfl, Or.inr rfl, Or.inl rfl, Or.inr rfl, Or.inr rfl, trivial⟩ hk
  · replace hf := i_f hc hf
    refine y_aload_n (i := 0) (n := 39) ⟨dX12_laysDay_38, rfl⟩ rfl ?_
    refine y_getR (n := 42) ⟨dX12_laysDay_39, rfl⟩ kfX12_37 l_66 rfl r_66_12 ?_
    refine y_iload_n (i := 2) (n := 43) ⟨dX12_laysDay_42, rfl⟩ rfl ?_
    obtain ⟨hg5, hf⟩ := g_s hf
    refine y_iaload (n := 44) ⟨dX12_laysDay_43, rfl⟩ l_76 hg5 ?_
    refine y_iload_n (i := 1) (n := 45) ⟨dX12_laysDay_44, rfl⟩ rfl ?_
    refine y_icmp_le (t := 51) (n := 48) ⟨dX12_laysDay_45, rfl, rfl⟩ (fun (hc : (gI M 76 x2.toNatClampNeg) ≤ x1) => ?_) (fun (hc : ¬ ((gI M 76 x2.toNatClampNeg) ≤ x1)) => ?_)
    · replace hf := i_t hc hf
      refine y_iconst (n := 52) (v := 0) ⟨dX12_laysDay_51, rfl⟩ ki_0 ?_
      refine y_istore_n (i := 3) (n := 53) (L2 := [some (.ref 66), some (.int x1), some (.int x2), some (.int 0), none]) ⟨dX12_laysDay_52, rfl⟩ (by decide) rfl rfl ?_
      refine y_iconst (n := 54) (v := 0) ⟨dX12_laysDay_53, rfl⟩ ki_0 ?_
      refine y_istore (i := 4) (n := 56) (L2 := [some (.ref 66), some (.int x1), some (.int x2), some (.int 0), some (.int 0)]) ⟨dX12_laysDay_54, rfl⟩ (by decide) rfl rfl ?_
      obtain ⟨t11, hl12, hf⟩ := b_s hf
      refine y_wk (L2 := [some (.ref 66), some (.int x1), some (.int x2), some (.int 0), some (.int 0)]) ⟨Or.inr rfl, Or.inr rfl, Or.inr rfl, Or.inr rfl, Or.inr rfl, trivial⟩ (wl_mo_laysDay_56 x1 x2 0 0 M hl12 ?_)
      show mW mX12_laysDay 2 Q 139 [some (.ref 66), some (.int x1), some (.int x2), some (.int t11.1), none] [] t11.2
      refine y_aload_n (i := 0) (n := 140) ⟨dX12_laysDay_139, rfl⟩ rfl ?_
      refine y_getR (n := 143) ⟨dX12_laysDay_140, rfl⟩ kfX12_110 l_66 rfl r_66_50 ?_
      refine y_iconst (n := 144) (v := 2) ⟨dX12_laysDay_143, rfl⟩ ki_2 ?_
      refine y_dup2 (n := 145) ⟨dX12_laysDay_144, rfl⟩ ?_
      refine y_iaload (n := 146) ⟨dX12_laysDay_145, rfl⟩ l_100 (by unfold vp_in; decide) ?_
      refine y_iconst (n := 147) (v := 1) ⟨dX12_laysDay_146, rfl⟩ ki_1 ?_
      refine y_iadd (n := 148) ⟨dX12_laysDay_147, rfl⟩ ?_
      refine y_iastore (n := 149) ⟨dX12_laysDay_148, rfl⟩ l_100 (by unfold vp_in; decide) ?_
      refine y_aload_n (i := 0) (n := 150) ⟨dX12_laysDay_149, rfl⟩ rfl ?_
      refine y_getR (n := 153) ⟨dX12_laysDay_150, rfl⟩ kfX12_110 l_66 rfl r_66_50 ?_
      refine y_iconst (n := 154) (v := 3) ⟨dX12_laysDay_153, rfl⟩ ki_3 ?_
      refine y_dup2 (n := 155) ⟨dX12_laysDay_154, rfl⟩ ?_
      refine y_iaload (n := 156) ⟨dX12_laysDay_155, rfl⟩ l_100 (by unfold vp_in; decide) ?_
      refine y_aload_n (i := 0) (n := 157) ⟨dX12_laysDay_156, rfl⟩ rfl ?_
      refine y_getR (n := 160) ⟨dX12_laysDay_157, rfl⟩ kfX12_122 l_66 rfl r_66_59 ?_
      refine y_iload_n (i := 2) (n := 161) ⟨dX12_laysDay_160, rfl⟩ rfl ?_
      refine y_iaload (n := 162) ⟨dX12_laysDay_161, rfl⟩ l_104 hg5 ?_
      refine y_iconst (n := 163) (v := 2) ⟨dX12_laysDay_162, rfl⟩ ki_2 ?_
      refine y_icmp_ne (t := 170) (n := 166) ⟨dX12_laysDay_163, rfl, rfl⟩ (fun (hc : ¬ ((gI (sI t11.2 100 2 ((gI t11.2 100 2) + 1)) 104 x2.toNatClampNeg) = 2)) => ?_) (fun (hc : (gI (sI t11.2 100 2 ((gI t11.2 100 2) + 1)) 104 x2.toNatClampNeg) = 2) => ?_)
      · replace hf := i_f hc hf
        refine y_iconst (n := 171) (v := 0) ⟨dX12_laysDay_170, rfl⟩ ki_0 ?_
        exact y_wk (L2 := [some (.ref 66), some (.int x1), some (.int x2), some (.int t11.1), none]) ⟨Or.inr rfl, Or.inr rfl, Or.inr rfl, Or.inr rfl, Or.inr rfl, trivial⟩ (w_b_mo_laysDay_30_171 x1 x2 t11.1 3 (gI (sI t11.2 100 2 ((gI t11.2 100 2) + 1)) 100 3) 0 (sI t11.2 100 2 ((gI t11.2 100 2) + 1)) hf hk)
      · replace hf := i_t hc hf
        refine y_iconst (n := 167) (v := 1) ⟨dX12_laysDay_166, rfl⟩ ki_1 ?_
        refine y_goto (t := 171) ⟨dX12_laysDay_167, rfl, rfl⟩ ?_
        exact y_wk (L2 := [some (.ref 66), some (.int x1), some (.int x2), some (.int t11.1), none]) ⟨Or.inr rfl, Or.inr rfl, Or.inr rfl, Or.inr rfl, Or.inr rfl, trivial⟩ (w_b_mo_laysDay_30_171 x1 x2 t11.1 3 (gI (sI t11.2 100 2 ((gI t11.2 100 2) + 1)) 100 3) 1 (sI t11.2 100 2 ((gI t11.2 100 2) + 1)) hf hk)
    · replace hf := i_f hc hf
      refine y_goto (t := 250) ⟨dX12_laysDay_48, rfl, rfl⟩ ?_
      refine y_iinc (i := 2) (n := 253) (b := (x2 + 1)) (L2 := [some (.ref 66), some (.int x1), some (.int (x2 + 1)), none, none]) ⟨dX12_laysDay_250, rfl⟩ rfl (by rw [ki_1]) (by decide) rfl rfl ?_
      refine y_goto (t := 30) ⟨dX12_laysDay_253, rfl, rfl⟩ ?_
      cases hf
      exact y_wk (L2 := [some (.ref 66), some (.int x1), some (.int (x2 + 1)), none, none]) ⟨Or.inr rfl, Or.inr rfl, Or.inr rfl, Or.inr rfl, Or.inr rfl, trivial⟩ hk
theorem wl_mo_laysDay_30 (x1 : Int32) (x2 : Int32) (M : dM) {Q : mz_P} {x : dM} (hf : l_mo_laysDay_30 x1 x2 M = some x) (hk : K_mo_laysDay_30 Q x1 (.inr x)) : mW mX12_laysDay 2 Q 30 [some (.ref 66), some (.int x1), some (.int x2), none, none] [] M :=
  lpc_wp (σ := (Int32 × dM)) (ξ := dM) (s := (x2, M)) (Wh := fun s => mW mX12_laysDay 2 Q 30 [some (.ref 66), some (.int x1), some (.int s.1), none, none] [] s.2) (K := K_mo_laysDay_30 Q x1) (fun _ h => h) (fun s o hb hk => w_b_mo_laysDay_30_30 x1 s.1 s.2 hb hk) hf hk
theorem w_b_mo_laysDay_258_289 (x1 : Int32) (x2 : Int32) (y1 : Int32) (y2 : Int32) (y3 : Int32)  (M : dM) {Q : mz_P} {o : ((Int32 × dM) ⊕ dM)} (hf : b_mo_laysDay_258_289 x1 x2 y1 y2 y3 M = some o) (hk : K_mo_laysDay_258 Q x1 o) : mW mX12_laysDay 2 Q 289 [some (.ref 66), some (.int x1), some (.int x2), none, none] [.int y3, .int y2, .int y1, .ref 100] M := by
  unfold b_mo_laysDay_258_289 at hf
  refine y_iadd (n := 290) ⟨dX12_laysDay_289, rfl⟩ ?_
  obtain ⟨hg24, hf⟩ := g_s hf
  refine y_iastore (n := 291) ⟨dX12_laysDay_290, rfl⟩ l_100 hg24 ?_
  refine y_iinc (i := 2) (n := 294) (b := (x2 + 1)) (L2 := [some (.ref 66), some (.int x1), some (.int (x2 + 1)), none, none]) ⟨dX12_laysDay_291, rfl⟩ rfl (by rw [ki_1]) (by decide) rfl rfl ?_
  refine y_goto (t := 258) ⟨dX12_laysDay_294, rfl, rfl⟩ ?_
  cases hf
  exact y_wk (L2 := [some (.ref 66), some (.int x1), some (.int (x2 + 1)), none, none]) ⟨Or.inr rfl, Or.inr rfl, Or.inr rfl, Or.inr rfl, Or.inr rfl, trivial⟩ hk
theorem w_b_mo_laysDay_258_258 (x1 : Int32) (x2 : Int32)  (M : dM) {Q : mz_P} {o : ((Int32 × dM) ⊕ dM)} (hf : b_mo_laysDay_258_258 x1 x2 M = some o) (hk : K_mo_laysDay_258 Q x1 o) : mW mX12_laysDay 2 Q 258 [some (.ref 66), some (.int x1), some (.int x2), none, none] [] M := by
  unfold b_mo_laysDay_258_258 at hf
  refine y_iload_n (i := 2) (n := 259) ⟨dX12_laysDay_258, rfl⟩ rfl ?_
  refine y_aload_n (i := 0) (n := 260) ⟨dX12_laysDay_259, rfl⟩ rfl ?_
  refine y_getI (n := 263) ⟨dX12_laysDay_260, rfl⟩ kfX12_545 l_66 rfl ?_
  refine y_icmp_ge (t := 297) (n := 266) ⟨dX12_laysDay_263, rfl, rfl⟩ (fun (hc : (gI M 66 77) ≤ x2) => ?_) (fun (hc : ¬ ((gI M 66 77) ≤ x2)) => ?_)
  · replace hf := i_t hc hf
    cases hf
    exact y_return (n := 298) ⟨dX12_laysDay_297, rfl⟩ rfl hk
  · replace hf := i_f hc hf
    refine y_aload_n (i := 0) (n := 267) ⟨dX12_laysDay_266, rfl⟩ rfl ?_
    refine y_getR (n := 270) ⟨dX12_laysDay_267, rfl⟩ kfX12_110 l_66 rfl r_66_50 ?_
    refine y_bipush (n := 272) (v := 8) ⟨dX12_laysDay_270, rfl⟩ kb_8 ?_
    refine y_dup2 (n := 273) ⟨dX12_laysDay_272, rfl⟩ ?_
    refine y_iaload (n := 274) ⟨dX12_laysDay_273, rfl⟩ l_100 (by unfold vp_in; decide) ?_
    refine y_aload_n (i := 0) (n := 275) ⟨dX12_laysDay_274, rfl⟩ rfl ?_
    refine y_getR (n := 278) ⟨dX12_laysDay_275, rfl⟩ kfX12_150 l_66 rfl r_66_78 ?_
    refine y_iload_n (i := 2) (n := 279) ⟨dX12_laysDay_278, rfl⟩ rfl ?_
    obtain ⟨hg23, hf⟩ := g_s hf
    refine y_iaload (n := 280) ⟨dX12_laysDay_279, rfl⟩ l_113 hg23 ?_
    refine y_iload_n (i := 1) (n := 281) ⟨dX12_laysDay_280, rfl⟩ rfl ?_
    refine y_icmp_gt (t := 288) (n := 284) ⟨dX12_laysDay_281, rfl, rfl⟩ (fun (hc : x1 < (gI M 113 x2.toNatClampNeg)) => ?_) (fun (hc : ¬ (x1 < (gI M 113 x2.toNatClampNeg))) => ?_)
    · replace hf := i_t hc hf
      refine y_iconst (n := 289) (v := 0) ⟨dX12_laysDay_288, rfl⟩ ki_0 ?_
      exact y_wk (L2 := [some (.ref 66), some (.int x1), some (.int x2), none, none]) ⟨Or.inr rfl, Or.inr rfl, Or.inr rfl, Or.inr rfl, Or.inr rfl, trivial⟩ (w_b_mo_laysDay_258_289 x1 x2 8 (gI M 100 8) 0 M hf hk)
    · replace hf := i_f hc hf
      refine y_iconst (n := 285) (v := 1) ⟨dX12_laysDay_284, rfl⟩ ki_1 ?_
      refine y_goto (t := 289) ⟨dX12_laysDay_285, rfl, rfl⟩ ?_
      exact y_wk (L2 := [some (.ref 66), some (.int x1), some (.int x2), none, none]) ⟨Or.inr rfl, Or.inr rfl, Or.inr rfl, Or.inr rfl, Or.inr rfl, trivial⟩ (w_b_mo_laysDay_258_289 x1 x2 8 (gI M 100 8) 1 M hf hk)
theorem wl_mo_laysDay_258 (x1 : Int32) (x2 : Int32) (M : dM) {Q : mz_P} {x : dM} (hf : l_mo_laysDay_258 x1 x2 M = some x) (hk : K_mo_laysDay_258 Q x1 (.inr x)) : mW mX12_laysDay 2 Q 258 [some (.ref 66), some (.int x1), some (.int x2), none, none] [] M :=
  lpc_wp (σ := (Int32 × dM)) (ξ := dM) (s := (x2, M)) (Wh := fun s => mW mX12_laysDay 2 Q 258 [some (.ref 66), some (.int x1), some (.int s.1), none, none] [] s.2) (K := K_mo_laysDay_258 Q x1) (fun _ h => h) (fun s o hb hk => w_b_mo_laysDay_258_258 x1 s.1 s.2 hb hk) hf hk
theorem ok_mo_laysDay (a1 : Int32) (M : dM) {o : dM} (hf : f_mo_laysDay a1 M = some o) : mO mX12_laysDay 2 [.ref 66, .int a1] M none o := by
  refine y_ok (by decide +kernel) (Nat.le_of_ble_eq_true rfl) (L0 := [some (.ref 66), some (.int a1), none, none, none]) rfl ?_
  have hk := mR_mQ none o
  generalize mQ _ _ = Q at hk ⊢
  unfold f_mo_laysDay at hf
  refine y_iconst (n := 1) (v := 1) ⟨dX12_laysDay_0, rfl⟩ ki_1 ?_
  refine y_istore_n (i := 2) (n := 2) (L2 := [some (.ref 66), some (.int a1), some (.int 1), none, none]) ⟨dX12_laysDay_1, rfl⟩ (by decide) rfl rfl ?_
  obtain ⟨t2, hl3, hf⟩ := b_s hf
  refine y_wk (L2 := [some (.ref 66), some (.int a1), some (.int 1), none, none]) ⟨Or.inr rfl, Or.inr rfl, Or.inr rfl, Or.inr rfl, Or.inr rfl, trivial⟩ (wl_mo_laysDay_2 a1 1 M hl3 ?_)
  show mW mX12_laysDay 2 Q 21 [some (.ref 66), some (.int a1), none, none, none] [] t2
  refine y_aload_n (i := 0) (n := 22) ⟨dX12_laysDay_21, rfl⟩ rfl ?_
  refine y_getR (n := 25) ⟨dX12_laysDay_22, rfl⟩ kfX12_110 l_66 rfl r_66_50 ?_
  refine y_iconst (n := 26) (v := 1) ⟨dX12_laysDay_25, rfl⟩ ki_1 ?_
  refine y_iload_n (i := 1) (n := 27) ⟨dX12_laysDay_26, rfl⟩ rfl ?_
  refine y_iastore (n := 28) ⟨dX12_laysDay_27, rfl⟩ l_100 (by unfold vp_in; decide) ?_
  refine y_iconst (n := 29) (v := 0) ⟨dX12_laysDay_28, rfl⟩ ki_0 ?_
  refine y_istore_n (i := 2) (n := 30) (L2 := [some (.ref 66), some (.int a1), some (.int 0), none, none]) ⟨dX12_laysDay_29, rfl⟩ (by decide) rfl rfl ?_
  obtain ⟨t20, hl21, hf⟩ := b_s hf
  refine y_wk (L2 := [some (.ref 66), some (.int a1), some (.int 0), none, none]) ⟨Or.inr rfl, Or.inr rfl, Or.inr rfl, Or.inr rfl, Or.inr rfl, trivial⟩ (wl_mo_laysDay_30 a1 0 (sI t2 100 1 a1) hl21 ?_)
  show mW mX12_laysDay 2 Q 256 [some (.ref 66), some (.int a1), none, none, none] [] t20
  refine y_iconst (n := 257) (v := 0) ⟨dX12_laysDay_256, rfl⟩ ki_0 ?_
  refine y_istore_n (i := 2) (n := 258) (L2 := [some (.ref 66), some (.int a1), some (.int 0), none, none]) ⟨dX12_laysDay_257, rfl⟩ (by decide) rfl rfl ?_
  obtain ⟨r27, hl26, hf⟩ := b_s hf
  cases hf
  exact y_wk (L2 := [some (.ref 66), some (.int a1), some (.int 0), none, none]) ⟨Or.inr rfl, Or.inr rfl, Or.inr rfl, Or.inr rfl, Or.inr rfl, trivial⟩ (wl_mo_laysDay_258 a1 0 t20 hl26 hk)
theorem c_mo_laysDay (a1 : Int32) (M : dM) {o : dM} {y : mz_M} {d : Nat} {Q : mz_P} {pc n i : Nat} {L : List (Option Value)} {st : List Value} (h : mz_d y.2.1 pc n 3 (.invokevirtual i)) (hl : mz_ml y.1.cls i yX12_laysDay) (hf : f_mo_laysDay a1 M = some o) (hd : 2 + 1 ≤ d) (hsm : (st.map (fun v => v.category)).sum ≤ 8) (hLr : mz_rL 133 L = true) (hSr : mz_rS 133 st = true) (kk : mW y d Q n L st o) : mW y d Q pc L (.int a1 :: .ref 66 :: st) M :=
  y_callV kmX12_laysDay kvX12_laysDay l_66 (by decide +kernel) (by decide +kernel) h hl (ok_mo_laysDay a1 M hf) (vs := [.int a1]) rfl rfl hd hsm hLr hSr kk
def K_mo_enough_19 (Q : mz_P)  : ((Int32 × dM) ⊕ dM) → Prop
  | .inl s => mW mX12_enough 6 Q 19 [some (.ref 66), some (.int s.1)] [] s.2
  | .inr t => mW mX12_enough 6 Q 57 [some (.ref 66), none] [] t
noncomputable def b_mo_enough_19_19 (x1 : Int32) (M : dM) : Option ((Int32 × dM) ⊕ dM) :=
  if (gI M 66 9) ≤ x1 then
    some (.inr M)
  else
    (f_mo_eachOf x1 M).bind fun q1 =>
    gd (vp_in x1 40) <|
    (f_mo_factOf x1 14 (sI q1.2 104 x1.toNatClampNeg q1.1)).bind fun v4 =>
    some (.inl ((x1 + 1), (sI (sI q1.2 104 x1.toNatClampNeg q1.1) 114 x1.toNatClampNeg v4)))
noncomputable def l_mo_enough_19 (x1 : Int32) (M : dM) : Option dM := lpc (fun s => b_mo_enough_19_19 s.1 s.2) (x1, M)
def K_mo_enough_59 (Q : mz_P)  : ((Int32 × dM) ⊕ (Int32 × dM)) → Prop
  | .inl s => mW mX12_enough 6 Q 59 [some (.ref 66), some (.int s.1)] [] s.2
  | .inr r => mR Q (some (.int r.1)) r.2
noncomputable def b_mo_enough_59_59 (x1 : Int32) (M : dM) : Option ((Int32 × dM) ⊕ (Int32 × dM)) :=
  if 1000 ≤ x1 then
    some (.inr ((-1), M))
  else
    (f_mo_laysDay x1 M).bind fun q9 =>
    (f_mo_worth 20 q9).bind fun q11 =>
    if q11.1 = 0 then
      some (.inl ((x1 + 1), q11.2))
    else
      some (.inr (x1, q11.2))
noncomputable def l_mo_enough_59 (x1 : Int32) (M : dM) : Option (Int32 × dM) := lpc (fun s => b_mo_enough_59_59 s.1 s.2) (x1, M)
noncomputable def f_mo_enough (M : dM) : Option (Int32 × dM) :=
  if (gI (sI M 66 0 0) 82 20) = 0 then
    some ((-1), (sI M 66 0 0))
  else
    (l_mo_enough_19 0 (sI M 66 0 0)).bind fun t6 =>
      (l_mo_enough_59 0 t6).bind fun r15 => some r15
theorem w_b_mo_enough_19_19 (x1 : Int32)  (M : dM) {Q : mz_P} {o : ((Int32 × dM) ⊕ dM)} (hf : b_mo_enough_19_19 x1 M = some o) (hk : K_mo_enough_19 Q  o) : mW mX12_enough 6 Q 19 [some (.ref 66), some (.int x1)] [] M := by
  unfold b_mo_enough_19_19 at hf
  refine y_iload_n (i := 1) (n := 20) ⟨dX12_enough_19, rfl⟩ rfl ?_
  refine y_aload_n (i := 0) (n := 21) ⟨dX12_enough_20, rfl⟩ rfl ?_
  refine y_getI (n := 24) ⟨dX12_enough_21, rfl⟩ kfX12_235 l_66 rfl ?_
  refine y_icmp_ge (t := 57) (n := 27) ⟨dX12_enough_24, rfl, rfl⟩ (fun (hc : (gI M 66 9) ≤ x1) => ?_) (fun (hc : ¬ ((gI M 66 9) ≤ x1)) => ?_)
  · replace hf := i_t hc hf
    cases hf
    exact y_wk (L2 := [some (.ref 66), none]) ⟨Or.inr rfl, Or.inl rfl, trivial⟩ hk
  · replace hf := i_f hc hf
    refine y_aload_n (i := 0) (n := 28) ⟨dX12_enough_27, rfl⟩ rfl ?_
    refine y_getR (n := 31) ⟨dX12_enough_28, rfl⟩ kfX12_122 l_66 rfl r_66_59 ?_
    refine y_iload_n (i := 1) (n := 32) ⟨dX12_enough_31, rfl⟩ rfl ?_
    refine y_aload_n (i := 0) (n := 33) ⟨dX12_enough_32, rfl⟩ rfl ?_
    refine y_iload_n (i := 1) (n := 34) ⟨dX12_enough_33, rfl⟩ rfl ?_
    obtain ⟨q1, hv2, hf⟩ := b_s hf
    refine c_mo_eachOf x1 M (n := 37) ⟨dX12_enough_34, rfl⟩ klX12_438 hv2 (by decide) (Nat.le_of_ble_eq_true rfl) rfl rfl ?_
    obtain ⟨hg3, hf⟩ := g_s hf
    refine y_iastore (n := 38) ⟨dX12_enough_37, rfl⟩ l_104 hg3 ?_
    refine y_aload_n (i := 0) (n := 39) ⟨dX12_enough_38, rfl⟩ rfl ?_
    refine y_getR (n := 42) ⟨dX12_enough_39, rfl⟩ kfX12_153 l_66 rfl r_66_79 ?_
    refine y_iload_n (i := 1) (n := 43) ⟨dX12_enough_42, rfl⟩ rfl ?_
    refine y_aload_n (i := 0) (n := 44) ⟨dX12_enough_43, rfl⟩ rfl ?_
    refine y_iload_n (i := 1) (n := 45) ⟨dX12_enough_44, rfl⟩ rfl ?_
    refine y_bipush (n := 47) (v := 14) ⟨dX12_enough_45, rfl⟩ kb_14 ?_
    obtain ⟨v4, hv5, hf⟩ := b_s hf
    refine c_mo_factOf x1 14 (sI q1.2 104 x1.toNatClampNeg q1.1) (n := 50) ⟨dX12_enough_47, rfl⟩ klX12_252 hv5 (by decide) (Nat.le_of_ble_eq_true rfl) rfl rfl ?_
    refine y_iastore (n := 51) ⟨dX12_enough_50, rfl⟩ l_114 hg3 ?_
    refine y_iinc (i := 1) (n := 54) (b := (x1 + 1)) (L2 := [some (.ref 66), some (.int (x1 + 1))]) ⟨dX12_enough_51, rfl⟩ rfl (by rw [ki_1]) (by decide) rfl rfl ?_
    refine y_goto (t := 19) ⟨dX12_enough_54, rfl, rfl⟩ ?_
    cases hf
    exact y_wk (L2 := [some (.ref 66), some (.int (x1 + 1))]) ⟨Or.inr rfl, Or.inr rfl, trivial⟩ hk
theorem wl_mo_enough_19 (x1 : Int32) (M : dM) {Q : mz_P} {x : dM} (hf : l_mo_enough_19 x1 M = some x) (hk : K_mo_enough_19 Q  (.inr x)) : mW mX12_enough 6 Q 19 [some (.ref 66), some (.int x1)] [] M :=
  lpc_wp (σ := (Int32 × dM)) (ξ := dM) (s := (x1, M)) (Wh := fun s => mW mX12_enough 6 Q 19 [some (.ref 66), some (.int s.1)] [] s.2) (K := K_mo_enough_19 Q ) (fun _ h => h) (fun s o hb hk => w_b_mo_enough_19_19 s.1 s.2 hb hk) hf hk
theorem w_b_mo_enough_59_59 (x1 : Int32)  (M : dM) {Q : mz_P} {o : ((Int32 × dM) ⊕ (Int32 × dM))} (hf : b_mo_enough_59_59 x1 M = some o) (hk : K_mo_enough_59 Q  o) : mW mX12_enough 6 Q 59 [some (.ref 66), some (.int x1)] [] M := by
  unfold b_mo_enough_59_59 at hf
  refine y_iload_n (i := 1) (n := 60) ⟨dX12_enough_59, rfl⟩ rfl ?_
  refine y_sipush (n := 63) (v := 1000) ⟨dX12_enough_60, rfl⟩ ks_1000 ?_
  refine y_icmp_ge (t := 88) (n := 66) ⟨dX12_enough_63, rfl, rfl⟩ (fun (hc : 1000 ≤ x1) => ?_) (fun (hc : ¬ (1000 ≤ x1)) => ?_)
  · replace hf := i_t hc hf
    refine y_iconst (n := 89) (v := (-1)) ⟨dX12_enough_88, rfl⟩ ki_m1 ?_
    cases hf
    exact y_ireturn (n := 90) ⟨dX12_enough_89, rfl⟩ rfl rfl hk
  · replace hf := i_f hc hf
    refine y_aload_n (i := 0) (n := 67) ⟨dX12_enough_66, rfl⟩ rfl ?_
    refine y_iload_n (i := 1) (n := 68) ⟨dX12_enough_67, rfl⟩ rfl ?_
    obtain ⟨q9, hv10, hf⟩ := b_s hf
    refine c_mo_laysDay x1 M (n := 71) ⟨dX12_enough_68, rfl⟩ klX12_548 hv10 (by decide) (Nat.le_of_ble_eq_true rfl) rfl rfl ?_
    refine y_aload_n (i := 0) (n := 72) ⟨dX12_enough_71, rfl⟩ rfl ?_
    refine y_bipush (n := 74) (v := 20) ⟨dX12_enough_72, rfl⟩ kb_20 ?_
    obtain ⟨q11, hv12, hf⟩ := b_s hf
    refine c_mo_worth 20 q9 (n := 77) ⟨dX12_enough_74, rfl⟩ klX12_435 hv12 (by decide) (Nat.le_of_ble_eq_true rfl) rfl rfl ?_
    refine y_if_eq (t := 82) (n := 80) ⟨dX12_enough_77, rfl, rfl⟩ (fun (hc : q11.1 = 0) => ?_) (fun (hc : ¬ (q11.1 = 0)) => ?_)
    · replace hf := i_t hc hf
      refine y_iinc (i := 1) (n := 85) (b := (x1 + 1)) (L2 := [some (.ref 66), some (.int (x1 + 1))]) ⟨dX12_enough_82, rfl⟩ rfl (by rw [ki_1]) (by decide) rfl rfl ?_
      refine y_goto (t := 59) ⟨dX12_enough_85, rfl, rfl⟩ ?_
      cases hf
      exact y_wk (L2 := [some (.ref 66), some (.int (x1 + 1))]) ⟨Or.inr rfl, Or.inr rfl, trivial⟩ hk
    · replace hf := i_f hc hf
      refine y_iload_n (i := 1) (n := 81) ⟨dX12_enough_80, rfl⟩ rfl ?_
      cases hf
      exact y_ireturn (n := 82) ⟨dX12_enough_81, rfl⟩ rfl rfl hk
theorem wl_mo_enough_59 (x1 : Int32) (M : dM) {Q : mz_P} {x : (Int32 × dM)} (hf : l_mo_enough_59 x1 M = some x) (hk : K_mo_enough_59 Q  (.inr x)) : mW mX12_enough 6 Q 59 [some (.ref 66), some (.int x1)] [] M :=
  lpc_wp (σ := (Int32 × dM)) (ξ := (Int32 × dM)) (s := (x1, M)) (Wh := fun s => mW mX12_enough 6 Q 59 [some (.ref 66), some (.int s.1)] [] s.2) (K := K_mo_enough_59 Q ) (fun _ h => h) (fun s o hb hk => w_b_mo_enough_59_59 s.1 s.2 hb hk) hf hk
theorem ok_mo_enough  (M : dM) {o : (Int32 × dM)} (hf : f_mo_enough M = some o) : mO mX12_enough 6 [.ref 66] M (some (.int o.1)) o.2 := by
  refine y_ok (by decide +kernel) (Nat.le_of_ble_eq_true rfl) (L0 := [some (.ref 66), none]) rfl ?_
  have hk := mR_mQ (some (.int o.1)) o.2
  generalize mQ _ _ = Q at hk ⊢
  unfold f_mo_enough at hf
  refine y_aload_n (i := 0) (n := 1) ⟨dX12_enough_0, rfl⟩ rfl ?_
  refine y_iconst (n := 2) (v := 0) ⟨dX12_enough_1, rfl⟩ ki_0 ?_
  refine y_putI (n := 5) ⟨dX12_enough_2, rfl⟩ kfX12_214 l_66 (by decide +kernel) rfl ?_
  refine y_aload_n (i := 0) (n := 6) ⟨dX12_enough_5, rfl⟩ rfl ?_
  refine y_getR (n := 9) ⟨dX12_enough_6, rfl⟩ kfX12_55 l_66 rfl r_66_26 ?_
  refine y_bipush (n := 11) (v := 20) ⟨dX12_enough_9, rfl⟩ kb_20 ?_
  refine y_baload (n := 12) ⟨dX12_enough_11, rfl⟩ l_82 (by unfold vp_in; decide) ?_
  refine y_if_ne (t := 17) (n := 15) ⟨dX12_enough_12, rfl, rfl⟩ (fun (hc : ¬ ((gI (sI M 66 0 0) 82 20) = 0)) => ?_) (fun (hc : (gI (sI M 66 0 0) 82 20) = 0) => ?_)
  · replace hf := i_f hc hf
    refine y_iconst (n := 18) (v := 0) ⟨dX12_enough_17, rfl⟩ ki_0 ?_
    refine y_istore_n (i := 1) (n := 19) (L2 := [some (.ref 66), some (.int 0)]) ⟨dX12_enough_18, rfl⟩ (by decide) rfl rfl ?_
    obtain ⟨t6, hl7, hf⟩ := b_s hf
    refine y_wk (L2 := [some (.ref 66), some (.int 0)]) ⟨Or.inr rfl, Or.inr rfl, trivial⟩ (wl_mo_enough_19 0 (sI M 66 0 0) hl7 ?_)
    show mW mX12_enough 6 Q 57 [some (.ref 66), none] [] t6
    refine y_iconst (n := 58) (v := 0) ⟨dX12_enough_57, rfl⟩ ki_0 ?_
    refine y_istore_n (i := 1) (n := 59) (L2 := [some (.ref 66), some (.int 0)]) ⟨dX12_enough_58, rfl⟩ (by decide) rfl rfl ?_
    obtain ⟨r15, hl14, hf⟩ := b_s hf
    cases hf
    exact y_wk (L2 := [some (.ref 66), some (.int 0)]) ⟨Or.inr rfl, Or.inr rfl, trivial⟩ (wl_mo_enough_59 0 t6 hl14 hk)
  · replace hf := i_t hc hf
    refine y_iconst (n := 16) (v := (-1)) ⟨dX12_enough_15, rfl⟩ ki_m1 ?_
    cases hf
    exact y_ireturn (n := 17) ⟨dX12_enough_16, rfl⟩ rfl rfl hk
theorem c_mo_enough  (M : dM) {o : (Int32 × dM)} {y : mz_M} {d : Nat} {Q : mz_P} {pc n i : Nat} {L : List (Option Value)} {st : List Value} (h : mz_d y.2.1 pc n 3 (.invokevirtual i)) (hl : mz_ml y.1.cls i yX12_enough) (hf : f_mo_enough M = some o) (hd : 6 + 1 ≤ d) (hsm : (st.map (fun v => v.category)).sum ≤ 8) (hLr : mz_rL 133 L = true) (hSr : mz_rS 133 st = true) (kk : mW y d Q n L (.int o.1 :: st) o.2) : mW y d Q pc L (.ref 66 :: st) M :=
  y_callV kmX12_enough kvX12_enough l_66 (by decide +kernel) (by decide +kernel) h hl (ok_mo_enough  M hf) (vs := []) rfl rfl hd hsm hLr hSr kk
noncomputable def f_mo_skill (a1 : Int32) (a2 : Int32) (a3 : Int32) (M : dM) : Option (Bool × dM) :=
  if (f_mo_isHand a1) = true then
    if (f_mo_within a2 0 9) = true then
      if (f_mo_within a3 0 9) = true then
        gd (vp_in a1 10) <|
        some (true, (sI (sI (sI M 66 0 0) 115 a1.toNatClampNeg a2) 116 a1.toNatClampNeg a3))
      else
        some (false, (sI M 66 0 0))
    else
      some (false, (sI M 66 0 0))
  else
    some (false, (sI M 66 0 0))
theorem ok_mo_skill (a1 : Int32) (a2 : Int32) (a3 : Int32) (M : dM) {o : (Bool × dM)} (hf : f_mo_skill a1 a2 a3 M = some o) : mO mX12_skill 2 [.ref 66, .int a1, .int a2, .int a3] M (some (.int (bI o.1))) o.2 := by
  refine y_ok (by decide +kernel) (Nat.le_of_ble_eq_true rfl) (L0 := [some (.ref 66), some (.int a1), some (.int a2), some (.int a3)]) rfl ?_
  have hk := mR_mQ (some (.int (bI o.1))) o.2
  generalize mQ _ _ = Q at hk ⊢
  unfold f_mo_skill at hf
  refine y_aload_n (i := 0) (n := 1) ⟨dX12_skill_0, rfl⟩ rfl ?_
  refine y_iconst (n := 2) (v := 0) ⟨dX12_skill_1, rfl⟩ ki_0 ?_
  refine y_putI (n := 5) ⟨dX12_skill_2, rfl⟩ kfX12_214 l_66 (by decide +kernel) rfl ?_
  refine y_iload_n (i := 1) (n := 6) ⟨dX12_skill_5, rfl⟩ rfl ?_
  refine c_mo_isHand a1 (sI M 66 0 0) (n := 9) ⟨dX12_skill_6, rfl⟩ klX12_225 rfl (by decide) (Nat.le_of_ble_eq_true rfl) rfl rfl ?_
  refine y_if_eq (t := 32) (n := 12) ⟨dX12_skill_9, rfl, rfl⟩ (fun h0 => ?_) (fun h0 => ?_)
  · have hc := bI_0 h0
    replace hf := i_f hc hf
    refine y_iconst (n := 33) (v := 0) ⟨dX12_skill_32, rfl⟩ ki_0 ?_
    cases hf
    exact y_ireturn (n := 34) ⟨dX12_skill_33, rfl⟩ rfl rfl hk
  · have hc := bI_1 h0
    replace hf := i_t hc hf
    refine y_iload_n (i := 2) (n := 13) ⟨dX12_skill_12, rfl⟩ rfl ?_
    refine y_iconst (n := 14) (v := 0) ⟨dX12_skill_13, rfl⟩ ki_0 ?_
    refine y_bipush (n := 16) (v := 9) ⟨dX12_skill_14, rfl⟩ kb_9 ?_
    refine c_mo_within a2 0 9 (sI M 66 0 0) (n := 19) ⟨dX12_skill_16, rfl⟩ klX12_221 rfl (by decide) (Nat.le_of_ble_eq_true rfl) rfl rfl ?_
    refine y_if_eq (t := 32) (n := 22) ⟨dX12_skill_19, rfl, rfl⟩ (fun h0 => ?_) (fun h0 => ?_)
    · have hc := bI_0 h0
      replace hf := i_f hc hf
      refine y_iconst (n := 33) (v := 0) ⟨dX12_skill_32, rfl⟩ ki_0 ?_
      cases hf
      exact y_ireturn (n := 34) ⟨dX12_skill_33, rfl⟩ rfl rfl hk
    · have hc := bI_1 h0
      replace hf := i_t hc hf
      refine y_iload_n (i := 3) (n := 23) ⟨dX12_skill_22, rfl⟩ rfl ?_
      refine y_iconst (n := 24) (v := 0) ⟨dX12_skill_23, rfl⟩ ki_0 ?_
      refine y_bipush (n := 26) (v := 9) ⟨dX12_skill_24, rfl⟩ kb_9 ?_
      refine c_mo_within a3 0 9 (sI M 66 0 0) (n := 29) ⟨dX12_skill_26, rfl⟩ klX12_221 rfl (by decide) (Nat.le_of_ble_eq_true rfl) rfl rfl ?_
      refine y_if_ne (t := 34) (n := 32) ⟨dX12_skill_29, rfl, rfl⟩ (fun h0 => ?_) (fun h0 => ?_)
      · have hc := bI_1 h0
        replace hf := i_t hc hf
        refine y_aload_n (i := 0) (n := 35) ⟨dX12_skill_34, rfl⟩ rfl ?_
        refine y_getR (n := 38) ⟨dX12_skill_35, rfl⟩ kfX12_156 l_66 rfl r_66_80 ?_
        refine y_iload_n (i := 1) (n := 39) ⟨dX12_skill_38, rfl⟩ rfl ?_
        refine y_iload_n (i := 2) (n := 40) ⟨dX12_skill_39, rfl⟩ rfl ?_
        obtain ⟨hg1, hf⟩ := g_s hf
        refine y_iastore (n := 41) ⟨dX12_skill_40, rfl⟩ l_115 hg1 ?_
        refine y_aload_n (i := 0) (n := 42) ⟨dX12_skill_41, rfl⟩ rfl ?_
        refine y_getR (n := 45) ⟨dX12_skill_42, rfl⟩ kfX12_159 l_66 rfl r_66_81 ?_
        refine y_iload_n (i := 1) (n := 46) ⟨dX12_skill_45, rfl⟩ rfl ?_
        refine y_iload_n (i := 3) (n := 47) ⟨dX12_skill_46, rfl⟩ rfl ?_
        refine y_iastore (n := 48) ⟨dX12_skill_47, rfl⟩ l_116 hg1 ?_
        refine y_iconst (n := 49) (v := 1) ⟨dX12_skill_48, rfl⟩ ki_1 ?_
        cases hf
        exact y_ireturn (n := 50) ⟨dX12_skill_49, rfl⟩ rfl rfl hk
      · have hc := bI_0 h0
        replace hf := i_f hc hf
        refine y_iconst (n := 33) (v := 0) ⟨dX12_skill_32, rfl⟩ ki_0 ?_
        cases hf
        exact y_ireturn (n := 34) ⟨dX12_skill_33, rfl⟩ rfl rfl hk
theorem c_mo_skill (a1 : Int32) (a2 : Int32) (a3 : Int32) (M : dM) {o : (Bool × dM)} {y : mz_M} {d : Nat} {Q : mz_P} {pc n i : Nat} {L : List (Option Value)} {st : List Value} (h : mz_d y.2.1 pc n 3 (.invokevirtual i)) (hl : mz_ml y.1.cls i yX12_skill) (hf : f_mo_skill a1 a2 a3 M = some o) (hd : 2 + 1 ≤ d) (hsm : (st.map (fun v => v.category)).sum ≤ 8) (hLr : mz_rL 133 L = true) (hSr : mz_rS 133 st = true) (kk : mW y d Q n L (.int (bI o.1) :: st) o.2) : mW y d Q pc L (.int a3 :: .int a2 :: .int a1 :: .ref 66 :: st) M :=
  y_callV kmX12_skill kvX12_skill l_66 (by decide +kernel) (by decide +kernel) h hl (ok_mo_skill a1 a2 a3 M hf) (vs := [.int a1, .int a2, .int a3]) rfl rfl hd hsm hLr hSr kk
noncomputable def f_mo_wealth (a1 : Int32) (a2 : Int32) (a3 : Int32) (M : dM) : Option (Bool × dM) :=
  if (f_mo_isSite a1) = true then
    if (f_mo_within a2 0 9) = true then
      gd (vp_in ((10 * a1) + a2) 80) <|
      if (gI (sI M 66 0 0) 67 ((10 * a1) + a2).toNatClampNeg) < 0 then
        some (false, (sI M 66 0 0))
      else
        if (f_mo_within a3 0 9) = true then
          some (true, (sI (sI M 66 0 0) 117 ((10 * a1) + a2).toNatClampNeg a3))
        else
          some (false, (sI M 66 0 0))
    else
      some (false, (sI M 66 0 0))
  else
    some (false, (sI M 66 0 0))
theorem ok_mo_wealth (a1 : Int32) (a2 : Int32) (a3 : Int32) (M : dM) {o : (Bool × dM)} (hf : f_mo_wealth a1 a2 a3 M = some o) : mO mX12_wealth 2 [.ref 66, .int a1, .int a2, .int a3] M (some (.int (bI o.1))) o.2 := by
  refine y_ok (by decide +kernel) (Nat.le_of_ble_eq_true rfl) (L0 := [some (.ref 66), some (.int a1), some (.int a2), some (.int a3)]) rfl ?_
  have hk := mR_mQ (some (.int (bI o.1))) o.2
  generalize mQ _ _ = Q at hk ⊢
  unfold f_mo_wealth at hf
  refine y_aload_n (i := 0) (n := 1) ⟨dX12_wealth_0, rfl⟩ rfl ?_
  refine y_iconst (n := 2) (v := 0) ⟨dX12_wealth_1, rfl⟩ ki_0 ?_
  refine y_putI (n := 5) ⟨dX12_wealth_2, rfl⟩ kfX12_214 l_66 (by decide +kernel) rfl ?_
  refine y_iload_n (i := 1) (n := 6) ⟨dX12_wealth_5, rfl⟩ rfl ?_
  refine c_mo_isSite a1 (sI M 66 0 0) (n := 9) ⟨dX12_wealth_6, rfl⟩ klX12_217 rfl (by decide) (Nat.le_of_ble_eq_true rfl) rfl rfl ?_
  refine y_if_eq (t := 46) (n := 12) ⟨dX12_wealth_9, rfl, rfl⟩ (fun h0 => ?_) (fun h0 => ?_)
  · have hc := bI_0 h0
    replace hf := i_f hc hf
    refine y_iconst (n := 47) (v := 0) ⟨dX12_wealth_46, rfl⟩ ki_0 ?_
    cases hf
    exact y_ireturn (n := 48) ⟨dX12_wealth_47, rfl⟩ rfl rfl hk
  · have hc := bI_1 h0
    replace hf := i_t hc hf
    refine y_iload_n (i := 2) (n := 13) ⟨dX12_wealth_12, rfl⟩ rfl ?_
    refine y_iconst (n := 14) (v := 0) ⟨dX12_wealth_13, rfl⟩ ki_0 ?_
    refine y_bipush (n := 16) (v := 9) ⟨dX12_wealth_14, rfl⟩ kb_9 ?_
    refine c_mo_within a2 0 9 (sI M 66 0 0) (n := 19) ⟨dX12_wealth_16, rfl⟩ klX12_221 rfl (by decide) (Nat.le_of_ble_eq_true rfl) rfl rfl ?_
    refine y_if_eq (t := 46) (n := 22) ⟨dX12_wealth_19, rfl, rfl⟩ (fun h0 => ?_) (fun h0 => ?_)
    · have hc := bI_0 h0
      replace hf := i_f hc hf
      refine y_iconst (n := 47) (v := 0) ⟨dX12_wealth_46, rfl⟩ ki_0 ?_
      cases hf
      exact y_ireturn (n := 48) ⟨dX12_wealth_47, rfl⟩ rfl rfl hk
    · have hc := bI_1 h0
      replace hf := i_t hc hf
      refine y_aload_n (i := 0) (n := 23) ⟨dX12_wealth_22, rfl⟩ rfl ?_
      refine y_getR (n := 26) ⟨dX12_wealth_23, rfl⟩ kfX12_7 l_66 rfl r_66_1 ?_
      refine y_bipush (n := 28) (v := 10) ⟨dX12_wealth_26, rfl⟩ kb_10 ?_
      refine y_iload_n (i := 1) (n := 29) ⟨dX12_wealth_28, rfl⟩ rfl ?_
      refine y_imul (n := 30) ⟨dX12_wealth_29, rfl⟩ ?_
      refine y_iload_n (i := 2) (n := 31) ⟨dX12_wealth_30, rfl⟩ rfl ?_
      refine y_iadd (n := 32) ⟨dX12_wealth_31, rfl⟩ ?_
      obtain ⟨hg1, hf⟩ := g_s hf
      refine y_iaload (n := 33) ⟨dX12_wealth_32, rfl⟩ l_67 hg1 ?_
      refine y_if_lt (t := 46) (n := 36) ⟨dX12_wealth_33, rfl, rfl⟩ (fun (hc : (gI (sI M 66 0 0) 67 ((10 * a1) + a2).toNatClampNeg) < 0) => ?_) (fun (hc : ¬ ((gI (sI M 66 0 0) 67 ((10 * a1) + a2).toNatClampNeg) < 0)) => ?_)
      · replace hf := i_t hc hf
        refine y_iconst (n := 47) (v := 0) ⟨dX12_wealth_46, rfl⟩ ki_0 ?_
        cases hf
        exact y_ireturn (n := 48) ⟨dX12_wealth_47, rfl⟩ rfl rfl hk
      · replace hf := i_f hc hf
        refine y_iload_n (i := 3) (n := 37) ⟨dX12_wealth_36, rfl⟩ rfl ?_
        refine y_iconst (n := 38) (v := 0) ⟨dX12_wealth_37, rfl⟩ ki_0 ?_
        refine y_bipush (n := 40) (v := 9) ⟨dX12_wealth_38, rfl⟩ kb_9 ?_
        refine c_mo_within a3 0 9 (sI M 66 0 0) (n := 43) ⟨dX12_wealth_40, rfl⟩ klX12_221 rfl (by decide) (Nat.le_of_ble_eq_true rfl) rfl rfl ?_
        refine y_if_ne (t := 48) (n := 46) ⟨dX12_wealth_43, rfl, rfl⟩ (fun h0 => ?_) (fun h0 => ?_)
        · have hc := bI_1 h0
          replace hf := i_t hc hf
          refine y_aload_n (i := 0) (n := 49) ⟨dX12_wealth_48, rfl⟩ rfl ?_
          refine y_getR (n := 52) ⟨dX12_wealth_49, rfl⟩ kfX12_162 l_66 rfl r_66_82 ?_
          refine y_bipush (n := 54) (v := 10) ⟨dX12_wealth_52, rfl⟩ kb_10 ?_
          refine y_iload_n (i := 1) (n := 55) ⟨dX12_wealth_54, rfl⟩ rfl ?_
          refine y_imul (n := 56) ⟨dX12_wealth_55, rfl⟩ ?_
          refine y_iload_n (i := 2) (n := 57) ⟨dX12_wealth_56, rfl⟩ rfl ?_
          refine y_iadd (n := 58) ⟨dX12_wealth_57, rfl⟩ ?_
          refine y_iload_n (i := 3) (n := 59) ⟨dX12_wealth_58, rfl⟩ rfl ?_
          refine y_iastore (n := 60) ⟨dX12_wealth_59, rfl⟩ l_117 hg1 ?_
          refine y_iconst (n := 61) (v := 1) ⟨dX12_wealth_60, rfl⟩ ki_1 ?_
          cases hf
          exact y_ireturn (n := 62) ⟨dX12_wealth_61, rfl⟩ rfl rfl hk
        · have hc := bI_0 h0
          replace hf := i_f hc hf
          refine y_iconst (n := 47) (v := 0) ⟨dX12_wealth_46, rfl⟩ ki_0 ?_
          cases hf
          exact y_ireturn (n := 48) ⟨dX12_wealth_47, rfl⟩ rfl rfl hk
theorem c_mo_wealth (a1 : Int32) (a2 : Int32) (a3 : Int32) (M : dM) {o : (Bool × dM)} {y : mz_M} {d : Nat} {Q : mz_P} {pc n i : Nat} {L : List (Option Value)} {st : List Value} (h : mz_d y.2.1 pc n 3 (.invokevirtual i)) (hl : mz_ml y.1.cls i yX12_wealth) (hf : f_mo_wealth a1 a2 a3 M = some o) (hd : 2 + 1 ≤ d) (hsm : (st.map (fun v => v.category)).sum ≤ 8) (hLr : mz_rL 133 L = true) (hSr : mz_rS 133 st = true) (kk : mW y d Q n L (.int (bI o.1) :: st) o.2) : mW y d Q pc L (.int a3 :: .int a2 :: .int a1 :: .ref 66 :: st) M :=
  y_callV kmX12_wealth kvX12_wealth l_66 (by decide +kernel) (by decide +kernel) h hl (ok_mo_wealth a1 a2 a3 M hf) (vs := [.int a1, .int a2, .int a3]) rfl rfl hd hsm hLr hSr kk
noncomputable def f_mo_shows (a1 : Int32) (a2 : Int32) (a3 : Int32) (M : dM) : Option (Bool × dM) :=
  if (f_mo_within a1 0 7) = true then
    if (f_mo_within a2 0 9) = true then
      if (f_mo_within a3 0 9) = true then
        gd (vp_in a1 8) <|
        some (true, (sI (sI (sI M 66 0 0) 118 a1.toNatClampNeg a2) 119 a1.toNatClampNeg a3))
      else
        some (false, (sI M 66 0 0))
    else
      some (false, (sI M 66 0 0))
  else
    some (false, (sI M 66 0 0))
theorem ok_mo_shows (a1 : Int32) (a2 : Int32) (a3 : Int32) (M : dM) {o : (Bool × dM)} (hf : f_mo_shows a1 a2 a3 M = some o) : mO mX12_shows 2 [.ref 66, .int a1, .int a2, .int a3] M (some (.int (bI o.1))) o.2 := by
  refine y_ok (by decide +kernel) (Nat.le_of_ble_eq_true rfl) (L0 := [some (.ref 66), some (.int a1), some (.int a2), some (.int a3)]) rfl ?_
  have hk := mR_mQ (some (.int (bI o.1))) o.2
  generalize mQ _ _ = Q at hk ⊢
  unfold f_mo_shows at hf
  refine y_aload_n (i := 0) (n := 1) ⟨dX12_shows_0, rfl⟩ rfl ?_
  refine y_iconst (n := 2) (v := 0) ⟨dX12_shows_1, rfl⟩ ki_0 ?_
  refine y_putI (n := 5) ⟨dX12_shows_2, rfl⟩ kfX12_214 l_66 (by decide +kernel) rfl ?_
  refine y_iload_n (i := 1) (n := 6) ⟨dX12_shows_5, rfl⟩ rfl ?_
  refine y_iconst (n := 7) (v := 0) ⟨dX12_shows_6, rfl⟩ ki_0 ?_
  refine y_bipush (n := 9) (v := 7) ⟨dX12_shows_7, rfl⟩ kb_7 ?_
  refine c_mo_within a1 0 7 (sI M 66 0 0) (n := 12) ⟨dX12_shows_9, rfl⟩ klX12_221 rfl (by decide) (Nat.le_of_ble_eq_true rfl) rfl rfl ?_
  refine y_if_eq (t := 35) (n := 15) ⟨dX12_shows_12, rfl, rfl⟩ (fun h0 => ?_) (fun h0 => ?_)
  · have hc := bI_0 h0
    replace hf := i_f hc hf
    refine y_iconst (n := 36) (v := 0) ⟨dX12_shows_35, rfl⟩ ki_0 ?_
    cases hf
    exact y_ireturn (n := 37) ⟨dX12_shows_36, rfl⟩ rfl rfl hk
  · have hc := bI_1 h0
    replace hf := i_t hc hf
    refine y_iload_n (i := 2) (n := 16) ⟨dX12_shows_15, rfl⟩ rfl ?_
    refine y_iconst (n := 17) (v := 0) ⟨dX12_shows_16, rfl⟩ ki_0 ?_
    refine y_bipush (n := 19) (v := 9) ⟨dX12_shows_17, rfl⟩ kb_9 ?_
    refine c_mo_within a2 0 9 (sI M 66 0 0) (n := 22) ⟨dX12_shows_19, rfl⟩ klX12_221 rfl (by decide) (Nat.le_of_ble_eq_true rfl) rfl rfl ?_
    refine y_if_eq (t := 35) (n := 25) ⟨dX12_shows_22, rfl, rfl⟩ (fun h0 => ?_) (fun h0 => ?_)
    · have hc := bI_0 h0
      replace hf := i_f hc hf
      refine y_iconst (n := 36) (v := 0) ⟨dX12_shows_35, rfl⟩ ki_0 ?_
      cases hf
      exact y_ireturn (n := 37) ⟨dX12_shows_36, rfl⟩ rfl rfl hk
    · have hc := bI_1 h0
      replace hf := i_t hc hf
      refine y_iload_n (i := 3) (n := 26) ⟨dX12_shows_25, rfl⟩ rfl ?_
      refine y_iconst (n := 27) (v := 0) ⟨dX12_shows_26, rfl⟩ ki_0 ?_
      refine y_bipush (n := 29) (v := 9) ⟨dX12_shows_27, rfl⟩ kb_9 ?_
      refine c_mo_within a3 0 9 (sI M 66 0 0) (n := 32) ⟨dX12_shows_29, rfl⟩ klX12_221 rfl (by decide) (Nat.le_of_ble_eq_true rfl) rfl rfl ?_
      refine y_if_ne (t := 37) (n := 35) ⟨dX12_shows_32, rfl, rfl⟩ (fun h0 => ?_) (fun h0 => ?_)
      · have hc := bI_1 h0
        replace hf := i_t hc hf
        refine y_aload_n (i := 0) (n := 38) ⟨dX12_shows_37, rfl⟩ rfl ?_
        refine y_getR (n := 41) ⟨dX12_shows_38, rfl⟩ kfX12_165 l_66 rfl r_66_83 ?_
        refine y_iload_n (i := 1) (n := 42) ⟨dX12_shows_41, rfl⟩ rfl ?_
        refine y_iload_n (i := 2) (n := 43) ⟨dX12_shows_42, rfl⟩ rfl ?_
        obtain ⟨hg1, hf⟩ := g_s hf
        refine y_iastore (n := 44) ⟨dX12_shows_43, rfl⟩ l_118 hg1 ?_
        refine y_aload_n (i := 0) (n := 45) ⟨dX12_shows_44, rfl⟩ rfl ?_
        refine y_getR (n := 48) ⟨dX12_shows_45, rfl⟩ kfX12_168 l_66 rfl r_66_84 ?_
        refine y_iload_n (i := 1) (n := 49) ⟨dX12_shows_48, rfl⟩ rfl ?_
        refine y_iload_n (i := 3) (n := 50) ⟨dX12_shows_49, rfl⟩ rfl ?_
        refine y_iastore (n := 51) ⟨dX12_shows_50, rfl⟩ l_119 hg1 ?_
        refine y_iconst (n := 52) (v := 1) ⟨dX12_shows_51, rfl⟩ ki_1 ?_
        cases hf
        exact y_ireturn (n := 53) ⟨dX12_shows_52, rfl⟩ rfl rfl hk
      · have hc := bI_0 h0
        replace hf := i_f hc hf
        refine y_iconst (n := 36) (v := 0) ⟨dX12_shows_35, rfl⟩ ki_0 ?_
        cases hf
        exact y_ireturn (n := 37) ⟨dX12_shows_36, rfl⟩ rfl rfl hk
theorem c_mo_shows (a1 : Int32) (a2 : Int32) (a3 : Int32) (M : dM) {o : (Bool × dM)} {y : mz_M} {d : Nat} {Q : mz_P} {pc n i : Nat} {L : List (Option Value)} {st : List Value} (h : mz_d y.2.1 pc n 3 (.invokevirtual i)) (hl : mz_ml y.1.cls i yX12_shows) (hf : f_mo_shows a1 a2 a3 M = some o) (hd : 2 + 1 ≤ d) (hsm : (st.map (fun v => v.category)).sum ≤ 8) (hLr : mz_rL 133 L = true) (hSr : mz_rS 133 st = true) (kk : mW y d Q n L (.int (bI o.1) :: st) o.2) : mW y d Q pc L (.int a3 :: .int a2 :: .int a1 :: .ref 66 :: st) M :=
  y_callV kmX12_shows kvX12_shows l_66 (by decide +kernel) (by decide +kernel) h hl (ok_mo_shows a1 a2 a3 M hf) (vs := [.int a1, .int a2, .int a3]) rfl rfl hd hsm hLr hSr kk
noncomputable def f_mo_draws (M : dM) : Option (Int32 × dM) :=
  some ((((gJ (sJ M 66 85 ((((gJ M 66 85) * 1103515245) + 12345) - (((gJ M 66 85) * 1103515245) + 12345) / 2147483648 * 2147483648)) 66 85) / 65536) - ((gJ (sJ M 66 85 ((((gJ M 66 85) * 1103515245) + 12345) - (((gJ M 66 85) * 1103515245) + 12345) / 2147483648 * 2147483648)) 66 85) / 65536) / 10 * 10).toInt32, (sJ M 66 85 ((((gJ M 66 85) * 1103515245) + 12345) - (((gJ M 66 85) * 1103515245) + 12345) / 2147483648 * 2147483648)))
theorem ok_mo_draws  (M : dM) {o : (Int32 × dM)} (hf : f_mo_draws M = some o) : mO mX12_draws 1 [.ref 66] M (some (.int o.1)) o.2 := by
  refine y_ok (by decide +kernel) (Nat.le_of_ble_eq_true rfl) (L0 := [some (.ref 66)]) rfl ?_
  have hk := mR_mQ (some (.int o.1)) o.2
  generalize mQ _ _ = Q at hk ⊢
  unfold f_mo_draws at hf
  refine y_aload_n (i := 0) (n := 1) ⟨dX12_draws_0, rfl⟩ rfl ?_
  refine y_aload_n (i := 0) (n := 2) ⟨dX12_draws_1, rfl⟩ rfl ?_
  refine y_getJ (n := 5) ⟨dX12_draws_2, rfl⟩ kfX12_551 l_66 rfl ?_
  refine y_ldc2 (n := 8) ⟨dX12_draws_5, rfl⟩ kcX12_554 ?_
  refine y_lmul (n := 9) ⟨dX12_draws_8, rfl⟩ ?_
  refine y_ldc2 (n := 12) ⟨dX12_draws_9, rfl⟩ kcX12_556 ?_
  refine y_ladd (n := 13) ⟨dX12_draws_12, rfl⟩ ?_
  refine y_ldc2 (n := 16) ⟨dX12_draws_13, rfl⟩ kcX12_558 ?_
  refine y_lrem (n := 17) ⟨dX12_draws_16, rfl⟩ (by decide) ?_
  refine y_putJ (n := 20) ⟨dX12_draws_17, rfl⟩ kfX12_551 l_66 (by decide +kernel) rfl ?_
  refine y_aload_n (i := 0) (n := 21) ⟨dX12_draws_20, rfl⟩ rfl ?_
  refine y_getJ (n := 24) ⟨dX12_draws_21, rfl⟩ kfX12_551 l_66 rfl ?_
  refine y_ldc2 (n := 27) ⟨dX12_draws_24, rfl⟩ kcX12_560 ?_
  refine y_ldiv (n := 28) ⟨dX12_draws_27, rfl⟩ (by decide) ?_
  refine y_ldc2 (n := 31) ⟨dX12_draws_28, rfl⟩ kcX12_473 ?_
  refine y_lrem (n := 32) ⟨dX12_draws_31, rfl⟩ (by decide) ?_
  refine y_l2i (n := 33) ⟨dX12_draws_32, rfl⟩ ?_
  cases hf
  exact y_ireturn (n := 34) ⟨dX12_draws_33, rfl⟩ rfl rfl hk
theorem c_mo_draws  (M : dM) {o : (Int32 × dM)} {y : mz_M} {d : Nat} {Q : mz_P} {pc n i : Nat} {L : List (Option Value)} {st : List Value} (h : mz_d y.2.1 pc n 3 (.invokevirtual i)) (hl : mz_ml y.1.cls i yX12_draws) (hf : f_mo_draws M = some o) (hd : 1 + 1 ≤ d) (hsm : (st.map (fun v => v.category)).sum ≤ 8) (hLr : mz_rL 133 L = true) (hSr : mz_rS 133 st = true) (kk : mW y d Q n L (.int o.1 :: st) o.2) : mW y d Q pc L (.ref 66 :: st) M :=
  y_callV kmX12_draws kvX12_draws l_66 (by decide +kernel) (by decide +kernel) h hl (ok_mo_draws  M hf) (vs := []) rfl rfl hd hsm hLr hSr kk
def K_mo_layersOf_4 (Q : mz_P) (x1 : Int32) (M : dM) : ((Int32 × Int32) ⊕ Int32) → Prop
  | .inl s => mW mX12_layersOf 1 Q 4 [some (.ref 66), some (.int x1), some (.int s.1), some (.int s.2)] [] M
  | .inr r => mR Q (some (.int r)) M
noncomputable def b_mo_layersOf_4_4 (x1 : Int32) (x2 : Int32) (x3 : Int32) (M : dM) : Option ((Int32 × Int32) ⊕ Int32) :=
  if 10 ≤ x3 then
    some (.inr x2)
  else
    gd (vp_in ((10 * x1) + x3) 80) <|
    if (gI M 67 ((10 * x1) + x3).toNatClampNeg) < 0 then
      some (.inl ((x2 + 0), (x3 + 1)))
    else
      some (.inl ((x2 + 1), (x3 + 1)))
noncomputable def l_mo_layersOf_4 (x1 : Int32) (x2 : Int32) (x3 : Int32) (M : dM) : Option Int32 := lpc (fun s => b_mo_layersOf_4_4 x1 s.1 s.2 M) (x2, x3)
noncomputable def f_mo_layersOf (a1 : Int32) (M : dM) : Option Int32 :=
  (l_mo_layersOf_4 a1 0 0 M).bind fun r4 => some r4
theorem w_b_mo_layersOf_4_4 (x1 : Int32) (x2 : Int32) (x3 : Int32)  (M : dM) {Q : mz_P} {o : ((Int32 × Int32) ⊕ Int32)} (hf : b_mo_layersOf_4_4 x1 x2 x3 M = some o) (hk : K_mo_layersOf_4 Q x1 M o) : mW mX12_layersOf 1 Q 4 [some (.ref 66), some (.int x1), some (.int x2), some (.int x3)] [] M := by
  unfold b_mo_layersOf_4_4 at hf
  refine y_iload_n (i := 3) (n := 5) ⟨dX12_layersOf_4, rfl⟩ rfl ?_
  refine y_bipush (n := 7) (v := 10) ⟨dX12_layersOf_5, rfl⟩ kb_10 ?_
  refine y_icmp_ge (t := 38) (n := 10) ⟨dX12_layersOf_7, rfl, rfl⟩ (fun (hc : 10 ≤ x3) => ?_) (fun (hc : ¬ (10 ≤ x3)) => ?_)
  · replace hf := i_t hc hf
    refine y_iload_n (i := 2) (n := 39) ⟨dX12_layersOf_38, rfl⟩ rfl ?_
    cases hf
    exact y_ireturn (n := 40) ⟨dX12_layersOf_39, rfl⟩ rfl rfl hk
  · replace hf := i_f hc hf
    refine y_iload_n (i := 2) (n := 11) ⟨dX12_layersOf_10, rfl⟩ rfl ?_
    refine y_aload_n (i := 0) (n := 12) ⟨dX12_layersOf_11, rfl⟩ rfl ?_
    refine y_getR (n := 15) ⟨dX12_layersOf_12, rfl⟩ kfX12_7 l_66 rfl r_66_1 ?_
    refine y_bipush (n := 17) (v := 10) ⟨dX12_layersOf_15, rfl⟩ kb_10 ?_
    refine y_iload_n (i := 1) (n := 18) ⟨dX12_layersOf_17, rfl⟩ rfl ?_
    refine y_imul (n := 19) ⟨dX12_layersOf_18, rfl⟩ ?_
    refine y_iload_n (i := 3) (n := 20) ⟨dX12_layersOf_19, rfl⟩ rfl ?_
    refine y_iadd (n := 21) ⟨dX12_layersOf_20, rfl⟩ ?_
    obtain ⟨hg1, hf⟩ := g_s hf
    refine y_iaload (n := 22) ⟨dX12_layersOf_21, rfl⟩ l_67 hg1 ?_
    refine y_if_lt (t := 29) (n := 25) ⟨dX12_layersOf_22, rfl, rfl⟩ (fun (hc : (gI M 67 ((10 * x1) + x3).toNatClampNeg) < 0) => ?_) (fun (hc : ¬ ((gI M 67 ((10 * x1) + x3).toNatClampNeg) < 0)) => ?_)
    · replace hf := i_t hc hf
      refine y_iconst (n := 30) (v := 0) ⟨dX12_layersOf_29, rfl⟩ ki_0 ?_
      refine y_iadd (n := 31) ⟨dX12_layersOf_30, rfl⟩ ?_
      refine y_istore_n (i := 2) (n := 32) (L2 := [some (.ref 66), some (.int x1), some (.int (x2 + 0)), some (.int x3)]) ⟨dX12_layersOf_31, rfl⟩ (by decide) rfl rfl ?_
      refine y_iinc (i := 3) (n := 35) (b := (x3 + 1)) (L2 := [some (.ref 66), some (.int x1), some (.int (x2 + 0)), some (.int (x3 + 1))]) ⟨dX12_layersOf_32, rfl⟩ rfl (by rw [ki_1]) (by decide) rfl rfl ?_
      refine y_goto (t := 4) ⟨dX12_layersOf_35, rfl, rfl⟩ ?_
      cases hf
      exact y_wk (L2 := [some (.ref 66), some (.int x1), some (.int (x2 + 0)), some (.int (x3 + 1))]) ⟨Or.inr rfl, Or.inr rfl, Or.inr rfl, Or.inr rfl, trivial⟩ hk
    · replace hf := i_f hc hf
      refine y_iconst (n := 26) (v := 1) ⟨dX12_layersOf_25, rfl⟩ ki_1 ?_
      refine y_goto (t := 30) ⟨dX12_layersOf_26, rfl, rfl⟩ ?_
      refine y_iadd (n := 31) ⟨dX12_layersOf_30, rfl⟩ ?_
      refine y_istore_n (i := 2) (n := 32) (L2 := [some (.ref 66), some (.int x1), some (.int (x2 + 1)), some (.int x3)]) ⟨dX12_layersOf_31, rfl⟩ (by decide) rfl rfl ?_
      refine y_iinc (i := 3) (n := 35) (b := (x3 + 1)) (L2 := [some (.ref 66), some (.int x1), some (.int (x2 + 1)), some (.int (x3 + 1))]) ⟨dX12_layersOf_32, rfl⟩ rfl (by rw [ki_1]) (by decide) rfl rfl ?_
      refine y_goto (t := 4) ⟨dX12_layersOf_35, rfl, rfl⟩ ?_
      cases hf
      exact y_wk (L2 := [some (.ref 66), some (.int x1), some (.int (x2 + 1)), some (.int (x3 + 1))]) ⟨Or.inr rfl, Or.inr rfl, Or.inr rfl, Or.inr rfl, trivial⟩ hk
theorem wl_mo_layersOf_4 (x1 : Int32) (x2 : Int32) (x3 : Int32) (M : dM) {Q : mz_P} {x : Int32} (hf : l_mo_layersOf_4 x1 x2 x3 M = some x) (hk : K_mo_layersOf_4 Q x1 M (.inr x)) : mW mX12_layersOf 1 Q 4 [some (.ref 66), some (.int x1), some (.int x2), some (.int x3)] [] M :=
  lpc_wp (σ := (Int32 × Int32)) (ξ := Int32) (s := (x2, x3)) (Wh := fun s => mW mX12_layersOf 1 Q 4 [some (.ref 66), some (.int x1), some (.int s.1), some (.int s.2)] [] M) (K := K_mo_layersOf_4 Q x1 M) (fun _ h => h) (fun s o hb hk => w_b_mo_layersOf_4_4 x1 s.1 s.2 M hb hk) hf hk
theorem ok_mo_layersOf (a1 : Int32) (M : dM) {o : Int32} (hf : f_mo_layersOf a1 M = some o) : mO mX12_layersOf 1 [.ref 66, .int a1] M (some (.int o)) M := by
  refine y_ok (by decide +kernel) (Nat.le_of_ble_eq_true rfl) (L0 := [some (.ref 66), some (.int a1), none, none]) rfl ?_
  have hk := mR_mQ (some (.int o)) M
  generalize mQ _ _ = Q at hk ⊢
  unfold f_mo_layersOf at hf
  refine y_iconst (n := 1) (v := 0) ⟨dX12_layersOf_0, rfl⟩ ki_0 ?_
  refine y_istore_n (i := 2) (n := 2) (L2 := [some (.ref 66), some (.int a1), some (.int 0), none]) ⟨dX12_layersOf_1, rfl⟩ (by decide) rfl rfl ?_
  refine y_iconst (n := 3) (v := 0) ⟨dX12_layersOf_2, rfl⟩ ki_0 ?_
  refine y_istore_n (i := 3) (n := 4) (L2 := [some (.ref 66), some (.int a1), some (.int 0), some (.int 0)]) ⟨dX12_layersOf_3, rfl⟩ (by decide) rfl rfl ?_
  obtain ⟨r4, hl3, hf⟩ := b_s hf
  cases hf
  exact y_wk (L2 := [some (.ref 66), some (.int a1), some (.int 0), some (.int 0)]) ⟨Or.inr rfl, Or.inr rfl, Or.inr rfl, Or.inr rfl, trivial⟩ (wl_mo_layersOf_4 a1 0 0 M hl3 hk)
theorem c_mo_layersOf (a1 : Int32) (M : dM) {o : Int32} {y : mz_M} {d : Nat} {Q : mz_P} {pc n i : Nat} {L : List (Option Value)} {st : List Value} (h : mz_d y.2.1 pc n 3 (.invokevirtual i)) (hl : mz_ml y.1.cls i yX12_layersOf) (hf : f_mo_layersOf a1 M = some o) (hd : 1 + 1 ≤ d) (hsm : (st.map (fun v => v.category)).sum ≤ 8) (hLr : mz_rL 133 L = true) (hSr : mz_rS 133 st = true) (kk : mW y d Q n L (.int o :: st) M) : mW y d Q pc L (.int a1 :: .ref 66 :: st) M :=
  y_callV kmX12_layersOf kvX12_layersOf l_66 (by decide +kernel) (by decide +kernel) h hl (ok_mo_layersOf a1 M hf) (vs := [.int a1]) rfl rfl hd hsm hLr hSr kk
def K_mo_drawsLayer_16 (Q : mz_P) (x1 : Int32) (M : dM) : ((Int32 × Int32 × Int32) ⊕ (Int32 × dM)) → Prop
  | .inl s => mW mX12_drawsLayer 2 Q 16 [some (.ref 66), some (.int x1), some (.int s.1), some (.int s.2.1), some (.int s.2.2)] [] M
  | .inr r => mR Q (some (.int r.1)) r.2
noncomputable def b_mo_drawsLayer_16_16 (x1 : Int32) (x2 : Int32) (x3 : Int32) (x4 : Int32) (M : dM) : Option ((Int32 × Int32 × Int32) ⊕ (Int32 × dM)) :=
  if 10 ≤ x4 then
    some (.inr (x3, M))
  else
    gd (vp_in ((10 * x1) + x4) 80) <|
    if 0 ≤ (gI M 67 ((10 * x1) + x4).toNatClampNeg) then
      if x2 = 0 then
        some (.inl ((x2 + (-1)), x4, (x4 + 1)))
      else
        some (.inl ((x2 + (-1)), x3, (x4 + 1)))
    else
      some (.inl (x2, x3, (x4 + 1)))
noncomputable def l_mo_drawsLayer_16 (x1 : Int32) (x2 : Int32) (x3 : Int32) (x4 : Int32) (M : dM) : Option (Int32 × dM) := lpc (fun s => b_mo_drawsLayer_16_16 x1 s.1 s.2.1 s.2.2 M) (x2, x3, x4)
noncomputable def f_mo_drawsLayer (a1 : Int32) (M : dM) : Option (Int32 × dM) :=
  (f_mo_draws M).bind fun q1 =>
  (f_mo_layersOf a1 q1.2).bind fun v3 =>
  gd (¬ v3 = 0) <|
  (l_mo_drawsLayer_16 a1 (q1.1 - q1.1 / v3 * v3) (-1) 0 q1.2).bind fun r9 => some r9
theorem w_b_mo_drawsLayer_16_16 (x1 : Int32) (x2 : Int32) (x3 : Int32) (x4 : Int32)  (M : dM) {Q : mz_P} {o : ((Int32 × Int32 × Int32) ⊕ (Int32 × dM))} (hf : b_mo_drawsLayer_16_16 x1 x2 x3 x4 M = some o) (hk : K_mo_drawsLayer_16 Q x1 M o) : mW mX12_drawsLayer 2 Q 16 [some (.ref 66), some (.int x1), some (.int x2), some (.int x3), some (.int x4)] [] M := by
  unfold b_mo_drawsLayer_16_16 at hf
  refine y_iload (i := 4) (n := 18) ⟨dX12_drawsLayer_16, rfl⟩ rfl ?_
  refine y_bipush (n := 20) (v := 10) ⟨dX12_drawsLayer_18, rfl⟩ kb_10 ?_
  refine y_icmp_ge (t := 57) (n := 23) ⟨dX12_drawsLayer_20, rfl, rfl⟩ (fun (hc : 10 ≤ x4) => ?_) (fun (hc : ¬ (10 ≤ x4)) => ?_)
  · replace hf := i_t hc hf
    refine y_iload_n (i := 3) (n := 58) ⟨dX12_drawsLayer_57, rfl⟩ rfl ?_
    cases hf
    exact y_ireturn (n := 59) ⟨dX12_drawsLayer_58, rfl⟩ rfl rfl hk
  · replace hf := i_f hc hf
    refine y_aload_n (i := 0) (n := 24) ⟨dX12_drawsLayer_23, rfl⟩ rfl ?_
    refine y_getR (n := 27) ⟨dX12_drawsLayer_24, rfl⟩ kfX12_7 l_66 rfl r_66_1 ?_
    refine y_bipush (n := 29) (v := 10) ⟨dX12_drawsLayer_27, rfl⟩ kb_10 ?_
    refine y_iload_n (i := 1) (n := 30) ⟨dX12_drawsLayer_29, rfl⟩ rfl ?_
    refine y_imul (n := 31) ⟨dX12_drawsLayer_30, rfl⟩ ?_
    refine y_iload (i := 4) (n := 33) ⟨dX12_drawsLayer_31, rfl⟩ rfl ?_
    refine y_iadd (n := 34) ⟨dX12_drawsLayer_33, rfl⟩ ?_
    obtain ⟨hg6, hf⟩ := g_s hf
    refine y_iaload (n := 35) ⟨dX12_drawsLayer_34, rfl⟩ l_67 hg6 ?_
    refine y_if_ge (t := 41) (n := 38) ⟨dX12_drawsLayer_35, rfl, rfl⟩ (fun (hc : 0 ≤ (gI M 67 ((10 * x1) + x4).toNatClampNeg)) => ?_) (fun (hc : ¬ (0 ≤ (gI M 67 ((10 * x1) + x4).toNatClampNeg))) => ?_)
    · replace hf := i_t hc hf
      refine y_iload_n (i := 2) (n := 42) ⟨dX12_drawsLayer_41, rfl⟩ rfl ?_
      refine y_if_ne (t := 48) (n := 45) ⟨dX12_drawsLayer_42, rfl, rfl⟩ (fun (hc : ¬ (x2 = 0)) => ?_) (fun (hc : x2 = 0) => ?_)
      · replace hf := i_f hc hf
        refine y_iinc (i := 2) (n := 51) (b := (x2 + (-1))) (L2 := [some (.ref 66), some (.int x1), some (.int (x2 + (-1))), some (.int x3), some (.int x4)]) ⟨dX12_drawsLayer_48, rfl⟩ rfl (by rw [ki_m1]) (by decide) rfl rfl ?_
        refine y_iinc (i := 4) (n := 54) (b := (x4 + 1)) (L2 := [some (.ref 66), some (.int x1), some (.int (x2 + (-1))), some (.int x3), some (.int (x4 + 1))]) ⟨dX12_drawsLayer_51, rfl⟩ rfl (by rw [ki_1]) (by decide) rfl rfl ?_
        refine y_goto (t := 16) ⟨dX12_drawsLayer_54, rfl, rfl⟩ ?_
        cases hf
        exact y_wk (L2 := [some (.ref 66), some (.int x1), some (.int (x2 + (-1))), some (.int x3), some (.int (x4 + 1))]) ⟨Or.inr rfl, Or.inr rfl, Or.inr rfl, Or.inr rfl, Or.inr rfl, trivial⟩ hk
      · replace hf := i_t hc hf
        refine y_iload (i := 4) (n := 47) ⟨dX12_drawsLayer_45, rfl⟩ rfl ?_
        refine y_istore_n (i := 3) (n := 48) (L2 := [some (.ref 66), some (.int x1), some (.int x2), some (.int x4), some (.int x4)]) ⟨dX12_drawsLayer_47, rfl⟩ (by decide) rfl rfl ?_
        refine y_iinc (i := 2) (n := 51) (b := (x2 + (-1))) (L2 := [some (.ref 66), some (.int x1), some (.int (x2 + (-1))), some (.int x4), some (.int x4)]) ⟨dX12_drawsLayer_48, rfl⟩ rfl (by rw [ki_m1]) (by decide) rfl rfl ?_
        refine y_iinc (i := 4) (n := 54) (b := (x4 + 1)) (L2 := [some (.ref 66), some (.int x1), some (.int (x2 + (-1))), some (.int x4), some (.int (x4 + 1))]) ⟨dX12_drawsLayer_51, rfl⟩ rfl (by rw [ki_1]) (by decide) rfl rfl ?_
        refine y_goto (t := 16) ⟨dX12_drawsLayer_54, rfl, rfl⟩ ?_
        cases hf
        exact y_wk (L2 := [some (.ref 66), some (.int x1), some (.int (x2 + (-1))), some (.int x4), some (.int (x4 + 1))]) ⟨Or.inr rfl, Or.inr rfl, Or.inr rfl, Or.inr rfl, Or.inr rfl, trivial⟩ hk
    · replace hf := i_f hc hf
      refine y_goto (t := 51) ⟨dX12_drawsLayer_38, rfl, rfl⟩ ?_
      refine y_iinc (i := 4) (n := 54) (b := (x4 + 1)) (L2 := [some (.ref 66), some (.int x1), some (.int x2), some (.int x3), some (.int (x4 + 1))]) ⟨dX12_drawsLayer_51, rfl⟩ rfl (by rw [ki_1]) (by decide) rfl rfl ?_
      refine y_goto (t := 16) ⟨dX12_drawsLayer_54, rfl, rfl⟩ ?_
      cases hf
      exact y_wk (L2 := [some (.ref 66), some (.int x1), some (.int x2), some (.int x3), some (.int (x4 + 1))]) ⟨Or.inr rfl, Or.inr rfl, Or.inr rfl, Or.inr rfl, Or.inr rfl, trivial⟩ hk
theorem wl_mo_drawsLayer_16 (x1 : Int32) (x2 : Int32) (x3 : Int32) (x4 : Int32) (M : dM) {Q : mz_P} {x : (Int32 × dM)} (hf : l_mo_drawsLayer_16 x1 x2 x3 x4 M = some x) (hk : K_mo_drawsLayer_16 Q x1 M (.inr x)) : mW mX12_drawsLayer 2 Q 16 [some (.ref 66), some (.int x1), some (.int x2), some (.int x3), some (.int x4)] [] M :=
  lpc_wp (σ := (Int32 × Int32 × Int32)) (ξ := (Int32 × dM)) (s := (x2, x3, x4)) (Wh := fun s => mW mX12_drawsLayer 2 Q 16 [some (.ref 66), some (.int x1), some (.int s.1), some (.int s.2.1), some (.int s.2.2)] [] M) (K := K_mo_drawsLayer_16 Q x1 M) (fun _ h => h) (fun s o hb hk => w_b_mo_drawsLayer_16_16 x1 s.1 s.2.1 s.2.2 M hb hk) hf hk
theorem ok_mo_drawsLayer (a1 : Int32) (M : dM) {o : (Int32 × dM)} (hf : f_mo_drawsLayer a1 M = some o) : mO mX12_drawsLayer 2 [.ref 66, .int a1] M (some (.int o.1)) o.2 := by
  refine y_ok (by decide +kernel) (Nat.le_of_ble_eq_true rfl) (L0 := [some (.ref 66), some (.int a1), none, none, none]) rfl ?_
  have hk := mR_mQ (some (.int o.1)) o.2
  generalize mQ _ _ = Q at hk ⊢
  unfold f_mo_drawsLayer at hf
  refine y_aload_n (i := 0) (n := 1) ⟨dX12_drawsLayer_0, rfl⟩ rfl ?_
  obtain ⟨q1, hv2, hf⟩ := b_s hf
  refine c_mo_draws M (n := 4) ⟨dX12_drawsLayer_1, rfl⟩ klX12_562 hv2 (by decide) (Nat.le_of_ble_eq_true rfl) rfl rfl ?_
  refine y_aload_n (i := 0) (n := 5) ⟨dX12_drawsLayer_4, rfl⟩ rfl ?_
  refine y_iload_n (i := 1) (n := 6) ⟨dX12_drawsLayer_5, rfl⟩ rfl ?_
  obtain ⟨v3, hv4, hf⟩ := b_s hf
  refine c_mo_layersOf a1 q1.2 (n := 9) ⟨dX12_drawsLayer_6, rfl⟩ klX12_565 hv4 (by decide) (Nat.le_of_ble_eq_true rfl) rfl rfl ?_
  obtain ⟨hg5, hf⟩ := g_s hf
  refine y_irem (n := 10) ⟨dX12_drawsLayer_9, rfl⟩ hg5 ?_
  refine y_istore_n (i := 2) (n := 11) (L2 := [some (.ref 66), some (.int a1), some (.int (q1.1 - q1.1 / v3 * v3)), none, none]) ⟨dX12_drawsLayer_10, rfl⟩ (by decide) rfl rfl ?_
  refine y_iconst (n := 12) (v := (-1)) ⟨dX12_drawsLayer_11, rfl⟩ ki_m1 ?_
  refine y_istore_n (i := 3) (n := 13) (L2 := [some (.ref 66), some (.int a1), some (.int (q1.1 - q1.1 / v3 * v3)), some (.int (-1)), none]) ⟨dX12_drawsLayer_12, rfl⟩ (by decide) rfl rfl ?_
  refine y_iconst (n := 14) (v := 0) ⟨dX12_drawsLayer_13, rfl⟩ ki_0 ?_
  refine y_istore (i := 4) (n := 16) (L2 := [some (.ref 66), some (.int a1), some (.int (q1.1 - q1.1 / v3 * v3)), some (.int (-1)), some (.int 0)]) ⟨dX12_drawsLayer_14, rfl⟩ (by decide) rfl rfl ?_
  obtain ⟨r9, hl8, hf⟩ := b_s hf
  cases hf
  exact y_wk (L2 := [some (.ref 66), some (.int a1), some (.int (q1.1 - q1.1 / v3 * v3)), some (.int (-1)), some (.int 0)]) ⟨Or.inr rfl, Or.inr rfl, Or.inr rfl, Or.inr rfl, Or.inr rfl, trivial⟩ (wl_mo_drawsLayer_16 a1 (q1.1 - q1.1 / v3 * v3) (-1) 0 q1.2 hl8 hk)
theorem c_mo_drawsLayer (a1 : Int32) (M : dM) {o : (Int32 × dM)} {y : mz_M} {d : Nat} {Q : mz_P} {pc n i : Nat} {L : List (Option Value)} {st : List Value} (h : mz_d y.2.1 pc n 3 (.invokevirtual i)) (hl : mz_ml y.1.cls i yX12_drawsLayer) (hf : f_mo_drawsLayer a1 M = some o) (hd : 2 + 1 ≤ d) (hsm : (st.map (fun v => v.category)).sum ≤ 8) (hLr : mz_rL 133 L = true) (hSr : mz_rS 133 st = true) (kk : mW y d Q n L (.int o.1 :: st) o.2) : mW y d Q pc L (.int a1 :: .ref 66 :: st) M :=
  y_callV kmX12_drawsLayer kvX12_drawsLayer l_66 (by decide +kernel) (by decide +kernel) h hl (ok_mo_drawsLayer a1 M hf) (vs := [.int a1]) rfl rfl hd hsm hLr hSr kk
noncomputable def f_mo_buries (a1 : Int32) (a2 : Int32) (M : dM) : Option dM :=
  gd (vp_in a1 80) <|
  (f_mo_presentAt (gI M 70 a1.toNatClampNeg) (gI M 71 a1.toNatClampNeg) a2 M).bind fun v2 =>
  if v2 = ((1 : Int32) <<< ((gI M 69 a1.toNatClampNeg) &&& 31)) then
    (f_mo_draws M).bind fun q4 =>
    gd (vp_in (gI M 69 a1.toNatClampNeg) 10) <|
    if q4.1 < (gI q4.2 116 (gI M 69 a1.toNatClampNeg).toNatClampNeg) then
      gd (vp_in (gI M 70 a1.toNatClampNeg) 8) <|
      if (gI q4.2 121 (gI M 70 a1.toNatClampNeg).toNatClampNeg) = 9 then
        some q4.2
      else
        (f_mo_layersOf (gI M 70 a1.toNatClampNeg) q4.2).bind fun v8 =>
        if v8 = 0 then
          some q4.2
        else
          (f_mo_drawsLayer (gI M 70 a1.toNatClampNeg) q4.2).bind fun q10 =>
          gd (vp_in ((9 * (gI M 70 a1.toNatClampNeg)) + (gI q4.2 121 (gI M 70 a1.toNatClampNeg).toNatClampNeg)) 72) <|
          some (sI (sI q10.2 120 ((9 * (gI M 70 a1.toNatClampNeg)) + (gI q4.2 121 (gI M 70 a1.toNatClampNeg).toNatClampNeg)).toNatClampNeg q10.1) 121 (gI M 70 a1.toNatClampNeg).toNatClampNeg ((gI (sI q10.2 120 ((9 * (gI M 70 a1.toNatClampNeg)) + (gI q4.2 121 (gI M 70 a1.toNatClampNeg).toNatClampNeg)).toNatClampNeg q10.1) 121 (gI M 70 a1.toNatClampNeg).toNatClampNeg) + 1))
    else
      some q4.2
  else
    some M
theorem ok_mo_buries (a1 : Int32) (a2 : Int32) (M : dM) {o : dM} (hf : f_mo_buries a1 a2 M = some o) : mO mX12_buries 3 [.ref 66, .int a1, .int a2] M none o := by
  refine y_ok (by decide +kernel) (Nat.le_of_ble_eq_true rfl) (L0 := [some (.ref 66), some (.int a1), some (.int a2), none, none]) rfl ?_
  have hk := mR_mQ none o
  generalize mQ _ _ = Q at hk ⊢
  unfold f_mo_buries at hf
  refine y_aload_n (i := 0) (n := 1) ⟨dX12_buries_0, rfl⟩ rfl ?_
  refine y_getR (n := 4) ⟨dX12_buries_1, rfl⟩ kfX12_19 l_66 rfl r_66_5 ?_
  refine y_iload_n (i := 1) (n := 5) ⟨dX12_buries_4, rfl⟩ rfl ?_
  obtain ⟨hg1, hf⟩ := g_s hf
  refine y_iaload (n := 6) ⟨dX12_buries_5, rfl⟩ l_70 hg1 ?_
  refine y_istore_n (i := 3) (n := 7) (L2 := [some (.ref 66), some (.int a1), some (.int a2), some (.int (gI M 70 a1.toNatClampNeg)), none]) ⟨dX12_buries_6, rfl⟩ (by decide) rfl rfl ?_
  refine y_aload_n (i := 0) (n := 8) ⟨dX12_buries_7, rfl⟩ rfl ?_
  refine y_getR (n := 11) ⟨dX12_buries_8, rfl⟩ kfX12_16 l_66 rfl r_66_4 ?_
  refine y_iload_n (i := 1) (n := 12) ⟨dX12_buries_11, rfl⟩ rfl ?_
  refine y_iaload (n := 13) ⟨dX12_buries_12, rfl⟩ l_69 hg1 ?_
  refine y_istore (i := 4) (n := 15) (L2 := [some (.ref 66), some (.int a1), some (.int a2), some (.int (gI M 70 a1.toNatClampNeg)), some (.int (gI M 69 a1.toNatClampNeg))]) ⟨dX12_buries_13, rfl⟩ (by decide) rfl rfl ?_
  refine y_aload_n (i := 0) (n := 16) ⟨dX12_buries_15, rfl⟩ rfl ?_
  refine y_iload_n (i := 3) (n := 17) ⟨dX12_buries_16, rfl⟩ rfl ?_
  refine y_aload_n (i := 0) (n := 18) ⟨dX12_buries_17, rfl⟩ rfl ?_
  refine y_getR (n := 21) ⟨dX12_buries_18, rfl⟩ kfX12_22 l_66 rfl r_66_6 ?_
  refine y_iload_n (i := 1) (n := 22) ⟨dX12_buries_21, rfl⟩ rfl ?_
  refine y_iaload (n := 23) ⟨dX12_buries_22, rfl⟩ l_71 hg1 ?_
  refine y_iload_n (i := 2) (n := 24) ⟨dX12_buries_23, rfl⟩ rfl ?_
  obtain ⟨v2, hv3, hf⟩ := b_s hf
  refine c_mo_presentAt (gI M 70 a1.toNatClampNeg) (gI M 71 a1.toNatClampNeg) a2 M (n := 27) ⟨dX12_buries_24, rfl⟩ klX12_231 hv3 (by decide) (Nat.le_of_ble_eq_true rfl) rfl rfl ?_
  refine y_iconst (n := 28) (v := 1) ⟨dX12_buries_27, rfl⟩ ki_1 ?_
  refine y_iload (i := 4) (n := 30) ⟨dX12_buries_28, rfl⟩ rfl ?_
  refine y_ishl (n := 31) ⟨dX12_buries_30, rfl⟩ ?_
  refine y_icmp_ne (t := 48) (n := 34) ⟨dX12_buries_31, rfl, rfl⟩ (fun (hc : ¬ (v2 = ((1 : Int32) <<< ((gI M 69 a1.toNatClampNeg) &&& 31)))) => ?_) (fun (hc : v2 = ((1 : Int32) <<< ((gI M 69 a1.toNatClampNeg) &&& 31))) => ?_)
  · replace hf := i_f hc hf
    cases hf
    exact y_return (n := 49) ⟨dX12_buries_48, rfl⟩ rfl hk
  · replace hf := i_t hc hf
    refine y_aload_n (i := 0) (n := 35) ⟨dX12_buries_34, rfl⟩ rfl ?_
    obtain ⟨q4, hv5, hf⟩ := b_s hf
    refine c_mo_draws M (n := 38) ⟨dX12_buries_35, rfl⟩ klX12_562 hv5 (by decide) (Nat.le_of_ble_eq_true rfl) rfl rfl ?_
    refine y_aload_n (i := 0) (n := 39) ⟨dX12_buries_38, rfl⟩ rfl ?_
    refine y_getR (n := 42) ⟨dX12_buries_39, rfl⟩ kfX12_159 l_66 rfl r_66_81 ?_
    refine y_iload (i := 4) (n := 44) ⟨dX12_buries_42, rfl⟩ rfl ?_
    obtain ⟨hg6, hf⟩ := g_s hf
    refine y_iaload (n := 45) ⟨dX12_buries_44, rfl⟩ l_116 hg6 ?_
    refine y_icmp_lt (t := 49) (n := 48) ⟨dX12_buries_45, rfl, rfl⟩ (fun (hc : q4.1 < (gI q4.2 116 (gI M 69 a1.toNatClampNeg).toNatClampNeg)) => ?_) (fun (hc : ¬ (q4.1 < (gI q4.2 116 (gI M 69 a1.toNatClampNeg).toNatClampNeg))) => ?_)
    · replace hf := i_t hc hf
      refine y_aload_n (i := 0) (n := 50) ⟨dX12_buries_49, rfl⟩ rfl ?_
      refine y_getR (n := 53) ⟨dX12_buries_50, rfl⟩ kfX12_174 l_66 rfl r_66_87 ?_
      refine y_iload_n (i := 3) (n := 54) ⟨dX12_buries_53, rfl⟩ rfl ?_
      obtain ⟨hg7, hf⟩ := g_s hf
      refine y_iaload (n := 55) ⟨dX12_buries_54, rfl⟩ l_121 hg7 ?_
      refine y_bipush (n := 57) (v := 9) ⟨dX12_buries_55, rfl⟩ kb_9 ?_
      refine y_icmp_eq (t := 68) (n := 60) ⟨dX12_buries_57, rfl, rfl⟩ (fun (hc : (gI q4.2 121 (gI M 70 a1.toNatClampNeg).toNatClampNeg) = 9) => ?_) (fun (hc : ¬ ((gI q4.2 121 (gI M 70 a1.toNatClampNeg).toNatClampNeg) = 9)) => ?_)
      · replace hf := i_t hc hf
        cases hf
        exact y_return (n := 69) ⟨dX12_buries_68, rfl⟩ rfl hk
      · replace hf := i_f hc hf
        refine y_aload_n (i := 0) (n := 61) ⟨dX12_buries_60, rfl⟩ rfl ?_
        refine y_iload_n (i := 3) (n := 62) ⟨dX12_buries_61, rfl⟩ rfl ?_
        obtain ⟨v8, hv9, hf⟩ := b_s hf
        refine c_mo_layersOf (gI M 70 a1.toNatClampNeg) q4.2 (n := 65) ⟨dX12_buries_62, rfl⟩ klX12_565 hv9 (by decide) (Nat.le_of_ble_eq_true rfl) rfl rfl ?_
        refine y_if_ne (t := 69) (n := 68) ⟨dX12_buries_65, rfl, rfl⟩ (fun (hc : ¬ (v8 = 0)) => ?_) (fun (hc : v8 = 0) => ?_)
        · replace hf := i_f hc hf
          refine y_aload_n (i := 0) (n := 70) ⟨dX12_buries_69, rfl⟩ rfl ?_
          refine y_getR (n := 73) ⟨dX12_buries_70, rfl⟩ kfX12_171 l_66 rfl r_66_86 ?_
          refine y_bipush (n := 75) (v := 9) ⟨dX12_buries_73, rfl⟩ kb_9 ?_
          refine y_iload_n (i := 3) (n := 76) ⟨dX12_buries_75, rfl⟩ rfl ?_
          refine y_imul (n := 77) ⟨dX12_buries_76, rfl⟩ ?_
          refine y_aload_n (i := 0) (n := 78) ⟨dX12_buries_77, rfl⟩ rfl ?_
          refine y_getR (n := 81) ⟨dX12_buries_78, rfl⟩ kfX12_174 l_66 rfl r_66_87 ?_
          refine y_iload_n (i := 3) (n := 82) ⟨dX12_buries_81, rfl⟩ rfl ?_
          refine y_iaload (n := 83) ⟨dX12_buries_82, rfl⟩ l_121 hg7 ?_
          refine y_iadd (n := 84) ⟨dX12_buries_83, rfl⟩ ?_
          refine y_aload_n (i := 0) (n := 85) ⟨dX12_buries_84, rfl⟩ rfl ?_
          refine y_iload_n (i := 3) (n := 86) ⟨dX12_buries_85, rfl⟩ rfl ?_
          obtain ⟨q10, hv11, hf⟩ := b_s hf
          refine c_mo_drawsLayer (gI M 70 a1.toNatClampNeg) q4.2 (n := 89) ⟨dX12_buries_86, rfl⟩ klX12_571 hv11 (by decide) (Nat.le_of_ble_eq_true rfl) rfl rfl ?_
          obtain ⟨hg12, hf⟩ := g_s hf
          refine y_iastore (n := 90) ⟨dX12_buries_89, rfl⟩ l_120 hg12 ?_
          refine y_aload_n (i := 0) (n := 91) ⟨dX12_buries_90, rfl⟩ rfl ?_
          refine y_getR (n := 94) ⟨dX12_buries_91, rfl⟩ kfX12_174 l_66 rfl r_66_87 ?_
          refine y_iload_n (i := 3) (n := 95) ⟨dX12_buries_94, rfl⟩ rfl ?_
          refine y_dup2 (n := 96) ⟨dX12_buries_95, rfl⟩ ?_
          refine y_iaload (n := 97) ⟨dX12_buries_96, rfl⟩ l_121 hg7 ?_
          refine y_iconst (n := 98) (v := 1) ⟨dX12_buries_97, rfl⟩ ki_1 ?_
          refine y_iadd (n := 99) ⟨dX12_buries_98, rfl⟩ ?_
          refine y_iastore (n := 100) ⟨dX12_buries_99, rfl⟩ l_121 hg7 ?_
          cases hf
          exact y_return (n := 101) ⟨dX12_buries_100, rfl⟩ rfl hk
        · replace hf := i_t hc hf
          cases hf
          exact y_return (n := 69) ⟨dX12_buries_68, rfl⟩ rfl hk
    · replace hf := i_f hc hf
      cases hf
      exact y_return (n := 49) ⟨dX12_buries_48, rfl⟩ rfl hk
theorem c_mo_buries (a1 : Int32) (a2 : Int32) (M : dM) {o : dM} {y : mz_M} {d : Nat} {Q : mz_P} {pc n i : Nat} {L : List (Option Value)} {st : List Value} (h : mz_d y.2.1 pc n 3 (.invokevirtual i)) (hl : mz_ml y.1.cls i yX12_buries) (hf : f_mo_buries a1 a2 M = some o) (hd : 3 + 1 ≤ d) (hsm : (st.map (fun v => v.category)).sum ≤ 8) (hLr : mz_rL 133 L = true) (hSr : mz_rS 133 st = true) (kk : mW y d Q n L st o) : mW y d Q pc L (.int a2 :: .int a1 :: .ref 66 :: st) M :=
  y_callV kmX12_buries kvX12_buries l_66 (by decide +kernel) (by decide +kernel) h hl (ok_mo_buries a1 a2 M hf) (vs := [.int a1, .int a2]) rfl rfl hd hsm hLr hSr kk
def K_mo_takes_37 (Q : mz_P) (x1 : Int32) (x2 : Int32) (x3 : Int32) (x4 : Int32) (x5 : Int32) (x6 : Int32) (x7 : Int32) : ((Int32 × Int32 × dM) ⊕ (Int32 × dM)) → Prop
  | .inl s => mW mX12_takes 5 Q 37 [some (.ref 66), some (.int x1), some (.int x2), some (.int x3), some (.int x4), some (.int x5), some (.int x6), some (.int x7), some (.int s.1), some (.int s.2.1), none, none, none] [] s.2.2
  | .inr t => mW mX12_takes 5 Q 92 [some (.ref 66), some (.int x1), some (.int x2), some (.int x3), some (.int x4), some (.int x5), some (.int x6), some (.int x7), some (.int t.1), none, none, none, none] [] t.2
noncomputable def b_mo_takes_37_72 (x1 : Int32) (x2 : Int32) (x3 : Int32) (x4 : Int32) (x5 : Int32) (x6 : Int32) (x7 : Int32) (x9 : Int32) (y0 : Int32) (y1 : Int32) (y2 : Int32) (M : dM) : Option ((Int32 × Int32 × dM) ⊕ (Int32 × dM)) :=
  if y2 ≤ y1 then
    some (.inl ((y0 ||| 0), (x9 + 1), M))
  else
    some (.inl ((y0 ||| ((1 : Int32) <<< (x9 &&& 31))), (x9 + 1), M))
noncomputable def b_mo_takes_37_37 (x1 : Int32) (x2 : Int32) (x3 : Int32) (x4 : Int32) (x5 : Int32) (x6 : Int32) (x7 : Int32) (x8 : Int32) (x9 : Int32) (M : dM) : Option ((Int32 × Int32 × dM) ⊕ (Int32 × dM)) :=
  if 8 ≤ x9 then
    some (.inr (x8, M))
  else
    (f_mo_draws M).bind fun q4 =>
    if x4 = 0 then
      gd (vp_in x9 8) <|
      b_mo_takes_37_72 x1 x2 x3 x4 x5 x6 x7 x9 x8 q4.1 (gI q4.2 118 x9.toNatClampNeg) q4.2
    else
      gd (vp_in x9 8) <|
      b_mo_takes_37_72 x1 x2 x3 x4 x5 x6 x7 x9 x8 q4.1 (gI q4.2 119 x9.toNatClampNeg) q4.2
noncomputable def l_mo_takes_37 (x1 : Int32) (x2 : Int32) (x3 : Int32) (x4 : Int32) (x5 : Int32) (x6 : Int32) (x7 : Int32) (x8 : Int32) (x9 : Int32) (M : dM) : Option (Int32 × dM) := lpc (fun s => b_mo_takes_37_37 x1 x2 x3 x4 x5 x6 x7 s.1 s.2.1 s.2.2) (x8, x9, M)
def K_mo_takes_116 (Q : mz_P) (x1 : Int32) (x2 : Int32) (x3 : Int32) (x4 : Int32) (x5 : Int32) (x6 : Int32) (x7 : Int32) (x8 : Int32) (x9 : Int32) (M : dM) : ((Int32 × Int32) ⊕ Int32) → Prop
  | .inl s => mW mX12_takes 5 Q 116 [some (.ref 66), some (.int x1), some (.int x2), some (.int x3), some (.int x4), some (.int x5), some (.int x6), some (.int x7), some (.int x8), some (.int x9), some (.int s.1), some (.int s.2), none] [] M
  | .inr t => mW mX12_takes 5 Q 163 [some (.ref 66), some (.int x1), some (.int x2), some (.int x3), some (.int x4), some (.int x5), some (.int x6), some (.int x7), some (.int x8), some (.int x9), some (.int t), none, none] [] M
noncomputable def b_mo_takes_116_116 (x1 : Int32) (x2 : Int32) (x3 : Int32) (x4 : Int32) (x5 : Int32) (x6 : Int32) (x7 : Int32) (x8 : Int32) (x9 : Int32) (x10 : Int32) (x11 : Int32) (M : dM) : Option ((Int32 × Int32) ⊕ Int32) :=
  if (gI M 66 88) ≤ x11 then
    some (.inr x10)
  else
    gd (vp_in x11 1920) <|
    gd (vp_in ((10 * x5) + x3) 80) <|
    if (gI M 127 x11.toNatClampNeg) < (gI M 67 ((10 * x5) + x3).toNatClampNeg) then
      some (.inl ((x10 + 0), (x11 + 1)))
    else
      some (.inl ((x10 + 1), (x11 + 1)))
noncomputable def l_mo_takes_116 (x1 : Int32) (x2 : Int32) (x3 : Int32) (x4 : Int32) (x5 : Int32) (x6 : Int32) (x7 : Int32) (x8 : Int32) (x9 : Int32) (x10 : Int32) (x11 : Int32) (M : dM) : Option Int32 := lpc (fun s => b_mo_takes_116_116 x1 x2 x3 x4 x5 x6 x7 x8 x9 s.1 s.2 M) (x10, x11)
def K_mo_takes_169 (Q : mz_P) (x1 : Int32) (x2 : Int32) (x3 : Int32) (x4 : Int32) (x5 : Int32) (x6 : Int32) (x7 : Int32) (x8 : Int32) (x9 : Int32) (x10 : Int32) (M : dM) : ((Int32 × Int32) ⊕ Int32) → Prop
  | .inl s => mW mX12_takes 5 Q 169 [some (.ref 66), some (.int x1), some (.int x2), some (.int x3), some (.int x4), some (.int x5), some (.int x6), some (.int x7), some (.int x8), some (.int x9), some (.int x10), some (.int s.1), some (.int s.2)] [] M
  | .inr t => mW mX12_takes 5 Q 212 [some (.ref 66), none, some (.int x2), some (.int x3), some (.int x4), some (.int x5), some (.int x6), some (.int x7), some (.int x8), some (.int x9), some (.int x10), some (.int t), none] [] M
noncomputable def b_mo_takes_169_169 (x1 : Int32) (x2 : Int32) (x3 : Int32) (x4 : Int32) (x5 : Int32) (x6 : Int32) (x7 : Int32) (x8 : Int32) (x9 : Int32) (x10 : Int32) (x11 : Int32) (x12 : Int32) (M : dM) : Option ((Int32 × Int32) ⊕ Int32) :=
  if x2 ≤ x12 then
    some (.inr x11)
  else
    gd (vp_in x1 80) <|
    (f_mo_presentAt x5 (gI M 71 x1.toNatClampNeg) x12 M).bind fun v21 =>
    if v21 = ((1 : Int32) <<< (x6 &&& 31)) then
      some (.inl ((x11 + 1), (x12 + 1)))
    else
      some (.inl ((x11 + 0), (x12 + 1)))
noncomputable def l_mo_takes_169 (x1 : Int32) (x2 : Int32) (x3 : Int32) (x4 : Int32) (x5 : Int32) (x6 : Int32) (x7 : Int32) (x8 : Int32) (x9 : Int32) (x10 : Int32) (x11 : Int32) (x12 : Int32) (M : dM) : Option Int32 := lpc (fun s => b_mo_takes_169_169 x1 x2 x3 x4 x5 x6 x7 x8 x9 x10 s.1 s.2 M) (x11, x12)
def K_mo_takes_215 (Q : mz_P) (x2 : Int32) (x3 : Int32) (x4 : Int32) (x5 : Int32) (x6 : Int32) (x7 : Int32) (x8 : Int32) (x9 : Int32) (x10 : Int32) (x11 : Int32) : ((Int32 × dM) ⊕ dM) → Prop
  | .inl s => mW mX12_takes 5 Q 215 [some (.ref 66), none, some (.int x2), some (.int x3), some (.int x4), some (.int x5), some (.int x6), some (.int x7), some (.int x8), some (.int x9), some (.int x10), some (.int x11), some (.int s.1)] [] s.2
  | .inr t => mW mX12_takes 5 Q 244 [some (.ref 66), none, some (.int x2), some (.int x3), some (.int x4), some (.int x5), some (.int x6), some (.int x7), some (.int x8), some (.int x9), some (.int x10), some (.int x11), none] [] t
noncomputable def b_mo_takes_215_215 (x2 : Int32) (x3 : Int32) (x4 : Int32) (x5 : Int32) (x6 : Int32) (x7 : Int32) (x8 : Int32) (x9 : Int32) (x10 : Int32) (x11 : Int32) (x12 : Int32) (M : dM) : Option ((Int32 × dM) ⊕ dM) :=
  if 8 ≤ x12 then
    some (.inr M)
  else
    gd (vp_in (1 + x12) 20) <|
    some (.inl ((x12 + 1), (sI M 100 (1 + x12).toNatClampNeg ((x8 >>> (x12 &&& 31)) &&& 1))))
noncomputable def l_mo_takes_215 (x2 : Int32) (x3 : Int32) (x4 : Int32) (x5 : Int32) (x6 : Int32) (x7 : Int32) (x8 : Int32) (x9 : Int32) (x10 : Int32) (x11 : Int32) (x12 : Int32) (M : dM) : Option dM := lpc (fun s => b_mo_takes_215_215 x2 x3 x4 x5 x6 x7 x8 x9 x10 x11 s.1 s.2) (x12, M)
noncomputable def t_mo_takes_325 (x3 : Int32) (x4 : Int32) (x5 : Int32) (x6 : Int32) (x7 : Int32) (x8 : Int32) (x9 : Int32) (x11 : Int32) (y1 : Int32) (y2 : Int32) (M : dM) : Option dM :=
  gd (vp_in y1 20) <|
  (f_mo_bits x7).bind fun v33 =>
  gd (vp_in (gI (sI (sI (sI (sI M 100 y1.toNatClampNeg y2) 100 15 x11) 100 16 (v33 - 1)) 100 17 0) 66 88) 1920) <|
  gd (vp_in (gI (sI (sI (sI (sI (sI M 100 y1.toNatClampNeg y2) 100 15 x11) 100 16 (v33 - 1)) 100 17 0) 122 (gI (sI (sI (sI (sI M 100 y1.toNatClampNeg y2) 100 15 x11) 100 16 (v33 - 1)) 100 17 0) 66 88).toNatClampNeg (vp_nar .boolean x4)) 66 88) 1920) <|
  gd (vp_in (gI (sI (sI (sI (sI (sI (sI M 100 y1.toNatClampNeg y2) 100 15 x11) 100 16 (v33 - 1)) 100 17 0) 122 (gI (sI (sI (sI (sI M 100 y1.toNatClampNeg y2) 100 15 x11) 100 16 (v33 - 1)) 100 17 0) 66 88).toNatClampNeg (vp_nar .boolean x4)) 123 (gI (sI (sI (sI (sI (sI M 100 y1.toNatClampNeg y2) 100 15 x11) 100 16 (v33 - 1)) 100 17 0) 122 (gI (sI (sI (sI (sI M 100 y1.toNatClampNeg y2) 100 15 x11) 100 16 (v33 - 1)) 100 17 0) 66 88).toNatClampNeg (vp_nar .boolean x4)) 66 88).toNatClampNeg x8) 66 88) 1920) <|
  gd (vp_in (gI (sI (sI (sI (sI (sI (sI (sI M 100 y1.toNatClampNeg y2) 100 15 x11) 100 16 (v33 - 1)) 100 17 0) 122 (gI (sI (sI (sI (sI M 100 y1.toNatClampNeg y2) 100 15 x11) 100 16 (v33 - 1)) 100 17 0) 66 88).toNatClampNeg (vp_nar .boolean x4)) 123 (gI (sI (sI (sI (sI (sI M 100 y1.toNatClampNeg y2) 100 15 x11) 100 16 (v33 - 1)) 100 17 0) 122 (gI (sI (sI (sI (sI M 100 y1.toNatClampNeg y2) 100 15 x11) 100 16 (v33 - 1)) 100 17 0) 66 88).toNatClampNeg (vp_nar .boolean x4)) 66 88).toNatClampNeg x8) 124 (gI (sI (sI (sI (sI (sI (sI M 100 y1.toNatClampNeg y2) 100 15 x11) 100 16 (v33 - 1)) 100 17 0) 122 (gI (sI (sI (sI (sI M 100 y1.toNatClampNeg y2) 100 15 x11) 100 16 (v33 - 1)) 100 17 0) 66 88).toNatClampNeg (vp_nar .boolean x4)) 123 (gI (sI (sI (sI (sI (sI M 100 y1.toNatClampNeg y2) 100 15 x11) 100 16 (v33 - 1)) 100 17 0) 122 (gI (sI (sI (sI (sI M 100 y1.toNatClampNeg y2) 100 15 x11) 100 16 (v33 - 1)) 100 17 0) 66 88).toNatClampNeg (vp_nar .boolean x4)) 66 88).toNatClampNeg x8) 66 88).toNatClampNeg x3) 66 88) 1920) <|
  gd (vp_in (gI (sI (sI (sI (sI (sI (sI (sI (sI M 100 y1.toNatClampNeg y2) 100 15 x11) 100 16 (v33 - 1)) 100 17 0) 122 (gI (sI (sI (sI (sI M 100 y1.toNatClampNeg y2) 100 15 x11) 100 16 (v33 - 1)) 100 17 0) 66 88).toNatClampNeg (vp_nar .boolean x4)) 123 (gI (sI (sI (sI (sI (sI M 100 y1.toNatClampNeg y2) 100 15 x11) 100 16 (v33 - 1)) 100 17 0) 122 (gI (sI (sI (sI (sI M 100 y1.toNatClampNeg y2) 100 15 x11) 100 16 (v33 - 1)) 100 17 0) 66 88).toNatClampNeg (vp_nar .boolean x4)) 66 88).toNatClampNeg x8) 124 (gI (sI (sI (sI (sI (sI (sI M 100 y1.toNatClampNeg y2) 100 15 x11) 100 16 (v33 - 1)) 100 17 0) 122 (gI (sI (sI (sI (sI M 100 y1.toNatClampNeg y2) 100 15 x11) 100 16 (v33 - 1)) 100 17 0) 66 88).toNatClampNeg (vp_nar .boolean x4)) 123 (gI (sI (sI (sI (sI (sI M 100 y1.toNatClampNeg y2) 100 15 x11) 100 16 (v33 - 1)) 100 17 0) 122 (gI (sI (sI (sI (sI M 100 y1.toNatClampNeg y2) 100 15 x11) 100 16 (v33 - 1)) 100 17 0) 66 88).toNatClampNeg (vp_nar .boolean x4)) 66 88).toNatClampNeg x8) 66 88).toNatClampNeg x3) 125 (gI (sI (sI (sI (sI (sI (sI (sI M 100 y1.toNatClampNeg y2) 100 15 x11) 100 16 (v33 - 1)) 100 17 0) 122 (gI (sI (sI (sI (sI M 100 y1.toNatClampNeg y2) 100 15 x11) 100 16 (v33 - 1)) 100 17 0) 66 88).toNatClampNeg (vp_nar .boolean x4)) 123 (gI (sI (sI (sI (sI (sI M 100 y1.toNatClampNeg y2) 100 15 x11) 100 16 (v33 - 1)) 100 17 0) 122 (gI (sI (sI (sI (sI M 100 y1.toNatClampNeg y2) 100 15 x11) 100 16 (v33 - 1)) 100 17 0) 66 88).toNatClampNeg (vp_nar .boolean x4)) 66 88).toNatClampNeg x8) 124 (gI (sI (sI (sI (sI (sI (sI M 100 y1.toNatClampNeg y2) 100 15 x11) 100 16 (v33 - 1)) 100 17 0) 122 (gI (sI (sI (sI (sI M 100 y1.toNatClampNeg y2) 100 15 x11) 100 16 (v33 - 1)) 100 17 0) 66 88).toNatClampNeg (vp_nar .boolean x4)) 123 (gI (sI (sI (sI (sI (sI M 100 y1.toNatClampNeg y2) 100 15 x11) 100 16 (v33 - 1)) 100 17 0) 122 (gI (sI (sI (sI (sI M 100 y1.toNatClampNeg y2) 100 15 x11) 100 16 (v33 - 1)) 100 17 0) 66 88).toNatClampNeg (vp_nar .boolean x4)) 66 88).toNatClampNeg x8) 66 88).toNatClampNeg x3) 66 88).toNatClampNeg x6) 66 88) 1920) <|
  gd (vp_in ((10 * x5) + x3) 80) <|
  gd (vp_in (gI (sI (sI (sI (sI (sI (sI (sI (sI (sI M 100 y1.toNatClampNeg y2) 100 15 x11) 100 16 (v33 - 1)) 100 17 0) 122 (gI (sI (sI (sI (sI M 100 y1.toNatClampNeg y2) 100 15 x11) 100 16 (v33 - 1)) 100 17 0) 66 88).toNatClampNeg (vp_nar .boolean x4)) 123 (gI (sI (sI (sI (sI (sI M 100 y1.toNatClampNeg y2) 100 15 x11) 100 16 (v33 - 1)) 100 17 0) 122 (gI (sI (sI (sI (sI M 100 y1.toNatClampNeg y2) 100 15 x11) 100 16 (v33 - 1)) 100 17 0) 66 88).toNatClampNeg (vp_nar .boolean x4)) 66 88).toNatClampNeg x8) 124 (gI (sI (sI (sI (sI (sI (sI M 100 y1.toNatClampNeg y2) 100 15 x11) 100 16 (v33 - 1)) 100 17 0) 122 (gI (sI (sI (sI (sI M 100 y1.toNatClampNeg y2) 100 15 x11) 100 16 (v33 - 1)) 100 17 0) 66 88).toNatClampNeg (vp_nar .boolean x4)) 123 (gI (sI (sI (sI (sI (sI M 100 y1.toNatClampNeg y2) 100 15 x11) 100 16 (v33 - 1)) 100 17 0) 122 (gI (sI (sI (sI (sI M 100 y1.toNatClampNeg y2) 100 15 x11) 100 16 (v33 - 1)) 100 17 0) 66 88).toNatClampNeg (vp_nar .boolean x4)) 66 88).toNatClampNeg x8) 66 88).toNatClampNeg x3) 125 (gI (sI (sI (sI (sI (sI (sI (sI M 100 y1.toNatClampNeg y2) 100 15 x11) 100 16 (v33 - 1)) 100 17 0) 122 (gI (sI (sI (sI (sI M 100 y1.toNatClampNeg y2) 100 15 x11) 100 16 (v33 - 1)) 100 17 0) 66 88).toNatClampNeg (vp_nar .boolean x4)) 123 (gI (sI (sI (sI (sI (sI M 100 y1.toNatClampNeg y2) 100 15 x11) 100 16 (v33 - 1)) 100 17 0) 122 (gI (sI (sI (sI (sI M 100 y1.toNatClampNeg y2) 100 15 x11) 100 16 (v33 - 1)) 100 17 0) 66 88).toNatClampNeg (vp_nar .boolean x4)) 66 88).toNatClampNeg x8) 124 (gI (sI (sI (sI (sI (sI (sI M 100 y1.toNatClampNeg y2) 100 15 x11) 100 16 (v33 - 1)) 100 17 0) 122 (gI (sI (sI (sI (sI M 100 y1.toNatClampNeg y2) 100 15 x11) 100 16 (v33 - 1)) 100 17 0) 66 88).toNatClampNeg (vp_nar .boolean x4)) 123 (gI (sI (sI (sI (sI (sI M 100 y1.toNatClampNeg y2) 100 15 x11) 100 16 (v33 - 1)) 100 17 0) 122 (gI (sI (sI (sI (sI M 100 y1.toNatClampNeg y2) 100 15 x11) 100 16 (v33 - 1)) 100 17 0) 66 88).toNatClampNeg (vp_nar .boolean x4)) 66 88).toNatClampNeg x8) 66 88).toNatClampNeg x3) 66 88).toNatClampNeg x6) 126 (gI (sI (sI (sI (sI (sI (sI (sI (sI M 100 y1.toNatClampNeg y2) 100 15 x11) 100 16 (v33 - 1)) 100 17 0) 122 (gI (sI (sI (sI (sI M 100 y1.toNatClampNeg y2) 100 15 x11) 100 16 (v33 - 1)) 100 17 0) 66 88).toNatClampNeg (vp_nar .boolean x4)) 123 (gI (sI (sI (sI (sI (sI M 100 y1.toNatClampNeg y2) 100 15 x11) 100 16 (v33 - 1)) 100 17 0) 122 (gI (sI (sI (sI (sI M 100 y1.toNatClampNeg y2) 100 15 x11) 100 16 (v33 - 1)) 100 17 0) 66 88).toNatClampNeg (vp_nar .boolean x4)) 66 88).toNatClampNeg x8) 124 (gI (sI (sI (sI (sI (sI (sI M 100 y1.toNatClampNeg y2) 100 15 x11) 100 16 (v33 - 1)) 100 17 0) 122 (gI (sI (sI (sI (sI M 100 y1.toNatClampNeg y2) 100 15 x11) 100 16 (v33 - 1)) 100 17 0) 66 88).toNatClampNeg (vp_nar .boolean x4)) 123 (gI (sI (sI (sI (sI (sI M 100 y1.toNatClampNeg y2) 100 15 x11) 100 16 (v33 - 1)) 100 17 0) 122 (gI (sI (sI (sI (sI M 100 y1.toNatClampNeg y2) 100 15 x11) 100 16 (v33 - 1)) 100 17 0) 66 88).toNatClampNeg (vp_nar .boolean x4)) 66 88).toNatClampNeg x8) 66 88).toNatClampNeg x3) 125 (gI (sI (sI (sI (sI (sI (sI (sI M 100 y1.toNatClampNeg y2) 100 15 x11) 100 16 (v33 - 1)) 100 17 0) 122 (gI (sI (sI (sI (sI M 100 y1.toNatClampNeg y2) 100 15 x11) 100 16 (v33 - 1)) 100 17 0) 66 88).toNatClampNeg (vp_nar .boolean x4)) 123 (gI (sI (sI (sI (sI (sI M 100 y1.toNatClampNeg y2) 100 15 x11) 100 16 (v33 - 1)) 100 17 0) 122 (gI (sI (sI (sI (sI M 100 y1.toNatClampNeg y2) 100 15 x11) 100 16 (v33 - 1)) 100 17 0) 66 88).toNatClampNeg (vp_nar .boolean x4)) 66 88).toNatClampNeg x8) 124 (gI (sI (sI (sI (sI (sI (sI M 100 y1.toNatClampNeg y2) 100 15 x11) 100 16 (v33 - 1)) 100 17 0) 122 (gI (sI (sI (sI (sI M 100 y1.toNatClampNeg y2) 100 15 x11) 100 16 (v33 - 1)) 100 17 0) 66 88).toNatClampNeg (vp_nar .boolean x4)) 123 (gI (sI (sI (sI (sI (sI M 100 y1.toNatClampNeg y2) 100 15 x11) 100 16 (v33 - 1)) 100 17 0) 122 (gI (sI (sI (sI (sI M 100 y1.toNatClampNeg y2) 100 15 x11) 100 16 (v33 - 1)) 100 17 0) 66 88).toNatClampNeg (vp_nar .boolean x4)) 66 88).toNatClampNeg x8) 66 88).toNatClampNeg x3) 66 88).toNatClampNeg x6) 66 88).toNatClampNeg x9) 66 88) 1920) <|
  (f_mo_judged (sI (sI (sI (sI (sI (sI (sI (sI (sI (sI M 100 y1.toNatClampNeg y2) 100 15 x11) 100 16 (v33 - 1)) 100 17 0) 122 (gI (sI (sI (sI (sI M 100 y1.toNatClampNeg y2) 100 15 x11) 100 16 (v33 - 1)) 100 17 0) 66 88).toNatClampNeg (vp_nar .boolean x4)) 123 (gI (sI (sI (sI (sI (sI M 100 y1.toNatClampNeg y2) 100 15 x11) 100 16 (v33 - 1)) 100 17 0) 122 (gI (sI (sI (sI (sI M 100 y1.toNatClampNeg y2) 100 15 x11) 100 16 (v33 - 1)) 100 17 0) 66 88).toNatClampNeg (vp_nar .boolean x4)) 66 88).toNatClampNeg x8) 124 (gI (sI (sI (sI (sI (sI (sI M 100 y1.toNatClampNeg y2) 100 15 x11) 100 16 (v33 - 1)) 100 17 0) 122 (gI (sI (sI (sI (sI M 100 y1.toNatClampNeg y2) 100 15 x11) 100 16 (v33 - 1)) 100 17 0) 66 88).toNatClampNeg (vp_nar .boolean x4)) 123 (gI (sI (sI (sI (sI (sI M 100 y1.toNatClampNeg y2) 100 15 x11) 100 16 (v33 - 1)) 100 17 0) 122 (gI (sI (sI (sI (sI M 100 y1.toNatClampNeg y2) 100 15 x11) 100 16 (v33 - 1)) 100 17 0) 66 88).toNatClampNeg (vp_nar .boolean x4)) 66 88).toNatClampNeg x8) 66 88).toNatClampNeg x3) 125 (gI (sI (sI (sI (sI (sI (sI (sI M 100 y1.toNatClampNeg y2) 100 15 x11) 100 16 (v33 - 1)) 100 17 0) 122 (gI (sI (sI (sI (sI M 100 y1.toNatClampNeg y2) 100 15 x11) 100 16 (v33 - 1)) 100 17 0) 66 88).toNatClampNeg (vp_nar .boolean x4)) 123 (gI (sI (sI (sI (sI (sI M 100 y1.toNatClampNeg y2) 100 15 x11) 100 16 (v33 - 1)) 100 17 0) 122 (gI (sI (sI (sI (sI M 100 y1.toNatClampNeg y2) 100 15 x11) 100 16 (v33 - 1)) 100 17 0) 66 88).toNatClampNeg (vp_nar .boolean x4)) 66 88).toNatClampNeg x8) 124 (gI (sI (sI (sI (sI (sI (sI M 100 y1.toNatClampNeg y2) 100 15 x11) 100 16 (v33 - 1)) 100 17 0) 122 (gI (sI (sI (sI (sI M 100 y1.toNatClampNeg y2) 100 15 x11) 100 16 (v33 - 1)) 100 17 0) 66 88).toNatClampNeg (vp_nar .boolean x4)) 123 (gI (sI (sI (sI (sI (sI M 100 y1.toNatClampNeg y2) 100 15 x11) 100 16 (v33 - 1)) 100 17 0) 122 (gI (sI (sI (sI (sI M 100 y1.toNatClampNeg y2) 100 15 x11) 100 16 (v33 - 1)) 100 17 0) 66 88).toNatClampNeg (vp_nar .boolean x4)) 66 88).toNatClampNeg x8) 66 88).toNatClampNeg x3) 66 88).toNatClampNeg x6) 126 (gI (sI (sI (sI (sI (sI (sI (sI (sI M 100 y1.toNatClampNeg y2) 100 15 x11) 100 16 (v33 - 1)) 100 17 0) 122 (gI (sI (sI (sI (sI M 100 y1.toNatClampNeg y2) 100 15 x11) 100 16 (v33 - 1)) 100 17 0) 66 88).toNatClampNeg (vp_nar .boolean x4)) 123 (gI (sI (sI (sI (sI (sI M 100 y1.toNatClampNeg y2) 100 15 x11) 100 16 (v33 - 1)) 100 17 0) 122 (gI (sI (sI (sI (sI M 100 y1.toNatClampNeg y2) 100 15 x11) 100 16 (v33 - 1)) 100 17 0) 66 88).toNatClampNeg (vp_nar .boolean x4)) 66 88).toNatClampNeg x8) 124 (gI (sI (sI (sI (sI (sI (sI M 100 y1.toNatClampNeg y2) 100 15 x11) 100 16 (v33 - 1)) 100 17 0) 122 (gI (sI (sI (sI (sI M 100 y1.toNatClampNeg y2) 100 15 x11) 100 16 (v33 - 1)) 100 17 0) 66 88).toNatClampNeg (vp_nar .boolean x4)) 123 (gI (sI (sI (sI (sI (sI M 100 y1.toNatClampNeg y2) 100 15 x11) 100 16 (v33 - 1)) 100 17 0) 122 (gI (sI (sI (sI (sI M 100 y1.toNatClampNeg y2) 100 15 x11) 100 16 (v33 - 1)) 100 17 0) 66 88).toNatClampNeg (vp_nar .boolean x4)) 66 88).toNatClampNeg x8) 66 88).toNatClampNeg x3) 125 (gI (sI (sI (sI (sI (sI (sI (sI M 100 y1.toNatClampNeg y2) 100 15 x11) 100 16 (v33 - 1)) 100 17 0) 122 (gI (sI (sI (sI (sI M 100 y1.toNatClampNeg y2) 100 15 x11) 100 16 (v33 - 1)) 100 17 0) 66 88).toNatClampNeg (vp_nar .boolean x4)) 123 (gI (sI (sI (sI (sI (sI M 100 y1.toNatClampNeg y2) 100 15 x11) 100 16 (v33 - 1)) 100 17 0) 122 (gI (sI (sI (sI (sI M 100 y1.toNatClampNeg y2) 100 15 x11) 100 16 (v33 - 1)) 100 17 0) 66 88).toNatClampNeg (vp_nar .boolean x4)) 66 88).toNatClampNeg x8) 124 (gI (sI (sI (sI (sI (sI (sI M 100 y1.toNatClampNeg y2) 100 15 x11) 100 16 (v33 - 1)) 100 17 0) 122 (gI (sI (sI (sI (sI M 100 y1.toNatClampNeg y2) 100 15 x11) 100 16 (v33 - 1)) 100 17 0) 66 88).toNatClampNeg (vp_nar .boolean x4)) 123 (gI (sI (sI (sI (sI (sI M 100 y1.toNatClampNeg y2) 100 15 x11) 100 16 (v33 - 1)) 100 17 0) 122 (gI (sI (sI (sI (sI M 100 y1.toNatClampNeg y2) 100 15 x11) 100 16 (v33 - 1)) 100 17 0) 66 88).toNatClampNeg (vp_nar .boolean x4)) 66 88).toNatClampNeg x8) 66 88).toNatClampNeg x3) 66 88).toNatClampNeg x6) 66 88).toNatClampNeg x9) 127 (gI (sI (sI (sI (sI (sI (sI (sI (sI (sI M 100 y1.toNatClampNeg y2) 100 15 x11) 100 16 (v33 - 1)) 100 17 0) 122 (gI (sI (sI (sI (sI M 100 y1.toNatClampNeg y2) 100 15 x11) 100 16 (v33 - 1)) 100 17 0) 66 88).toNatClampNeg (vp_nar .boolean x4)) 123 (gI (sI (sI (sI (sI (sI M 100 y1.toNatClampNeg y2) 100 15 x11) 100 16 (v33 - 1)) 100 17 0) 122 (gI (sI (sI (sI (sI M 100 y1.toNatClampNeg y2) 100 15 x11) 100 16 (v33 - 1)) 100 17 0) 66 88).toNatClampNeg (vp_nar .boolean x4)) 66 88).toNatClampNeg x8) 124 (gI (sI (sI (sI (sI (sI (sI M 100 y1.toNatClampNeg y2) 100 15 x11) 100 16 (v33 - 1)) 100 17 0) 122 (gI (sI (sI (sI (sI M 100 y1.toNatClampNeg y2) 100 15 x11) 100 16 (v33 - 1)) 100 17 0) 66 88).toNatClampNeg (vp_nar .boolean x4)) 123 (gI (sI (sI (sI (sI (sI M 100 y1.toNatClampNeg y2) 100 15 x11) 100 16 (v33 - 1)) 100 17 0) 122 (gI (sI (sI (sI (sI M 100 y1.toNatClampNeg y2) 100 15 x11) 100 16 (v33 - 1)) 100 17 0) 66 88).toNatClampNeg (vp_nar .boolean x4)) 66 88).toNatClampNeg x8) 66 88).toNatClampNeg x3) 125 (gI (sI (sI (sI (sI (sI (sI (sI M 100 y1.toNatClampNeg y2) 100 15 x11) 100 16 (v33 - 1)) 100 17 0) 122 (gI (sI (sI (sI (sI M 100 y1.toNatClampNeg y2) 100 15 x11) 100 16 (v33 - 1)) 100 17 0) 66 88).toNatClampNeg (vp_nar .boolean x4)) 123 (gI (sI (sI (sI (sI (sI M 100 y1.toNatClampNeg y2) 100 15 x11) 100 16 (v33 - 1)) 100 17 0) 122 (gI (sI (sI (sI (sI M 100 y1.toNatClampNeg y2) 100 15 x11) 100 16 (v33 - 1)) 100 17 0) 66 88).toNatClampNeg (vp_nar .boolean x4)) 66 88).toNatClampNeg x8) 124 (gI (sI (sI (sI (sI (sI (sI M 100 y1.toNatClampNeg y2) 100 15 x11) 100 16 (v33 - 1)) 100 17 0) 122 (gI (sI (sI (sI (sI M 100 y1.toNatClampNeg y2) 100 15 x11) 100 16 (v33 - 1)) 100 17 0) 66 88).toNatClampNeg (vp_nar .boolean x4)) 123 (gI (sI (sI (sI (sI (sI M 100 y1.toNatClampNeg y2) 100 15 x11) 100 16 (v33 - 1)) 100 17 0) 122 (gI (sI (sI (sI (sI M 100 y1.toNatClampNeg y2) 100 15 x11) 100 16 (v33 - 1)) 100 17 0) 66 88).toNatClampNeg (vp_nar .boolean x4)) 66 88).toNatClampNeg x8) 66 88).toNatClampNeg x3) 66 88).toNatClampNeg x6) 126 (gI (sI (sI (sI (sI (sI (sI (sI (sI M 100 y1.toNatClampNeg y2) 100 15 x11) 100 16 (v33 - 1)) 100 17 0) 122 (gI (sI (sI (sI (sI M 100 y1.toNatClampNeg y2) 100 15 x11) 100 16 (v33 - 1)) 100 17 0) 66 88).toNatClampNeg (vp_nar .boolean x4)) 123 (gI (sI (sI (sI (sI (sI M 100 y1.toNatClampNeg y2) 100 15 x11) 100 16 (v33 - 1)) 100 17 0) 122 (gI (sI (sI (sI (sI M 100 y1.toNatClampNeg y2) 100 15 x11) 100 16 (v33 - 1)) 100 17 0) 66 88).toNatClampNeg (vp_nar .boolean x4)) 66 88).toNatClampNeg x8) 124 (gI (sI (sI (sI (sI (sI (sI M 100 y1.toNatClampNeg y2) 100 15 x11) 100 16 (v33 - 1)) 100 17 0) 122 (gI (sI (sI (sI (sI M 100 y1.toNatClampNeg y2) 100 15 x11) 100 16 (v33 - 1)) 100 17 0) 66 88).toNatClampNeg (vp_nar .boolean x4)) 123 (gI (sI (sI (sI (sI (sI M 100 y1.toNatClampNeg y2) 100 15 x11) 100 16 (v33 - 1)) 100 17 0) 122 (gI (sI (sI (sI (sI M 100 y1.toNatClampNeg y2) 100 15 x11) 100 16 (v33 - 1)) 100 17 0) 66 88).toNatClampNeg (vp_nar .boolean x4)) 66 88).toNatClampNeg x8) 66 88).toNatClampNeg x3) 125 (gI (sI (sI (sI (sI (sI (sI (sI M 100 y1.toNatClampNeg y2) 100 15 x11) 100 16 (v33 - 1)) 100 17 0) 122 (gI (sI (sI (sI (sI M 100 y1.toNatClampNeg y2) 100 15 x11) 100 16 (v33 - 1)) 100 17 0) 66 88).toNatClampNeg (vp_nar .boolean x4)) 123 (gI (sI (sI (sI (sI (sI M 100 y1.toNatClampNeg y2) 100 15 x11) 100 16 (v33 - 1)) 100 17 0) 122 (gI (sI (sI (sI (sI M 100 y1.toNatClampNeg y2) 100 15 x11) 100 16 (v33 - 1)) 100 17 0) 66 88).toNatClampNeg (vp_nar .boolean x4)) 66 88).toNatClampNeg x8) 124 (gI (sI (sI (sI (sI (sI (sI M 100 y1.toNatClampNeg y2) 100 15 x11) 100 16 (v33 - 1)) 100 17 0) 122 (gI (sI (sI (sI (sI M 100 y1.toNatClampNeg y2) 100 15 x11) 100 16 (v33 - 1)) 100 17 0) 66 88).toNatClampNeg (vp_nar .boolean x4)) 123 (gI (sI (sI (sI (sI (sI M 100 y1.toNatClampNeg y2) 100 15 x11) 100 16 (v33 - 1)) 100 17 0) 122 (gI (sI (sI (sI (sI M 100 y1.toNatClampNeg y2) 100 15 x11) 100 16 (v33 - 1)) 100 17 0) 66 88).toNatClampNeg (vp_nar .boolean x4)) 66 88).toNatClampNeg x8) 66 88).toNatClampNeg x3) 66 88).toNatClampNeg x6) 66 88).toNatClampNeg x9) 66 88).toNatClampNeg (gI (sI (sI (sI (sI (sI (sI (sI (sI (sI M 100 y1.toNatClampNeg y2) 100 15 x11) 100 16 (v33 - 1)) 100 17 0) 122 (gI (sI (sI (sI (sI M 100 y1.toNatClampNeg y2) 100 15 x11) 100 16 (v33 - 1)) 100 17 0) 66 88).toNatClampNeg (vp_nar .boolean x4)) 123 (gI (sI (sI (sI (sI (sI M 100 y1.toNatClampNeg y2) 100 15 x11) 100 16 (v33 - 1)) 100 17 0) 122 (gI (sI (sI (sI (sI M 100 y1.toNatClampNeg y2) 100 15 x11) 100 16 (v33 - 1)) 100 17 0) 66 88).toNatClampNeg (vp_nar .boolean x4)) 66 88).toNatClampNeg x8) 124 (gI (sI (sI (sI (sI (sI (sI M 100 y1.toNatClampNeg y2) 100 15 x11) 100 16 (v33 - 1)) 100 17 0) 122 (gI (sI (sI (sI (sI M 100 y1.toNatClampNeg y2) 100 15 x11) 100 16 (v33 - 1)) 100 17 0) 66 88).toNatClampNeg (vp_nar .boolean x4)) 123 (gI (sI (sI (sI (sI (sI M 100 y1.toNatClampNeg y2) 100 15 x11) 100 16 (v33 - 1)) 100 17 0) 122 (gI (sI (sI (sI (sI M 100 y1.toNatClampNeg y2) 100 15 x11) 100 16 (v33 - 1)) 100 17 0) 66 88).toNatClampNeg (vp_nar .boolean x4)) 66 88).toNatClampNeg x8) 66 88).toNatClampNeg x3) 125 (gI (sI (sI (sI (sI (sI (sI (sI M 100 y1.toNatClampNeg y2) 100 15 x11) 100 16 (v33 - 1)) 100 17 0) 122 (gI (sI (sI (sI (sI M 100 y1.toNatClampNeg y2) 100 15 x11) 100 16 (v33 - 1)) 100 17 0) 66 88).toNatClampNeg (vp_nar .boolean x4)) 123 (gI (sI (sI (sI (sI (sI M 100 y1.toNatClampNeg y2) 100 15 x11) 100 16 (v33 - 1)) 100 17 0) 122 (gI (sI (sI (sI (sI M 100 y1.toNatClampNeg y2) 100 15 x11) 100 16 (v33 - 1)) 100 17 0) 66 88).toNatClampNeg (vp_nar .boolean x4)) 66 88).toNatClampNeg x8) 124 (gI (sI (sI (sI (sI (sI (sI M 100 y1.toNatClampNeg y2) 100 15 x11) 100 16 (v33 - 1)) 100 17 0) 122 (gI (sI (sI (sI (sI M 100 y1.toNatClampNeg y2) 100 15 x11) 100 16 (v33 - 1)) 100 17 0) 66 88).toNatClampNeg (vp_nar .boolean x4)) 123 (gI (sI (sI (sI (sI (sI M 100 y1.toNatClampNeg y2) 100 15 x11) 100 16 (v33 - 1)) 100 17 0) 122 (gI (sI (sI (sI (sI M 100 y1.toNatClampNeg y2) 100 15 x11) 100 16 (v33 - 1)) 100 17 0) 66 88).toNatClampNeg (vp_nar .boolean x4)) 66 88).toNatClampNeg x8) 66 88).toNatClampNeg x3) 66 88).toNatClampNeg x6) 126 (gI (sI (sI (sI (sI (sI (sI (sI (sI M 100 y1.toNatClampNeg y2) 100 15 x11) 100 16 (v33 - 1)) 100 17 0) 122 (gI (sI (sI (sI (sI M 100 y1.toNatClampNeg y2) 100 15 x11) 100 16 (v33 - 1)) 100 17 0) 66 88).toNatClampNeg (vp_nar .boolean x4)) 123 (gI (sI (sI (sI (sI (sI M 100 y1.toNatClampNeg y2) 100 15 x11) 100 16 (v33 - 1)) 100 17 0) 122 (gI (sI (sI (sI (sI M 100 y1.toNatClampNeg y2) 100 15 x11) 100 16 (v33 - 1)) 100 17 0) 66 88).toNatClampNeg (vp_nar .boolean x4)) 66 88).toNatClampNeg x8) 124 (gI (sI (sI (sI (sI (sI (sI M 100 y1.toNatClampNeg y2) 100 15 x11) 100 16 (v33 - 1)) 100 17 0) 122 (gI (sI (sI (sI (sI M 100 y1.toNatClampNeg y2) 100 15 x11) 100 16 (v33 - 1)) 100 17 0) 66 88).toNatClampNeg (vp_nar .boolean x4)) 123 (gI (sI (sI (sI (sI (sI M 100 y1.toNatClampNeg y2) 100 15 x11) 100 16 (v33 - 1)) 100 17 0) 122 (gI (sI (sI (sI (sI M 100 y1.toNatClampNeg y2) 100 15 x11) 100 16 (v33 - 1)) 100 17 0) 66 88).toNatClampNeg (vp_nar .boolean x4)) 66 88).toNatClampNeg x8) 66 88).toNatClampNeg x3) 125 (gI (sI (sI (sI (sI (sI (sI (sI M 100 y1.toNatClampNeg y2) 100 15 x11) 100 16 (v33 - 1)) 100 17 0) 122 (gI (sI (sI (sI (sI M 100 y1.toNatClampNeg y2) 100 15 x11) 100 16 (v33 - 1)) 100 17 0) 66 88).toNatClampNeg (vp_nar .boolean x4)) 123 (gI (sI (sI (sI (sI (sI M 100 y1.toNatClampNeg y2) 100 15 x11) 100 16 (v33 - 1)) 100 17 0) 122 (gI (sI (sI (sI (sI M 100 y1.toNatClampNeg y2) 100 15 x11) 100 16 (v33 - 1)) 100 17 0) 66 88).toNatClampNeg (vp_nar .boolean x4)) 66 88).toNatClampNeg x8) 124 (gI (sI (sI (sI (sI (sI (sI M 100 y1.toNatClampNeg y2) 100 15 x11) 100 16 (v33 - 1)) 100 17 0) 122 (gI (sI (sI (sI (sI M 100 y1.toNatClampNeg y2) 100 15 x11) 100 16 (v33 - 1)) 100 17 0) 66 88).toNatClampNeg (vp_nar .boolean x4)) 123 (gI (sI (sI (sI (sI (sI M 100 y1.toNatClampNeg y2) 100 15 x11) 100 16 (v33 - 1)) 100 17 0) 122 (gI (sI (sI (sI (sI M 100 y1.toNatClampNeg y2) 100 15 x11) 100 16 (v33 - 1)) 100 17 0) 66 88).toNatClampNeg (vp_nar .boolean x4)) 66 88).toNatClampNeg x8) 66 88).toNatClampNeg x3) 66 88).toNatClampNeg x6) 66 88).toNatClampNeg x9) 67 ((10 * x5) + x3).toNatClampNeg))).bind fun q42 =>
  gd (vp_in (gI (sI (sI (sI (sI (sI (sI (sI (sI (sI (sI M 100 y1.toNatClampNeg y2) 100 15 x11) 100 16 (v33 - 1)) 100 17 0) 122 (gI (sI (sI (sI (sI M 100 y1.toNatClampNeg y2) 100 15 x11) 100 16 (v33 - 1)) 100 17 0) 66 88).toNatClampNeg (vp_nar .boolean x4)) 123 (gI (sI (sI (sI (sI (sI M 100 y1.toNatClampNeg y2) 100 15 x11) 100 16 (v33 - 1)) 100 17 0) 122 (gI (sI (sI (sI (sI M 100 y1.toNatClampNeg y2) 100 15 x11) 100 16 (v33 - 1)) 100 17 0) 66 88).toNatClampNeg (vp_nar .boolean x4)) 66 88).toNatClampNeg x8) 124 (gI (sI (sI (sI (sI (sI (sI M 100 y1.toNatClampNeg y2) 100 15 x11) 100 16 (v33 - 1)) 100 17 0) 122 (gI (sI (sI (sI (sI M 100 y1.toNatClampNeg y2) 100 15 x11) 100 16 (v33 - 1)) 100 17 0) 66 88).toNatClampNeg (vp_nar .boolean x4)) 123 (gI (sI (sI (sI (sI (sI M 100 y1.toNatClampNeg y2) 100 15 x11) 100 16 (v33 - 1)) 100 17 0) 122 (gI (sI (sI (sI (sI M 100 y1.toNatClampNeg y2) 100 15 x11) 100 16 (v33 - 1)) 100 17 0) 66 88).toNatClampNeg (vp_nar .boolean x4)) 66 88).toNatClampNeg x8) 66 88).toNatClampNeg x3) 125 (gI (sI (sI (sI (sI (sI (sI (sI M 100 y1.toNatClampNeg y2) 100 15 x11) 100 16 (v33 - 1)) 100 17 0) 122 (gI (sI (sI (sI (sI M 100 y1.toNatClampNeg y2) 100 15 x11) 100 16 (v33 - 1)) 100 17 0) 66 88).toNatClampNeg (vp_nar .boolean x4)) 123 (gI (sI (sI (sI (sI (sI M 100 y1.toNatClampNeg y2) 100 15 x11) 100 16 (v33 - 1)) 100 17 0) 122 (gI (sI (sI (sI (sI M 100 y1.toNatClampNeg y2) 100 15 x11) 100 16 (v33 - 1)) 100 17 0) 66 88).toNatClampNeg (vp_nar .boolean x4)) 66 88).toNatClampNeg x8) 124 (gI (sI (sI (sI (sI (sI (sI M 100 y1.toNatClampNeg y2) 100 15 x11) 100 16 (v33 - 1)) 100 17 0) 122 (gI (sI (sI (sI (sI M 100 y1.toNatClampNeg y2) 100 15 x11) 100 16 (v33 - 1)) 100 17 0) 66 88).toNatClampNeg (vp_nar .boolean x4)) 123 (gI (sI (sI (sI (sI (sI M 100 y1.toNatClampNeg y2) 100 15 x11) 100 16 (v33 - 1)) 100 17 0) 122 (gI (sI (sI (sI (sI M 100 y1.toNatClampNeg y2) 100 15 x11) 100 16 (v33 - 1)) 100 17 0) 66 88).toNatClampNeg (vp_nar .boolean x4)) 66 88).toNatClampNeg x8) 66 88).toNatClampNeg x3) 66 88).toNatClampNeg x6) 126 (gI (sI (sI (sI (sI (sI (sI (sI (sI M 100 y1.toNatClampNeg y2) 100 15 x11) 100 16 (v33 - 1)) 100 17 0) 122 (gI (sI (sI (sI (sI M 100 y1.toNatClampNeg y2) 100 15 x11) 100 16 (v33 - 1)) 100 17 0) 66 88).toNatClampNeg (vp_nar .boolean x4)) 123 (gI (sI (sI (sI (sI (sI M 100 y1.toNatClampNeg y2) 100 15 x11) 100 16 (v33 - 1)) 100 17 0) 122 (gI (sI (sI (sI (sI M 100 y1.toNatClampNeg y2) 100 15 x11) 100 16 (v33 - 1)) 100 17 0) 66 88).toNatClampNeg (vp_nar .boolean x4)) 66 88).toNatClampNeg x8) 124 (gI (sI (sI (sI (sI (sI (sI M 100 y1.toNatClampNeg y2) 100 15 x11) 100 16 (v33 - 1)) 100 17 0) 122 (gI (sI (sI (sI (sI M 100 y1.toNatClampNeg y2) 100 15 x11) 100 16 (v33 - 1)) 100 17 0) 66 88).toNatClampNeg (vp_nar .boolean x4)) 123 (gI (sI (sI (sI (sI (sI M 100 y1.toNatClampNeg y2) 100 15 x11) 100 16 (v33 - 1)) 100 17 0) 122 (gI (sI (sI (sI (sI M 100 y1.toNatClampNeg y2) 100 15 x11) 100 16 (v33 - 1)) 100 17 0) 66 88).toNatClampNeg (vp_nar .boolean x4)) 66 88).toNatClampNeg x8) 66 88).toNatClampNeg x3) 125 (gI (sI (sI (sI (sI (sI (sI (sI M 100 y1.toNatClampNeg y2) 100 15 x11) 100 16 (v33 - 1)) 100 17 0) 122 (gI (sI (sI (sI (sI M 100 y1.toNatClampNeg y2) 100 15 x11) 100 16 (v33 - 1)) 100 17 0) 66 88).toNatClampNeg (vp_nar .boolean x4)) 123 (gI (sI (sI (sI (sI (sI M 100 y1.toNatClampNeg y2) 100 15 x11) 100 16 (v33 - 1)) 100 17 0) 122 (gI (sI (sI (sI (sI M 100 y1.toNatClampNeg y2) 100 15 x11) 100 16 (v33 - 1)) 100 17 0) 66 88).toNatClampNeg (vp_nar .boolean x4)) 66 88).toNatClampNeg x8) 124 (gI (sI (sI (sI (sI (sI (sI M 100 y1.toNatClampNeg y2) 100 15 x11) 100 16 (v33 - 1)) 100 17 0) 122 (gI (sI (sI (sI (sI M 100 y1.toNatClampNeg y2) 100 15 x11) 100 16 (v33 - 1)) 100 17 0) 66 88).toNatClampNeg (vp_nar .boolean x4)) 123 (gI (sI (sI (sI (sI (sI M 100 y1.toNatClampNeg y2) 100 15 x11) 100 16 (v33 - 1)) 100 17 0) 122 (gI (sI (sI (sI (sI M 100 y1.toNatClampNeg y2) 100 15 x11) 100 16 (v33 - 1)) 100 17 0) 66 88).toNatClampNeg (vp_nar .boolean x4)) 66 88).toNatClampNeg x8) 66 88).toNatClampNeg x3) 66 88).toNatClampNeg x6) 66 88).toNatClampNeg x9) 127 (gI (sI (sI (sI (sI (sI (sI (sI (sI (sI M 100 y1.toNatClampNeg y2) 100 15 x11) 100 16 (v33 - 1)) 100 17 0) 122 (gI (sI (sI (sI (sI M 100 y1.toNatClampNeg y2) 100 15 x11) 100 16 (v33 - 1)) 100 17 0) 66 88).toNatClampNeg (vp_nar .boolean x4)) 123 (gI (sI (sI (sI (sI (sI M 100 y1.toNatClampNeg y2) 100 15 x11) 100 16 (v33 - 1)) 100 17 0) 122 (gI (sI (sI (sI (sI M 100 y1.toNatClampNeg y2) 100 15 x11) 100 16 (v33 - 1)) 100 17 0) 66 88).toNatClampNeg (vp_nar .boolean x4)) 66 88).toNatClampNeg x8) 124 (gI (sI (sI (sI (sI (sI (sI M 100 y1.toNatClampNeg y2) 100 15 x11) 100 16 (v33 - 1)) 100 17 0) 122 (gI (sI (sI (sI (sI M 100 y1.toNatClampNeg y2) 100 15 x11) 100 16 (v33 - 1)) 100 17 0) 66 88).toNatClampNeg (vp_nar .boolean x4)) 123 (gI (sI (sI (sI (sI (sI M 100 y1.toNatClampNeg y2) 100 15 x11) 100 16 (v33 - 1)) 100 17 0) 122 (gI (sI (sI (sI (sI M 100 y1.toNatClampNeg y2) 100 15 x11) 100 16 (v33 - 1)) 100 17 0) 66 88).toNatClampNeg (vp_nar .boolean x4)) 66 88).toNatClampNeg x8) 66 88).toNatClampNeg x3) 125 (gI (sI (sI (sI (sI (sI (sI (sI M 100 y1.toNatClampNeg y2) 100 15 x11) 100 16 (v33 - 1)) 100 17 0) 122 (gI (sI (sI (sI (sI M 100 y1.toNatClampNeg y2) 100 15 x11) 100 16 (v33 - 1)) 100 17 0) 66 88).toNatClampNeg (vp_nar .boolean x4)) 123 (gI (sI (sI (sI (sI (sI M 100 y1.toNatClampNeg y2) 100 15 x11) 100 16 (v33 - 1)) 100 17 0) 122 (gI (sI (sI (sI (sI M 100 y1.toNatClampNeg y2) 100 15 x11) 100 16 (v33 - 1)) 100 17 0) 66 88).toNatClampNeg (vp_nar .boolean x4)) 66 88).toNatClampNeg x8) 124 (gI (sI (sI (sI (sI (sI (sI M 100 y1.toNatClampNeg y2) 100 15 x11) 100 16 (v33 - 1)) 100 17 0) 122 (gI (sI (sI (sI (sI M 100 y1.toNatClampNeg y2) 100 15 x11) 100 16 (v33 - 1)) 100 17 0) 66 88).toNatClampNeg (vp_nar .boolean x4)) 123 (gI (sI (sI (sI (sI (sI M 100 y1.toNatClampNeg y2) 100 15 x11) 100 16 (v33 - 1)) 100 17 0) 122 (gI (sI (sI (sI (sI M 100 y1.toNatClampNeg y2) 100 15 x11) 100 16 (v33 - 1)) 100 17 0) 66 88).toNatClampNeg (vp_nar .boolean x4)) 66 88).toNatClampNeg x8) 66 88).toNatClampNeg x3) 66 88).toNatClampNeg x6) 126 (gI (sI (sI (sI (sI (sI (sI (sI (sI M 100 y1.toNatClampNeg y2) 100 15 x11) 100 16 (v33 - 1)) 100 17 0) 122 (gI (sI (sI (sI (sI M 100 y1.toNatClampNeg y2) 100 15 x11) 100 16 (v33 - 1)) 100 17 0) 66 88).toNatClampNeg (vp_nar .boolean x4)) 123 (gI (sI (sI (sI (sI (sI M 100 y1.toNatClampNeg y2) 100 15 x11) 100 16 (v33 - 1)) 100 17 0) 122 (gI (sI (sI (sI (sI M 100 y1.toNatClampNeg y2) 100 15 x11) 100 16 (v33 - 1)) 100 17 0) 66 88).toNatClampNeg (vp_nar .boolean x4)) 66 88).toNatClampNeg x8) 124 (gI (sI (sI (sI (sI (sI (sI M 100 y1.toNatClampNeg y2) 100 15 x11) 100 16 (v33 - 1)) 100 17 0) 122 (gI (sI (sI (sI (sI M 100 y1.toNatClampNeg y2) 100 15 x11) 100 16 (v33 - 1)) 100 17 0) 66 88).toNatClampNeg (vp_nar .boolean x4)) 123 (gI (sI (sI (sI (sI (sI M 100 y1.toNatClampNeg y2) 100 15 x11) 100 16 (v33 - 1)) 100 17 0) 122 (gI (sI (sI (sI (sI M 100 y1.toNatClampNeg y2) 100 15 x11) 100 16 (v33 - 1)) 100 17 0) 66 88).toNatClampNeg (vp_nar .boolean x4)) 66 88).toNatClampNeg x8) 66 88).toNatClampNeg x3) 125 (gI (sI (sI (sI (sI (sI (sI (sI M 100 y1.toNatClampNeg y2) 100 15 x11) 100 16 (v33 - 1)) 100 17 0) 122 (gI (sI (sI (sI (sI M 100 y1.toNatClampNeg y2) 100 15 x11) 100 16 (v33 - 1)) 100 17 0) 66 88).toNatClampNeg (vp_nar .boolean x4)) 123 (gI (sI (sI (sI (sI (sI M 100 y1.toNatClampNeg y2) 100 15 x11) 100 16 (v33 - 1)) 100 17 0) 122 (gI (sI (sI (sI (sI M 100 y1.toNatClampNeg y2) 100 15 x11) 100 16 (v33 - 1)) 100 17 0) 66 88).toNatClampNeg (vp_nar .boolean x4)) 66 88).toNatClampNeg x8) 124 (gI (sI (sI (sI (sI (sI (sI M 100 y1.toNatClampNeg y2) 100 15 x11) 100 16 (v33 - 1)) 100 17 0) 122 (gI (sI (sI (sI (sI M 100 y1.toNatClampNeg y2) 100 15 x11) 100 16 (v33 - 1)) 100 17 0) 66 88).toNatClampNeg (vp_nar .boolean x4)) 123 (gI (sI (sI (sI (sI (sI M 100 y1.toNatClampNeg y2) 100 15 x11) 100 16 (v33 - 1)) 100 17 0) 122 (gI (sI (sI (sI (sI M 100 y1.toNatClampNeg y2) 100 15 x11) 100 16 (v33 - 1)) 100 17 0) 66 88).toNatClampNeg (vp_nar .boolean x4)) 66 88).toNatClampNeg x8) 66 88).toNatClampNeg x3) 66 88).toNatClampNeg x6) 66 88).toNatClampNeg x9) 66 88).toNatClampNeg (gI (sI (sI (sI (sI (sI (sI (sI (sI (sI M 100 y1.toNatClampNeg y2) 100 15 x11) 100 16 (v33 - 1)) 100 17 0) 122 (gI (sI (sI (sI (sI M 100 y1.toNatClampNeg y2) 100 15 x11) 100 16 (v33 - 1)) 100 17 0) 66 88).toNatClampNeg (vp_nar .boolean x4)) 123 (gI (sI (sI (sI (sI (sI M 100 y1.toNatClampNeg y2) 100 15 x11) 100 16 (v33 - 1)) 100 17 0) 122 (gI (sI (sI (sI (sI M 100 y1.toNatClampNeg y2) 100 15 x11) 100 16 (v33 - 1)) 100 17 0) 66 88).toNatClampNeg (vp_nar .boolean x4)) 66 88).toNatClampNeg x8) 124 (gI (sI (sI (sI (sI (sI (sI M 100 y1.toNatClampNeg y2) 100 15 x11) 100 16 (v33 - 1)) 100 17 0) 122 (gI (sI (sI (sI (sI M 100 y1.toNatClampNeg y2) 100 15 x11) 100 16 (v33 - 1)) 100 17 0) 66 88).toNatClampNeg (vp_nar .boolean x4)) 123 (gI (sI (sI (sI (sI (sI M 100 y1.toNatClampNeg y2) 100 15 x11) 100 16 (v33 - 1)) 100 17 0) 122 (gI (sI (sI (sI (sI M 100 y1.toNatClampNeg y2) 100 15 x11) 100 16 (v33 - 1)) 100 17 0) 66 88).toNatClampNeg (vp_nar .boolean x4)) 66 88).toNatClampNeg x8) 66 88).toNatClampNeg x3) 125 (gI (sI (sI (sI (sI (sI (sI (sI M 100 y1.toNatClampNeg y2) 100 15 x11) 100 16 (v33 - 1)) 100 17 0) 122 (gI (sI (sI (sI (sI M 100 y1.toNatClampNeg y2) 100 15 x11) 100 16 (v33 - 1)) 100 17 0) 66 88).toNatClampNeg (vp_nar .boolean x4)) 123 (gI (sI (sI (sI (sI (sI M 100 y1.toNatClampNeg y2) 100 15 x11) 100 16 (v33 - 1)) 100 17 0) 122 (gI (sI (sI (sI (sI M 100 y1.toNatClampNeg y2) 100 15 x11) 100 16 (v33 - 1)) 100 17 0) 66 88).toNatClampNeg (vp_nar .boolean x4)) 66 88).toNatClampNeg x8) 124 (gI (sI (sI (sI (sI (sI (sI M 100 y1.toNatClampNeg y2) 100 15 x11) 100 16 (v33 - 1)) 100 17 0) 122 (gI (sI (sI (sI (sI M 100 y1.toNatClampNeg y2) 100 15 x11) 100 16 (v33 - 1)) 100 17 0) 66 88).toNatClampNeg (vp_nar .boolean x4)) 123 (gI (sI (sI (sI (sI (sI M 100 y1.toNatClampNeg y2) 100 15 x11) 100 16 (v33 - 1)) 100 17 0) 122 (gI (sI (sI (sI (sI M 100 y1.toNatClampNeg y2) 100 15 x11) 100 16 (v33 - 1)) 100 17 0) 66 88).toNatClampNeg (vp_nar .boolean x4)) 66 88).toNatClampNeg x8) 66 88).toNatClampNeg x3) 66 88).toNatClampNeg x6) 126 (gI (sI (sI (sI (sI (sI (sI (sI (sI M 100 y1.toNatClampNeg y2) 100 15 x11) 100 16 (v33 - 1)) 100 17 0) 122 (gI (sI (sI (sI (sI M 100 y1.toNatClampNeg y2) 100 15 x11) 100 16 (v33 - 1)) 100 17 0) 66 88).toNatClampNeg (vp_nar .boolean x4)) 123 (gI (sI (sI (sI (sI (sI M 100 y1.toNatClampNeg y2) 100 15 x11) 100 16 (v33 - 1)) 100 17 0) 122 (gI (sI (sI (sI (sI M 100 y1.toNatClampNeg y2) 100 15 x11) 100 16 (v33 - 1)) 100 17 0) 66 88).toNatClampNeg (vp_nar .boolean x4)) 66 88).toNatClampNeg x8) 124 (gI (sI (sI (sI (sI (sI (sI M 100 y1.toNatClampNeg y2) 100 15 x11) 100 16 (v33 - 1)) 100 17 0) 122 (gI (sI (sI (sI (sI M 100 y1.toNatClampNeg y2) 100 15 x11) 100 16 (v33 - 1)) 100 17 0) 66 88).toNatClampNeg (vp_nar .boolean x4)) 123 (gI (sI (sI (sI (sI (sI M 100 y1.toNatClampNeg y2) 100 15 x11) 100 16 (v33 - 1)) 100 17 0) 122 (gI (sI (sI (sI (sI M 100 y1.toNatClampNeg y2) 100 15 x11) 100 16 (v33 - 1)) 100 17 0) 66 88).toNatClampNeg (vp_nar .boolean x4)) 66 88).toNatClampNeg x8) 66 88).toNatClampNeg x3) 125 (gI (sI (sI (sI (sI (sI (sI (sI M 100 y1.toNatClampNeg y2) 100 15 x11) 100 16 (v33 - 1)) 100 17 0) 122 (gI (sI (sI (sI (sI M 100 y1.toNatClampNeg y2) 100 15 x11) 100 16 (v33 - 1)) 100 17 0) 66 88).toNatClampNeg (vp_nar .boolean x4)) 123 (gI (sI (sI (sI (sI (sI M 100 y1.toNatClampNeg y2) 100 15 x11) 100 16 (v33 - 1)) 100 17 0) 122 (gI (sI (sI (sI (sI M 100 y1.toNatClampNeg y2) 100 15 x11) 100 16 (v33 - 1)) 100 17 0) 66 88).toNatClampNeg (vp_nar .boolean x4)) 66 88).toNatClampNeg x8) 124 (gI (sI (sI (sI (sI (sI (sI M 100 y1.toNatClampNeg y2) 100 15 x11) 100 16 (v33 - 1)) 100 17 0) 122 (gI (sI (sI (sI (sI M 100 y1.toNatClampNeg y2) 100 15 x11) 100 16 (v33 - 1)) 100 17 0) 66 88).toNatClampNeg (vp_nar .boolean x4)) 123 (gI (sI (sI (sI (sI (sI M 100 y1.toNatClampNeg y2) 100 15 x11) 100 16 (v33 - 1)) 100 17 0) 122 (gI (sI (sI (sI (sI M 100 y1.toNatClampNeg y2) 100 15 x11) 100 16 (v33 - 1)) 100 17 0) 66 88).toNatClampNeg (vp_nar .boolean x4)) 66 88).toNatClampNeg x8) 66 88).toNatClampNeg x3) 66 88).toNatClampNeg x6) 66 88).toNatClampNeg x9) 67 ((10 * x5) + x3).toNatClampNeg)) 66 88) 1920) <|
  some (sI (sI q42.2 128 (gI (sI (sI (sI (sI (sI (sI (sI (sI (sI (sI M 100 y1.toNatClampNeg y2) 100 15 x11) 100 16 (v33 - 1)) 100 17 0) 122 (gI (sI (sI (sI (sI M 100 y1.toNatClampNeg y2) 100 15 x11) 100 16 (v33 - 1)) 100 17 0) 66 88).toNatClampNeg (vp_nar .boolean x4)) 123 (gI (sI (sI (sI (sI (sI M 100 y1.toNatClampNeg y2) 100 15 x11) 100 16 (v33 - 1)) 100 17 0) 122 (gI (sI (sI (sI (sI M 100 y1.toNatClampNeg y2) 100 15 x11) 100 16 (v33 - 1)) 100 17 0) 66 88).toNatClampNeg (vp_nar .boolean x4)) 66 88).toNatClampNeg x8) 124 (gI (sI (sI (sI (sI (sI (sI M 100 y1.toNatClampNeg y2) 100 15 x11) 100 16 (v33 - 1)) 100 17 0) 122 (gI (sI (sI (sI (sI M 100 y1.toNatClampNeg y2) 100 15 x11) 100 16 (v33 - 1)) 100 17 0) 66 88).toNatClampNeg (vp_nar .boolean x4)) 123 (gI (sI (sI (sI (sI (sI M 100 y1.toNatClampNeg y2) 100 15 x11) 100 16 (v33 - 1)) 100 17 0) 122 (gI (sI (sI (sI (sI M 100 y1.toNatClampNeg y2) 100 15 x11) 100 16 (v33 - 1)) 100 17 0) 66 88).toNatClampNeg (vp_nar .boolean x4)) 66 88).toNatClampNeg x8) 66 88).toNatClampNeg x3) 125 (gI (sI (sI (sI (sI (sI (sI (sI M 100 y1.toNatClampNeg y2) 100 15 x11) 100 16 (v33 - 1)) 100 17 0) 122 (gI (sI (sI (sI (sI M 100 y1.toNatClampNeg y2) 100 15 x11) 100 16 (v33 - 1)) 100 17 0) 66 88).toNatClampNeg (vp_nar .boolean x4)) 123 (gI (sI (sI (sI (sI (sI M 100 y1.toNatClampNeg y2) 100 15 x11) 100 16 (v33 - 1)) 100 17 0) 122 (gI (sI (sI (sI (sI M 100 y1.toNatClampNeg y2) 100 15 x11) 100 16 (v33 - 1)) 100 17 0) 66 88).toNatClampNeg (vp_nar .boolean x4)) 66 88).toNatClampNeg x8) 124 (gI (sI (sI (sI (sI (sI (sI M 100 y1.toNatClampNeg y2) 100 15 x11) 100 16 (v33 - 1)) 100 17 0) 122 (gI (sI (sI (sI (sI M 100 y1.toNatClampNeg y2) 100 15 x11) 100 16 (v33 - 1)) 100 17 0) 66 88).toNatClampNeg (vp_nar .boolean x4)) 123 (gI (sI (sI (sI (sI (sI M 100 y1.toNatClampNeg y2) 100 15 x11) 100 16 (v33 - 1)) 100 17 0) 122 (gI (sI (sI (sI (sI M 100 y1.toNatClampNeg y2) 100 15 x11) 100 16 (v33 - 1)) 100 17 0) 66 88).toNatClampNeg (vp_nar .boolean x4)) 66 88).toNatClampNeg x8) 66 88).toNatClampNeg x3) 66 88).toNatClampNeg x6) 126 (gI (sI (sI (sI (sI (sI (sI (sI (sI M 100 y1.toNatClampNeg y2) 100 15 x11) 100 16 (v33 - 1)) 100 17 0) 122 (gI (sI (sI (sI (sI M 100 y1.toNatClampNeg y2) 100 15 x11) 100 16 (v33 - 1)) 100 17 0) 66 88).toNatClampNeg (vp_nar .boolean x4)) 123 (gI (sI (sI (sI (sI (sI M 100 y1.toNatClampNeg y2) 100 15 x11) 100 16 (v33 - 1)) 100 17 0) 122 (gI (sI (sI (sI (sI M 100 y1.toNatClampNeg y2) 100 15 x11) 100 16 (v33 - 1)) 100 17 0) 66 88).toNatClampNeg (vp_nar .boolean x4)) 66 88).toNatClampNeg x8) 124 (gI (sI (sI (sI (sI (sI (sI M 100 y1.toNatClampNeg y2) 100 15 x11) 100 16 (v33 - 1)) 100 17 0) 122 (gI (sI (sI (sI (sI M 100 y1.toNatClampNeg y2) 100 15 x11) 100 16 (v33 - 1)) 100 17 0) 66 88).toNatClampNeg (vp_nar .boolean x4)) 123 (gI (sI (sI (sI (sI (sI M 100 y1.toNatClampNeg y2) 100 15 x11) 100 16 (v33 - 1)) 100 17 0) 122 (gI (sI (sI (sI (sI M 100 y1.toNatClampNeg y2) 100 15 x11) 100 16 (v33 - 1)) 100 17 0) 66 88).toNatClampNeg (vp_nar .boolean x4)) 66 88).toNatClampNeg x8) 66 88).toNatClampNeg x3) 125 (gI (sI (sI (sI (sI (sI (sI (sI M 100 y1.toNatClampNeg y2) 100 15 x11) 100 16 (v33 - 1)) 100 17 0) 122 (gI (sI (sI (sI (sI M 100 y1.toNatClampNeg y2) 100 15 x11) 100 16 (v33 - 1)) 100 17 0) 66 88).toNatClampNeg (vp_nar .boolean x4)) 123 (gI (sI (sI (sI (sI (sI M 100 y1.toNatClampNeg y2) 100 15 x11) 100 16 (v33 - 1)) 100 17 0) 122 (gI (sI (sI (sI (sI M 100 y1.toNatClampNeg y2) 100 15 x11) 100 16 (v33 - 1)) 100 17 0) 66 88).toNatClampNeg (vp_nar .boolean x4)) 66 88).toNatClampNeg x8) 124 (gI (sI (sI (sI (sI (sI (sI M 100 y1.toNatClampNeg y2) 100 15 x11) 100 16 (v33 - 1)) 100 17 0) 122 (gI (sI (sI (sI (sI M 100 y1.toNatClampNeg y2) 100 15 x11) 100 16 (v33 - 1)) 100 17 0) 66 88).toNatClampNeg (vp_nar .boolean x4)) 123 (gI (sI (sI (sI (sI (sI M 100 y1.toNatClampNeg y2) 100 15 x11) 100 16 (v33 - 1)) 100 17 0) 122 (gI (sI (sI (sI (sI M 100 y1.toNatClampNeg y2) 100 15 x11) 100 16 (v33 - 1)) 100 17 0) 66 88).toNatClampNeg (vp_nar .boolean x4)) 66 88).toNatClampNeg x8) 66 88).toNatClampNeg x3) 66 88).toNatClampNeg x6) 66 88).toNatClampNeg x9) 127 (gI (sI (sI (sI (sI (sI (sI (sI (sI (sI M 100 y1.toNatClampNeg y2) 100 15 x11) 100 16 (v33 - 1)) 100 17 0) 122 (gI (sI (sI (sI (sI M 100 y1.toNatClampNeg y2) 100 15 x11) 100 16 (v33 - 1)) 100 17 0) 66 88).toNatClampNeg (vp_nar .boolean x4)) 123 (gI (sI (sI (sI (sI (sI M 100 y1.toNatClampNeg y2) 100 15 x11) 100 16 (v33 - 1)) 100 17 0) 122 (gI (sI (sI (sI (sI M 100 y1.toNatClampNeg y2) 100 15 x11) 100 16 (v33 - 1)) 100 17 0) 66 88).toNatClampNeg (vp_nar .boolean x4)) 66 88).toNatClampNeg x8) 124 (gI (sI (sI (sI (sI (sI (sI M 100 y1.toNatClampNeg y2) 100 15 x11) 100 16 (v33 - 1)) 100 17 0) 122 (gI (sI (sI (sI (sI M 100 y1.toNatClampNeg y2) 100 15 x11) 100 16 (v33 - 1)) 100 17 0) 66 88).toNatClampNeg (vp_nar .boolean x4)) 123 (gI (sI (sI (sI (sI (sI M 100 y1.toNatClampNeg y2) 100 15 x11) 100 16 (v33 - 1)) 100 17 0) 122 (gI (sI (sI (sI (sI M 100 y1.toNatClampNeg y2) 100 15 x11) 100 16 (v33 - 1)) 100 17 0) 66 88).toNatClampNeg (vp_nar .boolean x4)) 66 88).toNatClampNeg x8) 66 88).toNatClampNeg x3) 125 (gI (sI (sI (sI (sI (sI (sI (sI M 100 y1.toNatClampNeg y2) 100 15 x11) 100 16 (v33 - 1)) 100 17 0) 122 (gI (sI (sI (sI (sI M 100 y1.toNatClampNeg y2) 100 15 x11) 100 16 (v33 - 1)) 100 17 0) 66 88).toNatClampNeg (vp_nar .boolean x4)) 123 (gI (sI (sI (sI (sI (sI M 100 y1.toNatClampNeg y2) 100 15 x11) 100 16 (v33 - 1)) 100 17 0) 122 (gI (sI (sI (sI (sI M 100 y1.toNatClampNeg y2) 100 15 x11) 100 16 (v33 - 1)) 100 17 0) 66 88).toNatClampNeg (vp_nar .boolean x4)) 66 88).toNatClampNeg x8) 124 (gI (sI (sI (sI (sI (sI (sI M 100 y1.toNatClampNeg y2) 100 15 x11) 100 16 (v33 - 1)) 100 17 0) 122 (gI (sI (sI (sI (sI M 100 y1.toNatClampNeg y2) 100 15 x11) 100 16 (v33 - 1)) 100 17 0) 66 88).toNatClampNeg (vp_nar .boolean x4)) 123 (gI (sI (sI (sI (sI (sI M 100 y1.toNatClampNeg y2) 100 15 x11) 100 16 (v33 - 1)) 100 17 0) 122 (gI (sI (sI (sI (sI M 100 y1.toNatClampNeg y2) 100 15 x11) 100 16 (v33 - 1)) 100 17 0) 66 88).toNatClampNeg (vp_nar .boolean x4)) 66 88).toNatClampNeg x8) 66 88).toNatClampNeg x3) 66 88).toNatClampNeg x6) 126 (gI (sI (sI (sI (sI (sI (sI (sI (sI M 100 y1.toNatClampNeg y2) 100 15 x11) 100 16 (v33 - 1)) 100 17 0) 122 (gI (sI (sI (sI (sI M 100 y1.toNatClampNeg y2) 100 15 x11) 100 16 (v33 - 1)) 100 17 0) 66 88).toNatClampNeg (vp_nar .boolean x4)) 123 (gI (sI (sI (sI (sI (sI M 100 y1.toNatClampNeg y2) 100 15 x11) 100 16 (v33 - 1)) 100 17 0) 122 (gI (sI (sI (sI (sI M 100 y1.toNatClampNeg y2) 100 15 x11) 100 16 (v33 - 1)) 100 17 0) 66 88).toNatClampNeg (vp_nar .boolean x4)) 66 88).toNatClampNeg x8) 124 (gI (sI (sI (sI (sI (sI (sI M 100 y1.toNatClampNeg y2) 100 15 x11) 100 16 (v33 - 1)) 100 17 0) 122 (gI (sI (sI (sI (sI M 100 y1.toNatClampNeg y2) 100 15 x11) 100 16 (v33 - 1)) 100 17 0) 66 88).toNatClampNeg (vp_nar .boolean x4)) 123 (gI (sI (sI (sI (sI (sI M 100 y1.toNatClampNeg y2) 100 15 x11) 100 16 (v33 - 1)) 100 17 0) 122 (gI (sI (sI (sI (sI M 100 y1.toNatClampNeg y2) 100 15 x11) 100 16 (v33 - 1)) 100 17 0) 66 88).toNatClampNeg (vp_nar .boolean x4)) 66 88).toNatClampNeg x8) 66 88).toNatClampNeg x3) 125 (gI (sI (sI (sI (sI (sI (sI (sI M 100 y1.toNatClampNeg y2) 100 15 x11) 100 16 (v33 - 1)) 100 17 0) 122 (gI (sI (sI (sI (sI M 100 y1.toNatClampNeg y2) 100 15 x11) 100 16 (v33 - 1)) 100 17 0) 66 88).toNatClampNeg (vp_nar .boolean x4)) 123 (gI (sI (sI (sI (sI (sI M 100 y1.toNatClampNeg y2) 100 15 x11) 100 16 (v33 - 1)) 100 17 0) 122 (gI (sI (sI (sI (sI M 100 y1.toNatClampNeg y2) 100 15 x11) 100 16 (v33 - 1)) 100 17 0) 66 88).toNatClampNeg (vp_nar .boolean x4)) 66 88).toNatClampNeg x8) 124 (gI (sI (sI (sI (sI (sI (sI M 100 y1.toNatClampNeg y2) 100 15 x11) 100 16 (v33 - 1)) 100 17 0) 122 (gI (sI (sI (sI (sI M 100 y1.toNatClampNeg y2) 100 15 x11) 100 16 (v33 - 1)) 100 17 0) 66 88).toNatClampNeg (vp_nar .boolean x4)) 123 (gI (sI (sI (sI (sI (sI M 100 y1.toNatClampNeg y2) 100 15 x11) 100 16 (v33 - 1)) 100 17 0) 122 (gI (sI (sI (sI (sI M 100 y1.toNatClampNeg y2) 100 15 x11) 100 16 (v33 - 1)) 100 17 0) 66 88).toNatClampNeg (vp_nar .boolean x4)) 66 88).toNatClampNeg x8) 66 88).toNatClampNeg x3) 66 88).toNatClampNeg x6) 66 88).toNatClampNeg x9) 66 88).toNatClampNeg (gI (sI (sI (sI (sI (sI (sI (sI (sI (sI M 100 y1.toNatClampNeg y2) 100 15 x11) 100 16 (v33 - 1)) 100 17 0) 122 (gI (sI (sI (sI (sI M 100 y1.toNatClampNeg y2) 100 15 x11) 100 16 (v33 - 1)) 100 17 0) 66 88).toNatClampNeg (vp_nar .boolean x4)) 123 (gI (sI (sI (sI (sI (sI M 100 y1.toNatClampNeg y2) 100 15 x11) 100 16 (v33 - 1)) 100 17 0) 122 (gI (sI (sI (sI (sI M 100 y1.toNatClampNeg y2) 100 15 x11) 100 16 (v33 - 1)) 100 17 0) 66 88).toNatClampNeg (vp_nar .boolean x4)) 66 88).toNatClampNeg x8) 124 (gI (sI (sI (sI (sI (sI (sI M 100 y1.toNatClampNeg y2) 100 15 x11) 100 16 (v33 - 1)) 100 17 0) 122 (gI (sI (sI (sI (sI M 100 y1.toNatClampNeg y2) 100 15 x11) 100 16 (v33 - 1)) 100 17 0) 66 88).toNatClampNeg (vp_nar .boolean x4)) 123 (gI (sI (sI (sI (sI (sI M 100 y1.toNatClampNeg y2) 100 15 x11) 100 16 (v33 - 1)) 100 17 0) 122 (gI (sI (sI (sI (sI M 100 y1.toNatClampNeg y2) 100 15 x11) 100 16 (v33 - 1)) 100 17 0) 66 88).toNatClampNeg (vp_nar .boolean x4)) 66 88).toNatClampNeg x8) 66 88).toNatClampNeg x3) 125 (gI (sI (sI (sI (sI (sI (sI (sI M 100 y1.toNatClampNeg y2) 100 15 x11) 100 16 (v33 - 1)) 100 17 0) 122 (gI (sI (sI (sI (sI M 100 y1.toNatClampNeg y2) 100 15 x11) 100 16 (v33 - 1)) 100 17 0) 66 88).toNatClampNeg (vp_nar .boolean x4)) 123 (gI (sI (sI (sI (sI (sI M 100 y1.toNatClampNeg y2) 100 15 x11) 100 16 (v33 - 1)) 100 17 0) 122 (gI (sI (sI (sI (sI M 100 y1.toNatClampNeg y2) 100 15 x11) 100 16 (v33 - 1)) 100 17 0) 66 88).toNatClampNeg (vp_nar .boolean x4)) 66 88).toNatClampNeg x8) 124 (gI (sI (sI (sI (sI (sI (sI M 100 y1.toNatClampNeg y2) 100 15 x11) 100 16 (v33 - 1)) 100 17 0) 122 (gI (sI (sI (sI (sI M 100 y1.toNatClampNeg y2) 100 15 x11) 100 16 (v33 - 1)) 100 17 0) 66 88).toNatClampNeg (vp_nar .boolean x4)) 123 (gI (sI (sI (sI (sI (sI M 100 y1.toNatClampNeg y2) 100 15 x11) 100 16 (v33 - 1)) 100 17 0) 122 (gI (sI (sI (sI (sI M 100 y1.toNatClampNeg y2) 100 15 x11) 100 16 (v33 - 1)) 100 17 0) 66 88).toNatClampNeg (vp_nar .boolean x4)) 66 88).toNatClampNeg x8) 66 88).toNatClampNeg x3) 66 88).toNatClampNeg x6) 126 (gI (sI (sI (sI (sI (sI (sI (sI (sI M 100 y1.toNatClampNeg y2) 100 15 x11) 100 16 (v33 - 1)) 100 17 0) 122 (gI (sI (sI (sI (sI M 100 y1.toNatClampNeg y2) 100 15 x11) 100 16 (v33 - 1)) 100 17 0) 66 88).toNatClampNeg (vp_nar .boolean x4)) 123 (gI (sI (sI (sI (sI (sI M 100 y1.toNatClampNeg y2) 100 15 x11) 100 16 (v33 - 1)) 100 17 0) 122 (gI (sI (sI (sI (sI M 100 y1.toNatClampNeg y2) 100 15 x11) 100 16 (v33 - 1)) 100 17 0) 66 88).toNatClampNeg (vp_nar .boolean x4)) 66 88).toNatClampNeg x8) 124 (gI (sI (sI (sI (sI (sI (sI M 100 y1.toNatClampNeg y2) 100 15 x11) 100 16 (v33 - 1)) 100 17 0) 122 (gI (sI (sI (sI (sI M 100 y1.toNatClampNeg y2) 100 15 x11) 100 16 (v33 - 1)) 100 17 0) 66 88).toNatClampNeg (vp_nar .boolean x4)) 123 (gI (sI (sI (sI (sI (sI M 100 y1.toNatClampNeg y2) 100 15 x11) 100 16 (v33 - 1)) 100 17 0) 122 (gI (sI (sI (sI (sI M 100 y1.toNatClampNeg y2) 100 15 x11) 100 16 (v33 - 1)) 100 17 0) 66 88).toNatClampNeg (vp_nar .boolean x4)) 66 88).toNatClampNeg x8) 66 88).toNatClampNeg x3) 125 (gI (sI (sI (sI (sI (sI (sI (sI M 100 y1.toNatClampNeg y2) 100 15 x11) 100 16 (v33 - 1)) 100 17 0) 122 (gI (sI (sI (sI (sI M 100 y1.toNatClampNeg y2) 100 15 x11) 100 16 (v33 - 1)) 100 17 0) 66 88).toNatClampNeg (vp_nar .boolean x4)) 123 (gI (sI (sI (sI (sI (sI M 100 y1.toNatClampNeg y2) 100 15 x11) 100 16 (v33 - 1)) 100 17 0) 122 (gI (sI (sI (sI (sI M 100 y1.toNatClampNeg y2) 100 15 x11) 100 16 (v33 - 1)) 100 17 0) 66 88).toNatClampNeg (vp_nar .boolean x4)) 66 88).toNatClampNeg x8) 124 (gI (sI (sI (sI (sI (sI (sI M 100 y1.toNatClampNeg y2) 100 15 x11) 100 16 (v33 - 1)) 100 17 0) 122 (gI (sI (sI (sI (sI M 100 y1.toNatClampNeg y2) 100 15 x11) 100 16 (v33 - 1)) 100 17 0) 66 88).toNatClampNeg (vp_nar .boolean x4)) 123 (gI (sI (sI (sI (sI (sI M 100 y1.toNatClampNeg y2) 100 15 x11) 100 16 (v33 - 1)) 100 17 0) 122 (gI (sI (sI (sI (sI M 100 y1.toNatClampNeg y2) 100 15 x11) 100 16 (v33 - 1)) 100 17 0) 66 88).toNatClampNeg (vp_nar .boolean x4)) 66 88).toNatClampNeg x8) 66 88).toNatClampNeg x3) 66 88).toNatClampNeg x6) 66 88).toNatClampNeg x9) 67 ((10 * x5) + x3).toNatClampNeg)) 66 88).toNatClampNeg q42.1) 66 88 ((gI (sI q42.2 128 (gI (sI (sI (sI (sI (sI (sI (sI (sI (sI (sI M 100 y1.toNatClampNeg y2) 100 15 x11) 100 16 (v33 - 1)) 100 17 0) 122 (gI (sI (sI (sI (sI M 100 y1.toNatClampNeg y2) 100 15 x11) 100 16 (v33 - 1)) 100 17 0) 66 88).toNatClampNeg (vp_nar .boolean x4)) 123 (gI (sI (sI (sI (sI (sI M 100 y1.toNatClampNeg y2) 100 15 x11) 100 16 (v33 - 1)) 100 17 0) 122 (gI (sI (sI (sI (sI M 100 y1.toNatClampNeg y2) 100 15 x11) 100 16 (v33 - 1)) 100 17 0) 66 88).toNatClampNeg (vp_nar .boolean x4)) 66 88).toNatClampNeg x8) 124 (gI (sI (sI (sI (sI (sI (sI M 100 y1.toNatClampNeg y2) 100 15 x11) 100 16 (v33 - 1)) 100 17 0) 122 (gI (sI (sI (sI (sI M 100 y1.toNatClampNeg y2) 100 15 x11) 100 16 (v33 - 1)) 100 17 0) 66 88).toNatClampNeg (vp_nar .boolean x4)) 123 (gI (sI (sI (sI (sI (sI M 100 y1.toNatClampNeg y2) 100 15 x11) 100 16 (v33 - 1)) 100 17 0) 122 (gI (sI (sI (sI (sI M 100 y1.toNatClampNeg y2) 100 15 x11) 100 16 (v33 - 1)) 100 17 0) 66 88).toNatClampNeg (vp_nar .boolean x4)) 66 88).toNatClampNeg x8) 66 88).toNatClampNeg x3) 125 (gI (sI (sI (sI (sI (sI (sI (sI M 100 y1.toNatClampNeg y2) 100 15 x11) 100 16 (v33 - 1)) 100 17 0) 122 (gI (sI (sI (sI (sI M 100 y1.toNatClampNeg y2) 100 15 x11) 100 16 (v33 - 1)) 100 17 0) 66 88).toNatClampNeg (vp_nar .boolean x4)) 123 (gI (sI (sI (sI (sI (sI M 100 y1.toNatClampNeg y2) 100 15 x11) 100 16 (v33 - 1)) 100 17 0) 122 (gI (sI (sI (sI (sI M 100 y1.toNatClampNeg y2) 100 15 x11) 100 16 (v33 - 1)) 100 17 0) 66 88).toNatClampNeg (vp_nar .boolean x4)) 66 88).toNatClampNeg x8) 124 (gI (sI (sI (sI (sI (sI (sI M 100 y1.toNatClampNeg y2) 100 15 x11) 100 16 (v33 - 1)) 100 17 0) 122 (gI (sI (sI (sI (sI M 100 y1.toNatClampNeg y2) 100 15 x11) 100 16 (v33 - 1)) 100 17 0) 66 88).toNatClampNeg (vp_nar .boolean x4)) 123 (gI (sI (sI (sI (sI (sI M 100 y1.toNatClampNeg y2) 100 15 x11) 100 16 (v33 - 1)) 100 17 0) 122 (gI (sI (sI (sI (sI M 100 y1.toNatClampNeg y2) 100 15 x11) 100 16 (v33 - 1)) 100 17 0) 66 88).toNatClampNeg (vp_nar .boolean x4)) 66 88).toNatClampNeg x8) 66 88).toNatClampNeg x3) 66 88).toNatClampNeg x6) 126 (gI (sI (sI (sI (sI (sI (sI (sI (sI M 100 y1.toNatClampNeg y2) 100 15 x11) 100 16 (v33 - 1)) 100 17 0) 122 (gI (sI (sI (sI (sI M 100 y1.toNatClampNeg y2) 100 15 x11) 100 16 (v33 - 1)) 100 17 0) 66 88).toNatClampNeg (vp_nar .boolean x4)) 123 (gI (sI (sI (sI (sI (sI M 100 y1.toNatClampNeg y2) 100 15 x11) 100 16 (v33 - 1)) 100 17 0) 122 (gI (sI (sI (sI (sI M 100 y1.toNatClampNeg y2) 100 15 x11) 100 16 (v33 - 1)) 100 17 0) 66 88).toNatClampNeg (vp_nar .boolean x4)) 66 88).toNatClampNeg x8) 124 (gI (sI (sI (sI (sI (sI (sI M 100 y1.toNatClampNeg y2) 100 15 x11) 100 16 (v33 - 1)) 100 17 0) 122 (gI (sI (sI (sI (sI M 100 y1.toNatClampNeg y2) 100 15 x11) 100 16 (v33 - 1)) 100 17 0) 66 88).toNatClampNeg (vp_nar .boolean x4)) 123 (gI (sI (sI (sI (sI (sI M 100 y1.toNatClampNeg y2) 100 15 x11) 100 16 (v33 - 1)) 100 17 0) 122 (gI (sI (sI (sI (sI M 100 y1.toNatClampNeg y2) 100 15 x11) 100 16 (v33 - 1)) 100 17 0) 66 88).toNatClampNeg (vp_nar .boolean x4)) 66 88).toNatClampNeg x8) 66 88).toNatClampNeg x3) 125 (gI (sI (sI (sI (sI (sI (sI (sI M 100 y1.toNatClampNeg y2) 100 15 x11) 100 16 (v33 - 1)) 100 17 0) 122 (gI (sI (sI (sI (sI M 100 y1.toNatClampNeg y2) 100 15 x11) 100 16 (v33 - 1)) 100 17 0) 66 88).toNatClampNeg (vp_nar .boolean x4)) 123 (gI (sI (sI (sI (sI (sI M 100 y1.toNatClampNeg y2) 100 15 x11) 100 16 (v33 - 1)) 100 17 0) 122 (gI (sI (sI (sI (sI M 100 y1.toNatClampNeg y2) 100 15 x11) 100 16 (v33 - 1)) 100 17 0) 66 88).toNatClampNeg (vp_nar .boolean x4)) 66 88).toNatClampNeg x8) 124 (gI (sI (sI (sI (sI (sI (sI M 100 y1.toNatClampNeg y2) 100 15 x11) 100 16 (v33 - 1)) 100 17 0) 122 (gI (sI (sI (sI (sI M 100 y1.toNatClampNeg y2) 100 15 x11) 100 16 (v33 - 1)) 100 17 0) 66 88).toNatClampNeg (vp_nar .boolean x4)) 123 (gI (sI (sI (sI (sI (sI M 100 y1.toNatClampNeg y2) 100 15 x11) 100 16 (v33 - 1)) 100 17 0) 122 (gI (sI (sI (sI (sI M 100 y1.toNatClampNeg y2) 100 15 x11) 100 16 (v33 - 1)) 100 17 0) 66 88).toNatClampNeg (vp_nar .boolean x4)) 66 88).toNatClampNeg x8) 66 88).toNatClampNeg x3) 66 88).toNatClampNeg x6) 66 88).toNatClampNeg x9) 127 (gI (sI (sI (sI (sI (sI (sI (sI (sI (sI M 100 y1.toNatClampNeg y2) 100 15 x11) 100 16 (v33 - 1)) 100 17 0) 122 (gI (sI (sI (sI (sI M 100 y1.toNatClampNeg y2) 100 15 x11) 100 16 (v33 - 1)) 100 17 0) 66 88).toNatClampNeg (vp_nar .boolean x4)) 123 (gI (sI (sI (sI (sI (sI M 100 y1.toNatClampNeg y2) 100 15 x11) 100 16 (v33 - 1)) 100 17 0) 122 (gI (sI (sI (sI (sI M 100 y1.toNatClampNeg y2) 100 15 x11) 100 16 (v33 - 1)) 100 17 0) 66 88).toNatClampNeg (vp_nar .boolean x4)) 66 88).toNatClampNeg x8) 124 (gI (sI (sI (sI (sI (sI (sI M 100 y1.toNatClampNeg y2) 100 15 x11) 100 16 (v33 - 1)) 100 17 0) 122 (gI (sI (sI (sI (sI M 100 y1.toNatClampNeg y2) 100 15 x11) 100 16 (v33 - 1)) 100 17 0) 66 88).toNatClampNeg (vp_nar .boolean x4)) 123 (gI (sI (sI (sI (sI (sI M 100 y1.toNatClampNeg y2) 100 15 x11) 100 16 (v33 - 1)) 100 17 0) 122 (gI (sI (sI (sI (sI M 100 y1.toNatClampNeg y2) 100 15 x11) 100 16 (v33 - 1)) 100 17 0) 66 88).toNatClampNeg (vp_nar .boolean x4)) 66 88).toNatClampNeg x8) 66 88).toNatClampNeg x3) 125 (gI (sI (sI (sI (sI (sI (sI (sI M 100 y1.toNatClampNeg y2) 100 15 x11) 100 16 (v33 - 1)) 100 17 0) 122 (gI (sI (sI (sI (sI M 100 y1.toNatClampNeg y2) 100 15 x11) 100 16 (v33 - 1)) 100 17 0) 66 88).toNatClampNeg (vp_nar .boolean x4)) 123 (gI (sI (sI (sI (sI (sI M 100 y1.toNatClampNeg y2) 100 15 x11) 100 16 (v33 - 1)) 100 17 0) 122 (gI (sI (sI (sI (sI M 100 y1.toNatClampNeg y2) 100 15 x11) 100 16 (v33 - 1)) 100 17 0) 66 88).toNatClampNeg (vp_nar .boolean x4)) 66 88).toNatClampNeg x8) 124 (gI (sI (sI (sI (sI (sI (sI M 100 y1.toNatClampNeg y2) 100 15 x11) 100 16 (v33 - 1)) 100 17 0) 122 (gI (sI (sI (sI (sI M 100 y1.toNatClampNeg y2) 100 15 x11) 100 16 (v33 - 1)) 100 17 0) 66 88).toNatClampNeg (vp_nar .boolean x4)) 123 (gI (sI (sI (sI (sI (sI M 100 y1.toNatClampNeg y2) 100 15 x11) 100 16 (v33 - 1)) 100 17 0) 122 (gI (sI (sI (sI (sI M 100 y1.toNatClampNeg y2) 100 15 x11) 100 16 (v33 - 1)) 100 17 0) 66 88).toNatClampNeg (vp_nar .boolean x4)) 66 88).toNatClampNeg x8) 66 88).toNatClampNeg x3) 66 88).toNatClampNeg x6) 126 (gI (sI (sI (sI (sI (sI (sI (sI (sI M 100 y1.toNatClampNeg y2) 100 15 x11) 100 16 (v33 - 1)) 100 17 0) 122 (gI (sI (sI (sI (sI M 100 y1.toNatClampNeg y2) 100 15 x11) 100 16 (v33 - 1)) 100 17 0) 66 88).toNatClampNeg (vp_nar .boolean x4)) 123 (gI (sI (sI (sI (sI (sI M 100 y1.toNatClampNeg y2) 100 15 x11) 100 16 (v33 - 1)) 100 17 0) 122 (gI (sI (sI (sI (sI M 100 y1.toNatClampNeg y2) 100 15 x11) 100 16 (v33 - 1)) 100 17 0) 66 88).toNatClampNeg (vp_nar .boolean x4)) 66 88).toNatClampNeg x8) 124 (gI (sI (sI (sI (sI (sI (sI M 100 y1.toNatClampNeg y2) 100 15 x11) 100 16 (v33 - 1)) 100 17 0) 122 (gI (sI (sI (sI (sI M 100 y1.toNatClampNeg y2) 100 15 x11) 100 16 (v33 - 1)) 100 17 0) 66 88).toNatClampNeg (vp_nar .boolean x4)) 123 (gI (sI (sI (sI (sI (sI M 100 y1.toNatClampNeg y2) 100 15 x11) 100 16 (v33 - 1)) 100 17 0) 122 (gI (sI (sI (sI (sI M 100 y1.toNatClampNeg y2) 100 15 x11) 100 16 (v33 - 1)) 100 17 0) 66 88).toNatClampNeg (vp_nar .boolean x4)) 66 88).toNatClampNeg x8) 66 88).toNatClampNeg x3) 125 (gI (sI (sI (sI (sI (sI (sI (sI M 100 y1.toNatClampNeg y2) 100 15 x11) 100 16 (v33 - 1)) 100 17 0) 122 (gI (sI (sI (sI (sI M 100 y1.toNatClampNeg y2) 100 15 x11) 100 16 (v33 - 1)) 100 17 0) 66 88).toNatClampNeg (vp_nar .boolean x4)) 123 (gI (sI (sI (sI (sI (sI M 100 y1.toNatClampNeg y2) 100 15 x11) 100 16 (v33 - 1)) 100 17 0) 122 (gI (sI (sI (sI (sI M 100 y1.toNatClampNeg y2) 100 15 x11) 100 16 (v33 - 1)) 100 17 0) 66 88).toNatClampNeg (vp_nar .boolean x4)) 66 88).toNatClampNeg x8) 124 (gI (sI (sI (sI (sI (sI (sI M 100 y1.toNatClampNeg y2) 100 15 x11) 100 16 (v33 - 1)) 100 17 0) 122 (gI (sI (sI (sI (sI M 100 y1.toNatClampNeg y2) 100 15 x11) 100 16 (v33 - 1)) 100 17 0) 66 88).toNatClampNeg (vp_nar .boolean x4)) 123 (gI (sI (sI (sI (sI (sI M 100 y1.toNatClampNeg y2) 100 15 x11) 100 16 (v33 - 1)) 100 17 0) 122 (gI (sI (sI (sI (sI M 100 y1.toNatClampNeg y2) 100 15 x11) 100 16 (v33 - 1)) 100 17 0) 66 88).toNatClampNeg (vp_nar .boolean x4)) 66 88).toNatClampNeg x8) 66 88).toNatClampNeg x3) 66 88).toNatClampNeg x6) 66 88).toNatClampNeg x9) 66 88).toNatClampNeg (gI (sI (sI (sI (sI (sI (sI (sI (sI (sI M 100 y1.toNatClampNeg y2) 100 15 x11) 100 16 (v33 - 1)) 100 17 0) 122 (gI (sI (sI (sI (sI M 100 y1.toNatClampNeg y2) 100 15 x11) 100 16 (v33 - 1)) 100 17 0) 66 88).toNatClampNeg (vp_nar .boolean x4)) 123 (gI (sI (sI (sI (sI (sI M 100 y1.toNatClampNeg y2) 100 15 x11) 100 16 (v33 - 1)) 100 17 0) 122 (gI (sI (sI (sI (sI M 100 y1.toNatClampNeg y2) 100 15 x11) 100 16 (v33 - 1)) 100 17 0) 66 88).toNatClampNeg (vp_nar .boolean x4)) 66 88).toNatClampNeg x8) 124 (gI (sI (sI (sI (sI (sI (sI M 100 y1.toNatClampNeg y2) 100 15 x11) 100 16 (v33 - 1)) 100 17 0) 122 (gI (sI (sI (sI (sI M 100 y1.toNatClampNeg y2) 100 15 x11) 100 16 (v33 - 1)) 100 17 0) 66 88).toNatClampNeg (vp_nar .boolean x4)) 123 (gI (sI (sI (sI (sI (sI M 100 y1.toNatClampNeg y2) 100 15 x11) 100 16 (v33 - 1)) 100 17 0) 122 (gI (sI (sI (sI (sI M 100 y1.toNatClampNeg y2) 100 15 x11) 100 16 (v33 - 1)) 100 17 0) 66 88).toNatClampNeg (vp_nar .boolean x4)) 66 88).toNatClampNeg x8) 66 88).toNatClampNeg x3) 125 (gI (sI (sI (sI (sI (sI (sI (sI M 100 y1.toNatClampNeg y2) 100 15 x11) 100 16 (v33 - 1)) 100 17 0) 122 (gI (sI (sI (sI (sI M 100 y1.toNatClampNeg y2) 100 15 x11) 100 16 (v33 - 1)) 100 17 0) 66 88).toNatClampNeg (vp_nar .boolean x4)) 123 (gI (sI (sI (sI (sI (sI M 100 y1.toNatClampNeg y2) 100 15 x11) 100 16 (v33 - 1)) 100 17 0) 122 (gI (sI (sI (sI (sI M 100 y1.toNatClampNeg y2) 100 15 x11) 100 16 (v33 - 1)) 100 17 0) 66 88).toNatClampNeg (vp_nar .boolean x4)) 66 88).toNatClampNeg x8) 124 (gI (sI (sI (sI (sI (sI (sI M 100 y1.toNatClampNeg y2) 100 15 x11) 100 16 (v33 - 1)) 100 17 0) 122 (gI (sI (sI (sI (sI M 100 y1.toNatClampNeg y2) 100 15 x11) 100 16 (v33 - 1)) 100 17 0) 66 88).toNatClampNeg (vp_nar .boolean x4)) 123 (gI (sI (sI (sI (sI (sI M 100 y1.toNatClampNeg y2) 100 15 x11) 100 16 (v33 - 1)) 100 17 0) 122 (gI (sI (sI (sI (sI M 100 y1.toNatClampNeg y2) 100 15 x11) 100 16 (v33 - 1)) 100 17 0) 66 88).toNatClampNeg (vp_nar .boolean x4)) 66 88).toNatClampNeg x8) 66 88).toNatClampNeg x3) 66 88).toNatClampNeg x6) 126 (gI (sI (sI (sI (sI (sI (sI (sI (sI M 100 y1.toNatClampNeg y2) 100 15 x11) 100 16 (v33 - 1)) 100 17 0) 122 (gI (sI (sI (sI (sI M 100 y1.toNatClampNeg y2) 100 15 x11) 100 16 (v33 - 1)) 100 17 0) 66 88).toNatClampNeg (vp_nar .boolean x4)) 123 (gI (sI (sI (sI (sI (sI M 100 y1.toNatClampNeg y2) 100 15 x11) 100 16 (v33 - 1)) 100 17 0) 122 (gI (sI (sI (sI (sI M 100 y1.toNatClampNeg y2) 100 15 x11) 100 16 (v33 - 1)) 100 17 0) 66 88).toNatClampNeg (vp_nar .boolean x4)) 66 88).toNatClampNeg x8) 124 (gI (sI (sI (sI (sI (sI (sI M 100 y1.toNatClampNeg y2) 100 15 x11) 100 16 (v33 - 1)) 100 17 0) 122 (gI (sI (sI (sI (sI M 100 y1.toNatClampNeg y2) 100 15 x11) 100 16 (v33 - 1)) 100 17 0) 66 88).toNatClampNeg (vp_nar .boolean x4)) 123 (gI (sI (sI (sI (sI (sI M 100 y1.toNatClampNeg y2) 100 15 x11) 100 16 (v33 - 1)) 100 17 0) 122 (gI (sI (sI (sI (sI M 100 y1.toNatClampNeg y2) 100 15 x11) 100 16 (v33 - 1)) 100 17 0) 66 88).toNatClampNeg (vp_nar .boolean x4)) 66 88).toNatClampNeg x8) 66 88).toNatClampNeg x3) 125 (gI (sI (sI (sI (sI (sI (sI (sI M 100 y1.toNatClampNeg y2) 100 15 x11) 100 16 (v33 - 1)) 100 17 0) 122 (gI (sI (sI (sI (sI M 100 y1.toNatClampNeg y2) 100 15 x11) 100 16 (v33 - 1)) 100 17 0) 66 88).toNatClampNeg (vp_nar .boolean x4)) 123 (gI (sI (sI (sI (sI (sI M 100 y1.toNatClampNeg y2) 100 15 x11) 100 16 (v33 - 1)) 100 17 0) 122 (gI (sI (sI (sI (sI M 100 y1.toNatClampNeg y2) 100 15 x11) 100 16 (v33 - 1)) 100 17 0) 66 88).toNatClampNeg (vp_nar .boolean x4)) 66 88).toNatClampNeg x8) 124 (gI (sI (sI (sI (sI (sI (sI M 100 y1.toNatClampNeg y2) 100 15 x11) 100 16 (v33 - 1)) 100 17 0) 122 (gI (sI (sI (sI (sI M 100 y1.toNatClampNeg y2) 100 15 x11) 100 16 (v33 - 1)) 100 17 0) 66 88).toNatClampNeg (vp_nar .boolean x4)) 123 (gI (sI (sI (sI (sI (sI M 100 y1.toNatClampNeg y2) 100 15 x11) 100 16 (v33 - 1)) 100 17 0) 122 (gI (sI (sI (sI (sI M 100 y1.toNatClampNeg y2) 100 15 x11) 100 16 (v33 - 1)) 100 17 0) 66 88).toNatClampNeg (vp_nar .boolean x4)) 66 88).toNatClampNeg x8) 66 88).toNatClampNeg x3) 66 88).toNatClampNeg x6) 66 88).toNatClampNeg x9) 67 ((10 * x5) + x3).toNatClampNeg)) 66 88).toNatClampNeg q42.1) 66 88) + 1))
noncomputable def t_mo_takes_304 (x3 : Int32) (x4 : Int32) (x5 : Int32) (x6 : Int32) (x7 : Int32) (x8 : Int32) (x9 : Int32) (x11 : Int32) (y1 : Int32) (y2 : Int32) (M : dM) : Option dM :=
  gd (vp_in y1 20) <|
  if x7 = ((1 : Int32) <<< (x6 &&& 31)) then
    t_mo_takes_325 x3 x4 x5 x6 x7 x8 x9 x11 14 1 (sI M 100 y1.toNatClampNeg y2)
  else
    t_mo_takes_325 x3 x4 x5 x6 x7 x8 x9 x11 14 0 (sI M 100 y1.toNatClampNeg y2)
noncomputable def f_mo_takes (a1 : Int32) (a2 : Int32) (a3 : Int32) (a4 : Int32) (M : dM) : Option dM :=
  gd (vp_in a1 80) <|
  (f_mo_presentAt (gI M 70 a1.toNatClampNeg) (gI M 71 a1.toNatClampNeg) a2 M).bind fun v2 =>
  (l_mo_takes_37 a1 a2 a3 a4 (gI M 70 a1.toNatClampNeg) (gI M 69 a1.toNatClampNeg) v2 0 0 M).bind fun t8 =>
    (f_mo_draws t8.2).bind fun q11 =>
    (f_mo_draws q11.2).bind fun q13 =>
    (l_mo_takes_116 a1 a2 a3 a4 (gI M 70 a1.toNatClampNeg) (gI M 69 a1.toNatClampNeg) v2 t8.1 ((q11.1 * 10) + q13.1) 0 0 q13.2).bind fun t17 =>
      (l_mo_takes_169 a1 a2 a3 a4 (gI M 70 a1.toNatClampNeg) (gI M 69 a1.toNatClampNeg) v2 t8.1 ((q11.1 * 10) + q13.1) t17 0 0 q13.2).bind fun t23 =>
        (l_mo_takes_215 a2 a3 a4 (gI M 70 a1.toNatClampNeg) (gI M 69 a1.toNatClampNeg) v2 t8.1 ((q11.1 * 10) + q13.1) t17 t23 0 q13.2).bind fun t27 =>
          gd (vp_in ((10 * (gI M 70 a1.toNatClampNeg)) + a3) 80) <|
          if t17 = 0 then
            t_mo_takes_304 a3 a4 (gI M 70 a1.toNatClampNeg) (gI M 69 a1.toNatClampNeg) v2 t8.1 ((q11.1 * 10) + q13.1) t23 13 1 (sI (sI (sI (sI t27 100 9 (gI t27 67 ((10 * (gI M 70 a1.toNatClampNeg)) + a3).toNatClampNeg)) 100 10 a3) 100 11 a2) 100 12 ((q11.1 * 10) + q13.1))
          else
            t_mo_takes_304 a3 a4 (gI M 70 a1.toNatClampNeg) (gI M 69 a1.toNatClampNeg) v2 t8.1 ((q11.1 * 10) + q13.1) t23 13 0 (sI (sI (sI (sI t27 100 9 (gI t27 67 ((10 * (gI M 70 a1.toNatClampNeg)) + a3).toNatClampNeg)) 100 10 a3) 100 11 a2) 100 12 ((q11.1 * 10) + q13.1))
theorem w_b_mo_takes_37_72 (x1 : Int32) (x2 : Int32) (x3 : Int32) (x4 : Int32) (x5 : Int32) (x6 : Int32) (x7 : Int32) (x9 : Int32) (y0 : Int32) (y1 : Int32) (y2 : Int32)  (M : dM) {Q : mz_P} {o : ((Int32 × Int32 × dM) ⊕ (Int32 × dM))} (hf : b_mo_takes_37_72 x1 x2 x3 x4 x5 x6 x7 x9 y0 y1 y2 M = some o) (hk : K_mo_takes_37 Q x1 x2 x3 x4 x5 x6 x7 o) : mW mX12_takes 5 Q 72 [some (.ref 66), some (.int x1), some (.int x2), some (.int x3), some (.int x4), some (.int x5), some (.int x6), some (.int x7), none, some (.int x9), none, none, none] [.int y2, .int y1, .int y0] M := by
  unfold b_mo_takes_37_72 at hf
  refine y_icmp_ge (t := 82) (n := 75) ⟨dX12_takes_72, rfl, rfl⟩ (fun (hc : y2 ≤ y1) => ?_) (fun (hc : ¬ (y2 ≤ y1)) => ?_)
  · replace hf := i_t hc hf
    refine y_iconst (n := 83) (v := 0) ⟨dX12_takes_82, rfl⟩ ki_0 ?_
    refine y_ior (n := 84) ⟨dX12_takes_83, rfl⟩ ?_
    refine y_istore (i := 8) (n := 86) (L2 := [some (.ref 66), some (.int x1), some (.int x2), some (.int x3), some (.int x4), some (.int x5), some (.int x6), some (.int x7), some (.int (y0 ||| 0)), some (.int x9), none, none, none]) ⟨dX12_takes_84, rfl⟩ (by decide) rfl rfl ?_
    refine y_iinc (i := 9) (n := 89) (b := (x9 + 1)) (L2 := [some (.ref 66), some (.int x1), some (.int x2), some (.int x3), some (.int x4), some (.int x5), some (.int x6), some (.int x7), some (.int (y0 ||| 0)), some (.int (x9 + 1)), none, none, none]) ⟨dX12_takes_86, rfl⟩ rfl (by rw [ki_1]) (by decide) rfl rfl ?_
    refine y_goto (t := 37) ⟨dX12_takes_89, rfl, rfl⟩ ?_
    cases hf
    exact y_wk (L2 := [some (.ref 66), some (.int x1), some (.int x2), some (.int x3), some (.int x4), some (.int x5), some (.int x6), some (.int x7), some (.int (y0 ||| 0)), some (.int (x9 + 1)), none, none, none]) ⟨Or.inr rfl, Or.inr rfl, Or.inr rfl, Or.inr rfl, Or.inr rfl, Or.inr rfl, Or.inr rfl, Or.inr rfl, Or.inr rfl, Or.inr rfl, Or.inr rfl, Or.inr rfl, Or.inr rfl, trivial⟩ hk
  · replace hf := i_f hc hf
    refine y_iconst (n := 76) (v := 1) ⟨dX12_takes_75, rfl⟩ ki_1 ?_
    refine y_iload (i := 9) (n := 78) ⟨dX12_takes_76, rfl⟩ rfl ?_
    refine y_ishl (n := 79) ⟨dX12_takes_78, rfl⟩ ?_
    refine y_goto (t := 83) ⟨dX12_takes_79, rfl, rfl⟩ ?_
    refine y_ior (n := 84) ⟨dX12_takes_83, rfl⟩ ?_
    refine y_istore (i := 8) (n := 86) (L2 := [some (.ref 66), some (.int x1), some (.int x2), some (.int x3), some (.int x4), some (.int x5), some (.int x6), some (.int x7), some (.int (y0 ||| ((1 : Int32) <<< (x9 &&& 31)))), some (.int x9), none, none, none]) ⟨dX12_takes_84, rfl⟩ (by decide) rfl rfl ?_
    refine y_iinc (i := 9) (n := 89) (b := (x9 + 1)) (L2 := [some (.ref 66), some (.int x1), some (.int x2), some (.int x3), some (.int x4), some (.int x5), some (.int x6), some (.int x7), some (.int (y0 ||| ((1 : Int32) <<< (x9 &&& 31)))), some (.int (x9 + 1)), none, none, none]) ⟨dX12_takes_86, rfl⟩ rfl (by rw [ki_1]) (by decide) rfl rfl ?_
    refine y_goto (t := 37) ⟨dX12_takes_89, rfl, rfl⟩ ?_
    cases hf
    exact y_wk (L2 := [some (.ref 66), some (.int x1), some (.int x2), some (.int x3), some (.int x4), some (.int x5), some (.int x6), some (.int x7), some (.int (y0 ||| ((1 : Int32) <<< (x9 &&& 31)))), some (.int (x9 + 1)), none, none, none]) ⟨Or.inr rfl, Or.inr rfl, Or.inr rfl, Or.inr rfl, Or.inr rfl, Or.inr rfl, Or.inr rfl, Or.inr rfl, Or.inr rfl, Or.inr rfl, Or.inr rfl, Or.inr rfl, Or.inr rfl, trivial⟩ hk
theorem w_b_mo_takes_37_37 (x1 : Int32) (x2 : Int32) (x3 : Int32) (x4 : Int32) (x5 : Int32) (x6 : Int32) (x7 : Int32) (x8 : Int32) (x9 : Int32)  (M : dM) {Q : mz_P} {o : ((Int32 × Int32 × dM) ⊕ (Int32 × dM))} (hf : b_mo_takes_37_37 x1 x2 x3 x4 x5 x6 x7 x8 x9 M = some o) (hk : K_mo_takes_37 Q x1 x2 x3 x4 x5 x6 x7 o) : mW mX12_takes 5 Q 37 [some (.ref 66), some (.int x1), some (.int x2), some (.int x3), some (.int x4), some (.int x5), some (.int x6), some (.int x7), some (.int x8), some (.int x9), none, none, none] [] M := by
  unfold b_mo_takes_37_37 at hf
  refine y_iload (i := 9) (n := 39) ⟨dX12_takes_37, rfl⟩ rfl ?_
  refine y_bipush (n := 41) (v := 8) ⟨dX12_takes_39, rfl⟩ kb_8 ?_
  refine y_icmp_ge (t := 92) (n := 44) ⟨dX12_takes_41, rfl, rfl⟩ (fun (hc : 8 ≤ x9) => ?_) (fun (hc : ¬ (8 ≤ x9)) => ?_)
  · replace hf := i_t hc hf
    cases hf
    exact y_wk (L2 := [some (.ref 66), some (.int x1), some (.int x2), some (.int x3), some (.int x4), some (.int x5), some (.int x6), some (.int x7), some (.int x8), none, none, none, none]) ⟨Or.inr rfl, Or.inr rfl, Or.inr rfl, Or.inr rfl, Or.inr rfl, Or.inr rfl, Or.inr rfl, Or.inr rfl, Or.inr rfl, Or.inl rfl, Or.inr rfl, Or.inr rfl, Or.inr rfl, trivial⟩ hk
  · replace hf := i_f hc hf
    refine y_iload (i := 8) (n := 46) ⟨dX12_takes_44, rfl⟩ rfl ?_
    refine y_aload_n (i := 0) (n := 47) ⟨dX12_takes_46, rfl⟩ rfl ?_
    obtain ⟨q4, hv5, hf⟩ := b_s hf
    refine c_mo_draws M (n := 50) ⟨dX12_takes_47, rfl⟩ klX12_562 hv5 (by decide) (Nat.le_of_ble_eq_true rfl) rfl rfl ?_
    refine y_iload (i := 4) (n := 52) ⟨dX12_takes_50, rfl⟩ rfl ?_
    refine y_if_eq (t := 65) (n := 55) ⟨dX12_takes_52, rfl, rfl⟩ (fun (hc : x4 = 0) => ?_) (fun (hc : ¬ (x4 = 0)) => ?_)
    · replace hf := i_t hc hf
      refine y_aload_n (i := 0) (n := 66) ⟨dX12_takes_65, rfl⟩ rfl ?_
      refine y_getR (n := 69) ⟨dX12_takes_66, rfl⟩ kfX12_165 l_66 rfl r_66_83 ?_
      refine y_iload (i := 9) (n := 71) ⟨dX12_takes_69, rfl⟩ rfl ?_
      obtain ⟨hg6, hf⟩ := g_s hf
      refine y_iaload (n := 72) ⟨dX12_takes_71, rfl⟩ l_118 hg6 ?_
      exact y_wk (L2 := [some (.ref 66), some (.int x1), some (.int x2), some (.int x3), some (.int x4), some (.int x5), some (.int x6), some (.int x7), none, some (.int x9), none, none, none]) ⟨Or.inr rfl, Or.inr rfl, Or.inr rfl, Or.inr rfl, Or.inr rfl, Or.inr rfl, Or.inr rfl, Or.inr rfl, Or.inl rfl, Or.inr rfl, Or.inr rfl, Or.inr rfl, Or.inr rfl, trivial⟩ (w_b_mo_takes_37_72 x1 x2 x3 x4 x5 x6 x7 x9 x8 q4.1 (gI q4.2 118 x9.toNatClampNeg) q4.2 hf hk)
    · replace hf := i_f hc hf
      refine y_aload_n (i := 0) (n := 56) ⟨dX12_takes_55, rfl⟩ rfl ?_
      refine y_getR (n := 59) ⟨dX12_takes_56, rfl⟩ kfX12_168 l_66 rfl r_66_84 ?_
      refine y_iload (i := 9) (n := 61) ⟨dX12_takes_59, rfl⟩ rfl ?_
      obtain ⟨hg7, hf⟩ := g_s hf
      refine y_iaload (n := 62) ⟨dX12_takes_61, rfl⟩ l_119 hg7 ?_
      refine y_goto (t := 72) ⟨dX12_takes_62, rfl, rfl⟩ ?_
      exact y_wk (L2 := [some (.ref 66), some (.int x1), some (.int x2), some (.int x3), some (.int x4), some (.int x5), some (.int x6), some (.int x7), none, some (.int x9), none, none, none]) ⟨Or.inr rfl, Or.inr rfl, Or.inr rfl, Or.inr rfl, Or.inr rfl, Or.inr rfl, Or.inr rfl, Or.inr rfl, Or.inl rfl, Or.inr rfl, Or.inr rfl, Or.inr rfl, Or.inr rfl, trivial⟩ (w_b_mo_takes_37_72 x1 x2 x3 x4 x5 x6 x7 x9 x8 q4.1 (gI q4.2 119 x9.toNatClampNeg) q4.2 hf hk)
theorem wl_mo_takes_37 (x1 : Int32) (x2 : Int32) (x3 : Int32) (x4 : Int32) (x5 : Int32) (x6 : Int32) (x7 : Int32) (x8 : Int32) (x9 : Int32) (M : dM) {Q : mz_P} {x : (Int32 × dM)} (hf : l_mo_takes_37 x1 x2 x3 x4 x5 x6 x7 x8 x9 M = some x) (hk : K_mo_takes_37 Q x1 x2 x3 x4 x5 x6 x7 (.inr x)) : mW mX12_takes 5 Q 37 [some (.ref 66), some (.int x1), some (.int x2), some (.int x3), some (.int x4), some (.int x5), some (.int x6), some (.int x7), some (.int x8), some (.int x9), none, none, none] [] M :=
  lpc_wp (σ := (Int32 × Int32 × dM)) (ξ := (Int32 × dM)) (s := (x8, x9, M)) (Wh := fun s => mW mX12_takes 5 Q 37 [some (.ref 66), some (.int x1), some (.int x2), some (.int x3), some (.int x4), some (.int x5), some (.int x6), some (.int x7), some (.int s.1), some (.int s.2.1), none, none, none] [] s.2.2) (K := K_mo_takes_37 Q x1 x2 x3 x4 x5 x6 x7) (fun _ h => h) (fun s o hb hk => w_b_mo_takes_37_37 x1 x2 x3 x4 x5 x6 x7 s.1 s.2.1 s.2.2 hb hk) hf hk
theorem w_b_mo_takes_116_116 (x1 : Int32) (x2 : Int32) (x3 : Int32) (x4 : Int32) (x5 : Int32) (x6 : Int32) (x7 : Int32) (x8 : Int32) (x9 : Int32) (x10 : Int32) (x11 : Int32)  (M : dM) {Q : mz_P} {o : ((Int32 × Int32) ⊕ Int32)} (hf : b_mo_takes_116_116 x1 x2 x3 x4 x5 x6 x7 x8 x9 x10 x11 M = some o) (hk : K_mo_takes_116 Q x1 x2 x3 x4 x5 x6 x7 x8 x9 M o) : mW mX12_takes 5 Q 116 [some (.ref 66), some (.int x1), some (.int x2), some (.int x3), some (.int x4), some (.int x5), some (.int x6), some (.int x7), some (.int x8), some (.int x9), some (.int x10), some (.int x11), none] [] M := by
  unfold b_mo_takes_116_116 at hf
  refine y_iload (i := 11) (n := 118) ⟨dX12_takes_116, rfl⟩ rfl ?_
  refine y_aload_n (i := 0) (n := 119) ⟨dX12_takes_118, rfl⟩ rfl ?_
  refine y_getI (n := 122) ⟨dX12_takes_119, rfl⟩ kfX12_568 l_66 rfl ?_
  refine y_icmp_ge (t := 163) (n := 125) ⟨dX12_takes_122, rfl, rfl⟩ (fun (hc : (gI M 66 88) ≤ x11) => ?_) (fun (hc : ¬ ((gI M 66 88) ≤ x11)) => ?_)
  · replace hf := i_t hc hf
    cases hf
    exact y_wk (L2 := [some (.ref 66), some (.int x1), some (.int x2), some (.int x3), some (.int x4), some (.int x5), some (.int x6), some (.int x7), some (.int x8), some (.int x9), some (.int x10), none, none]) ⟨Or.inr rfl, Or.inr rfl, Or.inr rfl, Or.inr rfl, Or.inr rfl, Or.inr rfl, Or.inr rfl, Or.inr rfl, Or.inr rfl, Or.inr rfl, Or.inr rfl, Or.inl rfl, Or.inr rfl, trivial⟩ hk
  · replace hf := i_f hc hf
    refine y_iload (i := 10) (n := 127) ⟨dX12_takes_125, rfl⟩ rfl ?_
    refine y_aload_n (i := 0) (n := 128) ⟨dX12_takes_127, rfl⟩ rfl ?_
    refine y_getR (n := 131) ⟨dX12_takes_128, rfl⟩ kfX12_192 l_66 rfl r_66_94 ?_
    refine y_iload (i := 11) (n := 133) ⟨dX12_takes_131, rfl⟩ rfl ?_
    obtain ⟨hg15, hf⟩ := g_s hf
    refine y_iaload (n := 134) ⟨dX12_takes_133, rfl⟩ l_127 hg15 ?_
    refine y_aload_n (i := 0) (n := 135) ⟨dX12_takes_134, rfl⟩ rfl ?_
    refine y_getR (n := 138) ⟨dX12_takes_135, rfl⟩ kfX12_7 l_66 rfl r_66_1 ?_
    refine y_bipush (n := 140) (v := 10) ⟨dX12_takes_138, rfl⟩ kb_10 ?_
    refine y_iload (i := 5) (n := 142) ⟨dX12_takes_140, rfl⟩ rfl ?_
    refine y_imul (n := 143) ⟨dX12_takes_142, rfl⟩ ?_
    refine y_iload_n (i := 3) (n := 144) ⟨dX12_takes_143, rfl⟩ rfl ?_
    refine y_iadd (n := 145) ⟨dX12_takes_144, rfl⟩ ?_
    obtain ⟨hg16, hf⟩ := g_s hf
    refine y_iaload (n := 146) ⟨dX12_takes_145, rfl⟩ l_67 hg16 ?_
    refine y_icmp_lt (t := 153) (n := 149) ⟨dX12_takes_146, rfl, rfl⟩ (fun (hc : (gI M 127 x11.toNatClampNeg) < (gI M 67 ((10 * x5) + x3).toNatClampNeg)) => ?_) (fun (hc : ¬ ((gI M 127 x11.toNatClampNeg) < (gI M 67 ((10 * x5) + x3).toNatClampNeg))) => ?_)
    · replace hf := i_t hc hf
      refine y_iconst (n := 154) (v := 0) ⟨dX12_takes_153, rfl⟩ ki_0 ?_
      refine y_iadd (n := 155) ⟨dX12_takes_154, rfl⟩ ?_
      refine y_istore (i := 10) (n := 157) (L2 := [some (.ref 66), some (.int x1), some (.int x2), some (.int x3), some (.int x4), some (.int x5), some (.int x6), some (.int x7), some (.int x8), some (.int x9), some (.int (x10 + 0)), some (.int x11), none]) ⟨dX12_takes_155, rfl⟩ (by decide) rfl rfl ?_
      refine y_iinc (i := 11) (n := 160) (b := (x11 + 1)) (L2 := [some (.ref 66), some (.int x1), some (.int x2), some (.int x3), some (.int x4), some (.int x5), some (.int x6), some (.int x7), some (.int x8), some (.int x9), some (.int (x10 + 0)), some (.int (x11 + 1)), none]) ⟨dX12_takes_157, rfl⟩ rfl (by rw [ki_1]) (by decide) rfl rfl ?_
      refine y_goto (t := 116) ⟨dX12_takes_160, rfl, rfl⟩ ?_
      cases hf
      exact y_wk (L2 := [some (.ref 66), some (.int x1), some (.int x2), some (.int x3), some (.int x4), some (.int x5), some (.int x6), some (.int x7), some (.int x8), some (.int x9), some (.int (x10 + 0)), some (.int (x11 + 1)), none]) ⟨Or.inr rfl, Or.inr rfl, Or.inr rfl, Or.inr rfl, Or.inr rfl, Or.inr rfl, Or.inr rfl, Or.inr rfl, Or.inr rfl, Or.inr rfl, Or.inr rfl, Or.inr rfl, Or.inr rfl, trivial⟩ hk
    · replace hf := i_f hc hf
      refine y_iconst (n := 150) (v := 1) ⟨dX12_takes_149, rfl⟩ ki_1 ?_
      refine y_goto (t := 154) ⟨dX12_takes_150, rfl, rfl⟩ ?_
      refine y_iadd (n := 155) ⟨dX12_takes_154, rfl⟩ ?_
      refine y_istore (i := 10) (n := 157) (L2 := [some (.ref 66), some (.int x1), some (.int x2), some (.int x3), some (.int x4), some (.int x5), some (.int x6), some (.int x7), some (.int x8), some (.int x9), some (.int (x10 + 1)), some (.int x11), none]) ⟨dX12_takes_155, rfl⟩ (by decide) rfl rfl ?_
      refine y_iinc (i := 11) (n := 160) (b := (x11 + 1)) (L2 := [some (.ref 66), some (.int x1), some (.int x2), some (.int x3), some (.int x4), some (.int x5), some (.int x6), some (.int x7), some (.int x8), some (.int x9), some (.int (x10 + 1)), some (.int (x11 + 1)), none]) ⟨dX12_takes_157, rfl⟩ rfl (by rw [ki_1]) (by decide) rfl rfl ?_
      refine y_goto (t := 116) ⟨dX12_takes_160, rfl, rfl⟩ ?_
      cases hf
      exact y_wk (L2 := [some (.ref 66), some (.int x1), some (.int x2), some (.int x3), some (.int x4), some (.int x5), some (.int x6), some (.int x7), some (.int x8), some (.int x9), some (.int (x10 + 1)), some (.int (x11 + 1)), none]) ⟨Or.inr rfl, Or.inr rfl, Or.inr rfl, Or.inr rfl, Or.inr rfl, Or.inr rfl, Or.inr rfl, Or.inr rfl, Or.inr rfl, Or.inr rfl, Or.inr rfl, Or.inr rfl, Or.inr rfl, trivial⟩ hk
theorem wl_mo_takes_116 (x1 : Int32) (x2 : Int32) (x3 : Int32) (x4 : Int32) (x5 : Int32) (x6 : Int32) (x7 : Int32) (x8 : Int32) (x9 : Int32) (x10 : Int32) (x11 : Int32) (M : dM) {Q : mz_P} {x : Int32} (hf : l_mo_takes_116 x1 x2 x3 x4 x5 x6 x7 x8 x9 x10 x11 M = some x) (hk : K_mo_takes_116 Q x1 x2 x3 x4 x5 x6 x7 x8 x9 M (.inr x)) : mW mX12_takes 5 Q 116 [some (.ref 66), some (.int x1), some (.int x2), some (.int x3), some (.int x4), some (.int x5), some (.int x6), some (.int x7), some (.int x8), some (.int x9), some (.int x10), some (.int x11), none] [] M :=
  lpc_wp (σ := (Int32 × Int32)) (ξ := Int32) (s := (x10, x11)) (Wh := fun s => mW mX12_takes 5 Q 116 [some (.ref 66), some (.int x1), some (.int x2), some (.int x3), some (.int x4), some (.int x5), some (.int x6), some (.int x7), some (.int x8), some (.int x9), some (.int s.1), some (.int s.2), none] [] M) (K := K_mo_takes_116 Q x1 x2 x3 x4 x5 x6 x7 x8 x9 M) (fun _ h => h) (fun s o hb hk => w_b_mo_takes_116_116 x1 x2 x3 x4 x5 x6 x7 x8 x9 s.1 s.2 M hb hk) hf hk
theorem w_b_mo_takes_169_169 (x1 : Int32) (x2 : Int32) (x3 : Int32) (x4 : Int32) (x5 : Int32) (x6 : Int32) (x7 : Int32) (x8 : Int32) (x9 : Int32) (x10 : Int32) (x11 : Int32) (x12 : Int32)  (M : dM) {Q : mz_P} {o : ((Int32 × Int32) ⊕ Int32)} (hf : b_mo_takes_169_169 x1 x2 x3 x4 x5 x6 x7 x8 x9 x10 x11 x12 M = some o) (hk : K_mo_takes_169 Q x1 x2 x3 x4 x5 x6 x7 x8 x9 x10 M o) : mW mX12_takes 5 Q 169 [some (.ref 66), some (.int x1), some (.int x2), some (.int x3), some (.int x4), some (.int x5), some (.int x6), some (.int x7), some (.int x8), some (.int x9), some (.int x10), some (.int x11), some (.int x12)] [] M := by
  unfold b_mo_takes_169_169 at hf
  refine y_iload (i := 12) (n := 171) ⟨dX12_takes_169, rfl⟩ rfl ?_
  refine y_iload_n (i := 2) (n := 172) ⟨dX12_takes_171, rfl⟩ rfl ?_
  refine y_icmp_ge (t := 212) (n := 175) ⟨dX12_takes_172, rfl, rfl⟩ (fun (hc : x2 ≤ x12) => ?_) (fun (hc : ¬ (x2 ≤ x12)) => ?_)
  · replace hf := i_t hc hf
    cases hf
    exact y_wk (L2 := [some (.ref 66), none, some (.int x2), some (.int x3), some (.int x4), some (.int x5), some (.int x6), some (.int x7), some (.int x8), some (.int x9), some (.int x10), some (.int x11), none]) ⟨Or.inr rfl, Or.inl rfl, Or.inr rfl, Or.inr rfl, Or.inr rfl, Or.inr rfl, Or.inr rfl, Or.inr rfl, Or.inr rfl, Or.inr rfl, Or.inr rfl, Or.inr rfl, Or.inl rfl, trivial⟩ hk
  · replace hf := i_f hc hf
    refine y_iload (i := 11) (n := 177) ⟨dX12_takes_175, rfl⟩ rfl ?_
    refine y_aload_n (i := 0) (n := 178) ⟨dX12_takes_177, rfl⟩ rfl ?_
    refine y_iload (i := 5) (n := 180) ⟨dX12_takes_178, rfl⟩ rfl ?_
    refine y_aload_n (i := 0) (n := 181) ⟨dX12_takes_180, rfl⟩ rfl ?_
    refine y_getR (n := 184) ⟨dX12_takes_181, rfl⟩ kfX12_22 l_66 rfl r_66_6 ?_
    refine y_iload_n (i := 1) (n := 185) ⟨dX12_takes_184, rfl⟩ rfl ?_
    obtain ⟨hg20, hf⟩ := g_s hf
    refine y_iaload (n := 186) ⟨dX12_takes_185, rfl⟩ l_71 hg20 ?_
    refine y_iload (i := 12) (n := 188) ⟨dX12_takes_186, rfl⟩ rfl ?_
    obtain ⟨v21, hv22, hf⟩ := b_s hf
    refine c_mo_presentAt x5 (gI M 71 x1.toNatClampNeg) x12 M (n := 191) ⟨dX12_takes_188, rfl⟩ klX12_231 hv22 (by decide) (Nat.le_of_ble_eq_true rfl) rfl rfl ?_
    refine y_iconst (n := 192) (v := 1) ⟨dX12_takes_191, rfl⟩ ki_1 ?_
    refine y_iload (i := 6) (n := 194) ⟨dX12_takes_192, rfl⟩ rfl ?_
    refine y_ishl (n := 195) ⟨dX12_takes_194, rfl⟩ ?_
    refine y_icmp_ne (t := 202) (n := 198) ⟨dX12_takes_195, rfl, rfl⟩ (fun (hc : ¬ (v21 = ((1 : Int32) <<< (x6 &&& 31)))) => ?_) (fun (hc : v21 = ((1 : Int32) <<< (x6 &&& 31))) => ?_)
    · replace hf := i_f hc hf
      refine y_iconst (n := 203) (v := 0) ⟨dX12_takes_202, rfl⟩ ki_0 ?_
      refine y_iadd (n := 204) ⟨dX12_takes_203, rfl⟩ ?_
      refine y_istore (i := 11) (n := 206) (L2 := [some (.ref 66), some (.int x1), some (.int x2), some (.int x3), some (.int x4), some (.int x5), some (.int x6), some (.int x7), some (.int x8), some (.int x9), some (.int x10), some (.int (x11 + 0)), some (.int x12)]) ⟨dX12_takes_204, rfl⟩ (by decide) rfl rfl ?_
      refine y_iinc (i := 12) (n := 209) (b := (x12 + 1)) (L2 := [some (.ref 66), some (.int x1), some (.int x2), some (.int x3), some (.int x4), some (.int x5), some (.int x6), some (.int x7), some (.int x8), some (.int x9), some (.int x10), some (.int (x11 + 0)), some (.int (x12 + 1))]) ⟨dX12_takes_206, rfl⟩ rfl (by rw [ki_1]) (by decide) rfl rfl ?_
      refine y_goto (t := 169) ⟨dX12_takes_209, rfl, rfl⟩ ?_
      cases hf
      exact y_wk (L2 := [some (.ref 66), some (.int x1), some (.int x2), some (.int x3), some (.int x4), some (.int x5), some (.int x6), some (.int x7), some (.int x8), some (.int x9), some (.int x10), some (.int (x11 + 0)), some (.int (x12 + 1))]) ⟨Or.inr rfl, Or.inr rfl, Or.inr rfl, Or.inr rfl, Or.inr rfl, Or.inr rfl, Or.inr rfl, Or.inr rfl, Or.inr rfl, Or.inr rfl, Or.inr rfl, Or.inr rfl, Or.inr rfl, trivial⟩ hk
    · replace hf := i_t hc hf
      refine y_iconst (n := 199) (v := 1) ⟨dX12_takes_198, rfl⟩ ki_1 ?_
      refine y_goto (t := 203) ⟨dX12_takes_199, rfl, rfl⟩ ?_
      refine y_iadd (n := 204) ⟨dX12_takes_203, rfl⟩ ?_
      refine y_istore (i := 11) (n := 206) (L2 := [some (.ref 66), some (.int x1), some (.int x2), some (.int x3), some (.int x4), some (.int x5), some (.int x6), some (.int x7), some (.int x8), some (.int x9), some (.int x10), some (.int (x11 + 1)), some (.int x12)]) ⟨dX12_takes_204, rfl⟩ (by decide) rfl rfl ?_
      refine y_iinc (i := 12) (n := 209) (b := (x12 + 1)) (L2 := [some (.ref 66), some (.int x1), some (.int x2), some (.int x3), some (.int x4), some (.int x5), some (.int x6), some (.int x7), some (.int x8), some (.int x9), some (.int x10), some (.int (x11 + 1)), some (.int (x12 + 1))]) ⟨dX12_takes_206, rfl⟩ rfl (by rw [ki_1]) (by decide) rfl rfl ?_
      refine y_goto (t := 169) ⟨dX12_takes_209, rfl, rfl⟩ ?_
      cases hf
      exact y_wk (L2 := [some (.ref 66), some (.int x1), some (.int x2), some (.int x3), some (.int x4), some (.int x5), some (.int x6), some (.int x7), some (.int x8), some (.int x9), some (.int x10), some (.int (x11 + 1)), some (.int (x12 + 1))]) ⟨Or.inr rfl, Or.inr rfl, Or.inr rfl, Or.inr rfl, Or.inr rfl, Or.inr rfl, Or.inr rfl, Or.inr rfl, Or.inr rfl, Or.inr rfl, Or.inr rfl, Or.inr rfl, Or.inr rfl, trivial⟩ hk
theorem wl_mo_takes_169 (x1 : Int32) (x2 : Int32) (x3 : Int32) (x4 : Int32) (x5 : Int32) (x6 : Int32) (x7 : Int32) (x8 : Int32) (x9 : Int32) (x10 : Int32) (x11 : Int32) (x12 : Int32) (M : dM) {Q : mz_P} {x : Int32} (hf : l_mo_takes_169 x1 x2 x3 x4 x5 x6 x7 x8 x9 x10 x11 x12 M = some x) (hk : K_mo_takes_169 Q x1 x2 x3 x4 x5 x6 x7 x8 x9 x10 M (.inr x)) : mW mX12_takes 5 Q 169 [some (.ref 66), some (.int x1), some (.int x2), some (.int x3), some (.int x4), some (.int x5), some (.int x6), some (.int x7), some (.int x8), some (.int x9), some (.int x10), some (.int x11), some (.int x12)] [] M :=
  lpc_wp (σ := (Int32 × Int32)) (ξ := Int32) (s := (x11, x12)) (Wh := fun s => mW mX12_takes 5 Q 169 [some (.ref 66), some (.int x1), some (.int x2), some (.int x3), some (.int x4), some (.int x5), some (.int x6), some (.int x7), some (.int x8), some (.int x9), some (.int x10), some (.int s.1), some (.int s.2)] [] M) (K := K_mo_takes_169 Q x1 x2 x3 x4 x5 x6 x7 x8 x9 x10 M) (fun _ h => h) (fun s o hb hk => w_b_mo_takes_169_169 x1 x2 x3 x4 x5 x6 x7 x8 x9 x10 s.1 s.2 M hb hk) hf hk
theorem w_b_mo_takes_215_215 (x2 : Int32) (x3 : Int32) (x4 : Int32) (x5 : Int32) (x6 : Int32) (x7 : Int32) (x8 : Int32) (x9 : Int32) (x10 : Int32) (x11 : Int32) (x12 : Int32)  (M : dM) {Q : mz_P} {o : ((Int32 × dM) ⊕ dM)} (hf : b_mo_takes_215_215 x2 x3 x4 x5 x6 x7 x8 x9 x10 x11 x12 M = some o) (hk : K_mo_takes_215 Q x2 x3 x4 x5 x6 x7 x8 x9 x10 x11 o) : mW mX12_takes 5 Q 215 [some (.ref 66), none, some (.int x2), some (.int x3), some (.int x4), some (.int x5), some (.int x6), some (.int x7), some (.int x8), some (.int x9), some (.int x10), some (.int x11), some (.int x12)] [] M := by
  unfold b_mo_takes_215_215 at hf
  refine y_iload (i := 12) (n := 217) ⟨dX12_takes_215, rfl⟩ rfl ?_
  refine y_bipush (n := 219) (v := 8) ⟨dX12_takes_217, rfl⟩ kb_8 ?_
  refine y_icmp_ge (t := 244) (n := 222) ⟨dX12_takes_219, rfl, rfl⟩ (fun (hc : 8 ≤ x12) => ?_) (fun (hc : ¬ (8 ≤ x12)) => ?_)
  · replace hf := i_t hc hf
    cases hf
    exact y_wk (L2 := [some (.ref 66), none, some (.int x2), some (.int x3), some (.int x4), some (.int x5), some (.int x6), some (.int x7), some (.int x8), some (.int x9), some (.int x10), some (.int x11), none]) ⟨Or.inr rfl, Or.inr rfl, Or.inr rfl, Or.inr rfl, Or.inr rfl, Or.inr rfl, Or.inr rfl, Or.inr rfl, Or.inr rfl, Or.inr rfl, Or.inr rfl, Or.inr rfl, Or.inl rfl, trivial⟩ hk
  · replace hf := i_f hc hf
    refine y_aload_n (i := 0) (n := 223) ⟨dX12_takes_222, rfl⟩ rfl ?_
    refine y_getR (n := 226) ⟨dX12_takes_223, rfl⟩ kfX12_110 l_66 rfl r_66_50 ?_
    refine y_iconst (n := 227) (v := 1) ⟨dX12_takes_226, rfl⟩ ki_1 ?_
    refine y_iload (i := 12) (n := 229) ⟨dX12_takes_227, rfl⟩ rfl ?_
    refine y_iadd (n := 230) ⟨dX12_takes_229, rfl⟩ ?_
    refine y_iload (i := 8) (n := 232) ⟨dX12_takes_230, rfl⟩ rfl ?_
    refine y_iload (i := 12) (n := 234) ⟨dX12_takes_232, rfl⟩ rfl ?_
    refine y_ishr (n := 235) ⟨dX12_takes_234, rfl⟩ ?_
    refine y_iconst (n := 236) (v := 1) ⟨dX12_takes_235, rfl⟩ ki_1 ?_
    refine y_iand (n := 237) ⟨dX12_takes_236, rfl⟩ ?_
    obtain ⟨hg26, hf⟩ := g_s hf
    refine y_iastore (n := 238) ⟨dX12_takes_237, rfl⟩ l_100 hg26 ?_
    refine y_iinc (i := 12) (n := 241) (b := (x12 + 1)) (L2 := [some (.ref 66), none, some (.int x2), some (.int x3), some (.int x4), some (.int x5), some (.int x6), some (.int x7), some (.int x8), some (.int x9), some (.int x10), some (.int x11), some (.int (x12 + 1))]) ⟨dX12_takes_238, rfl⟩ rfl (by rw [ki_1]) (by decide) rfl rfl ?_
    refine y_goto (t := 215) ⟨dX12_takes_241, rfl, rfl⟩ ?_
    cases hf
    exact y_wk (L2 := [some (.ref 66), none, some (.int x2), some (.int x3), some (.int x4), some (.int x5), some (.int x6), some (.int x7), some (.int x8), some (.int x9), some (.int x10), some (.int x11), some (.int (x12 + 1))]) ⟨Or.inr rfl, Or.inr rfl, Or.inr rfl, Or.inr rfl, Or.inr rfl, Or.inr rfl, Or.inr rfl, Or.inr rfl, Or.inr rfl, Or.inr rfl, Or.inr rfl, Or.inr rfl, Or.inr rfl, trivial⟩ hk
theorem wl_mo_takes_215 (x2 : Int32) (x3 : Int32) (x4 : Int32) (x5 : Int32) (x6 : Int32) (x7 : Int32) (x8 : Int32) (x9 : Int32) (x10 : Int32) (x11 : Int32) (x12 : Int32) (M : dM) {Q : mz_P} {x : dM} (hf : l_mo_takes_215 x2 x3 x4 x5 x6 x7 x8 x9 x10 x11 x12 M = some x) (hk : K_mo_takes_215 Q x2 x3 x4 x5 x6 x7 x8 x9 x10 x11 (.inr x)) : mW mX12_takes 5 Q 215 [some (.ref 66), none, some (.int x2), some (.int x3), some (.int x4), some (.int x5), some (.int x6), some (.int x7), some (.int x8), some (.int x9), some (.int x10), some (.int x11), some (.int x12)] [] M :=
  lpc_wp (σ := (Int32 × dM)) (ξ := dM) (s := (x12, M)) (Wh := fun s => mW mX12_takes 5 Q 215 [some (.ref 66), none, some (.int x2), some (.int x3), some (.int x4), some (.int x5), some (.int x6), some (.int x7), some (.int x8), some (.int x9), some (.int x10), some (.int x11), some (.int s.1)] [] s.2) (K := K_mo_takes_215 Q x2 x3 x4 x5 x6 x7 x8 x9 x10 x11) (fun _ h => h) (fun s o hb hk => w_b_mo_takes_215_215 x2 x3 x4 x5 x6 x7 x8 x9 x10 x11 s.1 s.2 hb hk) hf hk
theorem w_t_mo_takes_325 (x3 : Int32) (x4 : Int32) (x5 : Int32) (x6 : Int32) (x7 : Int32) (x8 : Int32) (x9 : Int32) (x11 : Int32) (y1 : Int32) (y2 : Int32) (M : dM) {Q : mz_P} {o : dM} (hf : t_mo_takes_325 x3 x4 x5 x6 x7 x8 x9 x11 y1 y2 M = some o) (hk : mR Q none o) : mW mX12_takes 5 Q 325 [some (.ref 66), none, none, some (.int x3), some (.int x4), some (.int x5), some (.int x6), some (.int x7), some (.int x8), some (.int x9), none, some (.int x11), none] [.int y2, .int y1, .ref 100] M := by
  unfold t_mo_takes_325 at hf
  obtain ⟨hg32, hf⟩ := g_s hf
  refine y_iastore (n := 326) ⟨dX12_takes_325, rfl⟩ l_100 hg32 ?_
  refine y_aload_n (i := 0) (n := 327) ⟨dX12_takes_326, rfl⟩ rfl ?_
  refine y_getR (n := 330) ⟨dX12_takes_327, rfl⟩ kfX12_110 l_66 rfl r_66_50 ?_
  refine y_bipush (n := 332) (v := 15) ⟨dX12_takes_330, rfl⟩ kb_15 ?_
  refine y_iload (i := 11) (n := 334) ⟨dX12_takes_332, rfl⟩ rfl ?_
  refine y_iastore (n := 335) ⟨dX12_takes_334, rfl⟩ l_100 (by unfold vp_in; decide) ?_
  refine y_aload_n (i := 0) (n := 336) ⟨dX12_takes_335, rfl⟩ rfl ?_
  refine y_getR (n := 339) ⟨dX12_takes_336, rfl⟩ kfX12_110 l_66 rfl r_66_50 ?_
  refine y_bipush (n := 341) (v := 16) ⟨dX12_takes_339, rfl⟩ kb_16 ?_
  refine y_iload (i := 7) (n := 343) ⟨dX12_takes_341, rfl⟩ rfl ?_
  obtain ⟨v33, hv34, hf⟩ := b_s hf
  refine c_mo_bits x7 (sI (sI M 100 y1.toNatClampNeg y2) 100 15 x11) (n := 346) ⟨dX12_takes_343, rfl⟩ klX12_242 hv34 (by decide) (Nat.le_of_ble_eq_true rfl) rfl rfl ?_
  refine y_iconst (n := 347) (v := 1) ⟨dX12_takes_346, rfl⟩ ki_1 ?_
  refine y_isub (n := 348) ⟨dX12_takes_347, rfl⟩ ?_
  refine y_iastore (n := 349) ⟨dX12_takes_348, rfl⟩ l_100 (by unfold vp_in; decide) ?_
  refine y_aload_n (i := 0) (n := 350) ⟨dX12_takes_349, rfl⟩ rfl ?_
  refine y_getR (n := 353) ⟨dX12_takes_350, rfl⟩ kfX12_110 l_66 rfl r_66_50 ?_
  refine y_bipush (n := 355) (v := 17) ⟨dX12_takes_353, rfl⟩ kb_17 ?_
  refine y_iconst (n := 356) (v := 0) ⟨dX12_takes_355, rfl⟩ ki_0 ?_
  refine y_iastore (n := 357) ⟨dX12_takes_356, rfl⟩ l_100 (by unfold vp_in; decide) ?_
  refine y_aload_n (i := 0) (n := 358) ⟨dX12_takes_357, rfl⟩ rfl ?_
  refine y_getR (n := 361) ⟨dX12_takes_358, rfl⟩ kfX12_177 l_66 rfl r_66_89 ?_
  refine y_aload_n (i := 0) (n := 362) ⟨dX12_takes_361, rfl⟩ rfl ?_
  refine y_getI (n := 365) ⟨dX12_takes_362, rfl⟩ kfX12_568 l_66 rfl ?_
  refine y_iload (i := 4) (n := 367) ⟨dX12_takes_365, rfl⟩ rfl ?_
  obtain ⟨hg35, hf⟩ := g_s hf
  refine y_bastore (x' := vp_nar .boolean x4) (n := 368) ⟨dX12_takes_367, rfl⟩ l_122 hg35 rfl ?_
  refine y_aload_n (i := 0) (n := 369) ⟨dX12_takes_368, rfl⟩ rfl ?_
  refine y_getR (n := 372) ⟨dX12_takes_369, rfl⟩ kfX12_180 l_66 rfl r_66_90 ?_
  refine y_aload_n (i := 0) (n := 373) ⟨dX12_takes_372, rfl⟩ rfl ?_
  refine y_getI (n := 376) ⟨dX12_takes_373, rfl⟩ kfX12_568 l_66 rfl ?_
  refine y_iload (i := 8) (n := 378) ⟨dX12_takes_376, rfl⟩ rfl ?_
  obtain ⟨hg36, hf⟩ := g_s hf
  refine y_iastore (n := 379) ⟨dX12_takes_378, rfl⟩ l_123 hg36 ?_
  refine y_aload_n (i := 0) (n := 380) ⟨dX12_takes_379, rfl⟩ rfl ?_
  refine y_getR (n := 383) ⟨dX12_takes_380, rfl⟩ kfX12_183 l_66 rfl r_66_91 ?_
  refine y_aload_n (i := 0) (n := 384) ⟨dX12_takes_383, rfl⟩ rfl ?_
  refine y_getI (n := 387) ⟨dX12_takes_384, rfl⟩ kfX12_568 l_66 rfl ?_
  refine y_iload_n (i := 3) (n := 388) ⟨dX12_takes_387, rfl⟩ rfl ?_
  obtain ⟨hg37, hf⟩ := g_s hf
  refine y_iastore (n := 389) ⟨dX12_takes_388, rfl⟩ l_124 hg37 ?_
  refine y_aload_n (i := 0) (n := 390) ⟨dX12_takes_389, rfl⟩ rfl ?_
  refine y_getR (n := 393) ⟨dX12_takes_390, rfl⟩ kfX12_186 l_66 rfl r_66_92 ?_
  refine y_aload_n (i := 0) (n := 394) ⟨dX12_takes_393, rfl⟩ rfl ?_
  refine y_getI (n := 397) ⟨dX12_takes_394, rfl⟩ kfX12_568 l_66 rfl ?_
  refine y_iload (i := 6) (n := 399) ⟨dX12_takes_397, rfl⟩ rfl ?_
  obtain ⟨hg38, hf⟩ := g_s hf
  refine y_iastore (n := 400) ⟨dX12_takes_399, rfl⟩ l_125 hg38 ?_
  refine y_aload_n (i := 0) (n := 401) ⟨dX12_takes_400, rfl⟩ rfl ?_
  refine y_getR (n := 404) ⟨dX12_takes_401, rfl⟩ kfX12_189 l_66 rfl r_66_93 ?_
  refine y_aload_n (i := 0) (n := 405) ⟨dX12_takes_404, rfl⟩ rfl ?_
  refine y_getI (n := 408) ⟨dX12_takes_405, rfl⟩ kfX12_568 l_66 rfl ?_
  refine y_iload (i := 9) (n := 410) ⟨dX12_takes_408, rfl⟩ rfl ?_
  obtain ⟨hg39, hf⟩ := g_s hf
  refine y_iastore (n := 411) ⟨dX12_takes_410, rfl⟩ l_126 hg39 ?_
  refine y_aload_n (i := 0) (n := 412) ⟨dX12_takes_411, rfl⟩ rfl ?_
  refine y_getR (n := 415) ⟨dX12_takes_412, rfl⟩ kfX12_192 l_66 rfl r_66_94 ?_
  refine y_aload_n (i := 0) (n := 416) ⟨dX12_takes_415, rfl⟩ rfl ?_
  refine y_getI (n := 419) ⟨dX12_takes_416, rfl⟩ kfX12_568 l_66 rfl ?_
  refine y_aload_n (i := 0) (n := 420) ⟨dX12_takes_419, rfl⟩ rfl ?_
  refine y_getR (n := 423) ⟨dX12_takes_420, rfl⟩ kfX12_7 l_66 rfl r_66_1 ?_
  refine y_bipush (n := 425) (v := 10) ⟨dX12_takes_423, rfl⟩ kb_10 ?_
  refine y_iload (i := 5) (n := 427) ⟨dX12_takes_425, rfl⟩ rfl ?_
  refine y_imul (n := 428) ⟨dX12_takes_427, rfl⟩ ?_
  refine y_iload_n (i := 3) (n := 429) ⟨dX12_takes_428, rfl⟩ rfl ?_
  refine y_iadd (n := 430) ⟨dX12_takes_429, rfl⟩ ?_
  obtain ⟨hg40, hf⟩ := g_s hf
  refine y_iaload (n := 431) ⟨dX12_takes_430, rfl⟩ l_67 hg40 ?_
  obtain ⟨hg41, hf⟩ := g_s hf
  refine y_iastore (n := 432) ⟨dX12_takes_431, rfl⟩ l_127 hg41 ?_
  refine y_aload_n (i := 0) (n := 433) ⟨dX12_takes_432, rfl⟩ rfl ?_
  refine y_getR (n := 436) ⟨dX12_takes_433, rfl⟩ kfX12_195 l_66 rfl r_66_95 ?_
  refine y_aload_n (i := 0) (n := 437) ⟨dX12_takes_436, rfl⟩ rfl ?_
  refine y_getI (n := 440) ⟨dX12_takes_437, rfl⟩ kfX12_568 l_66 rfl ?_
  refine y_aload_n (i := 0) (n := 441) ⟨dX12_takes_440, rfl⟩ rfl ?_
  obtain ⟨q42, hv43, hf⟩ := b_s hf
  refine c_mo_judged (sI (sI (sI (sI (sI (sI (sI (sI (sI (sI M 100 y1.toNatClampNeg y2) 100 15 x11) 100 16 (v33 - 1)) 100 17 0) 122 (gI (sI (sI (sI (sI M 100 y1.toNatClampNeg y2) 100 15 x11) 100 16 (v33 - 1)) 100 17 0) 66 88).toNatClampNeg (vp_nar .boolean x4)) 123 (gI (sI (sI (sI (sI (sI M 100 y1.toNatClampNeg y2) 100 15 x11) 100 16 (v33 - 1)) 100 17 0) 122 (gI (sI (sI (sI (sI M 100 y1.toNatClampNeg y2) 100 15 x11) 100 16 (v33 - 1)) 100 17 0) 66 88).toNatClampNeg (vp_nar .boolean x4)) 66 88).toNatClampNeg x8) 124 (gI (sI (sI (sI (sI (sI (sI M 100 y1.toNatClampNeg y2) 100 15 x11) 100 16 (v33 - 1)) 100 17 0) 122 (gI (sI (sI (sI (sI M 100 y1.toNatClampNeg y2) 100 15 x11) 100 16 (v33 - 1)) 100 17 0) 66 88).toNatClampNeg (vp_nar .boolean x4)) 123 (gI (sI (sI (sI (sI (sI M 100 y1.toNatClampNeg y2) 100 15 x11) 100 16 (v33 - 1)) 100 17 0) 122 (gI (sI (sI (sI (sI M 100 y1.toNatClampNeg y2) 100 15 x11) 100 16 (v33 - 1)) 100 17 0) 66 88).toNatClampNeg (vp_nar .boolean x4)) 66 88).toNatClampNeg x8) 66 88).toNatClampNeg x3) 125 (gI (sI (sI (sI (sI (sI (sI (sI M 100 y1.toNatClampNeg y2) 100 15 x11) 100 16 (v33 - 1)) 100 17 0) 122 (gI (sI (sI (sI (sI M 100 y1.toNatClampNeg y2) 100 15 x11) 100 16 (v33 - 1)) 100 17 0) 66 88).toNatClampNeg (vp_nar .boolean x4)) 123 (gI (sI (sI (sI (sI (sI M 100 y1.toNatClampNeg y2) 100 15 x11) 100 16 (v33 - 1)) 100 17 0) 122 (gI (sI (sI (sI (sI M 100 y1.toNatClampNeg y2) 100 15 x11) 100 16 (v33 - 1)) 100 17 0) 66 88).toNatClampNeg (vp_nar .boolean x4)) 66 88).toNatClampNeg x8) 124 (gI (sI (sI (sI (sI (sI (sI M 100 y1.toNatClampNeg y2) 100 15 x11) 100 16 (v33 - 1)) 100 17 0) 122 (gI (sI (sI (sI (sI M 100 y1.toNatClampNeg y2) 100 15 x11) 100 16 (v33 - 1)) 100 17 0) 66 88).toNatClampNeg (vp_nar .boolean x4)) 123 (gI (sI (sI (sI (sI (sI M 100 y1.toNatClampNeg y2) 100 15 x11) 100 16 (v33 - 1)) 100 17 0) 122 (gI (sI (sI (sI (sI M 100 y1.toNatClampNeg y2) 100 15 x11) 100 16 (v33 - 1)) 100 17 0) 66 88).toNatClampNeg (vp_nar .boolean x4)) 66 88).toNatClampNeg x8) 66 88).toNatClampNeg x3) 66 88).toNatClampNeg x6) 126 (gI (sI (sI (sI (sI (sI (sI (sI (sI M 100 y1.toNatClampNeg y2) 100 15 x11) 100 16 (v33 - 1)) 100 17 0) 122 (gI (sI (sI (sI (sI M 100 y1.toNatClampNeg y2) 100 15 x11) 100 16 (v33 - 1)) 100 17 0) 66 88).toNatClampNeg (vp_nar .boolean x4)) 123 (gI (sI (sI (sI (sI (sI M 100 y1.toNatClampNeg y2) 100 15 x11) 100 16 (v33 - 1)) 100 17 0) 122 (gI (sI (sI (sI (sI M 100 y1.toNatClampNeg y2) 100 15 x11) 100 16 (v33 - 1)) 100 17 0) 66 88).toNatClampNeg (vp_nar .boolean x4)) 66 88).toNatClampNeg x8) 124 (gI (sI (sI (sI (sI (sI (sI M 100 y1.toNatClampNeg y2) 100 15 x11) 100 16 (v33 - 1)) 100 17 0) 122 (gI (sI (sI (sI (sI M 100 y1.toNatClampNeg y2) 100 15 x11) 100 16 (v33 - 1)) 100 17 0) 66 88).toNatClampNeg (vp_nar .boolean x4)) 123 (gI (sI (sI (sI (sI (sI M 100 y1.toNatClampNeg y2) 100 15 x11) 100 16 (v33 - 1)) 100 17 0) 122 (gI (sI (sI (sI (sI M 100 y1.toNatClampNeg y2) 100 15 x11) 100 16 (v33 - 1)) 100 17 0) 66 88).toNatClampNeg (vp_nar .boolean x4)) 66 88).toNatClampNeg x8) 66 88).toNatClampNeg x3) 125 (gI (sI (sI (sI (sI (sI (sI (sI M 100 y1.toNatClampNeg y2) 100 15 x11) 100 16 (v33 - 1)) 100 17 0) 122 (gI (sI (sI (sI (sI M 100 y1.toNatClampNeg y2) 100 15 x11) 100 16 (v33 - 1)) 100 17 0) 66 88).toNatClampNeg (vp_nar .boolean x4)) 123 (gI (sI (sI (sI (sI (sI M 100 y1.toNatClampNeg y2) 100 15 x11) 100 16 (v33 - 1)) 100 17 0) 122 (gI (sI (sI (sI (sI M 100 y1.toNatClampNeg y2) 100 15 x11) 100 16 (v33 - 1)) 100 17 0) 66 88).toNatClampNeg (vp_nar .boolean x4)) 66 88).toNatClampNeg x8) 124 (gI (sI (sI (sI (sI (sI (sI M 100 y1.toNatClampNeg y2) 100 15 x11) 100 16 (v33 - 1)) 100 17 0) 122 (gI (sI (sI (sI (sI M 100 y1.toNatClampNeg y2) 100 15 x11) 100 16 (v33 - 1)) 100 17 0) 66 88).toNatClampNeg (vp_nar .boolean x4)) 123 (gI (sI (sI (sI (sI (sI M 100 y1.toNatClampNeg y2) 100 15 x11) 100 16 (v33 - 1)) 100 17 0) 122 (gI (sI (sI (sI (sI M 100 y1.toNatClampNeg y2) 100 15 x11) 100 16 (v33 - 1)) 100 17 0) 66 88).toNatClampNeg (vp_nar .boolean x4)) 66 88).toNatClampNeg x8) 66 88).toNatClampNeg x3) 66 88).toNatClampNeg x6) 66 88).toNatClampNeg x9) 127 (gI (sI (sI (sI (sI (sI (sI (sI (sI (sI M 100 y1.toNatClampNeg y2) 100 15 x11) 100 16 (v33 - 1)) 100 17 0) 122 (gI (sI (sI (sI (sI M 100 y1.toNatClampNeg y2) 100 15 x11) 100 16 (v33 - 1)) 100 17 0) 66 88).toNatClampNeg (vp_nar .boolean x4)) 123 (gI (sI (sI (sI (sI (sI M 100 y1.toNatClampNeg y2) 100 15 x11) 100 16 (v33 - 1)) 100 17 0) 122 (gI (sI (sI (sI (sI M 100 y1.toNatClampNeg y2) 100 15 x11) 100 16 (v33 - 1)) 100 17 0) 66 88).toNatClampNeg (vp_nar .boolean x4)) 66 88).toNatClampNeg x8) 124 (gI (sI (sI (sI (sI (sI (sI M 100 y1.toNatClampNeg y2) 100 15 x11) 100 16 (v33 - 1)) 100 17 0) 122 (gI (sI (sI (sI (sI M 100 y1.toNatClampNeg y2) 100 15 x11) 100 16 (v33 - 1)) 100 17 0) 66 88).toNatClampNeg (vp_nar .boolean x4)) 123 (gI (sI (sI (sI (sI (sI M 100 y1.toNatClampNeg y2) 100 15 x11) 100 16 (v33 - 1)) 100 17 0) 122 (gI (sI (sI (sI (sI M 100 y1.toNatClampNeg y2) 100 15 x11) 100 16 (v33 - 1)) 100 17 0) 66 88).toNatClampNeg (vp_nar .boolean x4)) 66 88).toNatClampNeg x8) 66 88).toNatClampNeg x3) 125 (gI (sI (sI (sI (sI (sI (sI (sI M 100 y1.toNatClampNeg y2) 100 15 x11) 100 16 (v33 - 1)) 100 17 0) 122 (gI (sI (sI (sI (sI M 100 y1.toNatClampNeg y2) 100 15 x11) 100 16 (v33 - 1)) 100 17 0) 66 88).toNatClampNeg (vp_nar .boolean x4)) 123 (gI (sI (sI (sI (sI (sI M 100 y1.toNatClampNeg y2) 100 15 x11) 100 16 (v33 - 1)) 100 17 0) 122 (gI (sI (sI (sI (sI M 100 y1.toNatClampNeg y2) 100 15 x11) 100 16 (v33 - 1)) 100 17 0) 66 88).toNatClampNeg (vp_nar .boolean x4)) 66 88).toNatClampNeg x8) 124 (gI (sI (sI (sI (sI (sI (sI M 100 y1.toNatClampNeg y2) 100 15 x11) 100 16 (v33 - 1)) 100 17 0) 122 (gI (sI (sI (sI (sI M 100 y1.toNatClampNeg y2) 100 15 x11) 100 16 (v33 - 1)) 100 17 0) 66 88).toNatClampNeg (vp_nar .boolean x4)) 123 (gI (sI (sI (sI (sI (sI M 100 y1.toNatClampNeg y2) 100 15 x11) 100 16 (v33 - 1)) 100 17 0) 122 (gI (sI (sI (sI (sI M 100 y1.toNatClampNeg y2) 100 15 x11) 100 16 (v33 - 1)) 100 17 0) 66 88).toNatClampNeg (vp_nar .boolean x4)) 66 88).toNatClampNeg x8) 66 88).toNatClampNeg x3) 66 88).toNatClampNeg x6) 126 (gI (sI (sI (sI (sI (sI (sI (sI (sI M 100 y1.toNatClampNeg y2) 100 15 x11) 100 16 (v33 - 1)) 100 17 0) 122 (gI (sI (sI (sI (sI M 100 y1.toNatClampNeg y2) 100 15 x11) 100 16 (v33 - 1)) 100 17 0) 66 88).toNatClampNeg (vp_nar .boolean x4)) 123 (gI (sI (sI (sI (sI (sI M 100 y1.toNatClampNeg y2) 100 15 x11) 100 16 (v33 - 1)) 100 17 0) 122 (gI (sI (sI (sI (sI M 100 y1.toNatClampNeg y2) 100 15 x11) 100 16 (v33 - 1)) 100 17 0) 66 88).toNatClampNeg (vp_nar .boolean x4)) 66 88).toNatClampNeg x8) 124 (gI (sI (sI (sI (sI (sI (sI M 100 y1.toNatClampNeg y2) 100 15 x11) 100 16 (v33 - 1)) 100 17 0) 122 (gI (sI (sI (sI (sI M 100 y1.toNatClampNeg y2) 100 15 x11) 100 16 (v33 - 1)) 100 17 0) 66 88).toNatClampNeg (vp_nar .boolean x4)) 123 (gI (sI (sI (sI (sI (sI M 100 y1.toNatClampNeg y2) 100 15 x11) 100 16 (v33 - 1)) 100 17 0) 122 (gI (sI (sI (sI (sI M 100 y1.toNatClampNeg y2) 100 15 x11) 100 16 (v33 - 1)) 100 17 0) 66 88).toNatClampNeg (vp_nar .boolean x4)) 66 88).toNatClampNeg x8) 66 88).toNatClampNeg x3) 125 (gI (sI (sI (sI (sI (sI (sI (sI M 100 y1.toNatClampNeg y2) 100 15 x11) 100 16 (v33 - 1)) 100 17 0) 122 (gI (sI (sI (sI (sI M 100 y1.toNatClampNeg y2) 100 15 x11) 100 16 (v33 - 1)) 100 17 0) 66 88).toNatClampNeg (vp_nar .boolean x4)) 123 (gI (sI (sI (sI (sI (sI M 100 y1.toNatClampNeg y2) 100 15 x11) 100 16 (v33 - 1)) 100 17 0) 122 (gI (sI (sI (sI (sI M 100 y1.toNatClampNeg y2) 100 15 x11) 100 16 (v33 - 1)) 100 17 0) 66 88).toNatClampNeg (vp_nar .boolean x4)) 66 88).toNatClampNeg x8) 124 (gI (sI (sI (sI (sI (sI (sI M 100 y1.toNatClampNeg y2) 100 15 x11) 100 16 (v33 - 1)) 100 17 0) 122 (gI (sI (sI (sI (sI M 100 y1.toNatClampNeg y2) 100 15 x11) 100 16 (v33 - 1)) 100 17 0) 66 88).toNatClampNeg (vp_nar .boolean x4)) 123 (gI (sI (sI (sI (sI (sI M 100 y1.toNatClampNeg y2) 100 15 x11) 100 16 (v33 - 1)) 100 17 0) 122 (gI (sI (sI (sI (sI M 100 y1.toNatClampNeg y2) 100 15 x11) 100 16 (v33 - 1)) 100 17 0) 66 88).toNatClampNeg (vp_nar .boolean x4)) 66 88).toNatClampNeg x8) 66 88).toNatClampNeg x3) 66 88).toNatClampNeg x6) 66 88).toNatClampNeg x9) 66 88).toNatClampNeg (gI (sI (sI (sI (sI (sI (sI (sI (sI (sI M 100 y1.toNatClampNeg y2) 100 15 x11) 100 16 (v33 - 1)) 100 17 0) 122 (gI (sI (sI (sI (sI M 100 y1.toNatClampNeg y2) 100 15 x11) 100 16 (v33 - 1)) 100 17 0) 66 88).toNatClampNeg (vp_nar .boolean x4)) 123 (gI (sI (sI (sI (sI (sI M 100 y1.toNatClampNeg y2) 100 15 x11) 100 16 (v33 - 1)) 100 17 0) 122 (gI (sI (sI (sI (sI M 100 y1.toNatClampNeg y2) 100 15 x11) 100 16 (v33 - 1)) 100 17 0) 66 88).toNatClampNeg (vp_nar .boolean x4)) 66 88).toNatClampNeg x8) 124 (gI (sI (sI (sI (sI (sI (sI M 100 y1.toNatClampNeg y2) 100 15 x11) 100 16 (v33 - 1)) 100 17 0) 122 (gI (sI (sI (sI (sI M 100 y1.toNatClampNeg y2) 100 15 x11) 100 16 (v33 - 1)) 100 17 0) 66 88).toNatClampNeg (vp_nar .boolean x4)) 123 (gI (sI (sI (sI (sI (sI M 100 y1.toNatClampNeg y2) 100 15 x11) 100 16 (v33 - 1)) 100 17 0) 122 (gI (sI (sI (sI (sI M 100 y1.toNatClampNeg y2) 100 15 x11) 100 16 (v33 - 1)) 100 17 0) 66 88).toNatClampNeg (vp_nar .boolean x4)) 66 88).toNatClampNeg x8) 66 88).toNatClampNeg x3) 125 (gI (sI (sI (sI (sI (sI (sI (sI M 100 y1.toNatClampNeg y2) 100 15 x11) 100 16 (v33 - 1)) 100 17 0) 122 (gI (sI (sI (sI (sI M 100 y1.toNatClampNeg y2) 100 15 x11) 100 16 (v33 - 1)) 100 17 0) 66 88).toNatClampNeg (vp_nar .boolean x4)) 123 (gI (sI (sI (sI (sI (sI M 100 y1.toNatClampNeg y2) 100 15 x11) 100 16 (v33 - 1)) 100 17 0) 122 (gI (sI (sI (sI (sI M 100 y1.toNatClampNeg y2) 100 15 x11) 100 16 (v33 - 1)) 100 17 0) 66 88).toNatClampNeg (vp_nar .boolean x4)) 66 88).toNatClampNeg x8) 124 (gI (sI (sI (sI (sI (sI (sI M 100 y1.toNatClampNeg y2) 100 15 x11) 100 16 (v33 - 1)) 100 17 0) 122 (gI (sI (sI (sI (sI M 100 y1.toNatClampNeg y2) 100 15 x11) 100 16 (v33 - 1)) 100 17 0) 66 88).toNatClampNeg (vp_nar .boolean x4)) 123 (gI (sI (sI (sI (sI (sI M 100 y1.toNatClampNeg y2) 100 15 x11) 100 16 (v33 - 1)) 100 17 0) 122 (gI (sI (sI (sI (sI M 100 y1.toNatClampNeg y2) 100 15 x11) 100 16 (v33 - 1)) 100 17 0) 66 88).toNatClampNeg (vp_nar .boolean x4)) 66 88).toNatClampNeg x8) 66 88).toNatClampNeg x3) 66 88).toNatClampNeg x6) 126 (gI (sI (sI (sI (sI (sI (sI (sI (sI M 100 y1.toNatClampNeg y2) 100 15 x11) 100 16 (v33 - 1)) 100 17 0) 122 (gI (sI (sI (sI (sI M 100 y1.toNatClampNeg y2) 100 15 x11) 100 16 (v33 - 1)) 100 17 0) 66 88).toNatClampNeg (vp_nar .boolean x4)) 123 (gI (sI (sI (sI (sI (sI M 100 y1.toNatClampNeg y2) 100 15 x11) 100 16 (v33 - 1)) 100 17 0) 122 (gI (sI (sI (sI (sI M 100 y1.toNatClampNeg y2) 100 15 x11) 100 16 (v33 - 1)) 100 17 0) 66 88).toNatClampNeg (vp_nar .boolean x4)) 66 88).toNatClampNeg x8) 124 (gI (sI (sI (sI (sI (sI (sI M 100 y1.toNatClampNeg y2) 100 15 x11) 100 16 (v33 - 1)) 100 17 0) 122 (gI (sI (sI (sI (sI M 100 y1.toNatClampNeg y2) 100 15 x11) 100 16 (v33 - 1)) 100 17 0) 66 88).toNatClampNeg (vp_nar .boolean x4)) 123 (gI (sI (sI (sI (sI (sI M 100 y1.toNatClampNeg y2) 100 15 x11) 100 16 (v33 - 1)) 100 17 0) 122 (gI (sI (sI (sI (sI M 100 y1.toNatClampNeg y2) 100 15 x11) 100 16 (v33 - 1)) 100 17 0) 66 88).toNatClampNeg (vp_nar .boolean x4)) 66 88).toNatClampNeg x8) 66 88).toNatClampNeg x3) 125 (gI (sI (sI (sI (sI (sI (sI (sI M 100 y1.toNatClampNeg y2) 100 15 x11) 100 16 (v33 - 1)) 100 17 0) 122 (gI (sI (sI (sI (sI M 100 y1.toNatClampNeg y2) 100 15 x11) 100 16 (v33 - 1)) 100 17 0) 66 88).toNatClampNeg (vp_nar .boolean x4)) 123 (gI (sI (sI (sI (sI (sI M 100 y1.toNatClampNeg y2) 100 15 x11) 100 16 (v33 - 1)) 100 17 0) 122 (gI (sI (sI (sI (sI M 100 y1.toNatClampNeg y2) 100 15 x11) 100 16 (v33 - 1)) 100 17 0) 66 88).toNatClampNeg (vp_nar .boolean x4)) 66 88).toNatClampNeg x8) 124 (gI (sI (sI (sI (sI (sI (sI M 100 y1.toNatClampNeg y2) 100 15 x11) 100 16 (v33 - 1)) 100 17 0) 122 (gI (sI (sI (sI (sI M 100 y1.toNatClampNeg y2) 100 15 x11) 100 16 (v33 - 1)) 100 17 0) 66 88).toNatClampNeg (vp_nar .boolean x4)) 123 (gI (sI (sI (sI (sI (sI M 100 y1.toNatClampNeg y2) 100 15 x11) 100 16 (v33 - 1)) 100 17 0) 122 (gI (sI (sI (sI (sI M 100 y1.toNatClampNeg y2) 100 15 x11) 100 16 (v33 - 1)) 100 17 0) 66 88).toNatClampNeg (vp_nar .boolean x4)) 66 88).toNatClampNeg x8) 66 88).toNatClampNeg x3) 66 88).toNatClampNeg x6) 66 88).toNatClampNeg x9) 67 ((10 * x5) + x3).toNatClampNeg)) (n := 444) ⟨dX12_takes_441, rfl⟩ klX12_432 hv43 (by decide) (Nat.le_of_ble_eq_true rfl) rfl rfl ?_
  obtain ⟨hg44, hf⟩ := g_s hf
  refine y_iastore (n := 445) ⟨dX12_takes_444, rfl⟩ l_128 hg44 ?_
  refine y_aload_n (i := 0) (n := 446) ⟨dX12_takes_445, rfl⟩ rfl ?_
  refine y_dup_r (n := 447) ⟨dX12_takes_446, rfl⟩ ?_
  refine y_getI (n := 450) ⟨dX12_takes_447, rfl⟩ kfX12_568 l_66 rfl ?_
  refine y_iconst (n := 451) (v := 1) ⟨dX12_takes_450, rfl⟩ ki_1 ?_
  refine y_iadd (n := 452) ⟨dX12_takes_451, rfl⟩ ?_
  refine y_putI (n := 455) ⟨dX12_takes_452, rfl⟩ kfX12_568 l_66 (by decide +kernel) rfl ?_
  cases hf
  exact y_return (n := 456) ⟨dX12_takes_455, rfl⟩ rfl hk
theorem w_t_mo_takes_304 (x3 : Int32) (x4 : Int32) (x5 : Int32) (x6 : Int32) (x7 : Int32) (x8 : Int32) (x9 : Int32) (x11 : Int32) (y1 : Int32) (y2 : Int32) (M : dM) {Q : mz_P} {o : dM} (hf : t_mo_takes_304 x3 x4 x5 x6 x7 x8 x9 x11 y1 y2 M = some o) (hk : mR Q none o) : mW mX12_takes 5 Q 304 [some (.ref 66), none, none, some (.int x3), some (.int x4), some (.int x5), some (.int x6), some (.int x7), some (.int x8), some (.int x9), none, some (.int x11), none] [.int y2, .int y1, .ref 100] M := by
  unfold t_mo_takes_304 at hf
  obtain ⟨hg31, hf⟩ := g_s hf
  refine y_iastore (n := 305) ⟨dX12_takes_304, rfl⟩ l_100 hg31 ?_
  refine y_aload_n (i := 0) (n := 306) ⟨dX12_takes_305, rfl⟩ rfl ?_
  refine y_getR (n := 309) ⟨dX12_takes_306, rfl⟩ kfX12_110 l_66 rfl r_66_50 ?_
  refine y_bipush (n := 311) (v := 14) ⟨dX12_takes_309, rfl⟩ kb_14 ?_
  refine y_iload (i := 7) (n := 313) ⟨dX12_takes_311, rfl⟩ rfl ?_
  refine y_iconst (n := 314) (v := 1) ⟨dX12_takes_313, rfl⟩ ki_1 ?_
  refine y_iload (i := 6) (n := 316) ⟨dX12_takes_314, rfl⟩ rfl ?_
  refine y_ishl (n := 317) ⟨dX12_takes_316, rfl⟩ ?_
  refine y_icmp_ne (t := 324) (n := 320) ⟨dX12_takes_317, rfl, rfl⟩ (fun (hc : ¬ (x7 = ((1 : Int32) <<< (x6 &&& 31)))) => ?_) (fun (hc : x7 = ((1 : Int32) <<< (x6 &&& 31))) => ?_)
  · replace hf := i_f hc hf
    refine y_iconst (n := 325) (v := 0) ⟨dX12_takes_324, rfl⟩ ki_0 ?_
    exact y_wk (L2 := [some (.ref 66), none, none, some (.int x3), some (.int x4), some (.int x5), some (.int x6), some (.int x7), some (.int x8), some (.int x9), none, some (.int x11), none]) ⟨Or.inr rfl, Or.inr rfl, Or.inr rfl, Or.inr rfl, Or.inr rfl, Or.inr rfl, Or.inr rfl, Or.inr rfl, Or.inr rfl, Or.inr rfl, Or.inr rfl, Or.inr rfl, Or.inr rfl, trivial⟩ (w_t_mo_takes_325 x3 x4 x5 x6 x7 x8 x9 x11 14 0 (sI M 100 y1.toNatClampNeg y2) hf hk)
  · replace hf := i_t hc hf
    refine y_iconst (n := 321) (v := 1) ⟨dX12_takes_320, rfl⟩ ki_1 ?_
    refine y_goto (t := 325) ⟨dX12_takes_321, rfl, rfl⟩ ?_
    exact y_wk (L2 := [some (.ref 66), none, none, some (.int x3), some (.int x4), some (.int x5), some (.int x6), some (.int x7), some (.int x8), some (.int x9), none, some (.int x11), none]) ⟨Or.inr rfl, Or.inr rfl, Or.inr rfl, Or.inr rfl, Or.inr rfl, Or.inr rfl, Or.inr rfl, Or.inr rfl, Or.inr rfl, Or.inr rfl, Or.inr rfl, Or.inr rfl, Or.inr rfl, trivial⟩ (w_t_mo_takes_325 x3 x4 x5 x6 x7 x8 x9 x11 14 1 (sI M 100 y1.toNatClampNeg y2) hf hk)
theorem ok_mo_takes (a1 : Int32) (a2 : Int32) (a3 : Int32) (a4 : Int32) (M : dM) {o : dM} (hf : f_mo_takes a1 a2 a3 a4 M = some o) : mO mX12_takes 5 [.ref 66, .int a1, .int a2, .int a3, .int a4] M none o := by
  refine y_ok (by decide +kernel) (Nat.le_of_ble_eq_true rfl) (L0 := [some (.ref 66), some (.int a1), some (.int a2), some (.int a3), some (.int a4), none, none, none, none, none, none, none, none]) rfl ?_
  have hk := mR_mQ none o
  generalize mQ _ _ = Q at hk ⊢
  unfold f_mo_takes at hf
  refine y_aload_n (i := 0) (n := 1) ⟨dX12_takes_0, rfl⟩ rfl ?_
  refine y_getR (n := 4) ⟨dX12_takes_1, rfl⟩ kfX12_19 l_66 rfl r_66_5 ?_
  refine y_iload_n (i := 1) (n := 5) ⟨dX12_takes_4, rfl⟩ rfl ?_
  obtain ⟨hg1, hf⟩ := g_s hf
  refine y_iaload (n := 6) ⟨dX12_takes_5, rfl⟩ l_70 hg1 ?_
  refine y_istore (i := 5) (n := 8) (L2 := [some (.ref 66), some (.int a1), some (.int a2), some (.int a3), some (.int a4), some (.int (gI M 70 a1.toNatClampNeg)), none, none, none, none, none, none, none]) ⟨dX12_takes_6, rfl⟩ (by decide) rfl rfl ?_
  refine y_aload_n (i := 0) (n := 9) ⟨dX12_takes_8, rfl⟩ rfl ?_
  refine y_getR (n := 12) ⟨dX12_takes_9, rfl⟩ kfX12_16 l_66 rfl r_66_4 ?_
  refine y_iload_n (i := 1) (n := 13) ⟨dX12_takes_12, rfl⟩ rfl ?_
  refine y_iaload (n := 14) ⟨dX12_takes_13, rfl⟩ l_69 hg1 ?_
  refine y_istore (i := 6) (n := 16) (L2 := [some (.ref 66), some (.int a1), some (.int a2), some (.int a3), some (.int a4), some (.int (gI M 70 a1.toNatClampNeg)), some (.int (gI M 69 a1.toNatClampNeg)), none, none, none, none, none, none]) ⟨dX12_takes_14, rfl⟩ (by decide) rfl rfl ?_
  refine y_aload_n (i := 0) (n := 17) ⟨dX12_takes_16, rfl⟩ rfl ?_
  refine y_iload (i := 5) (n := 19) ⟨dX12_takes_17, rfl⟩ rfl ?_
  refine y_aload_n (i := 0) (n := 20) ⟨dX12_takes_19, rfl⟩ rfl ?_
  refine y_getR (n := 23) ⟨dX12_takes_20, rfl⟩ kfX12_22 l_66 rfl r_66_6 ?_
  refine y_iload_n (i := 1) (n := 24) ⟨dX12_takes_23, rfl⟩ rfl ?_
  refine y_iaload (n := 25) ⟨dX12_takes_24, rfl⟩ l_71 hg1 ?_
  refine y_iload_n (i := 2) (n := 26) ⟨dX12_takes_25, rfl⟩ rfl ?_
  obtain ⟨v2, hv3, hf⟩ := b_s hf
  refine c_mo_presentAt (gI M 70 a1.toNatClampNeg) (gI M 71 a1.toNatClampNeg) a2 M (n := 29) ⟨dX12_takes_26, rfl⟩ klX12_231 hv3 (by decide) (Nat.le_of_ble_eq_true rfl) rfl rfl ?_
  refine y_istore (i := 7) (n := 31) (L2 := [some (.ref 66), some (.int a1), some (.int a2), some (.int a3), some (.int a4), some (.int (gI M 70 a1.toNatClampNeg)), some (.int (gI M 69 a1.toNatClampNeg)), some (.int v2), none, none, none, none, none]) ⟨dX12_takes_29, rfl⟩ (by decide) rfl rfl ?_
  refine y_iconst (n := 32) (v := 0) ⟨dX12_takes_31, rfl⟩ ki_0 ?_
  refine y_istore (i := 8) (n := 34) (L2 := [some (.ref 66), some (.int a1), some (.int a2), some (.int a3), some (.int a4), some (.int (gI M 70 a1.toNatClampNeg)), some (.int (gI M 69 a1.toNatClampNeg)), some (.int v2), some (.int 0), none, none, none, none]) ⟨dX12_takes_32, rfl⟩ (by decide) rfl rfl ?_
  refine y_iconst (n := 35) (v := 0) ⟨dX12_takes_34, rfl⟩ ki_0 ?_
  refine y_istore (i := 9) (n := 37) (L2 := [some (.ref 66), some (.int a1), some (.int a2), some (.int a3), some (.int a4), some (.int (gI M 70 a1.toNatClampNeg)), some (.int (gI M 69 a1.toNatClampNeg)), some (.int v2), some (.int 0), some (.int 0), none, none, none]) ⟨dX12_takes_35, rfl⟩ (by decide) rfl rfl ?_
  obtain ⟨t8, hl9, hf⟩ := b_s hf
  refine y_wk (L2 := [some (.ref 66), some (.int a1), some (.int a2), some (.int a3), some (.int a4), some (.int (gI M 70 a1.toNatClampNeg)), some (.int (gI M 69 a1.toNatClampNeg)), some (.int v2), some (.int 0), some (.int 0), none, none, none]) ⟨Or.inr rfl, Or.inr rfl, Or.inr rfl, Or.inr rfl, Or.inr rfl, Or.inr rfl, Or.inr rfl, Or.inr rfl, Or.inr rfl, Or.inr rfl, Or.inr rfl, Or.inr rfl, Or.inr rfl, trivial⟩ (wl_mo_takes_37 a1 a2 a3 a4 (gI M 70 a1.toNatClampNeg) (gI M 69 a1.toNatClampNeg) v2 0 0 M hl9 ?_)
  show mW mX12_takes 5 Q 92 [some (.ref 66), some (.int a1), some (.int a2), some (.int a3), some (.int a4), some (.int (gI M 70 a1.toNatClampNeg)), some (.int (gI M 69 a1.toNatClampNeg)), some (.int v2), some (.int t8.1), none, none, none, none] [] t8.2
  refine y_aload_n (i := 0) (n := 93) ⟨dX12_takes_92, rfl⟩ rfl ?_
  obtain ⟨q11, hv12, hf⟩ := b_s hf
  refine c_mo_draws t8.2 (n := 96) ⟨dX12_takes_93, rfl⟩ klX12_562 hv12 (by decide) (Nat.le_of_ble_eq_true rfl) rfl rfl ?_
  refine y_bipush (n := 98) (v := 10) ⟨dX12_takes_96, rfl⟩ kb_10 ?_
  refine y_imul (n := 99) ⟨dX12_takes_98, rfl⟩ ?_
  refine y_istore (i := 9) (n := 101) (L2 := [some (.ref 66), some (.int a1), some (.int a2), some (.int a3), some (.int a4), some (.int (gI M 70 a1.toNatClampNeg)), some (.int (gI M 69 a1.toNatClampNeg)), some (.int v2), some (.int t8.1), some (.int (q11.1 * 10)), none, none, none]) ⟨dX12_takes_99, rfl⟩ (by decide) rfl rfl ?_
  refine y_iload (i := 9) (n := 103) ⟨dX12_takes_101, rfl⟩ rfl ?_
  refine y_aload_n (i := 0) (n := 104) ⟨dX12_takes_103, rfl⟩ rfl ?_
  obtain ⟨q13, hv14, hf⟩ := b_s hf
  refine c_mo_draws q11.2 (n := 107) ⟨dX12_takes_104, rfl⟩ klX12_562 hv14 (by decide) (Nat.le_of_ble_eq_true rfl) rfl rfl ?_
  refine y_iadd (n := 108) ⟨dX12_takes_107, rfl⟩ ?_
  refine y_istore (i := 9) (n := 110) (L2 := [some (.ref 66), some (.int a1), some (.int a2), some (.int a3), some (.int a4), some (.int (gI M 70 a1.toNatClampNeg)), some (.int (gI M 69 a1.toNatClampNeg)), some (.int v2), some (.int t8.1), some (.int ((q11.1 * 10) + q13.1)), none, none, none]) ⟨dX12_takes_108, rfl⟩ (by decide) rfl rfl ?_
  refine y_iconst (n := 111) (v := 0) ⟨dX12_takes_110, rfl⟩ ki_0 ?_
  refine y_istore (i := 10) (n := 113) (L2 := [some (.ref 66), some (.int a1), some (.int a2), some (.int a3), some (.int a4), some (.int (gI M 70 a1.toNatClampNeg)), some (.int (gI M 69 a1.toNatClampNeg)), some (.int v2), some (.int t8.1), some (.int ((q11.1 * 10) + q13.1)), some (.int 0), none, none]) ⟨dX12_takes_111, rfl⟩ (by decide) rfl rfl ?_
  refine y_iconst (n := 114) (v := 0) ⟨dX12_takes_113, rfl⟩ ki_0 ?_
  refine y_istore (i := 11) (n := 116) (L2 := [some (.ref 66), some (.int a1), some (.int a2), some (.int a3), some (.int a4), some (.int (gI M 70 a1.toNatClampNeg)), some (.int (gI M 69 a1.toNatClampNeg)), some (.int v2), some (.int t8.1), some (.int ((q11.1 * 10) + q13.1)), some (.int 0), some (.int 0), none]) ⟨dX12_takes_114, rfl⟩ (by decide) rfl rfl ?_
  obtain ⟨t17, hl18, hf⟩ := b_s hf
  refine y_wk (L2 := [some (.ref 66), some (.int a1), some (.int a2), some (.int a3), some (.int a4), some (.int (gI M 70 a1.toNatClampNeg)), some (.int (gI M 69 a1.toNatClampNeg)), some (.int v2), some (.int t8.1), some (.int ((q11.1 * 10) + q13.1)), some (.int 0), some (.int 0), none]) ⟨Or.inr rfl, Or.inr rfl, Or.inr rfl, Or.inr rfl, Or.inr rfl, Or.inr rfl, Or.inr rfl, Or.inr rfl, Or.inr rfl, Or.inr rfl, Or.inr rfl, Or.inr rfl, Or.inr rfl, trivial⟩ (wl_mo_takes_116 a1 a2 a3 a4 (gI M 70 a1.toNatClampNeg) (gI M 69 a1.toNatClampNeg) v2 t8.1 ((q11.1 * 10) + q13.1) 0 0 q13.2 hl18 ?_)
  show mW mX12_takes 5 Q 163 [some (.ref 66), some (.int a1), some (.int a2), some (.int a3), some (.int a4), some (.int (gI M 70 a1.toNatClampNeg)), some (.int (gI M 69 a1.toNatClampNeg)), some (.int v2), some (.int t8.1), some (.int ((q11.1 * 10) + q13.1)), some (.int t17), none, none] [] q13.2
  refine y_iconst (n := 164) (v := 0) ⟨dX12_takes_163, rfl⟩ ki_0 ?_
  refine y_istore (i := 11) (n := 166) (L2 := [some (.ref 66), some (.int a1), some (.int a2), some (.int a3), some (.int a4), some (.int (gI M 70 a1.toNatClampNeg)), some (.int (gI M 69 a1.toNatClampNeg)), some (.int v2), some (.int t8.1), some (.int ((q11.1 * 10) + q13.1)), some (.int t17), some (.int 0), none]) ⟨dX12_takes_164, rfl⟩ (by decide) rfl rfl ?_
  refine y_iconst (n := 167) (v := 0) ⟨dX12_takes_166, rfl⟩ ki_0 ?_
  refine y_istore (i := 12) (n := 169) (L2 := [some (.ref 66), some (.int a1), some (.int a2), some (.int a3), some (.int a4), some (.int (gI M 70 a1.toNatClampNeg)), some (.int (gI M 69 a1.toNatClampNeg)), some (.int v2), some (.int t8.1), some (.int ((q11.1 * 10) + q13.1)), some (.int t17), some (.int 0), some (.int 0)]) ⟨dX12_takes_167, rfl⟩ (by decide) rfl rfl ?_
  obtain ⟨t23, hl24, hf⟩ := b_s hf
  refine y_wk (L2 := [some (.ref 66), some (.int a1), some (.int a2), some (.int a3), some (.int a4), some (.int (gI M 70 a1.toNatClampNeg)), some (.int (gI M 69 a1.toNatClampNeg)), some (.int v2), some (.int t8.1), some (.int ((q11.1 * 10) + q13.1)), some (.int t17), some (.int 0), some (.int 0)]) ⟨Or.inr rfl, Or.inr rfl, Or.inr rfl, Or.inr rfl, Or.inr rfl, Or.inr rfl, Or.inr rfl, Or.inr rfl, Or.inr rfl, Or.inr rfl, Or.inr rfl, Or.inr rfl, Or.inr rfl, trivial⟩ (wl_mo_takes_169 a1 a2 a3 a4 (gI M 70 a1.toNatClampNeg) (gI M 69 a1.toNatClampNeg) v2 t8.1 ((q11.1 * 10) + q13.1) t17 0 0 q13.2 hl24 ?_)
  show mW mX12_takes 5 Q 212 [some (.ref 66), none, some (.int a2), some (.int a3), some (.int a4), some (.int (gI M 70 a1.toNatClampNeg)), some (.int (gI M 69 a1.toNatClampNeg)), some (.int v2), some (.int t8.1), some (.int ((q11.1 * 10) + q13.1)), some (.int t17), some (.int t23), none] [] q13.2
  refine y_iconst (n := 213) (v := 0) ⟨dX12_takes_212, rfl⟩ ki_0 ?_
  refine y_istore (i := 12) (n := 215) (L2 := [some (.ref 66), none, some (.int a2), some (.int a3), some (.int a4), some (.int (gI M 70 a1.toNatClampNeg)), some (.int (gI M 69 a1.toNatClampNeg)), some (.int v2), some (.int t8.1), some (.int ((q11.1 * 10) + q13.1)), some (.int t17), some (.int t23), some (.int 0)]) ⟨dX12_takes_213, rfl⟩ (by decide) rfl rfl ?_
  obtain ⟨t27, hl28, hf⟩ := b_s hf
  refine y_wk (L2 := [some (.ref 66), none, some (.int a2), some (.int a3), some (.int a4), some (.int (gI M 70 a1.toNatClampNeg)), some (.int (gI M 69 a1.toNatClampNeg)), some (.int v2), some (.int t8.1), some (.int ((q11.1 * 10) + q13.1)), some (.int t17), some (.int t23), some (.int 0)]) ⟨Or.inr rfl, Or.inr rfl, Or.inr rfl, Or.inr rfl, Or.inr rfl, Or.inr rfl, Or.inr rfl, Or.inr rfl, Or.inr rfl, Or.inr rfl, Or.inr rfl, Or.inr rfl, Or.inr rfl, trivial⟩ (wl_mo_takes_215 a2 a3 a4 (gI M 70 a1.toNatClampNeg) (gI M 69 a1.toNatClampNeg) v2 t8.1 ((q11.1 * 10) + q13.1) t17 t23 0 q13.2 hl28 ?_)
  show mW mX12_takes 5 Q 244 [some (.ref 66), none, some (.int a2), some (.int a3), some (.int a4), some (.int (gI M 70 a1.toNatClampNeg)), some (.int (gI M 69 a1.toNatClampNeg)), some (.int v2), some (.int t8.1), some (.int ((q11.1 * 10) + q13.1)), some (.int t17), some (.int t23), none] [] t27
  refine y_aload_n (i := 0) (n := 245) ⟨dX12_takes_244, rfl⟩ rfl ?_
  refine y_getR (n := 248) ⟨dX12_takes_245, rfl⟩ kfX12_110 l_66 rfl r_66_50 ?_
  refine y_bipush (n := 250) (v := 9) ⟨dX12_takes_248, rfl⟩ kb_9 ?_
  refine y_aload_n (i := 0) (n := 251) ⟨dX12_takes_250, rfl⟩ rfl ?_
  refine y_getR (n := 254) ⟨dX12_takes_251, rfl⟩ kfX12_7 l_66 rfl r_66_1 ?_
  refine y_bipush (n := 256) (v := 10) ⟨dX12_takes_254, rfl⟩ kb_10 ?_
  refine y_iload (i := 5) (n := 258) ⟨dX12_takes_256, rfl⟩ rfl ?_
  refine y_imul (n := 259) ⟨dX12_takes_258, rfl⟩ ?_
  refine y_iload_n (i := 3) (n := 260) ⟨dX12_takes_259, rfl⟩ rfl ?_
  refine y_iadd (n := 261) ⟨dX12_takes_260, rfl⟩ ?_
  obtain ⟨hg30, hf⟩ := g_s hf
  refine y_iaload (n := 262) ⟨dX12_takes_261, rfl⟩ l_67 hg30 ?_
  refine y_iastore (n := 263) ⟨dX12_takes_262, rfl⟩ l_100 (by unfold vp_in; decide) ?_
  refine y_aload_n (i := 0) (n := 264) ⟨dX12_takes_263, rfl⟩ rfl ?_
  refine y_getR (n := 267) ⟨dX12_takes_264, rfl⟩ kfX12_110 l_66 rfl r_66_50 ?_
  refine y_bipush (n := 269) (v := 10) ⟨dX12_takes_267, rfl⟩ kb_10 ?_
  refine y_iload_n (i := 3) (n := 270) ⟨dX12_takes_269, rfl⟩ rfl ?_
  refine y_iastore (n := 271) ⟨dX12_takes_270, rfl⟩ l_100 (by unfold vp_in; decide) ?_
  refine y_aload_n (i := 0) (n := 272) ⟨dX12_takes_271, rfl⟩ rfl ?_
  refine y_getR (n := 275) ⟨dX12_takes_272, rfl⟩ kfX12_110 l_66 rfl r_66_50 ?_
  refine y_bipush (n := 277) (v := 11) ⟨dX12_takes_275, rfl⟩ kb_11 ?_
  refine y_iload_n (i := 2) (n := 278) ⟨dX12_takes_277, rfl⟩ rfl ?_
  refine y_iastore (n := 279) ⟨dX12_takes_278, rfl⟩ l_100 (by unfold vp_in; decide) ?_
  refine y_aload_n (i := 0) (n := 280) ⟨dX12_takes_279, rfl⟩ rfl ?_
  refine y_getR (n := 283) ⟨dX12_takes_280, rfl⟩ kfX12_110 l_66 rfl r_66_50 ?_
  refine y_bipush (n := 285) (v := 12) ⟨dX12_takes_283, rfl⟩ kb_12 ?_
  refine y_iload (i := 9) (n := 287) ⟨dX12_takes_285, rfl⟩ rfl ?_
  refine y_iastore (n := 288) ⟨dX12_takes_287, rfl⟩ l_100 (by unfold vp_in; decide) ?_
  refine y_aload_n (i := 0) (n := 289) ⟨dX12_takes_288, rfl⟩ rfl ?_
  refine y_getR (n := 292) ⟨dX12_takes_289, rfl⟩ kfX12_110 l_66 rfl r_66_50 ?_
  refine y_bipush (n := 294) (v := 13) ⟨dX12_takes_292, rfl⟩ kb_13 ?_
  refine y_iload (i := 10) (n := 296) ⟨dX12_takes_294, rfl⟩ rfl ?_
  refine y_if_ne (t := 303) (n := 299) ⟨dX12_takes_296, rfl, rfl⟩ (fun (hc : ¬ (t17 = 0)) => ?_) (fun (hc : t17 = 0) => ?_)
  · replace hf := i_f hc hf
    refine y_iconst (n := 304) (v := 0) ⟨dX12_takes_303, rfl⟩ ki_0 ?_
    exact y_wk (L2 := [some (.ref 66), none, none, some (.int a3), some (.int a4), some (.int (gI M 70 a1.toNatClampNeg)), some (.int (gI M 69 a1.toNatClampNeg)), some (.int v2), some (.int t8.1), some (.int ((q11.1 * 10) + q13.1)), none, some (.int t23), none]) ⟨Or.inr rfl, Or.inr rfl, Or.inl rfl, Or.inr rfl, Or.inr rfl, Or.inr rfl, Or.inr rfl, Or.inr rfl, Or.inr rfl, Or.inr rfl, Or.inl rfl, Or.inr rfl, Or.inr rfl, trivial⟩ (w_t_mo_takes_304 a3 a4 (gI M 70 a1.toNatClampNeg) (gI M 69 a1.toNatClampNeg) v2 t8.1 ((q11.1 * 10) + q13.1) t23 13 0 (sI (sI (sI (sI t27 100 9 (gI t27 67 ((10 * (gI M 70 a1.toNatClampNeg)) + a3).toNatClampNeg)) 100 10 a3) 100 11 a2) 100 12 ((q11.1 * 10) + q13.1)) hf hk)
  · replace hf := i_t hc hf
    refine y_iconst (n := 300) (v := 1) ⟨dX12_takes_299, rfl⟩ ki_1 ?_
    refine y_goto (t := 304) ⟨dX12_takes_300, rfl, rfl⟩ ?_
    exact y_wk (L2 := [some (.ref 66), none, none, some (.int a3), some (.int a4), some (.int (gI M 70 a1.toNatClampNeg)), some (.int (gI M 69 a1.toNatClampNeg)), some (.int v2), some (.int t8.1), some (.int ((q11.1 * 10) + q13.1)), none, some (.int t23), none]) ⟨Or.inr rfl, Or.inr rfl, Or.inl rfl, Or.inr rfl, Or.inr rfl, Or.inr rfl, Or.inr rfl, Or.inr rfl, Or.inr rfl, Or.inr rfl, Or.inl rfl, Or.inr rfl, Or.inr rfl, trivial⟩ (w_t_mo_takes_304 a3 a4 (gI M 70 a1.toNatClampNeg) (gI M 69 a1.toNatClampNeg) v2 t8.1 ((q11.1 * 10) + q13.1) t23 13 1 (sI (sI (sI (sI t27 100 9 (gI t27 67 ((10 * (gI M 70 a1.toNatClampNeg)) + a3).toNatClampNeg)) 100 10 a3) 100 11 a2) 100 12 ((q11.1 * 10) + q13.1)) hf hk)
theorem c_mo_takes (a1 : Int32) (a2 : Int32) (a3 : Int32) (a4 : Int32) (M : dM) {o : dM} {y : mz_M} {d : Nat} {Q : mz_P} {pc n i : Nat} {L : List (Option Value)} {st : List Value} (h : mz_d y.2.1 pc n 3 (.invokevirtual i)) (hl : mz_ml y.1.cls i yX12_takes) (hf : f_mo_takes a1 a2 a3 a4 M = some o) (hd : 5 + 1 ≤ d) (hsm : (st.map (fun v => v.category)).sum ≤ 8) (hLr : mz_rL 133 L = true) (hSr : mz_rS 133 st = true) (kk : mW y d Q n L st o) : mW y d Q pc L (.int a4 :: .int a3 :: .int a2 :: .int a1 :: .ref 66 :: st) M :=
  y_callV kmX12_takes kvX12_takes l_66 (by decide +kernel) (by decide +kernel) h hl (ok_mo_takes a1 a2 a3 a4 M hf) (vs := [.int a1, .int a2, .int a3, .int a4]) rfl rfl hd hsm hLr hSr kk
