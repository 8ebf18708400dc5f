noncomputable def f_mo_stories (a1 : Int32) (M : dM) : Option (Int32 × dM) :=
  if (f_mo_within a1 0 4) = true then
    (f_mo_knows (sI M 66 0 0)).bind fun q1 =>
    if a1 = 0 then
      some ((gI q1 66 64), q1)
    else
      if (gI q1 66 64) = 0 then
        some ((-1), q1)
      else
        if a1 = 1 then
          some ((gI q1 66 65), q1)
        else
          if a1 = 2 then
            some ((gI q1 66 66), q1)
          else
            if a1 = 3 then
              some ((gI q1 66 67), q1)
            else
              some ((gI q1 66 68), q1)
  else
    some ((-1), (sI M 66 0 0))
theorem ok_mo_stories (a1 : Int32) (M : dM) {o : (Int32 × dM)} (hf : f_mo_stories a1 M = some o) : mO mX12_stories 7 [.ref 66, .int a1] M (some (.int o.1)) o.2 := by
  refine y_ok (by decide +kernel) (Nat.le_of_ble_eq_true rfl) (L0 := [some (.ref 66), some (.int a1)]) rfl ?_
  have hk := mR_mQ (some (.int o.1)) o.2
  generalize mQ _ _ = Q at hk ⊢
  unfold f_mo_stories at hf
  refine y_aload_n (i := 0) (n := 1) ⟨dX12_stories_0, rfl⟩ rfl ?_
  refine y_iconst (n := 2) (v := 0) ⟨dX12_stories_1, rfl⟩ ki_0 ?_
  refine y_putI (n := 5) ⟨dX12_stories_2, rfl⟩ kfX12_214 l_66 (by decide +kernel) rfl ?_
  refine y_iload_n (i := 1) (n := 6) ⟨dX12_stories_5, rfl⟩ rfl ?_
  refine y_iconst (n := 7) (v := 0) ⟨dX12_stories_6, rfl⟩ ki_0 ?_
  refine y_iconst (n := 8) (v := 4) ⟨dX12_stories_7, rfl⟩ ki_4 ?_
  refine c_mo_within a1 0 4 (sI M 66 0 0) (n := 11) ⟨dX12_stories_8, rfl⟩ klX12_221 rfl (by decide) (Nat.le_of_ble_eq_true rfl) rfl rfl ?_
  refine y_if_ne (t := 16) (n := 14) ⟨dX12_stories_11, rfl, rfl⟩ (fun h0 => ?_) (fun h0 => ?_)
  · have hc := bI_1 h0
    replace hf := i_t hc hf
    refine y_aload_n (i := 0) (n := 17) ⟨dX12_stories_16, rfl⟩ rfl ?_
    obtain ⟨q1, hv2, hf⟩ := b_s hf
    refine c_mo_knows (sI M 66 0 0) (n := 20) ⟨dX12_stories_17, rfl⟩ klX12_505 hv2 (by decide) (Nat.le_of_ble_eq_true rfl) rfl rfl ?_
    refine y_iload_n (i := 1) (n := 21) ⟨dX12_stories_20, rfl⟩ rfl ?_
    refine y_if_ne (t := 29) (n := 24) ⟨dX12_stories_21, rfl, rfl⟩ (fun (hc : ¬ (a1 = 0)) => ?_) (fun (hc : a1 = 0) => ?_)
    · replace hf := i_f hc hf
      refine y_aload_n (i := 0) (n := 30) ⟨dX12_stories_29, rfl⟩ rfl ?_
      refine y_getI (n := 33) ⟨dX12_stories_30, rfl⟩ kfX12_484 l_66 rfl ?_
      refine y_if_ne (t := 38) (n := 36) ⟨dX12_stories_33, rfl, rfl⟩ (fun (hc : ¬ ((gI q1 66 64) = 0)) => ?_) (fun (hc : (gI q1 66 64) = 0) => ?_)
      · replace hf := i_f hc hf
        refine y_iload_n (i := 1) (n := 39) ⟨dX12_stories_38, rfl⟩ rfl ?_
        refine y_iconst (n := 40) (v := 1) ⟨dX12_stories_39, rfl⟩ ki_1 ?_
        refine y_icmp_ne (t := 50) (n := 43) ⟨dX12_stories_40, rfl, rfl⟩ (fun (hc : ¬ (a1 = 1)) => ?_) (fun (hc : a1 = 1) => ?_)
        · replace hf := i_f hc hf
          refine y_iload_n (i := 1) (n := 51) ⟨dX12_stories_50, rfl⟩ rfl ?_
          refine y_iconst (n := 52) (v := 2) ⟨dX12_stories_51, rfl⟩ ki_2 ?_
          refine y_icmp_ne (t := 62) (n := 55) ⟨dX12_stories_52, rfl, rfl⟩ (fun (hc : ¬ (a1 = 2)) => ?_) (fun (hc : a1 = 2) => ?_)
          · replace hf := i_f hc hf
            refine y_iload_n (i := 1) (n := 63) ⟨dX12_stories_62, rfl⟩ rfl ?_
            refine y_iconst (n := 64) (v := 3) ⟨dX12_stories_63, rfl⟩ ki_3 ?_
            refine y_icmp_ne (t := 74) (n := 67) ⟨dX12_stories_64, rfl, rfl⟩ (fun (hc : ¬ (a1 = 3)) => ?_) (fun (hc : a1 = 3) => ?_)
            · replace hf := i_f hc hf
              refine y_aload_n (i := 0) (n := 75) ⟨dX12_stories_74, rfl⟩ rfl ?_
              refine y_getI (n := 78) ⟨dX12_stories_75, rfl⟩ kfX12_496 l_66 rfl ?_
              cases hf
              exact y_ireturn (n := 79) ⟨dX12_stories_78, rfl⟩ rfl rfl hk
            · replace hf := i_t hc hf
              refine y_aload_n (i := 0) (n := 68) ⟨dX12_stories_67, rfl⟩ rfl ?_
              refine y_getI (n := 71) ⟨dX12_stories_68, rfl⟩ kfX12_493 l_66 rfl ?_
              refine y_goto (t := 78) ⟨dX12_stories_71, rfl, rfl⟩ ?_
              cases hf
              exact y_ireturn (n := 79) ⟨dX12_stories_78, rfl⟩ rfl rfl hk
          · replace hf := i_t hc hf
            refine y_aload_n (i := 0) (n := 56) ⟨dX12_stories_55, rfl⟩ rfl ?_
            refine y_getI (n := 59) ⟨dX12_stories_56, rfl⟩ kfX12_490 l_66 rfl ?_
            refine y_goto (t := 78) ⟨dX12_stories_59, rfl, rfl⟩ ?_
            cases hf
            exact y_ireturn (n := 79) ⟨dX12_stories_78, rfl⟩ rfl rfl hk
        · replace hf := i_t hc hf
          refine y_aload_n (i := 0) (n := 44) ⟨dX12_stories_43, rfl⟩ rfl ?_
          refine y_getI (n := 47) ⟨dX12_stories_44, rfl⟩ kfX12_487 l_66 rfl ?_
          refine y_goto (t := 78) ⟨dX12_stories_47, rfl, rfl⟩ ?_
          cases hf
          exact y_ireturn (n := 79) ⟨dX12_stories_78, rfl⟩ rfl rfl hk
      · replace hf := i_t hc hf
        refine y_iconst (n := 37) (v := (-1)) ⟨dX12_stories_36, rfl⟩ ki_m1 ?_
        cases hf
        exact y_ireturn (n := 38) ⟨dX12_stories_37, rfl⟩ rfl rfl hk
    · replace hf := i_t hc hf
      refine y_aload_n (i := 0) (n := 25) ⟨dX12_stories_24, rfl⟩ rfl ?_
      refine y_getI (n := 28) ⟨dX12_stories_25, rfl⟩ kfX12_484 l_66 rfl ?_
      cases hf
      exact y_ireturn (n := 29) ⟨dX12_stories_28, rfl⟩ rfl rfl hk
  · have hc := bI_0 h0
    replace hf := i_f hc hf
    refine y_iconst (n := 15) (v := (-1)) ⟨dX12_stories_14, rfl⟩ ki_m1 ?_
    cases hf
    exact y_ireturn (n := 16) ⟨dX12_stories_15, rfl⟩ rfl rfl hk
theorem c_mo_stories (a1 : Int32) (M : dM) {o : (Int32 × dM)} {y : mz_M} {d : Nat} {Q : mz_P} {pc n i : Nat} {L : List (Option Value)} {st : List Value} (h : mz_d y.2.1 pc n 3 (.invokevirtual i)) (hl : mz_ml y.1.cls i yX12_stories) (hf : f_mo_stories a1 M = some o) (hd : 7 + 1 ≤ d) (hsm : (st.map (fun v => v.category)).sum ≤ 8) (hLr : mz_rL 133 L = true) (hSr : mz_rS 133 st = true) (kk : mW y d Q n L (.int o.1 :: st) o.2) : mW y d Q pc L (.int a1 :: .ref 66 :: st) M :=
  y_callV kmX12_stories kvX12_stories l_66 (by decide +kernel) (by decide +kernel) h hl (ok_mo_stories a1 M hf) (vs := [.int a1]) rfl rfl hd hsm hLr hSr kk
def K_mo_ground_63 (Q : mz_P) (x1 : Int32) (x2 : Int64) (x4 : Int32) (M : dM) : ((Int32 × Int32) ⊕ Int32) → Prop
  | .inl s => mW mX12_ground 2 Q 63 [some (.ref 66), some (.int x1), some (.long x2), none, some (.int x4), some (.int s.1), some (.int s.2)] [] M
  | .inr t => mW mX12_ground 2 Q 99 [some (.ref 66), some (.int x1), some (.long x2), none, some (.int x4), some (.int t), none] [] M
noncomputable def b_mo_ground_63_63 (x1 : Int32) (x2 : Int64) (x4 : Int32) (x5 : Int32) (x6 : Int32) (M : dM) : Option ((Int32 × Int32) ⊕ Int32) :=
  if (gI M 66 69) ≤ x6 then
    some (.inr x5)
  else
    gd (vp_in x6 36) <|
    if (gI M 108 x6.toNatClampNeg) = x1 then
      some (.inl ((x5 + 1), (x6 + 1)))
    else
      some (.inl ((x5 + 0), (x6 + 1)))
noncomputable def l_mo_ground_63 (x1 : Int32) (x2 : Int64) (x4 : Int32) (x5 : Int32) (x6 : Int32) (M : dM) : Option Int32 := lpc (fun s => b_mo_ground_63_63 x1 x2 x4 s.1 s.2 M) (x5, x6)
noncomputable def t_mo_ground_57 (x1 : Int32) (x2 : Int64) (x4 : Int32) (M : dM) : Option (Bool × dM) :=
  (l_mo_ground_63 x1 x2 x4 0 0 M).bind fun t2 =>
    if t2 = 3 then
      some (false, M)
    else
      gd (vp_in (gI M 66 69) 36) <|
      gd (vp_in (gI (sI M 108 (gI M 66 69).toNatClampNeg x1) 66 69) 36) <|
      gd (vp_in (gI (sJ (sI M 108 (gI M 66 69).toNatClampNeg x1) 109 (gI (sI M 108 (gI M 66 69).toNatClampNeg x1) 66 69).toNatClampNeg x2) 66 69) 36) <|
      some (true, (sI (sI (sJ (sI M 108 (gI M 66 69).toNatClampNeg x1) 109 (gI (sI M 108 (gI M 66 69).toNatClampNeg x1) 66 69).toNatClampNeg x2) 110 (gI (sJ (sI M 108 (gI M 66 69).toNatClampNeg x1) 109 (gI (sI M 108 (gI M 66 69).toNatClampNeg x1) 66 69).toNatClampNeg x2) 66 69).toNatClampNeg x4) 66 69 ((gI (sI (sJ (sI M 108 (gI M 66 69).toNatClampNeg x1) 109 (gI (sI M 108 (gI M 66 69).toNatClampNeg x1) 66 69).toNatClampNeg x2) 110 (gI (sJ (sI M 108 (gI M 66 69).toNatClampNeg x1) 109 (gI (sI M 108 (gI M 66 69).toNatClampNeg x1) 66 69).toNatClampNeg x2) 66 69).toNatClampNeg x4) 66 69) + 1)))
noncomputable def f_mo_ground (a1 : Int32) (a2 : Int64) (a3 : Int32) (M : dM) : Option (Bool × dM) :=
  if (f_mo_within a1 0 11) = true then
    if a2 < 0 then
      some (false, (sI M 66 0 0))
    else
      if ((1 : Int64) <<< ((gI (sI M 66 0 0) 66 9).toInt64 &&& 63)) ≤ a2 then
        some (false, (sI M 66 0 0))
      else
        if (f_mo_within a3 0 4095) = true then
          if a2 = 0 then
            if a3 = 0 then
              some (false, (sI M 66 0 0))
            else
              t_mo_ground_57 a1 a2 a3 (sI M 66 0 0)
          else
            t_mo_ground_57 a1 a2 a3 (sI M 66 0 0)
        else
          some (false, (sI M 66 0 0))
  else
    some (false, (sI M 66 0 0))
theorem w_b_mo_ground_63_63 (x1 : Int32) (x2 : Int64) (x4 : Int32) (x5 : Int32) (x6 : Int32)  (M : dM) {Q : mz_P} {o : ((Int32 × Int32) ⊕ Int32)} (hf : b_mo_ground_63_63 x1 x2 x4 x5 x6 M = some o) (hk : K_mo_ground_63 Q x1 x2 x4 M o) : mW mX12_ground 2 Q 63 [some (.ref 66), some (.int x1), some (.long x2), none, some (.int x4), some (.int x5), some (.int x6)] [] M := by
  unfold b_mo_ground_63_63 at hf
  refine y_iload (i := 6) (n := 65) ⟨dX12_ground_63, rfl⟩ rfl ?_
  refine y_aload_n (i := 0) (n := 66) ⟨dX12_ground_65, rfl⟩ rfl ?_
  refine y_getI (n := 69) ⟨dX12_ground_66, rfl⟩ kfX12_508 l_66 rfl ?_
  refine y_icmp_ge (t := 99) (n := 72) ⟨dX12_ground_69, rfl, rfl⟩ (fun (hc : (gI M 66 69) ≤ x6) => ?_) (fun (hc : ¬ ((gI M 66 69) ≤ x6)) => ?_)
  · replace hf := i_t hc hf
    cases hf
    exact y_wk (L2 := [some (.ref 66), some (.int x1), some (.long x2), none, some (.int x4), some (.int x5), none]) ⟨Or.inr rfl, Or.inr rfl, Or.inr rfl, Or.inr rfl, Or.inr rfl, Or.inr rfl, Or.inl rfl, trivial⟩ hk
  · replace hf := i_f hc hf
    refine y_iload (i := 5) (n := 74) ⟨dX12_ground_72, rfl⟩ rfl ?_
    refine y_aload_n (i := 0) (n := 75) ⟨dX12_ground_74, rfl⟩ rfl ?_
    refine y_getR (n := 78) ⟨dX12_ground_75, rfl⟩ kfX12_134 l_66 rfl r_66_70 ?_
    refine y_iload (i := 6) (n := 80) ⟨dX12_ground_78, rfl⟩ rfl ?_
    obtain ⟨hg1, hf⟩ := g_s hf
    refine y_iaload (n := 81) ⟨dX12_ground_80, rfl⟩ l_108 hg1 ?_
    refine y_iload_n (i := 1) (n := 82) ⟨dX12_ground_81, rfl⟩ rfl ?_
    refine y_icmp_ne (t := 89) (n := 85) ⟨dX12_ground_82, rfl, rfl⟩ (fun (hc : ¬ ((gI M 108 x6.toNatClampNeg) = x1)) => ?_) (fun (hc : (gI M 108 x6.toNatClampNeg) = x1) => ?_)
    · replace hf := i_f hc hf
      refine y_iconst (n := 90) (v := 0) ⟨dX12_ground_89, rfl⟩ ki_0 ?_
      refine y_iadd (n := 91) ⟨dX12_ground_90, rfl⟩ ?_
      refine y_istore (i := 5) (n := 93) (L2 := [some (.ref 66), some (.int x1), some (.long x2), none, some (.int x4), some (.int (x5 + 0)), some (.int x6)]) ⟨dX12_ground_91, rfl⟩ (by decide) rfl rfl ?_
      refine y_iinc (i := 6) (n := 96) (b := (x6 + 1)) (L2 := [some (.ref 66), some (.int x1), some (.long x2), none, some (.int x4), some (.int (x5 + 0)), some (.int (x6 + 1))]) ⟨dX12_ground_93, rfl⟩ rfl (by rw [ki_1]) (by decide) rfl rfl ?_
      refine y_goto (t := 63) ⟨dX12_ground_96, rfl, rfl⟩ ?_
      cases hf
      exact y_wk (L2 := [some (.ref 66), some (.int x1), some (.long x2), none, some (.int x4), some (.int (x5 + 0)), some (.int (x6 + 1))]) ⟨Or.inr rfl, Or.inr rfl, Or.inr rfl, Or.inr rfl, Or.inr rfl, Or.inr rfl, Or.inr rfl, trivial⟩ hk
    · replace hf := i_t hc hf
      refine y_iconst (n := 86) (v := 1) ⟨dX12_ground_85, rfl⟩ ki_1 ?_
      refine y_goto (t := 90) ⟨dX12_ground_86, rfl, rfl⟩ ?_
      refine y_iadd (n := 91) ⟨dX12_ground_90, rfl⟩ ?_
      refine y_istore (i := 5) (n := 93) (L2 := [some (.ref 66), some (.int x1), some (.long x2), none, some (.int x4), some (.int (x5 + 1)), some (.int x6)]) ⟨dX12_ground_91, rfl⟩ (by decide) rfl rfl ?_
      refine y_iinc (i := 6) (n := 96) (b := (x6 + 1)) (L2 := [some (.ref 66), some (.int x1), some (.long x2), none, some (.int x4), some (.int (x5 + 1)), some (.int (x6 + 1))]) ⟨dX12_ground_93, rfl⟩ rfl (by rw [ki_1]) (by decide) rfl rfl ?_
      refine y_goto (t := 63) ⟨dX12_ground_96, rfl, rfl⟩ ?_
      cases hf
      exact y_wk (L2 := [some (.ref 66), some (.int x1), some (.long x2), none, some (.int x4), some (.int (x5 + 1)), some (.int (x6 + 1))]) ⟨Or.inr rfl, Or.inr rfl, Or.inr rfl, Or.inr rfl, Or.inr rfl, Or.inr rfl, Or.inr rfl, trivial⟩ hk
theorem wl_mo_ground_63 (x1 : Int32) (x2 : Int64) (x4 : Int32) (x5 : Int32) (x6 : Int32) (M : dM) {Q : mz_P} {x : Int32} (hf : l_mo_ground_63 x1 x2 x4 x5 x6 M = some x) (hk : K_mo_ground_63 Q x1 x2 x4 M (.inr x)) : mW mX12_ground 2 Q 63 [some (.ref 66), some (.int x1), some (.long x2), none, some (.int x4), some (.int x5), some (.int x6)] [] M :=
  lpc_wp (σ := (Int32 × Int32)) (ξ := Int32) (s := (x5, x6)) (Wh := fun s => mW mX12_ground 2 Q 63 [some (.ref 66), some (.int x1), some (.long x2), none, some (.int x4), some (.int s.1), some (.int s.2)] [] M) (K := K_mo_ground_63 Q x1 x2 x4 M) (fun _ h => h) (fun s o hb hk => w_b_mo_ground_63_63 x1 x2 x4 s.1 s.2 M hb hk) hf hk
theorem w_t_mo_ground_57 (x1 : Int32) (x2 : Int64) (x4 : Int32) (M : dM) {Q : mz_P} {o : (Bool × dM)} (hf : t_mo_ground_57 x1 x2 x4 M = some o) (hk : mR Q (some (.int (bI o.1))) o.2) : mW mX12_ground 2 Q 57 [some (.ref 66), some (.int x1), some (.long x2), none, some (.int x4), none, none] [] M := by
  unfold t_mo_ground_57 at hf
  refine y_iconst (n := 58) (v := 0) ⟨dX12_ground_57, rfl⟩ ki_0 ?_
  refine y_istore (i := 5) (n := 60) (L2 := [some (.ref 66), some (.int x1), some (.long x2), none, some (.int x4), some (.int 0), none]) ⟨dX12_ground_58, rfl⟩ (by decide) rfl rfl ?_
  refine y_iconst (n := 61) (v := 0) ⟨dX12_ground_60, rfl⟩ ki_0 ?_
  refine y_istore (i := 6) (n := 63) (L2 := [some (.ref 66), some (.int x1), some (.long x2), none, some (.int x4), some (.int 0), some (.int 0)]) ⟨dX12_ground_61, rfl⟩ (by decide) rfl rfl ?_
  obtain ⟨t2, hl3, hf⟩ := b_s hf
  refine y_wk (L2 := [some (.ref 66), some (.int x1), some (.long x2), none, some (.int x4), some (.int 0), some (.int 0)]) ⟨Or.inr rfl, Or.inr rfl, Or.inr rfl, Or.inr rfl, Or.inr rfl, Or.inr rfl, Or.inr rfl, trivial⟩ (wl_mo_ground_63 x1 x2 x4 0 0 M hl3 ?_)
  show mW mX12_ground 2 Q 99 [some (.ref 66), some (.int x1), some (.long x2), none, some (.int x4), some (.int t2), none] [] M
  refine y_iload (i := 5) (n := 101) ⟨dX12_ground_99, rfl⟩ rfl ?_
  refine y_iconst (n := 102) (v := 3) ⟨dX12_ground_101, rfl⟩ ki_3 ?_
  refine y_icmp_ne (t := 107) (n := 105) ⟨dX12_ground_102, rfl, rfl⟩ (fun (hc : ¬ (t2 = 3)) => ?_) (fun (hc : t2 = 3) => ?_)
  · replace hf := i_f hc hf
    refine y_aload_n (i := 0) (n := 108) ⟨dX12_ground_107, rfl⟩ rfl ?_
    refine y_getR (n := 111) ⟨dX12_ground_108, rfl⟩ kfX12_134 l_66 rfl r_66_70 ?_
    refine y_aload_n (i := 0) (n := 112) ⟨dX12_ground_111, rfl⟩ rfl ?_
    refine y_getI (n := 115) ⟨dX12_ground_112, rfl⟩ kfX12_508 l_66 rfl ?_
    refine y_iload_n (i := 1) (n := 116) ⟨dX12_ground_115, rfl⟩ rfl ?_
    obtain ⟨hg5, hf⟩ := g_s hf
    refine y_iastore (n := 117) ⟨dX12_ground_116, rfl⟩ l_108 hg5 ?_
    refine y_aload_n (i := 0) (n := 118) ⟨dX12_ground_117, rfl⟩ rfl ?_
    refine y_getR (n := 121) ⟨dX12_ground_118, rfl⟩ kfX12_137 l_66 rfl r_66_71 ?_
    refine y_aload_n (i := 0) (n := 122) ⟨dX12_ground_121, rfl⟩ rfl ?_
    refine y_getI (n := 125) ⟨dX12_ground_122, rfl⟩ kfX12_508 l_66 rfl ?_
    refine y_lload_n (i := 2) (n := 126) ⟨dX12_ground_125, rfl⟩ rfl ?_
    obtain ⟨hg6, hf⟩ := g_s hf
    refine y_lastore (n := 127) ⟨dX12_ground_126, rfl⟩ l_109 hg6 ?_
    refine y_aload_n (i := 0) (n := 128) ⟨dX12_ground_127, rfl⟩ rfl ?_
    refine y_getR (n := 131) ⟨dX12_ground_128, rfl⟩ kfX12_141 l_66 rfl r_66_72 ?_
    refine y_aload_n (i := 0) (n := 132) ⟨dX12_ground_131, rfl⟩ rfl ?_
    refine y_getI (n := 135) ⟨dX12_ground_132, rfl⟩ kfX12_508 l_66 rfl ?_
    refine y_iload (i := 4) (n := 137) ⟨dX12_ground_135, rfl⟩ rfl ?_
    obtain ⟨hg7, hf⟩ := g_s hf
    refine y_iastore (n := 138) ⟨dX12_ground_137, rfl⟩ l_110 hg7 ?_
    refine y_aload_n (i := 0) (n := 139) ⟨dX12_ground_138, rfl⟩ rfl ?_
    refine y_dup_r (n := 140) ⟨dX12_ground_139, rfl⟩ ?_
    refine y_getI (n := 143) ⟨dX12_ground_140, rfl⟩ kfX12_508 l_66 rfl ?_
    refine y_iconst (n := 144) (v := 1) ⟨dX12_ground_143, rfl⟩ ki_1 ?_
    refine y_iadd (n := 145) ⟨dX12_ground_144, rfl⟩ ?_
    refine y_putI (n := 148) ⟨dX12_ground_145, rfl⟩ kfX12_508 l_66 (by decide +kernel) rfl ?_
    refine y_iconst (n := 149) (v := 1) ⟨dX12_ground_148, rfl⟩ ki_1 ?_
    cases hf
    exact y_ireturn (n := 150) ⟨dX12_ground_149, rfl⟩ rfl rfl hk
  · replace hf := i_t hc hf
    refine y_iconst (n := 106) (v := 0) ⟨dX12_ground_105, rfl⟩ ki_0 ?_
    cases hf
    exact y_ireturn (n := 107) ⟨dX12_ground_106, rfl⟩ rfl rfl hk
theorem ok_mo_ground (a1 : Int32) (a2 : Int64) (a3 : Int32) (M : dM) {o : (Bool × dM)} (hf : f_mo_ground a1 a2 a3 M = some o) : mO mX12_ground 2 [.ref 66, .int a1, .long a2, .int a3] M (some (.int (bI o.1))) o.2 := by
  refine y_ok (by decide +kernel) (Nat.le_of_ble_eq_true rfl) (L0 := [some (.ref 66), some (.int a1), some (.long a2), none, some (.int a3), none, none]) rfl ?_
  have hk := mR_mQ (some (.int (bI o.1))) o.2
  generalize mQ _ _ = Q at hk ⊢
  unfold f_mo_ground at hf
  refine y_aload_n (i := 0) (n := 1) ⟨dX12_ground_0, rfl⟩ rfl ?_
  refine y_iconst (n := 2) (v := 0) ⟨dX12_ground_1, rfl⟩ ki_0 ?_
  refine y_putI (n := 5) ⟨dX12_ground_2, rfl⟩ kfX12_214 l_66 (by decide +kernel) rfl ?_
  refine y_iload_n (i := 1) (n := 6) ⟨dX12_ground_5, rfl⟩ rfl ?_
  refine y_iconst (n := 7) (v := 0) ⟨dX12_ground_6, rfl⟩ ki_0 ?_
  refine y_bipush (n := 9) (v := 11) ⟨dX12_ground_7, rfl⟩ kb_11 ?_
  refine c_mo_within a1 0 11 (sI M 66 0 0) (n := 12) ⟨dX12_ground_9, rfl⟩ klX12_221 rfl (by decide) (Nat.le_of_ble_eq_true rfl) rfl rfl ?_
  refine y_if_eq (t := 55) (n := 15) ⟨dX12_ground_12, rfl, rfl⟩ (fun h0 => ?_) (fun h0 => ?_)
  · have hc := bI_0 h0
    replace hf := i_f hc hf
    refine y_iconst (n := 56) (v := 0) ⟨dX12_ground_55, rfl⟩ ki_0 ?_
    cases hf
    exact y_ireturn (n := 57) ⟨dX12_ground_56, rfl⟩ rfl rfl hk
  · have hc := bI_1 h0
    replace hf := i_t hc hf
    refine y_lload_n (i := 2) (n := 16) ⟨dX12_ground_15, rfl⟩ rfl ?_
    refine y_lconst (n := 17) (v := 0) ⟨dX12_ground_16, rfl⟩ kl_0 ?_
    refine y_lcmp (n := 18) ⟨dX12_ground_17, rfl⟩ ?_
    refine y_if_lt (t := 55) (n := 21) ⟨dX12_ground_18, rfl, rfl⟩ (fun h0 => ?_) (fun h0 => ?_)
    · have hc : a2 < 0 := (lc_lt _ _).mp h0
      replace hf := i_t hc hf
      refine y_iconst (n := 56) (v := 0) ⟨dX12_ground_55, rfl⟩ ki_0 ?_
      cases hf
      exact y_ireturn (n := 57) ⟨dX12_ground_56, rfl⟩ rfl rfl hk
    · have hc : ¬ (a2 < 0) := fun e => h0 ((lc_lt _ _).mpr e)
      replace hf := i_f hc hf
      refine y_lload_n (i := 2) (n := 22) ⟨dX12_ground_21, rfl⟩ rfl ?_
      refine y_lconst (n := 23) (v := 1) ⟨dX12_ground_22, rfl⟩ kl_1 ?_
      refine y_aload_n (i := 0) (n := 24) ⟨dX12_ground_23, rfl⟩ rfl ?_
      refine y_getI (n := 27) ⟨dX12_ground_24, rfl⟩ kfX12_235 l_66 rfl ?_
      refine y_lshl (n := 28) ⟨dX12_ground_27, rfl⟩ ?_
      refine y_lcmp (n := 29) ⟨dX12_ground_28, rfl⟩ ?_
      refine y_if_ge (t := 55) (n := 32) ⟨dX12_ground_29, rfl, rfl⟩ (fun h0 => ?_) (fun h0 => ?_)
      · have hc : ((1 : Int64) <<< ((gI (sI M 66 0 0) 66 9).toInt64 &&& 63)) ≤ a2 := (lc_ge _ _).mp h0
        replace hf := i_t hc hf
        refine y_iconst (n := 56) (v := 0) ⟨dX12_ground_55, rfl⟩ ki_0 ?_
        cases hf
        exact y_ireturn (n := 57) ⟨dX12_ground_56, rfl⟩ rfl rfl hk
      · have hc : ¬ (((1 : Int64) <<< ((gI (sI M 66 0 0) 66 9).toInt64 &&& 63)) ≤ a2) := fun e => h0 ((lc_ge _ _).mpr e)
        replace hf := i_f hc hf
        refine y_iload (i := 4) (n := 34) ⟨dX12_ground_32, rfl⟩ rfl ?_
        refine y_iconst (n := 35) (v := 0) ⟨dX12_ground_34, rfl⟩ ki_0 ?_
        refine y_sipush (n := 38) (v := 4095) ⟨dX12_ground_35, rfl⟩ ks_4095 ?_
        refine c_mo_within a3 0 4095 (sI M 66 0 0) (n := 41) ⟨dX12_ground_38, rfl⟩ klX12_221 rfl (by decide) (Nat.le_of_ble_eq_true rfl) rfl rfl ?_
        refine y_if_eq (t := 55) (n := 44) ⟨dX12_ground_41, rfl, rfl⟩ (fun h0 => ?_) (fun h0 => ?_)
        · have hc := bI_0 h0
          replace hf := i_f hc hf
          refine y_iconst (n := 56) (v := 0) ⟨dX12_ground_55, rfl⟩ ki_0 ?_
          cases hf
          exact y_ireturn (n := 57) ⟨dX12_ground_56, rfl⟩ rfl rfl hk
        · have hc := bI_1 h0
          replace hf := i_t hc hf
          refine y_lload_n (i := 2) (n := 45) ⟨dX12_ground_44, rfl⟩ rfl ?_
          refine y_lconst (n := 46) (v := 0) ⟨dX12_ground_45, rfl⟩ kl_0 ?_
          refine y_lcmp (n := 47) ⟨dX12_ground_46, rfl⟩ ?_
          refine y_if_ne (t := 57) (n := 50) ⟨dX12_ground_47, rfl, rfl⟩ (fun h0 => ?_) (fun h0 => ?_)
          · have hc : ¬ (a2 = 0) := fun e => h0 ((lc_eq _ _).mpr e)
            replace hf := i_f hc hf
            exact y_wk (L2 := [some (.ref 66), some (.int a1), some (.long a2), none, some (.int a3), none, none]) ⟨Or.inr rfl, Or.inr rfl, Or.inr rfl, Or.inr rfl, Or.inr rfl, Or.inr rfl, Or.inr rfl, trivial⟩ (w_t_mo_ground_57 a1 a2 a3 (sI M 66 0 0) hf hk)
          · have hc : a2 = 0 := (lc_eq _ _).mp h0
            replace hf := i_t hc hf
            refine y_iload (i := 4) (n := 52) ⟨dX12_ground_50, rfl⟩ rfl ?_
            refine y_if_ne (t := 57) (n := 55) ⟨dX12_ground_52, rfl, rfl⟩ (fun (hc : ¬ (a3 = 0)) => ?_) (fun (hc : a3 = 0) => ?_)
            · replace hf := i_f hc hf
              exact y_wk (L2 := [some (.ref 66), some (.int a1), some (.long a2), none, some (.int a3), none, none]) ⟨Or.inr rfl, Or.inr rfl, Or.inr rfl, Or.inr rfl, Or.inr rfl, Or.inr rfl, Or.inr rfl, trivial⟩ (w_t_mo_ground_57 a1 a2 a3 (sI M 66 0 0) hf hk)
            · replace hf := i_t hc hf
              refine y_iconst (n := 56) (v := 0) ⟨dX12_ground_55, rfl⟩ ki_0 ?_
              cases hf
              exact y_ireturn (n := 57) ⟨dX12_ground_56, rfl⟩ rfl rfl hk
theorem c_mo_ground (a1 : Int32) (a2 : Int64) (a3 : Int32) (M : dM) {o : (Bool × dM)} {y : mz_M} {d : Nat} {Q : mz_P} {pc n i : Nat} {L : List (Option Value)} {st : List Value} (h : mz_d y.2.1 pc n 3 (.invokevirtual i)) (hl : mz_ml y.1.cls i yX12_ground) (hf : f_mo_ground a1 a2 a3 M = some o) (hd : 2 + 1 ≤ d) (hsm : (st.map (fun v => v.category)).sum ≤ 8) (hLr : mz_rL 133 L = true) (hSr : mz_rS 133 st = true) (kk : mW y d Q n L (.int (bI o.1) :: st) o.2) : mW y d Q pc L (.int a3 :: .long a2 :: .int a1 :: .ref 66 :: st) M :=
  y_callV kmX12_ground kvX12_ground l_66 (by decide +kernel) (by decide +kernel) h hl (ok_mo_ground a1 a2 a3 M hf) (vs := [.int a1, .long a2, .int a3]) rfl rfl hd hsm hLr hSr kk
def K_mo_findsBy_5 (Q : mz_P) (x1 : Int32) (M : dM) : ((Int64 × Int32) ⊕ Int64) → Prop
  | .inl s => mW mX12_findsBy 1 Q 5 [some (.ref 66), some (.int x1), some (.long s.1), none, some (.int s.2)] [] M
  | .inr r => mR Q (some (.long r)) M
noncomputable def b_mo_findsBy_5_5 (x1 : Int32) (x2 : Int64) (x4 : Int32) (M : dM) : Option ((Int64 × Int32) ⊕ Int64) :=
  if (gI M 66 9) ≤ x4 then
    some (.inr x2)
  else
    gd (vp_in x4 40) <|
    if (gI M 78 x4.toNatClampNeg) = x1 then
      some (.inl ((x2 ||| ((1 : Int64) <<< (x4.toInt64 &&& 63))), (x4 + 1)))
    else
      some (.inl (x2, (x4 + 1)))
noncomputable def l_mo_findsBy_5 (x1 : Int32) (x2 : Int64) (x4 : Int32) (M : dM) : Option Int64 := lpc (fun s => b_mo_findsBy_5_5 x1 s.1 s.2 M) (x2, x4)
noncomputable def f_mo_findsBy (a1 : Int32) (M : dM) : Option Int64 :=
  (l_mo_findsBy_5 a1 0 0 M).bind fun r4 => some r4
theorem w_b_mo_findsBy_5_5 (x1 : Int32) (x2 : Int64) (x4 : Int32)  (M : dM) {Q : mz_P} {o : ((Int64 × Int32) ⊕ Int64)} (hf : b_mo_findsBy_5_5 x1 x2 x4 M = some o) (hk : K_mo_findsBy_5 Q x1 M o) : mW mX12_findsBy 1 Q 5 [some (.ref 66), some (.int x1), some (.long x2), none, some (.int x4)] [] M := by
  unfold b_mo_findsBy_5_5 at hf
  refine y_iload (i := 4) (n := 7) ⟨dX12_findsBy_5, rfl⟩ rfl ?_
  refine y_aload_n (i := 0) (n := 8) ⟨dX12_findsBy_7, rfl⟩ rfl ?_
  refine y_getI (n := 11) ⟨dX12_findsBy_8, rfl⟩ kfX12_235 l_66 rfl ?_
  refine y_icmp_ge (t := 38) (n := 14) ⟨dX12_findsBy_11, rfl, rfl⟩ (fun (hc : (gI M 66 9) ≤ x4) => ?_) (fun (hc : ¬ ((gI M 66 9) ≤ x4)) => ?_)
  · replace hf := i_t hc hf
    refine y_lload_n (i := 2) (n := 39) ⟨dX12_findsBy_38, rfl⟩ rfl ?_
    cases hf
    exact y_lreturn (n := 40) ⟨dX12_findsBy_39, rfl⟩ rfl hk
  · replace hf := i_f hc hf
    refine y_aload_n (i := 0) (n := 15) ⟨dX12_findsBy_14, rfl⟩ rfl ?_
    refine y_getR (n := 18) ⟨dX12_findsBy_15, rfl⟩ kfX12_43 l_66 rfl r_66_14 ?_
    refine y_iload (i := 4) (n := 20) ⟨dX12_findsBy_18, rfl⟩ rfl ?_
    obtain ⟨hg1, hf⟩ := g_s hf
    refine y_iaload (n := 21) ⟨dX12_findsBy_20, rfl⟩ l_78 hg1 ?_
    refine y_iload_n (i := 1) (n := 22) ⟨dX12_findsBy_21, rfl⟩ rfl ?_
    refine y_icmp_ne (t := 32) (n := 25) ⟨dX12_findsBy_22, rfl, rfl⟩ (fun (hc : ¬ ((gI M 78 x4.toNatClampNeg) = x1)) => ?_) (fun (hc : (gI M 78 x4.toNatClampNeg) = x1) => ?_)
    · replace hf := i_f hc hf
      refine y_iinc (i := 4) (n := 35) (b := (x4 + 1)) (L2 := [some (.ref 66), some (.int x1), some (.long x2), none, some (.int (x4 + 1))]) ⟨dX12_findsBy_32, rfl⟩ rfl (by rw [ki_1]) (by decide) rfl rfl ?_
      refine y_goto (t := 5) ⟨dX12_findsBy_35, rfl, rfl⟩ ?_
      cases hf
      exact y_wk (L2 := [some (.ref 66), some (.int x1), some (.long x2), none, some (.int (x4 + 1))]) ⟨Or.inr rfl, Or.inr rfl, Or.inr rfl, Or.inr rfl, Or.inr rfl, trivial⟩ hk
    · replace hf := i_t hc hf
      refine y_lload_n (i := 2) (n := 26) ⟨dX12_findsBy_25, rfl⟩ rfl ?_
      refine y_lconst (n := 27) (v := 1) ⟨dX12_findsBy_26, rfl⟩ kl_1 ?_
      refine y_iload (i := 4) (n := 29) ⟨dX12_findsBy_27, rfl⟩ rfl ?_
      refine y_lshl (n := 30) ⟨dX12_findsBy_29, rfl⟩ ?_
      refine y_lor (n := 31) ⟨dX12_findsBy_30, rfl⟩ ?_
      refine y_lstore_n (i := 2) (n := 32) (L2 := [some (.ref 66), some (.int x1), some (.long (x2 ||| ((1 : Int64) <<< (x4.toInt64 &&& 63)))), none, some (.int x4)]) ⟨dX12_findsBy_31, rfl⟩ (by decide) rfl rfl ?_
      refine y_iinc (i := 4) (n := 35) (b := (x4 + 1)) (L2 := [some (.ref 66), some (.int x1), some (.long (x2 ||| ((1 : Int64) <<< (x4.toInt64 &&& 63)))), none, some (.int (x4 + 1))]) ⟨dX12_findsBy_32, rfl⟩ rfl (by rw [ki_1]) (by decide) rfl rfl ?_
      refine y_goto (t := 5) ⟨dX12_findsBy_35, rfl, rfl⟩ ?_
      cases hf
      exact y_wk (L2 := [some (.ref 66), some (.int x1), some (.long (x2 ||| ((1 : Int64) <<< (x4.toInt64 &&& 63)))), none, some (.int (x4 + 1))]) ⟨Or.inr rfl, Or.inr rfl, Or.inr rfl, Or.inr rfl, Or.inr rfl, trivial⟩ hk
theorem wl_mo_findsBy_5 (x1 : Int32) (x2 : Int64) (x4 : Int32) (M : dM) {Q : mz_P} {x : Int64} (hf : l_mo_findsBy_5 x1 x2 x4 M = some x) (hk : K_mo_findsBy_5 Q x1 M (.inr x)) : mW mX12_findsBy 1 Q 5 [some (.ref 66), some (.int x1), some (.long x2), none, some (.int x4)] [] M :=
  lpc_wp (σ := (Int64 × Int32)) (ξ := Int64) (s := (x2, x4)) (Wh := fun s => mW mX12_findsBy 1 Q 5 [some (.ref 66), some (.int x1), some (.long s.1), none, some (.int s.2)] [] M) (K := K_mo_findsBy_5 Q x1 M) (fun _ h => h) (fun s o hb hk => w_b_mo_findsBy_5_5 x1 s.1 s.2 M hb hk) hf hk
theorem ok_mo_findsBy (a1 : Int32) (M : dM) {o : Int64} (hf : f_mo_findsBy a1 M = some o) : mO mX12_findsBy 1 [.ref 66, .int a1] M (some (.long o)) M := by
  refine y_ok (by decide +kernel) (Nat.le_of_ble_eq_true rfl) (L0 := [some (.ref 66), some (.int a1), none, none, none]) rfl ?_
  have hk := mR_mQ (some (.long o)) M
  generalize mQ _ _ = Q at hk ⊢
  unfold f_mo_findsBy at hf
  refine y_lconst (n := 1) (v := 0) ⟨dX12_findsBy_0, rfl⟩ kl_0 ?_
  refine y_lstore_n (i := 2) (n := 2) (L2 := [some (.ref 66), some (.int a1), some (.long 0), none, none]) ⟨dX12_findsBy_1, rfl⟩ (by decide) rfl rfl ?_
  refine y_iconst (n := 3) (v := 0) ⟨dX12_findsBy_2, rfl⟩ ki_0 ?_
  refine y_istore (i := 4) (n := 5) (L2 := [some (.ref 66), some (.int a1), some (.long 0), none, some (.int 0)]) ⟨dX12_findsBy_3, rfl⟩ (by decide) rfl rfl ?_
  obtain ⟨r4, hl3, hf⟩ := b_s hf
  cases hf
  exact y_wk (L2 := [some (.ref 66), some (.int a1), some (.long 0), none, some (.int 0)]) ⟨Or.inr rfl, Or.inr rfl, Or.inr rfl, Or.inr rfl, Or.inr rfl, trivial⟩ (wl_mo_findsBy_5 a1 0 0 M hl3 hk)
theorem c_mo_findsBy (a1 : Int32) (M : dM) {o : Int64} {y : mz_M} {d : Nat} {Q : mz_P} {pc n i : Nat} {L : List (Option Value)} {st : List Value} (h : mz_d y.2.1 pc n 3 (.invokevirtual i)) (hl : mz_ml y.1.cls i yX12_findsBy) (hf : f_mo_findsBy a1 M = some o) (hd : 1 + 1 ≤ d) (hsm : (st.map (fun v => v.category)).sum ≤ 8) (hLr : mz_rL 133 L = true) (hSr : mz_rS 133 st = true) (kk : mW y d Q n L (.long o :: st) M) : mW y d Q pc L (.int a1 :: .ref 66 :: st) M :=
  y_callV kmX12_findsBy kvX12_findsBy l_66 (by decide +kernel) (by decide +kernel) h hl (ok_mo_findsBy a1 M hf) (vs := [.int a1]) rfl rfl hd hsm hLr hSr kk
def K_mo_standsWithout_5 (Q : mz_P) (x1 : Int64) (M : dM) : ((Int32 × Int32) ⊕ Int32) → Prop
  | .inl s => mW mX12_standsWithout 1 Q 5 [some (.ref 66), some (.long x1), none, some (.int s.1), some (.int s.2), none] [] M
  | .inr r => mR Q (some (.int r)) M
def K_mo_standsWithout_16 (Q : mz_P) (x1 : Int64) (M : dM) : ((Int32 × Int32 × Int32) ⊕ (Int32 × Int32)) → Prop
  | .inl s => mW mX12_standsWithout 1 Q 16 [some (.ref 66), some (.long x1), none, some (.int s.1), some (.int s.2.1), some (.int s.2.2)] [] M
  | .inr t => mW mX12_standsWithout 1 Q 92 [some (.ref 66), some (.long x1), none, some (.int t.1), some (.int t.2), none] [] M
noncomputable def b_mo_standsWithout_16_16 (x1 : Int64) (x3 : Int32) (x4 : Int32) (x5 : Int32) (M : dM) : Option ((Int32 × Int32 × Int32) ⊕ (Int32 × Int32)) :=
  if (gI M 66 69) ≤ x5 then
    some (.inr (x3, x4))
  else
    gd (vp_in x5 36) <|
    if ((x3 >>> ((gI M 108 x5.toNatClampNeg) &&& 31)) &&& 1) = 1 then
      some (.inl (x3, x4, (x5 + 1)))
    else
      if ((gJ M 109 x5.toNatClampNeg) &&& x1) = 0 then
        if ((gI M 110 x5.toNatClampNeg) &&& (x3 ^^^ (-1))) = 0 then
          some (.inl ((x3 ||| ((1 : Int32) <<< ((gI M 108 x5.toNatClampNeg) &&& 31))), 1, (x5 + 1)))
        else
          some (.inl (x3, x4, (x5 + 1)))
      else
        some (.inl (x3, x4, (x5 + 1)))
noncomputable def l_mo_standsWithout_16 (x1 : Int64) (x3 : Int32) (x4 : Int32) (x5 : Int32) (M : dM) : Option (Int32 × Int32) := lpc (fun s => b_mo_standsWithout_16_16 x1 s.1 s.2.1 s.2.2 M) (x3, x4, x5)
noncomputable def b_mo_standsWithout_5_5 (x1 : Int64) (x3 : Int32) (x4 : Int32) (M : dM) : Option ((Int32 × Int32) ⊕ Int32) :=
  if x4 = 0 then
    some (.inr x3)
  else
    (l_mo_standsWithout_16 x1 x3 0 0 M).bind fun t2 =>
      some (.inl (t2.1, t2.2))
noncomputable def l_mo_standsWithout_5 (x1 : Int64) (x3 : Int32) (x4 : Int32) (M : dM) : Option Int32 := lpc (fun s => b_mo_standsWithout_5_5 x1 s.1 s.2 M) (x3, x4)
noncomputable def f_mo_standsWithout (a1 : Int64) (M : dM) : Option Int32 :=
  (l_mo_standsWithout_5 a1 0 1 M).bind fun r7 => some r7
theorem w_b_mo_standsWithout_16_16 (x1 : Int64) (x3 : Int32) (x4 : Int32) (x5 : Int32)  (M : dM) {Q : mz_P} {o : ((Int32 × Int32 × Int32) ⊕ (Int32 × Int32))} (hf : b_mo_standsWithout_16_16 x1 x3 x4 x5 M = some o) (hk : K_mo_standsWithout_16 Q x1 M o) : mW mX12_standsWithout 1 Q 16 [some (.ref 66), some (.long x1), none, some (.int x3), some (.int x4), some (.int x5)] [] M := by
  unfold b_mo_standsWithout_16_16 at hf
  refine y_iload (i := 5) (n := 18) ⟨dX12_standsWithout_16, rfl⟩ rfl ?_
  refine y_aload_n (i := 0) (n := 19) ⟨dX12_standsWithout_18, rfl⟩ rfl ?_
  refine y_getI (n := 22) ⟨dX12_standsWithout_19, rfl⟩ kfX12_508 l_66 rfl ?_
  refine y_icmp_ge (t := 92) (n := 25) ⟨dX12_standsWithout_22, rfl, rfl⟩ (fun (hc : (gI M 66 69) ≤ x5) => ?_) (fun (hc : ¬ ((gI M 66 69) ≤ x5)) => ?_)
  · replace hf := i_t hc hf
    cases hf
    exact y_wk (L2 := [some (.ref 66), some (.long x1), none, some (.int x3), some (.int x4), none]) ⟨Or.inr rfl, Or.inr rfl, Or.inr rfl, Or.inr rfl, Or.inr rfl, Or.inl rfl, trivial⟩ hk
  · replace hf := i_f hc hf
    refine y_iload_n (i := 3) (n := 26) ⟨dX12_standsWithout_25, rfl⟩ rfl ?_
    refine y_aload_n (i := 0) (n := 27) ⟨dX12_standsWithout_26, rfl⟩ rfl ?_
    refine y_getR (n := 30) ⟨dX12_standsWithout_27, rfl⟩ kfX12_134 l_66 rfl r_66_70 ?_
    refine y_iload (i := 5) (n := 32) ⟨dX12_standsWithout_30, rfl⟩ rfl ?_
    obtain ⟨hg1, hf⟩ := g_s hf
    refine y_iaload (n := 33) ⟨dX12_standsWithout_32, rfl⟩ l_108 hg1 ?_
    refine y_ishr (n := 34) ⟨dX12_standsWithout_33, rfl⟩ ?_
    refine y_iconst (n := 35) (v := 1) ⟨dX12_standsWithout_34, rfl⟩ ki_1 ?_
    refine y_iand (n := 36) ⟨dX12_standsWithout_35, rfl⟩ ?_
    refine y_iconst (n := 37) (v := 1) ⟨dX12_standsWithout_36, rfl⟩ ki_1 ?_
    refine y_icmp_eq (t := 86) (n := 40) ⟨dX12_standsWithout_37, rfl, rfl⟩ (fun (hc : ((x3 >>> ((gI M 108 x5.toNatClampNeg) &&& 31)) &&& 1) = 1) => ?_) (fun (hc : ¬ (((x3 >>> ((gI M 108 x5.toNatClampNeg) &&& 31)) &&& 1) = 1)) => ?_)
    · replace hf := i_t hc hf
      refine y_iinc (i := 5) (n := 89) (b := (x5 + 1)) (L2 := [some (.ref 66), some (.long x1), none, some (.int x3), some (.int x4), some (.int (x5 + 1))]) ⟨dX12_standsWithout_86, rfl⟩ rfl (by rw [ki_1]) (by decide) rfl rfl ?_
      refine y_goto (t := 16) ⟨dX12_standsWithout_89, rfl, rfl⟩ ?_
      cases hf
      exact y_wk (L2 := [some (.ref 66), some (.long x1), none, some (.int x3), some (.int x4), some (.int (x5 + 1))]) ⟨Or.inr rfl, Or.inr rfl, Or.inr rfl, Or.inr rfl, Or.inr rfl, Or.inr rfl, trivial⟩ hk
    · replace hf := i_f hc hf
      refine y_aload_n (i := 0) (n := 41) ⟨dX12_standsWithout_40, rfl⟩ rfl ?_
      refine y_getR (n := 44) ⟨dX12_standsWithout_41, rfl⟩ kfX12_137 l_66 rfl r_66_71 ?_
      refine y_iload (i := 5) (n := 46) ⟨dX12_standsWithout_44, rfl⟩ rfl ?_
      refine y_laload (n := 47) ⟨dX12_standsWithout_46, rfl⟩ l_109 hg1 ?_
      refine y_lload_n (i := 1) (n := 48) ⟨dX12_standsWithout_47, rfl⟩ rfl ?_
      refine y_land (n := 49) ⟨dX12_standsWithout_48, rfl⟩ ?_
      refine y_lconst (n := 50) (v := 0) ⟨dX12_standsWithout_49, rfl⟩ kl_0 ?_
      refine y_lcmp (n := 51) ⟨dX12_standsWithout_50, rfl⟩ ?_
      refine y_if_ne (t := 86) (n := 54) ⟨dX12_standsWithout_51, rfl, rfl⟩ (fun h0 => ?_) (fun h0 => ?_)
      · have hc : ¬ (((gJ M 109 x5.toNatClampNeg) &&& x1) = 0) := fun e => h0 ((lc_eq _ _).mpr e)
        replace hf := i_f hc hf
        refine y_iinc (i := 5) (n := 89) (b := (x5 + 1)) (L2 := [some (.ref 66), some (.long x1), none, some (.int x3), some (.int x4), some (.int (x5 + 1))]) ⟨dX12_standsWithout_86, rfl⟩ rfl (by rw [ki_1]) (by decide) rfl rfl ?_
        refine y_goto (t := 16) ⟨dX12_standsWithout_89, rfl, rfl⟩ ?_
        cases hf
        exact y_wk (L2 := [some (.ref 66), some (.long x1), none, some (.int x3), some (.int x4), some (.int (x5 + 1))]) ⟨Or.inr rfl, Or.inr rfl, Or.inr rfl, Or.inr rfl, Or.inr rfl, Or.inr rfl, trivial⟩ hk
      · have hc : ((gJ M 109 x5.toNatClampNeg) &&& x1) = 0 := (lc_eq _ _).mp h0
        replace hf := i_t hc hf
        refine y_aload_n (i := 0) (n := 55) ⟨dX12_standsWithout_54, rfl⟩ rfl ?_
        refine y_getR (n := 58) ⟨dX12_standsWithout_55, rfl⟩ kfX12_141 l_66 rfl r_66_72 ?_
        refine y_iload (i := 5) (n := 60) ⟨dX12_standsWithout_58, rfl⟩ rfl ?_
        refine y_iaload (n := 61) ⟨dX12_standsWithout_60, rfl⟩ l_110 hg1 ?_
        refine y_iload_n (i := 3) (n := 62) ⟨dX12_standsWithout_61, rfl⟩ rfl ?_
        refine y_iconst (n := 63) (v := (-1)) ⟨dX12_standsWithout_62, rfl⟩ ki_m1 ?_
        refine y_ixor (n := 64) ⟨dX12_standsWithout_63, rfl⟩ ?_
        refine y_iand (n := 65) ⟨dX12_standsWithout_64, rfl⟩ ?_
        refine y_if_eq (t := 71) (n := 68) ⟨dX12_standsWithout_65, rfl, rfl⟩ (fun (hc : ((gI M 110 x5.toNatClampNeg) &&& (x3 ^^^ (-1))) = 0) => ?_) (fun (hc : ¬ (((gI M 110 x5.toNatClampNeg) &&& (x3 ^^^ (-1))) = 0)) => ?_)
        · replace hf := i_t hc hf
          refine y_iload_n (i := 3) (n := 72) ⟨dX12_standsWithout_71, rfl⟩ rfl ?_
          refine y_iconst (n := 73) (v := 1) ⟨dX12_standsWithout_72, rfl⟩ ki_1 ?_
          refine y_aload_n (i := 0) (n := 74) ⟨dX12_standsWithout_73, rfl⟩ rfl ?_
          refine y_getR (n := 77) ⟨dX12_standsWithout_74, rfl⟩ kfX12_134 l_66 rfl r_66_70 ?_
          refine y_iload (i := 5) (n := 79) ⟨dX12_standsWithout_77, rfl⟩ rfl ?_
          refine y_iaload (n := 80) ⟨dX12_standsWithout_79, rfl⟩ l_108 hg1 ?_
          refine y_ishl (n := 81) ⟨dX12_standsWithout_80, rfl⟩ ?_
          refine y_ior (n := 82) ⟨dX12_standsWithout_81, rfl⟩ ?_
          refine y_istore_n (i := 3) (n := 83) (L2 := [some (.ref 66), some (.long x1), none, some (.int (x3 ||| ((1 : Int32) <<< ((gI M 108 x5.toNatClampNeg) &&& 31)))), some (.int x4), some (.int x5)]) ⟨dX12_standsWithout_82, rfl⟩ (by decide) rfl rfl ?_
          refine y_iconst (n := 84) (v := 1) ⟨dX12_standsWithout_83, rfl⟩ ki_1 ?_
          refine y_istore (i := 4) (n := 86) (L2 := [some (.ref 66), some (.long x1), none, some (.int (x3 ||| ((1 : Int32) <<< ((gI M 108 x5.toNatClampNeg) &&& 31)))), some (.int 1), some (.int x5)]) ⟨dX12_standsWithout_84, rfl⟩ (by decide) rfl rfl ?_
          refine y_iinc (i := 5) (n := 89) (b := (x5 + 1)) (L2 := [some (.ref 66), some (.long x1), none, some (.int (x3 ||| ((1 : Int32) <<< ((gI M 108 x5.toNatClampNeg) &&& 31)))), some (.int 1), some (.int (x5 + 1))]) ⟨dX12_standsWithout_86, rfl⟩ rfl (by rw [ki_1]) (by decide) rfl rfl ?_
          refine y_goto (t := 16) ⟨dX12_standsWithout_89, rfl, rfl⟩ ?_
          cases hf
          exact y_wk (L2 := [some (.ref 66), some (.long x1), none, some (.int (x3 ||| ((1 : Int32) <<< ((gI M 108 x5.toNatClampNeg) &&& 31)))), some (.int 1), some (.int (x5 + 1))]) ⟨Or.inr rfl, Or.inr rfl, Or.inr rfl, Or.inr rfl, Or.inr rfl, Or.inr rfl, trivial⟩ hk
        · replace hf := i_f hc hf
          refine y_goto (t := 86) ⟨dX12_standsWithout_68, rfl, rfl⟩ ?_
          refine y_iinc (i := 5) (n := 89) (b := (x5 + 1)) (L2 := [some (.ref 66), some (.long x1), none, some (.int x3), some (.int x4), some (.int (x5 + 1))]) ⟨dX12_standsWithout_86, rfl⟩ rfl (by rw [ki_1]) (by decide) rfl rfl ?_
          refine y_goto (t := 16) ⟨dX12_standsWithout_89, rfl, rfl⟩ ?_
          cases hf
          exact y_wk (L2 := [some (.ref 66), some (.long x1), none, some (.int x3), some (.int x4), some (.int (x5 + 1))]) ⟨Or.inr rfl, Or.inr rfl, Or.inr rfl, Or.inr rfl, Or.inr rfl, Or.inr rfl, trivial⟩ hk
theorem wl_mo_standsWithout_16 (x1 : Int64) (x3 : Int32) (x4 : Int32) (x5 : Int32) (M : dM) {Q : mz_P} {x : (Int32 × Int32)} (hf : l_mo_standsWithout_16 x1 x3 x4 x5 M = some x) (hk : K_mo_standsWithout_16 Q x1 M (.inr x)) : mW mX12_standsWithout 1 Q 16 [some (.ref 66), some (.long x1), none, some (.int x3), some (.int x4), some (.int x5)] [] M :=
  lpc_wp (σ := (Int32 × Int32 × Int32)) (ξ := (Int32 × Int32)) (s := (x3, x4, x5)) (Wh := fun s => mW mX12_standsWithout 1 Q 16 [some (.ref 66), some (.long x1), none, some (.int s.1), some (.int s.2.1), some (.int s.2.2)] [] M) (K := K_mo_standsWithout_16 Q x1 M) (fun _ h => h) (fun s o hb hk => w_b_mo_standsWithout_16_16 x1 s.1 s.2.1 s.2.2 M hb hk) hf hk
theorem w_b_mo_standsWithout_5_5 (x1 : Int64) (x3 : Int32) (x4 : Int32)  (M : dM) {Q : mz_P} {o : ((Int32 × Int32) ⊕ Int32)} (hf : b_mo_standsWithout_5_5 x1 x3 x4 M = some o) (hk : K_mo_standsWithout_5 Q x1 M o) : mW mX12_standsWithout 1 Q 5 [some (.ref 66), some (.long x1), none, some (.int x3), some (.int x4), none] [] M := by
  unfold b_mo_standsWithout_5_5 at hf
  refine y_iload (i := 4) (n := 7) ⟨dX12_standsWithout_5, rfl⟩ rfl ?_
  refine y_if_eq (t := 95) (n := 10) ⟨dX12_standsWithout_7, rfl, rfl⟩ (fun (hc : x4 = 0) => ?_) (fun (hc : ¬ (x4 = 0)) => ?_)
  · replace hf := i_t hc hf
    refine y_iload_n (i := 3) (n := 96) ⟨dX12_standsWithout_95, rfl⟩ rfl ?_
    cases hf
    exact y_ireturn (n := 97) ⟨dX12_standsWithout_96, rfl⟩ rfl rfl hk
  · replace hf := i_f hc hf
    refine y_iconst (n := 11) (v := 0) ⟨dX12_standsWithout_10, rfl⟩ ki_0 ?_
    refine y_istore (i := 4) (n := 13) (L2 := [some (.ref 66), some (.long x1), none, some (.int x3), some (.int 0), none]) ⟨dX12_standsWithout_11, rfl⟩ (by decide) rfl rfl ?_
    refine y_iconst (n := 14) (v := 0) ⟨dX12_standsWithout_13, rfl⟩ ki_0 ?_
    refine y_istore (i := 5) (n := 16) (L2 := [some (.ref 66), some (.long x1), none, some (.int x3), some (.int 0), some (.int 0)]) ⟨dX12_standsWithout_14, rfl⟩ (by decide) rfl rfl ?_
    obtain ⟨t2, hl3, hf⟩ := b_s hf
    refine y_wk (L2 := [some (.ref 66), some (.long x1), none, some (.int x3), some (.int 0), some (.int 0)]) ⟨Or.inr rfl, Or.inr rfl, Or.inr rfl, Or.inr rfl, Or.inr rfl, Or.inr rfl, trivial⟩ (wl_mo_standsWithout_16 x1 x3 0 0 M hl3 ?_)
    show mW mX12_standsWithout 1 Q 92 [some (.ref 66), some (.long x1), none, some (.int t2.1), some (.int t2.2), none] [] M
    refine y_goto (t := 5) ⟨dX12_standsWithout_92, rfl, rfl⟩ ?_
    cases hf
    exact y_wk (L2 := [some (.ref 66), some (.long x1), none, some (.int t2.1), some (.int t2.2), none]) ⟨Or.inr rfl, Or.inr rfl, Or.inr rfl, Or.inr rfl, Or.inr rfl, Or.inr rfl, trivial⟩ hk
theorem wl_mo_standsWithout_5 (x1 : Int64) (x3 : Int32) (x4 : Int32) (M : dM) {Q : mz_P} {x : Int32} (hf : l_mo_standsWithout_5 x1 x3 x4 M = some x) (hk : K_mo_standsWithout_5 Q x1 M (.inr x)) : mW mX12_standsWithout 1 Q 5 [some (.ref 66), some (.long x1), none, some (.int x3), some (.int x4), none] [] M :=
  lpc_wp (σ := (Int32 × Int32)) (ξ := Int32) (s := (x3, x4)) (Wh := fun s => mW mX12_standsWithout 1 Q 5 [some (.ref 66), some (.long x1), none, some (.int s.1), some (.int s.2), none] [] M) (K := K_mo_standsWithout_5 Q x1 M) (fun _ h => h) (fun s o hb hk => w_b_mo_standsWithout_5_5 x1 s.1 s.2 M hb hk) hf hk
theorem ok_mo_standsWithout (a1 : Int64) (M : dM) {o : Int32} (hf : f_mo_standsWithout a1 M = some o) : mO mX12_standsWithout 1 [.ref 66, .long a1] M (some (.int o)) M := by
  refine y_ok (by decide +kernel) (Nat.le_of_ble_eq_true rfl) (L0 := [some (.ref 66), some (.long a1), none, none, none, none]) rfl ?_
  have hk := mR_mQ (some (.int o)) M
  generalize mQ _ _ = Q at hk ⊢
  unfold f_mo_standsWithout at hf
  refine y_iconst (n := 1) (v := 0) ⟨dX12_standsWithout_0, rfl⟩ ki_0 ?_
  refine y_istore_n (i := 3) (n := 2) (L2 := [some (.ref 66), some (.long a1), none, some (.int 0), none, none]) ⟨dX12_standsWithout_1, rfl⟩ (by decide) rfl rfl ?_
  refine y_iconst (n := 3) (v := 1) ⟨dX12_standsWithout_2, rfl⟩ ki_1 ?_
  refine y_istore (i := 4) (n := 5) (L2 := [some (.ref 66), some (.long a1), none, some (.int 0), some (.int 1), none]) ⟨dX12_standsWithout_3, rfl⟩ (by decide) rfl rfl ?_
  obtain ⟨r7, hl6, hf⟩ := b_s hf
  cases hf
  exact y_wk (L2 := [some (.ref 66), some (.long a1), none, some (.int 0), some (.int 1), none]) ⟨Or.inr rfl, Or.inr rfl, Or.inr rfl, Or.inr rfl, Or.inr rfl, Or.inr rfl, trivial⟩ (wl_mo_standsWithout_5 a1 0 1 M hl6 hk)
theorem c_mo_standsWithout (a1 : Int64) (M : dM) {o : Int32} {y : mz_M} {d : Nat} {Q : mz_P} {pc n i : Nat} {L : List (Option Value)} {st : List Value} (h : mz_d y.2.1 pc n 3 (.invokevirtual i)) (hl : mz_ml y.1.cls i yX12_standsWithout) (hf : f_mo_standsWithout a1 M = some o) (hd : 1 + 1 ≤ d) (hsm : (st.map (fun v => v.category)).sum ≤ 8) (hLr : mz_rL 133 L = true) (hSr : mz_rS 133 st = true) (kk : mW y d Q n L (.int o :: st) M) : mW y d Q pc L (.long a1 :: .ref 66 :: st) M :=
  y_callV kmX12_standsWithout kvX12_standsWithout l_66 (by decide +kernel) (by decide +kernel) h hl (ok_mo_standsWithout a1 M hf) (vs := [.long a1]) rfl rfl hd hsm hLr hSr kk
noncomputable def t_mo_standing_17 (x1 : Int32) (M : dM) : Option (Int32 × dM) :=
  (f_mo_findsBy x1 M).bind fun v1 =>
  (f_mo_standsWithout v1 M).bind fun v3 =>
  some (v3, M)
noncomputable def f_mo_standing (a1 : Int32) (M : dM) : Option (Int32 × dM) :=
  if a1 = (-1) then
    t_mo_standing_17 a1 (sI M 66 0 0)
  else
    if (f_mo_isHand a1) = true then
      t_mo_standing_17 a1 (sI M 66 0 0)
    else
      some ((-1), (sI M 66 0 0))
theorem w_t_mo_standing_17 (x1 : Int32) (M : dM) {Q : mz_P} {o : (Int32 × dM)} (hf : t_mo_standing_17 x1 M = some o) (hk : mR Q (some (.int o.1)) o.2) : mW mX12_standing 2 Q 17 [some (.ref 66), some (.int x1)] [] M := by
  unfold t_mo_standing_17 at hf
  refine y_aload_n (i := 0) (n := 18) ⟨dX12_standing_17, rfl⟩ rfl ?_
  refine y_aload_n (i := 0) (n := 19) ⟨dX12_standing_18, rfl⟩ rfl ?_
  refine y_iload_n (i := 1) (n := 20) ⟨dX12_standing_19, rfl⟩ rfl ?_
  obtain ⟨v1, hv2, hf⟩ := b_s hf
  refine c_mo_findsBy x1 M (n := 23) ⟨dX12_standing_20, rfl⟩ klX12_511 hv2 (by decide) (Nat.le_of_ble_eq_true rfl) rfl rfl ?_
  obtain ⟨v3, hv4, hf⟩ := b_s hf
  refine c_mo_standsWithout v1 M (n := 26) ⟨dX12_standing_23, rfl⟩ klX12_515 hv4 (by decide) (Nat.le_of_ble_eq_true rfl) rfl rfl ?_
  refine y_goto (t := 30) ⟨dX12_standing_26, rfl, rfl⟩ ?_
  cases hf
  exact y_ireturn (n := 31) ⟨dX12_standing_30, rfl⟩ rfl rfl hk
theorem ok_mo_standing (a1 : Int32) (M : dM) {o : (Int32 × dM)} (hf : f_mo_standing a1 M = some o) : mO mX12_standing 2 [.ref 66, .int a1] M (some (.int o.1)) o.2 := by
  refine y_ok (by decide +kernel) (Nat.le_of_ble_eq_true rfl) (L0 := [some (.ref 66), some (.int a1)]) rfl ?_
  have hk := mR_mQ (some (.int o.1)) o.2
  generalize mQ _ _ = Q at hk ⊢
  unfold f_mo_standing at hf
  refine y_aload_n (i := 0) (n := 1) ⟨dX12_standing_0, rfl⟩ rfl ?_
  refine y_iconst (n := 2) (v := 0) ⟨dX12_standing_1, rfl⟩ ki_0 ?_
  refine y_putI (n := 5) ⟨dX12_standing_2, rfl⟩ kfX12_214 l_66 (by decide +kernel) rfl ?_
  refine y_iload_n (i := 1) (n := 6) ⟨dX12_standing_5, rfl⟩ rfl ?_
  refine y_iconst (n := 7) (v := (-1)) ⟨dX12_standing_6, rfl⟩ ki_m1 ?_
  refine y_icmp_eq (t := 17) (n := 10) ⟨dX12_standing_7, rfl, rfl⟩ (fun (hc : a1 = (-1)) => ?_) (fun (hc : ¬ (a1 = (-1))) => ?_)
  · replace hf := i_t hc hf
    exact y_wk (L2 := [some (.ref 66), some (.int a1)]) ⟨Or.inr rfl, Or.inr rfl, trivial⟩ (w_t_mo_standing_17 a1 (sI M 66 0 0) hf hk)
  · replace hf := i_f hc hf
    refine y_iload_n (i := 1) (n := 11) ⟨dX12_standing_10, rfl⟩ rfl ?_
    refine c_mo_isHand a1 (sI M 66 0 0) (n := 14) ⟨dX12_standing_11, rfl⟩ klX12_225 rfl (by decide) (Nat.le_of_ble_eq_true rfl) rfl rfl ?_
    refine y_if_eq (t := 29) (n := 17) ⟨dX12_standing_14, rfl, rfl⟩ (fun h0 => ?_) (fun h0 => ?_)
    · have hc := bI_0 h0
      replace hf := i_f hc hf
      refine y_iconst (n := 30) (v := (-1)) ⟨dX12_standing_29, rfl⟩ ki_m1 ?_
      cases hf
      exact y_ireturn (n := 31) ⟨dX12_standing_30, rfl⟩ rfl rfl hk
    · have hc := bI_1 h0
      replace hf := i_t hc hf
      exact y_wk (L2 := [some (.ref 66), some (.int a1)]) ⟨Or.inr rfl, Or.inr rfl, trivial⟩ (w_t_mo_standing_17 a1 (sI M 66 0 0) hf hk)
theorem c_mo_standing (a1 : Int32) (M : dM) {o : (Int32 × dM)} {y : mz_M} {d : Nat} {Q : mz_P} {pc n i : Nat} {L : List (Option Value)} {st : List Value} (h : mz_d y.2.1 pc n 3 (.invokevirtual i)) (hl : mz_ml y.1.cls i yX12_standing) (hf : f_mo_standing a1 M = some o) (hd : 2 + 1 ≤ d) (hsm : (st.map (fun v => v.category)).sum ≤ 8) (hLr : mz_rL 133 L = true) (hSr : mz_rS 133 st = true) (kk : mW y d Q n L (.int o.1 :: st) o.2) : mW y d Q pc L (.int a1 :: .ref 66 :: st) M :=
  y_callV kmX12_standing kvX12_standing l_66 (by decide +kernel) (by decide +kernel) h hl (ok_mo_standing a1 M hf) (vs := [.int a1]) rfl rfl hd hsm hLr hSr kk
def K_mo_oldest_23 (Q : mz_P) (x1 : Int32) (M : dM) : ((Int32 × Int32) ⊕ (Int32 × dM)) → Prop
  | .inl s => mW mX12_oldest 2 Q 23 [some (.ref 66), some (.int x1), some (.int s.1), some (.int s.2)] [] M
  | .inr r => mR Q (some (.int r.1)) r.2
noncomputable def b_mo_oldest_23_23 (x1 : Int32) (x2 : Int32) (x3 : Int32) (M : dM) : Option ((Int32 × Int32) ⊕ (Int32 × dM)) :=
  if (gI M 66 9) ≤ x3 then
    some (.inr (x2, M))
  else
    gd (vp_in x3 40) <|
    if (gI M 78 x3.toNatClampNeg) = x1 then
      some (.inl (x2, (x3 + 1)))
    else
      (f_mo_ageOf x3 M).bind fun v2 =>
      if v2 ≤ x2 then
        some (.inl (x2, (x3 + 1)))
      else
        (f_mo_ageOf x3 M).bind fun v4 =>
        some (.inl (v4, (x3 + 1)))
noncomputable def l_mo_oldest_23 (x1 : Int32) (x2 : Int32) (x3 : Int32) (M : dM) : Option (Int32 × dM) := lpc (fun s => b_mo_oldest_23_23 x1 s.1 s.2 M) (x2, x3)
noncomputable def t_mo_oldest_21 (x1 : Int32) (x2 : Int32) (M : dM) : Option (Int32 × dM) :=
  (l_mo_oldest_23 x1 x2 0 M).bind fun r8 => some r8
noncomputable def f_mo_oldest (a1 : Int32) (M : dM) : Option (Int32 × dM) :=
  if a1 = (-1) then
    t_mo_oldest_21 a1 (-1) (sI M 66 0 0)
  else
    if (f_mo_isHand a1) = true then
      t_mo_oldest_21 a1 (-1) (sI M 66 0 0)
    else
      some ((-1), (sI M 66 0 0))
theorem w_b_mo_oldest_23_23 (x1 : Int32) (x2 : Int32) (x3 : Int32)  (M : dM) {Q : mz_P} {o : ((Int32 × Int32) ⊕ (Int32 × dM))} (hf : b_mo_oldest_23_23 x1 x2 x3 M = some o) (hk : K_mo_oldest_23 Q x1 M o) : mW mX12_oldest 2 Q 23 [some (.ref 66), some (.int x1), some (.int x2), some (.int x3)] [] M := by
  unfold b_mo_oldest_23_23 at hf
  refine y_iload_n (i := 3) (n := 24) ⟨dX12_oldest_23, rfl⟩ rfl ?_
  refine y_aload_n (i := 0) (n := 25) ⟨dX12_oldest_24, rfl⟩ rfl ?_
  refine y_getI (n := 28) ⟨dX12_oldest_25, rfl⟩ kfX12_235 l_66 rfl ?_
  refine y_icmp_ge (t := 62) (n := 31) ⟨dX12_oldest_28, rfl, rfl⟩ (fun (hc : (gI M 66 9) ≤ x3) => ?_) (fun (hc : ¬ ((gI M 66 9) ≤ x3)) => ?_)
  · replace hf := i_t hc hf
    refine y_iload_n (i := 2) (n := 63) ⟨dX12_oldest_62, rfl⟩ rfl ?_
    cases hf
    exact y_ireturn (n := 64) ⟨dX12_oldest_63, rfl⟩ rfl rfl hk
  · replace hf := i_f hc hf
    refine y_aload_n (i := 0) (n := 32) ⟨dX12_oldest_31, rfl⟩ rfl ?_
    refine y_getR (n := 35) ⟨dX12_oldest_32, rfl⟩ kfX12_43 l_66 rfl r_66_14 ?_
    refine y_iload_n (i := 3) (n := 36) ⟨dX12_oldest_35, rfl⟩ rfl ?_
    obtain ⟨hg1, hf⟩ := g_s hf
    refine y_iaload (n := 37) ⟨dX12_oldest_36, rfl⟩ l_78 hg1 ?_
    refine y_iload_n (i := 1) (n := 38) ⟨dX12_oldest_37, rfl⟩ rfl ?_
    refine y_icmp_eq (t := 56) (n := 41) ⟨dX12_oldest_38, rfl, rfl⟩ (fun (hc : (gI M 78 x3.toNatClampNeg) = x1) => ?_) (fun (hc : ¬ ((gI M 78 x3.toNatClampNeg) = x1)) => ?_)
    · replace hf := i_t hc hf
      refine y_iinc (i := 3) (n := 59) (b := (x3 + 1)) (L2 := [some (.ref 66), some (.int x1), some (.int x2), some (.int (x3 + 1))]) ⟨dX12_oldest_56, rfl⟩ rfl (by rw [ki_1]) (by decide) rfl rfl ?_
      refine y_goto (t := 23) ⟨dX12_oldest_59, rfl, rfl⟩ ?_
      cases hf
      exact y_wk (L2 := [some (.ref 66), some (.int x1), some (.int x2), some (.int (x3 + 1))]) ⟨Or.inr rfl, Or.inr rfl, Or.inr rfl, Or.inr rfl, trivial⟩ hk
    · replace hf := i_f hc hf
      refine y_aload_n (i := 0) (n := 42) ⟨dX12_oldest_41, rfl⟩ rfl ?_
      refine y_iload_n (i := 3) (n := 43) ⟨dX12_oldest_42, rfl⟩ rfl ?_
      obtain ⟨v2, hv3, hf⟩ := b_s hf
      refine c_mo_ageOf x3 M (n := 46) ⟨dX12_oldest_43, rfl⟩ klX12_238 hv3 (by decide) (Nat.le_of_ble_eq_true rfl) rfl rfl ?_
      refine y_iload_n (i := 2) (n := 47) ⟨dX12_oldest_46, rfl⟩ rfl ?_
      refine y_icmp_le (t := 56) (n := 50) ⟨dX12_oldest_47, rfl, rfl⟩ (fun (hc : v2 ≤ x2) => ?_) (fun (hc : ¬ (v2 ≤ x2)) => ?_)
      · replace hf := i_t hc hf
        refine y_iinc (i := 3) (n := 59) (b := (x3 + 1)) (L2 := [some (.ref 66), some (.int x1), some (.int x2), some (.int (x3 + 1))]) ⟨dX12_oldest_56, rfl⟩ rfl (by rw [ki_1]) (by decide) rfl rfl ?_
        refine y_goto (t := 23) ⟨dX12_oldest_59, rfl, rfl⟩ ?_
        cases hf
        exact y_wk (L2 := [some (.ref 66), some (.int x1), some (.int x2), some (.int (x3 + 1))]) ⟨Or.inr rfl, Or.inr rfl, Or.inr rfl, Or.inr rfl, trivial⟩ hk
      · replace hf := i_f hc hf
        refine y_aload_n (i := 0) (n := 51) ⟨dX12_oldest_50, rfl⟩ rfl ?_
        refine y_iload_n (i := 3) (n := 52) ⟨dX12_oldest_51, rfl⟩ rfl ?_
        obtain ⟨v4, hv5, hf⟩ := b_s hf
        refine c_mo_ageOf x3 M (n := 55) ⟨dX12_oldest_52, rfl⟩ klX12_238 hv5 (by decide) (Nat.le_of_ble_eq_true rfl) rfl rfl ?_
        refine y_istore_n (i := 2) (n := 56) (L2 := [some (.ref 66), some (.int x1), some (.int v4), some (.int x3)]) ⟨dX12_oldest_55, rfl⟩ (by decide) rfl rfl ?_
        refine y_iinc (i := 3) (n := 59) (b := (x3 + 1)) (L2 := [some (.ref 66), some (.int x1), some (.int v4), some (.int (x3 + 1))]) ⟨dX12_oldest_56, rfl⟩ rfl (by rw [ki_1]) (by decide) rfl rfl ?_
        refine y_goto (t := 23) ⟨dX12_oldest_59, rfl, rfl⟩ ?_
        cases hf
        exact y_wk (L2 := [some (.ref 66), some (.int x1), some (.int v4), some (.int (x3 + 1))]) ⟨Or.inr rfl, Or.inr rfl, Or.inr rfl, Or.inr rfl, trivial⟩ hk
theorem wl_mo_oldest_23 (x1 : Int32) (x2 : Int32) (x3 : Int32) (M : dM) {Q : mz_P} {x : (Int32 × dM)} (hf : l_mo_oldest_23 x1 x2 x3 M = some x) (hk : K_mo_oldest_23 Q x1 M (.inr x)) : mW mX12_oldest 2 Q 23 [some (.ref 66), some (.int x1), some (.int x2), some (.int x3)] [] M :=
  lpc_wp (σ := (Int32 × Int32)) (ξ := (Int32 × dM)) (s := (x2, x3)) (Wh := fun s => mW mX12_oldest 2 Q 23 [some (.ref 66), some (.int x1), some (.int s.1), some (.int s.2)] [] M) (K := K_mo_oldest_23 Q x1 M) (fun _ h => h) (fun s o hb hk => w_b_mo_oldest_23_23 x1 s.1 s.2 M hb hk) hf hk
theorem w_t_mo_oldest_21 (x1 : Int32) (x2 : Int32) (M : dM) {Q : mz_P} {o : (Int32 × dM)} (hf : t_mo_oldest_21 x1 x2 M = some o) (hk : mR Q (some (.int o.1)) o.2) : mW mX12_oldest 2 Q 21 [some (.ref 66), some (.int x1), some (.int x2), none] [] M := by
  unfold t_mo_oldest_21 at hf
  refine y_iconst (n := 22) (v := 0) ⟨dX12_oldest_21, rfl⟩ ki_0 ?_
  refine y_istore_n (i := 3) (n := 23) (L2 := [some (.ref 66), some (.int x1), some (.int x2), some (.int 0)]) ⟨dX12_oldest_22, rfl⟩ (by decide) rfl rfl ?_
  obtain ⟨r8, hl7, hf⟩ := b_s hf
  cases hf
  exact y_wk (L2 := [some (.ref 66), some (.int x1), some (.int x2), some (.int 0)]) ⟨Or.inr rfl, Or.inr rfl, Or.inr rfl, Or.inr rfl, trivial⟩ (wl_mo_oldest_23 x1 x2 0 M hl7 hk)
theorem ok_mo_oldest (a1 : Int32) (M : dM) {o : (Int32 × dM)} (hf : f_mo_oldest a1 M = some o) : mO mX12_oldest 2 [.ref 66, .int a1] M (some (.int o.1)) o.2 := by
  refine y_ok (by decide +kernel) (Nat.le_of_ble_eq_true rfl) (L0 := [some (.ref 66), some (.int a1), none, none]) rfl ?_
  have hk := mR_mQ (some (.int o.1)) o.2
  generalize mQ _ _ = Q at hk ⊢
  unfold f_mo_oldest at hf
  refine y_aload_n (i := 0) (n := 1) ⟨dX12_oldest_0, rfl⟩ rfl ?_
  refine y_iconst (n := 2) (v := 0) ⟨dX12_oldest_1, rfl⟩ ki_0 ?_
  refine y_putI (n := 5) ⟨dX12_oldest_2, rfl⟩ kfX12_214 l_66 (by decide +kernel) rfl ?_
  refine y_iconst (n := 6) (v := (-1)) ⟨dX12_oldest_5, rfl⟩ ki_m1 ?_
  refine y_istore_n (i := 2) (n := 7) (L2 := [some (.ref 66), some (.int a1), some (.int (-1)), none]) ⟨dX12_oldest_6, rfl⟩ (by decide) rfl rfl ?_
  refine y_iload_n (i := 1) (n := 8) ⟨dX12_oldest_7, rfl⟩ rfl ?_
  refine y_iconst (n := 9) (v := (-1)) ⟨dX12_oldest_8, rfl⟩ ki_m1 ?_
  refine y_icmp_eq (t := 21) (n := 12) ⟨dX12_oldest_9, rfl, rfl⟩ (fun (hc : a1 = (-1)) => ?_) (fun (hc : ¬ (a1 = (-1))) => ?_)
  · replace hf := i_t hc hf
    exact y_wk (L2 := [some (.ref 66), some (.int a1), some (.int (-1)), none]) ⟨Or.inr rfl, Or.inr rfl, Or.inr rfl, Or.inr rfl, trivial⟩ (w_t_mo_oldest_21 a1 (-1) (sI M 66 0 0) hf hk)
  · replace hf := i_f hc hf
    refine y_iload_n (i := 1) (n := 13) ⟨dX12_oldest_12, rfl⟩ rfl ?_
    refine c_mo_isHand a1 (sI M 66 0 0) (n := 16) ⟨dX12_oldest_13, rfl⟩ klX12_225 rfl (by decide) (Nat.le_of_ble_eq_true rfl) rfl rfl ?_
    refine y_if_ne (t := 21) (n := 19) ⟨dX12_oldest_16, rfl, rfl⟩ (fun h0 => ?_) (fun h0 => ?_)
    · have hc := bI_1 h0
      replace hf := i_t hc hf
      exact y_wk (L2 := [some (.ref 66), some (.int a1), some (.int (-1)), none]) ⟨Or.inr rfl, Or.inr rfl, Or.inr rfl, Or.inr rfl, trivial⟩ (w_t_mo_oldest_21 a1 (-1) (sI M 66 0 0) hf hk)
    · have hc := bI_0 h0
      replace hf := i_f hc hf
      refine y_iconst (n := 20) (v := (-1)) ⟨dX12_oldest_19, rfl⟩ ki_m1 ?_
      cases hf
      exact y_ireturn (n := 21) ⟨dX12_oldest_20, rfl⟩ rfl rfl hk
theorem c_mo_oldest (a1 : Int32) (M : dM) {o : (Int32 × dM)} {y : mz_M} {d : Nat} {Q : mz_P} {pc n i : Nat} {L : List (Option Value)} {st : List Value} (h : mz_d y.2.1 pc n 3 (.invokevirtual i)) (hl : mz_ml y.1.cls i yX12_oldest) (hf : f_mo_oldest a1 M = some o) (hd : 2 + 1 ≤ d) (hsm : (st.map (fun v => v.category)).sum ≤ 8) (hLr : mz_rL 133 L = true) (hSr : mz_rS 133 st = true) (kk : mW y d Q n L (.int o.1 :: st) o.2) : mW y d Q pc L (.int a1 :: .ref 66 :: st) M :=
  y_callV kmX12_oldest kvX12_oldest l_66 (by decide +kernel) (by decide +kernel) h hl (ok_mo_oldest a1 M hf) (vs := [.int a1]) rfl rfl hd hsm hLr hSr kk
noncomputable def f_mo_falls (a1 : Int32) (a2 : Int32) (a3 : Int32) (a4 : Int32) (a5 : Int32) (M : dM) : Option (Bool × dM) :=
  (f_mo_standsWithout ((((1 : Int64) <<< (a3.toInt64 &&& 63)) ||| ((1 : Int64) <<< (a4.toInt64 &&& 63))) ||| ((1 : Int64) <<< (a5.toInt64 &&& 63))) M).bind fun v1 =>
  if ((v1 >>> (a1 &&& 31)) &&& 1) = 1 then
    some (false, M)
  else
    some (true, (sI (sI (sI (sI M 66 73 a2) 111 0 a3) 111 1 a4) 111 2 a5))
theorem ok_mo_falls (a1 : Int32) (a2 : Int32) (a3 : Int32) (a4 : Int32) (a5 : Int32) (M : dM) {o : (Bool × dM)} (hf : f_mo_falls a1 a2 a3 a4 a5 M = some o) : mO mX12_falls 2 [.ref 66, .int a1, .int a2, .int a3, .int a4, .int a5] M (some (.int (bI o.1))) o.2 := by
  refine y_ok (by decide +kernel) (Nat.le_of_ble_eq_true rfl) (L0 := [some (.ref 66), some (.int a1), some (.int a2), some (.int a3), some (.int a4), some (.int a5), none, none]) rfl ?_
  have hk := mR_mQ (some (.int (bI o.1))) o.2
  generalize mQ _ _ = Q at hk ⊢
  unfold f_mo_falls at hf
  refine y_lconst (n := 1) (v := 1) ⟨dX12_falls_0, rfl⟩ kl_1 ?_
  refine y_iload_n (i := 3) (n := 2) ⟨dX12_falls_1, rfl⟩ rfl ?_
  refine y_lshl (n := 3) ⟨dX12_falls_2, rfl⟩ ?_
  refine y_lconst (n := 4) (v := 1) ⟨dX12_falls_3, rfl⟩ kl_1 ?_
  refine y_iload (i := 4) (n := 6) ⟨dX12_falls_4, rfl⟩ rfl ?_
  refine y_lshl (n := 7) ⟨dX12_falls_6, rfl⟩ ?_
  refine y_lor (n := 8) ⟨dX12_falls_7, rfl⟩ ?_
  refine y_lconst (n := 9) (v := 1) ⟨dX12_falls_8, rfl⟩ kl_1 ?_
  refine y_iload (i := 5) (n := 11) ⟨dX12_falls_9, rfl⟩ rfl ?_
  refine y_lshl (n := 12) ⟨dX12_falls_11, rfl⟩ ?_
  refine y_lor (n := 13) ⟨dX12_falls_12, rfl⟩ ?_
  refine y_lstore (i := 6) (n := 15) (L2 := [some (.ref 66), some (.int a1), some (.int a2), some (.int a3), some (.int a4), some (.int a5), some (.long ((((1 : Int64) <<< (a3.toInt64 &&& 63)) ||| ((1 : Int64) <<< (a4.toInt64 &&& 63))) ||| ((1 : Int64) <<< (a5.toInt64 &&& 63)))), none]) ⟨dX12_falls_13, rfl⟩ (by decide) rfl rfl ?_
  refine y_aload_n (i := 0) (n := 16) ⟨dX12_falls_15, rfl⟩ rfl ?_
  refine y_lload (i := 6) (n := 18) ⟨dX12_falls_16, rfl⟩ rfl ?_
  obtain ⟨v1, hv2, hf⟩ := b_s hf
  refine c_mo_standsWithout ((((1 : Int64) <<< (a3.toInt64 &&& 63)) ||| ((1 : Int64) <<< (a4.toInt64 &&& 63))) ||| ((1 : Int64) <<< (a5.toInt64 &&& 63))) M (n := 21) ⟨dX12_falls_18, rfl⟩ klX12_515 hv2 (by decide) (Nat.le_of_ble_eq_true rfl) rfl rfl ?_
  refine y_iload_n (i := 1) (n := 22) ⟨dX12_falls_21, rfl⟩ rfl ?_
  refine y_ishr (n := 23) ⟨dX12_falls_22, rfl⟩ ?_
  refine y_iconst (n := 24) (v := 1) ⟨dX12_falls_23, rfl⟩ ki_1 ?_
  refine y_iand (n := 25) ⟨dX12_falls_24, rfl⟩ ?_
  refine y_iconst (n := 26) (v := 1) ⟨dX12_falls_25, rfl⟩ ki_1 ?_
  refine y_icmp_ne (t := 31) (n := 29) ⟨dX12_falls_26, rfl, rfl⟩ (fun (hc : ¬ (((v1 >>> (a1 &&& 31)) &&& 1) = 1)) => ?_) (fun (hc : ((v1 >>> (a1 &&& 31)) &&& 1) = 1) => ?_)
  · replace hf := i_f hc hf
    refine y_aload_n (i := 0) (n := 32) ⟨dX12_falls_31, rfl⟩ rfl ?_
    refine y_iload_n (i := 2) (n := 33) ⟨dX12_falls_32, rfl⟩ rfl ?_
    refine y_putI (n := 36) ⟨dX12_falls_33, rfl⟩ kfX12_519 l_66 (by decide +kernel) rfl ?_
    refine y_aload_n (i := 0) (n := 37) ⟨dX12_falls_36, rfl⟩ rfl ?_
    refine y_getR (n := 40) ⟨dX12_falls_37, rfl⟩ kfX12_144 l_66 rfl r_66_74 ?_
    refine y_iconst (n := 41) (v := 0) ⟨dX12_falls_40, rfl⟩ ki_0 ?_
    refine y_iload_n (i := 3) (n := 42) ⟨dX12_falls_41, rfl⟩ rfl ?_
    refine y_iastore (n := 43) ⟨dX12_falls_42, rfl⟩ l_111 (by unfold vp_in; decide) ?_
    refine y_aload_n (i := 0) (n := 44) ⟨dX12_falls_43, rfl⟩ rfl ?_
    refine y_getR (n := 47) ⟨dX12_falls_44, rfl⟩ kfX12_144 l_66 rfl r_66_74 ?_
    refine y_iconst (n := 48) (v := 1) ⟨dX12_falls_47, rfl⟩ ki_1 ?_
    refine y_iload (i := 4) (n := 50) ⟨dX12_falls_48, rfl⟩ rfl ?_
    refine y_iastore (n := 51) ⟨dX12_falls_50, rfl⟩ l_111 (by unfold vp_in; decide) ?_
    refine y_aload_n (i := 0) (n := 52) ⟨dX12_falls_51, rfl⟩ rfl ?_
    refine y_getR (n := 55) ⟨dX12_falls_52, rfl⟩ kfX12_144 l_66 rfl r_66_74 ?_
    refine y_iconst (n := 56) (v := 2) ⟨dX12_falls_55, rfl⟩ ki_2 ?_
    refine y_iload (i := 5) (n := 58) ⟨dX12_falls_56, rfl⟩ rfl ?_
    refine y_iastore (n := 59) ⟨dX12_falls_58, rfl⟩ l_111 (by unfold vp_in; decide) ?_
    refine y_iconst (n := 60) (v := 1) ⟨dX12_falls_59, rfl⟩ ki_1 ?_
    cases hf
    exact y_ireturn (n := 61) ⟨dX12_falls_60, rfl⟩ rfl rfl hk
  · replace hf := i_t hc hf
    refine y_iconst (n := 30) (v := 0) ⟨dX12_falls_29, rfl⟩ ki_0 ?_
    cases hf
    exact y_ireturn (n := 31) ⟨dX12_falls_30, rfl⟩ rfl rfl hk
theorem c_mo_falls (a1 : Int32) (a2 : Int32) (a3 : Int32) (a4 : Int32) (a5 : Int32) (M : dM) {o : (Bool × dM)} {y : mz_M} {d : Nat} {Q : mz_P} {pc n i : Nat} {L : List (Option Value)} {st : List Value} (h : mz_d y.2.1 pc n 3 (.invokevirtual i)) (hl : mz_ml y.1.cls i yX12_falls) (hf : f_mo_falls a1 a2 a3 a4 a5 M = some o) (hd : 2 + 1 ≤ d) (hsm : (st.map (fun v => v.category)).sum ≤ 8) (hLr : mz_rL 133 L = true) (hSr : mz_rS 133 st = true) (kk : mW y d Q n L (.int (bI o.1) :: st) o.2) : mW y d Q pc L (.int a5 :: .int a4 :: .int a3 :: .int a2 :: .int a1 :: .ref 66 :: st) M :=
  y_callV kmX12_falls kvX12_falls l_66 (by decide +kernel) (by decide +kernel) h hl (ok_mo_falls a1 a2 a3 a4 a5 M hf) (vs := [.int a1, .int a2, .int a3, .int a4, .int a5]) rfl rfl hd hsm hLr hSr kk
def K_mo_cuts_7 (Q : mz_P) (x1 : Int32) : ((Int32 × dM) ⊕ (dM ⊕ dM)) → Prop
  | .inl s => mW mX12_cuts 3 Q 7 [some (.ref 66), some (.int x1), some (.int s.1), none, none] [] s.2
  | .inr (.inl t) => mW mX12_cuts 3 Q 34 [some (.ref 66), some (.int x1), none, none, none] [] t
  | .inr (.inr r) => mR Q none r
noncomputable def b_mo_cuts_7_7 (x1 : Int32) (x2 : Int32) (M : dM) : Option ((Int32 × dM) ⊕ (dM ⊕ dM)) :=
  if (gI M 66 9) ≤ x2 then
    some (.inr (.inl M))
  else
    (f_mo_falls x1 1 x2 x2 x2 M).bind fun q1 =>
    if q1.1 = true then
      some (.inr (.inr q1.2))
    else
      some (.inl ((x2 + 1), q1.2))
noncomputable def l_mo_cuts_7 (x1 : Int32) (x2 : Int32) (M : dM) : Option (dM ⊕ dM) := lpc (fun s => b_mo_cuts_7_7 x1 s.1 s.2) (x2, M)
def K_mo_cuts_36 (Q : mz_P) (x1 : Int32) : ((Int32 × dM) ⊕ (dM ⊕ dM)) → Prop
  | .inl s => mW mX12_cuts 3 Q 36 [some (.ref 66), some (.int x1), some (.int s.1), none, none] [] s.2
  | .inr (.inl t) => mW mX12_cuts 3 Q 81 [some (.ref 66), some (.int x1), none, none, none] [] t
  | .inr (.inr r) => mR Q none r
def K_mo_cuts_48 (Q : mz_P) (x1 : Int32) (x2 : Int32) : ((Int32 × dM) ⊕ (dM ⊕ dM)) → Prop
  | .inl s => mW mX12_cuts 3 Q 48 [some (.ref 66), some (.int x1), some (.int x2), some (.int s.1), none] [] s.2
  | .inr (.inl t) => mW mX12_cuts 3 Q 75 [some (.ref 66), some (.int x1), some (.int x2), none, none] [] t
  | .inr (.inr r) => mR Q none r
noncomputable def b_mo_cuts_48_48 (x1 : Int32) (x2 : Int32) (x3 : Int32) (M : dM) : Option ((Int32 × dM) ⊕ (dM ⊕ dM)) :=
  if (gI M 66 9) ≤ x3 then
    some (.inr (.inl M))
  else
    (f_mo_falls x1 2 x2 x3 x3 M).bind fun q6 =>
    if q6.1 = true then
      some (.inr (.inr q6.2))
    else
      some (.inl ((x3 + 1), q6.2))
noncomputable def l_mo_cuts_48 (x1 : Int32) (x2 : Int32) (x3 : Int32) (M : dM) : Option (dM ⊕ dM) := lpc (fun s => b_mo_cuts_48_48 x1 x2 s.1 s.2) (x3, M)
noncomputable def b_mo_cuts_36_36 (x1 : Int32) (x2 : Int32) (M : dM) : Option ((Int32 × dM) ⊕ (dM ⊕ dM)) :=
  if (gI M 66 9) ≤ x2 then
    some (.inr (.inl M))
  else
    (l_mo_cuts_48 x1 x2 (x2 + 1) M).bind (Sum.elim (fun t8 =>
        some (.inl ((x2 + 1), t8))
      ) (fun r10 => some (.inr (.inr r10))))
noncomputable def l_mo_cuts_36 (x1 : Int32) (x2 : Int32) (M : dM) : Option (dM ⊕ dM) := lpc (fun s => b_mo_cuts_36_36 x1 s.1 s.2) (x2, M)
def K_mo_cuts_83 (Q : mz_P) (x1 : Int32) : ((Int32 × dM) ⊕ dM) → Prop
  | .inl s => mW mX12_cuts 3 Q 83 [some (.ref 66), some (.int x1), some (.int s.1), none, none] [] s.2
  | .inr r => mR Q none r
def K_mo_cuts_95 (Q : mz_P) (x1 : Int32) (x2 : Int32) : ((Int32 × dM) ⊕ (dM ⊕ dM)) → Prop
  | .inl s => mW mX12_cuts 3 Q 95 [some (.ref 66), some (.int x1), some (.int x2), some (.int s.1), none] [] s.2
  | .inr (.inl t) => mW mX12_cuts 3 Q 143 [some (.ref 66), some (.int x1), some (.int x2), none, none] [] t
  | .inr (.inr r) => mR Q none r
def K_mo_cuts_108 (Q : mz_P) (x1 : Int32) (x2 : Int32) (x3 : Int32) : ((Int32 × dM) ⊕ (dM ⊕ dM)) → Prop
  | .inl s => mW mX12_cuts 3 Q 108 [some (.ref 66), some (.int x1), some (.int x2), some (.int x3), some (.int s.1)] [] s.2
  | .inr (.inl t) => mW mX12_cuts 3 Q 137 [some (.ref 66), some (.int x1), some (.int x2), some (.int x3), none] [] t
  | .inr (.inr r) => mR Q none r
noncomputable def b_mo_cuts_108_108 (x1 : Int32) (x2 : Int32) (x3 : Int32) (x4 : Int32) (M : dM) : Option ((Int32 × dM) ⊕ (dM ⊕ dM)) :=
  if (gI M 66 9) ≤ x4 then
    some (.inr (.inl M))
  else
    (f_mo_falls x1 3 x2 x3 x4 M).bind fun q15 =>
    if q15.1 = true then
      some (.inr (.inr q15.2))
    else
      some (.inl ((x4 + 1), q15.2))
noncomputable def l_mo_cuts_108 (x1 : Int32) (x2 : Int32) (x3 : Int32) (x4 : Int32) (M : dM) : Option (dM ⊕ dM) := lpc (fun s => b_mo_cuts_108_108 x1 x2 x3 s.1 s.2) (x4, M)
noncomputable def b_mo_cuts_95_95 (x1 : Int32) (x2 : Int32) (x3 : Int32) (M : dM) : Option ((Int32 × dM) ⊕ (dM ⊕ dM)) :=
  if (gI M 66 9) ≤ x3 then
    some (.inr (.inl M))
  else
    (l_mo_cuts_108 x1 x2 x3 (x3 + 1) M).bind (Sum.elim (fun t17 =>
        some (.inl ((x3 + 1), t17))
      ) (fun r19 => some (.inr (.inr r19))))
noncomputable def l_mo_cuts_95 (x1 : Int32) (x2 : Int32) (x3 : Int32) (M : dM) : Option (dM ⊕ dM) := lpc (fun s => b_mo_cuts_95_95 x1 x2 s.1 s.2) (x3, M)
noncomputable def b_mo_cuts_83_83 (x1 : Int32) (x2 : Int32) (M : dM) : Option ((Int32 × dM) ⊕ dM) :=
  if (gI M 66 9) ≤ x2 then
    some (.inr M)
  else
    (l_mo_cuts_95 x1 x2 (x2 + 1) M).bind (Sum.elim (fun t21 =>
        some (.inl ((x2 + 1), t21))
      ) (fun r23 => some (.inr r23)))
noncomputable def l_mo_cuts_83 (x1 : Int32) (x2 : Int32) (M : dM) : Option dM := lpc (fun s => b_mo_cuts_83_83 x1 s.1 s.2) (x2, M)
noncomputable def f_mo_cuts (a1 : Int32) (M : dM) : Option dM :=
  (l_mo_cuts_7 a1 0 (sI M 66 73 0)).bind (Sum.elim (fun t3 =>
      (l_mo_cuts_36 a1 0 t3).bind (Sum.elim (fun t12 =>
          (l_mo_cuts_83 a1 0 t12).bind fun r27 => some r27
        ) (fun r14 => some r14))
    ) (fun r5 => some r5))
theorem w_b_mo_cuts_7_7 (x1 : Int32) (x2 : Int32)  (M : dM) {Q : mz_P} {o : ((Int32 × dM) ⊕ (dM ⊕ dM))} (hf : b_mo_cuts_7_7 x1 x2 M = some o) (hk : K_mo_cuts_7 Q x1 o) : mW mX12_cuts 3 Q 7 [some (.ref 66), some (.int x1), some (.int x2), none, none] [] M := by
  unfold b_mo_cuts_7_7 at hf
  refine y_iload_n (i := 2) (n := 8) ⟨dX12_cuts_7, rfl⟩ rfl ?_
  refine y_aload_n (i := 0) (n := 9) ⟨dX12_cuts_8, rfl⟩ rfl ?_
  refine y_getI (n := 12) ⟨dX12_cuts_9, rfl⟩ kfX12_235 l_66 rfl ?_
  refine y_icmp_ge (t := 34) (n := 15) ⟨dX12_cuts_12, rfl, rfl⟩ (fun (hc : (gI M 66 9) ≤ x2) => ?_) (fun (hc : ¬ ((gI M 66 9) ≤ x2)) => ?_)
  · replace hf := i_t hc hf
    cases hf
    exact y_wk (L2 := [some (.ref 66), some (.int x1), none, none, none]) ⟨Or.inr rfl, Or.inr rfl, Or.inl rfl, Or.inr rfl, Or.inr rfl, trivial⟩ hk
  · replace hf := i_f hc hf
    refine y_aload_n (i := 0) (n := 16) ⟨dX12_cuts_15, rfl⟩ rfl ?_
    refine y_iload_n (i := 1) (n := 17) ⟨dX12_cuts_16, rfl⟩ rfl ?_
    refine y_iconst (n := 18) (v := 1) ⟨dX12_cuts_17, rfl⟩ ki_1 ?_
    refine y_iload_n (i := 2) (n := 19) ⟨dX12_cuts_18, rfl⟩ rfl ?_
    refine y_iload_n (i := 2) (n := 20) ⟨dX12_cuts_19, rfl⟩ rfl ?_
    refine y_iload_n (i := 2) (n := 21) ⟨dX12_cuts_20, rfl⟩ rfl ?_
    obtain ⟨q1, hv2, hf⟩ := b_s hf
    refine c_mo_falls x1 1 x2 x2 x2 M (n := 24) ⟨dX12_cuts_21, rfl⟩ klX12_522 hv2 (by decide) (Nat.le_of_ble_eq_true rfl) rfl rfl ?_
    refine y_if_eq (t := 28) (n := 27) ⟨dX12_cuts_24, rfl, rfl⟩ (fun h0 => ?_) (fun h0 => ?_)
    · have hc := bI_0 h0
      replace hf := i_f hc hf
      refine y_iinc (i := 2) (n := 31) (b := (x2 + 1)) (L2 := [some (.ref 66), some (.int x1), some (.int (x2 + 1)), none, none]) ⟨dX12_cuts_28, rfl⟩ rfl (by rw [ki_1]) (by decide) rfl rfl ?_
      refine y_goto (t := 7) ⟨dX12_cuts_31, rfl, rfl⟩ ?_
      cases hf
      exact y_wk (L2 := [some (.ref 66), some (.int x1), some (.int (x2 + 1)), none, none]) ⟨Or.inr rfl, Or.inr rfl, Or.inr rfl, Or.inr rfl, Or.inr rfl, trivial⟩ hk
    · have hc := bI_1 h0
      replace hf := i_t hc hf
      cases hf
      exact y_return (n := 28) ⟨dX12_cuts_27, rfl⟩ rfl hk
theorem wl_mo_cuts_7 (x1 : Int32) (x2 : Int32) (M : dM) {Q : mz_P} {x : (dM ⊕ dM)} (hf : l_mo_cuts_7 x1 x2 M = some x) (hk : K_mo_cuts_7 Q x1 (.inr x)) : mW mX12_cuts 3 Q 7 [some (.ref 66), some (.int x1), some (.int x2), none, none] [] M :=
  lpc_wp (σ := (Int32 × dM)) (ξ := (dM ⊕ dM)) (s := (x2, M)) (Wh := fun s => mW mX12_cuts 3 Q 7 [some (.ref 66), some (.int x1), some (.int s.1), none, none] [] s.2) (K := K_mo_cuts_7 Q x1) (fun _ h => h) (fun s o hb hk => w_b_mo_cuts_7_7 x1 s.1 s.2 hb hk) hf hk
theorem w_b_mo_cuts_48_48 (x1 : Int32) (x2 : Int32) (x3 : Int32)  (M : dM) {Q : mz_P} {o : ((Int32 × dM) ⊕ (dM ⊕ dM))} (hf : b_mo_cuts_48_48 x1 x2 x3 M = some o) (hk : K_mo_cuts_48 Q x1 x2 o) : mW mX12_cuts 3 Q 48 [some (.ref 66), some (.int x1), some (.int x2), some (.int x3), none] [] M := by
  unfold b_mo_cuts_48_48 at hf
  refine y_iload_n (i := 3) (n := 49) ⟨dX12_cuts_48, rfl⟩ rfl ?_
  refine y_aload_n (i := 0) (n := 50) ⟨dX12_cuts_49, rfl⟩ rfl ?_
  refine y_getI (n := 53) ⟨dX12_cuts_50, rfl⟩ kfX12_235 l_66 rfl ?_
  refine y_icmp_ge (t := 75) (n := 56) ⟨dX12_cuts_53, rfl, rfl⟩ (fun (hc : (gI M 66 9) ≤ x3) => ?_) (fun (hc : ¬ ((gI M 66 9) ≤ x3)) => ?_)
  · replace hf := i_t hc hf
    cases hf
    exact y_wk (L2 := [some (.ref 66), some (.int x1), some (.int x2), none, none]) ⟨Or.inr rfl, Or.inr rfl, Or.inr rfl, Or.inl rfl, Or.inr rfl, trivial⟩ hk
  · replace hf := i_f hc hf
    refine y_aload_n (i := 0) (n := 57) ⟨dX12_cuts_56, rfl⟩ rfl ?_
    refine y_iload_n (i := 1) (n := 58) ⟨dX12_cuts_57, rfl⟩ rfl ?_
    refine y_iconst (n := 59) (v := 2) ⟨dX12_cuts_58, rfl⟩ ki_2 ?_
    refine y_iload_n (i := 2) (n := 60) ⟨dX12_cuts_59, rfl⟩ rfl ?_
    refine y_iload_n (i := 3) (n := 61) ⟨dX12_cuts_60, rfl⟩ rfl ?_
    refine y_iload_n (i := 3) (n := 62) ⟨dX12_cuts_61, rfl⟩ rfl ?_
    obtain ⟨q6, hv7, hf⟩ := b_s hf
    refine c_mo_falls x1 2 x2 x3 x3 M (n := 65) ⟨dX12_cuts_62, rfl⟩ klX12_522 hv7 (by decide) (Nat.le_of_ble_eq_true rfl) rfl rfl ?_
    refine y_if_eq (t := 69) (n := 68) ⟨dX12_cuts_65, rfl, rfl⟩ (fun h0 => ?_) (fun h0 => ?_)
    · have hc := bI_0 h0
      replace hf := i_f hc hf
      refine y_iinc (i := 3) (n := 72) (b := (x3 + 1)) (L2 := [some (.ref 66), some (.int x1), some (.int x2), some (.int (x3 + 1)), none]) ⟨dX12_cuts_69, rfl⟩ rfl (by rw [ki_1]) (by decide) rfl rfl ?_
      refine y_goto (t := 48) ⟨dX12_cuts_72, rfl, rfl⟩ ?_
      cases hf
      exact y_wk (L2 := [some (.ref 66), some (.int x1), some (.int x2), some (.int (x3 + 1)), none]) ⟨Or.inr rfl, Or.inr rfl, Or.inr rfl, Or.inr rfl, Or.inr rfl, trivial⟩ hk
    · have hc := bI_1 h0
      replace hf := i_t hc hf
      cases hf
      exact y_return (n := 69) ⟨dX12_cuts_68, rfl⟩ rfl hk
theorem wl_mo_cuts_48 (x1 : Int32) (x2 : Int32) (x3 : Int32) (M : dM) {Q : mz_P} {x : (dM ⊕ dM)} (hf : l_mo_cuts_48 x1 x2 x3 M = some x) (hk : K_mo_cuts_48 Q x1 x2 (.inr x)) : mW mX12_cuts 3 Q 48 [some (.ref 66), some (.int x1), some (.int x2), some (.int x3), none] [] M :=
  lpc_wp (σ := (Int32 × dM)) (ξ := (dM ⊕ dM)) (s := (x3, M)) (Wh := fun s => mW mX12_cuts 3 Q 48 [some (.ref 66), some (.int x1), some (.int x2), some (.int s.1), none] [] s.2) (K := K_mo_cuts_48 Q x1 x2) (fun _ h => h) (fun s o hb hk => w_b_mo_cuts_48_48 x1 x2 s.1 s.2 hb hk) hf hk
theorem w_b_mo_cuts_36_36 (x1 : Int32) (x2 : Int32)  (M : dM) {Q : mz_P} {o : ((Int32 × dM) ⊕ (dM ⊕ dM))} (hf : b_mo_cuts_36_36 x1 x2 M = some o) (hk : K_mo_cuts_36 Q x1 o) : mW mX12_cuts 3 Q 36 [some (.ref 66), some (.int x1), some (.int x2), none, none] [] M := by
  unfold b_mo_cuts_36_36 at hf
  refine y_iload_n (i := 2) (n := 37) ⟨dX12_cuts_36, rfl⟩ rfl ?_
  refine y_aload_n (i := 0) (n := 38) ⟨dX12_cuts_37, rfl⟩ rfl ?_
  refine y_getI (n := 41) ⟨dX12_cuts_38, rfl⟩ kfX12_235 l_66 rfl ?_
  refine y_icmp_ge (t := 81) (n := 44) ⟨dX12_cuts_41, rfl, rfl⟩ (fun (hc : (gI M 66 9) ≤ x2) => ?_) (fun (hc : ¬ ((gI M 66 9) ≤ x2)) => ?_)
  · replace hf := i_t hc hf
    cases hf
    exact y_wk (L2 := [some (.ref 66), some (.int x1), none, none, none]) ⟨Or.inr rfl, Or.inr rfl, Or.inl rfl, Or.inr rfl, Or.inr rfl, trivial⟩ hk
  · replace hf := i_f hc hf
    refine y_iload_n (i := 2) (n := 45) ⟨dX12_cuts_44, rfl⟩ rfl ?_
    refine y_iconst (n := 46) (v := 1) ⟨dX12_cuts_45, rfl⟩ ki_1 ?_
    refine y_iadd (n := 47) ⟨dX12_cuts_46, rfl⟩ ?_
    refine y_istore_n (i := 3) (n := 48) (L2 := [some (.ref 66), some (.int x1), some (.int x2), some (.int (x2 + 1)), none]) ⟨dX12_cuts_47, rfl⟩ (by decide) rfl rfl ?_
    obtain ⟨z11, hl9, hf⟩ := b_s hf
    refine y_wk (L2 := [some (.ref 66), some (.int x1), some (.int x2), some (.int (x2 + 1)), none]) ⟨Or.inr rfl, Or.inr rfl, Or.inr rfl, Or.inr rfl, Or.inr rfl, trivial⟩ (wl_mo_cuts_48 x1 x2 (x2 + 1) M hl9 ?_)
    rcases z11 with t8 | r10
    · show mW mX12_cuts 3 Q 75 [some (.ref 66), some (.int x1), some (.int x2), none, none] [] t8
      refine y_iinc (i := 2) (n := 78) (b := (x2 + 1)) (L2 := [some (.ref 66), some (.int x1), some (.int (x2 + 1)), none, none]) ⟨dX12_cuts_75, rfl⟩ rfl (by rw [ki_1]) (by decide) rfl rfl ?_
      refine y_goto (t := 36) ⟨dX12_cuts_78, rfl, rfl⟩ ?_
      cases hf
      exact y_wk (L2 := [some (.ref 66), some (.int x1), some (.int (x2 + 1)), none, none]) ⟨Or.inr rfl, Or.inr rfl, Or.inr rfl, Or.inr rfl, Or.inr rfl, trivial⟩ hk
    · cases hf
      exact hk
theorem wl_mo_cuts_36 (x1 : Int32) (x2 : Int32) (M : dM) {Q : mz_P} {x : (dM ⊕ dM)} (hf : l_mo_cuts_36 x1 x2 M = some x) (hk : K_mo_cuts_36 Q x1 (.inr x)) : mW mX12_cuts 3 Q 36 [some (.ref 66), some (.int x1), some (.int x2), none, none] [] M :=
  lpc_wp (σ := (Int32 × dM)) (ξ := (dM ⊕ dM)) (s := (x2, M)) (Wh := fun s => mW mX12_cuts 3 Q 36 [some (.ref 66), some (.int x1), some (.int s.1), none, none] [] s.2) (K := K_mo_cuts_36 Q x1) (fun _ h => h) (fun s o hb hk => w_b_mo_cuts_36_36 x1 s.1 s.2 hb hk) hf hk
theorem w_b_mo_cuts_108_108 (x1 : Int32) (x2 : Int32) (x3 : Int32) (x4 : Int32)  (M : dM) {Q : mz_P} {o : ((Int32 × dM) ⊕ (dM ⊕ dM))} (hf : b_mo_cuts_108_108 x1 x2 x3 x4 M = some o) (hk : K_mo_cuts_108 Q x1 x2 x3 o) : mW mX12_cuts 3 Q 108 [some (.ref 66), some (.int x1), some (.int x2), some (.int x3), some (.int x4)] [] M := by
  unfold b_mo_cuts_108_108 at hf
  refine y_iload (i := 4) (n := 110) ⟨dX12_cuts_108, rfl⟩ rfl ?_
  refine y_aload_n (i := 0) (n := 111) ⟨dX12_cuts_110, rfl⟩ rfl ?_
  refine y_getI (n := 114) ⟨dX12_cuts_111, rfl⟩ kfX12_235 l_66 rfl ?_
  refine y_icmp_ge (t := 137) (n := 117) ⟨dX12_cuts_114, rfl, rfl⟩ (fun (hc : (gI M 66 9) ≤ x4) => ?_) (fun (hc : ¬ ((gI M 66 9) ≤ x4)) => ?_)
  · replace hf := i_t hc hf
    cases hf
    exact y_wk (L2 := [some (.ref 66), some (.int x1), some (.int x2), some (.int x3), none]) ⟨Or.inr rfl, Or.inr rfl, Or.inr rfl, Or.inr rfl, Or.inl rfl, trivial⟩ hk
  · replace hf := i_f hc hf
    refine y_aload_n (i := 0) (n := 118) ⟨dX12_cuts_117, rfl⟩ rfl ?_
    refine y_iload_n (i := 1) (n := 119) ⟨dX12_cuts_118, rfl⟩ rfl ?_
    refine y_iconst (n := 120) (v := 3) ⟨dX12_cuts_119, rfl⟩ ki_3 ?_
    refine y_iload_n (i := 2) (n := 121) ⟨dX12_cuts_120, rfl⟩ rfl ?_
    refine y_iload_n (i := 3) (n := 122) ⟨dX12_cuts_121, rfl⟩ rfl ?_
    refine y_iload (i := 4) (n := 124) ⟨dX12_cuts_122, rfl⟩ rfl ?_
    obtain ⟨q15, hv16, hf⟩ := b_s hf
    refine c_mo_falls x1 3 x2 x3 x4 M (n := 127) ⟨dX12_cuts_124, rfl⟩ klX12_522 hv16 (by decide) (Nat.le_of_ble_eq_true rfl) rfl rfl ?_
    refine y_if_eq (t := 131) (n := 130) ⟨dX12_cuts_127, rfl, rfl⟩ (fun h0 => ?_) (fun h0 => ?_)
    · have hc := bI_0 h0
      replace hf := i_f hc hf
      refine y_iinc (i := 4) (n := 134) (b := (x4 + 1)) (L2 := [some (.ref 66), some (.int x1), some (.int x2), some (.int x3), some (.int (x4 + 1))]) ⟨dX12_cuts_131, rfl⟩ rfl (by rw [ki_1]) (by decide) rfl rfl ?_
      refine y_goto (t := 108) ⟨dX12_cuts_134, rfl, rfl⟩ ?_
      cases hf
      exact y_wk (L2 := [some (.ref 66), some (.int x1), some (.int x2), some (.int x3), some (.int (x4 + 1))]) ⟨Or.inr rfl, Or.inr rfl, Or.inr rfl, Or.inr rfl, Or.inr rfl, trivial⟩ hk
    · have hc := bI_1 h0
      replace hf := i_t hc hf
      cases hf
      exact y_return (n := 131) ⟨dX12_cuts_130, rfl⟩ rfl hk
theorem wl_mo_cuts_108 (x1 : Int32) (x2 : Int32) (x3 : Int32) (x4 : Int32) (M : dM) {Q : mz_P} {x : (dM ⊕ dM)} (hf : l_mo_cuts_108 x1 x2 x3 x4 M = some x) (hk : K_mo_cuts_108 Q x1 x2 x3 (.inr x)) : mW mX12_cuts 3 Q 108 [some (.ref 66), some (.int x1), some (.int x2), some (.int x3), some (.int x4)] [] M :=
  lpc_wp (σ := (Int32 × dM)) (ξ := (dM ⊕ dM)) (s := (x4, M)) (Wh := fun s => mW mX12_cuts 3 Q 108 [some (.ref 66), some (.int x1), some (.int x2), some (.int x3), some (.int s.1)] [] s.2) (K := K_mo_cuts_108 Q x1 x2 x3) (fun _ h => h) (fun s o hb hk => w_b_mo_cuts_108_108 x1 x2 x3 s.1 s.2 hb hk) hf hk
theorem w_b_mo_cuts_95_95 (x1 : Int32) (x2 : Int32) (x3 : Int32)  (M : dM) {Q : mz_P} {o : ((Int32 × dM) ⊕ (dM ⊕ dM))} (hf : b_mo_cuts_95_95 x1 x2 x3 M = some o) (hk : K_mo_cuts_95 Q x1 x2 o) : mW mX12_cuts 3 Q 95 [some (.ref 66), some (.int x1), some (.int x2), some (.int x3), none] [] M := by
  unfold b_mo_cuts_95_95 at hf
  refine y_iload_n (i := 3) (n := 96) ⟨dX12_cuts_95, rfl⟩ rfl ?_
  refine y_aload_n (i := 0) (n := 97) ⟨dX12_cuts_96, rfl⟩ rfl ?_
  refine y_getI (n := 100) ⟨dX12_cuts_97, rfl⟩ kfX12_235 l_66 rfl ?_
  refine y_icmp_ge (t := 143) (n := 103) ⟨dX12_cuts_100, rfl, rfl⟩ (fun (hc : (gI M 66 9) ≤ x3) => ?_) (fun (hc : ¬ ((gI M 66 9) ≤ x3)) => ?_)
  · replace hf := i_t hc hf
    cases hf
    exact y_wk (L2 := [some (.ref 66), some (.int x1), some (.int x2), none, none]) ⟨Or.inr rfl, Or.inr rfl, Or.inr rfl, Or.inl rfl, Or.inr rfl, trivial⟩ hk
  · replace hf := i_f hc hf
    refine y_iload_n (i := 3) (n := 104) ⟨dX12_cuts_103, rfl⟩ rfl ?_
    refine y_iconst (n := 105) (v := 1) ⟨dX12_cuts_104, rfl⟩ ki_1 ?_
    refine y_iadd (n := 106) ⟨dX12_cuts_105, rfl⟩ ?_
    refine y_istore (i := 4) (n := 108) (L2 := [some (.ref 66), some (.int x1), some (.int x2), some (.int x3), some (.int (x3 + 1))]) ⟨dX12_cuts_106, rfl⟩ (by decide) rfl rfl ?_
    obtain ⟨z20, hl18, hf⟩ := b_s hf
    refine y_wk (L2 := [some (.ref 66), some (.int x1), some (.int x2), some (.int x3), some (.int (x3 + 1))]) ⟨Or.inr rfl, Or.inr rfl, Or.inr rfl, Or.inr rfl, Or.inr rfl, trivial⟩ (wl_mo_cuts_108 x1 x2 x3 (x3 + 1) M hl18 ?_)
    rcases z20 with t17 | r19
    · show mW mX12_cuts 3 Q 137 [some (.ref 66), some (.int x1), some (.int x2), some (.int x3), none] [] t17
      refine y_iinc (i := 3) (n := 140) (b := (x3 + 1)) (L2 := [some (.ref 66), some (.int x1), some (.int x2), some (.int (x3 + 1)), none]) ⟨dX12_cuts_137, rfl⟩ rfl (by rw [ki_1]) (by decide) rfl rfl ?_
      refine y_goto (t := 95) ⟨dX12_cuts_140, rfl, rfl⟩ ?_
      cases hf
      exact y_wk (L2 := [some (.ref 66), some (.int x1), some (.int x2), some (.int (x3 + 1)), none]) ⟨Or.inr rfl, Or.inr rfl, Or.inr rfl, Or.inr rfl, Or.inr rfl, trivial⟩ hk
    · cases hf
      exact hk
theorem wl_mo_cuts_95 (x1 : Int32) (x2 : Int32) (x3 : Int32) (M : dM) {Q : mz_P} {x : (dM ⊕ dM)} (hf : l_mo_cuts_95 x1 x2 x3 M = some x) (hk : K_mo_cuts_95 Q x1 x2 (.inr x)) : mW mX12_cuts 3 Q 95 [some (.ref 66), some (.int x1), some (.int x2), some (.int x3), none] [] M :=
  lpc_wp (σ := (Int32 × dM)) (ξ := (dM ⊕ dM)) (s := (x3, M)) (Wh := fun s => mW mX12_cuts 3 Q 95 [some (.ref 66), some (.int x1), some (.int x2), some (.int s.1), none] [] s.2) (K := K_mo_cuts_95 Q x1 x2) (fun _ h => h) (fun s o hb hk => w_b_mo_cuts_95_95 x1 x2 s.1 s.2 hb hk) hf hk
theorem w_b_mo_cuts_83_83 (x1 : Int32) (x2 : Int32)  (M : dM) {Q : mz_P} {o : ((Int32 × dM) ⊕ dM)} (hf : b_mo_cuts_83_83 x1 x2 M = some o) (hk : K_mo_cuts_83 Q x1 o) : mW mX12_cuts 3 Q 83 [some (.ref 66), some (.int x1), some (.int x2), none, none] [] M := by
  unfold b_mo_cuts_83_83 at hf
  refine y_iload_n (i := 2) (n := 84) ⟨dX12_cuts_83, rfl⟩ rfl ?_
  refine y_aload_n (i := 0) (n := 85) ⟨dX12_cuts_84, rfl⟩ rfl ?_
  refine y_getI (n := 88) ⟨dX12_cuts_85, rfl⟩ kfX12_235 l_66 rfl ?_
  refine y_icmp_ge (t := 149) (n := 91) ⟨dX12_cuts_88, rfl, rfl⟩ (fun (hc : (gI M 66 9) ≤ x2) => ?_) (fun (hc : ¬ ((gI M 66 9) ≤ x2)) => ?_)
  · replace hf := i_t hc hf
    cases hf
    exact y_return (n := 150) ⟨dX12_cuts_149, rfl⟩ rfl hk
  · replace hf := i_f hc hf
    refine y_iload_n (i := 2) (n := 92) ⟨dX12_cuts_91, rfl⟩ rfl ?_
    refine y_iconst (n := 93) (v := 1) ⟨dX12_cuts_92, rfl⟩ ki_1 ?_
    refine y_iadd (n := 94) ⟨dX12_cuts_93, rfl⟩ ?_
    refine y_istore_n (i := 3) (n := 95) (L2 := [some (.ref 66), some (.int x1), some (.int x2), some (.int (x2 + 1)), none]) ⟨dX12_cuts_94, rfl⟩ (by decide) rfl rfl ?_
    obtain ⟨z24, hl22, hf⟩ := b_s hf
    refine y_wk (L2 := [some (.ref 66), some (.int x1), some (.int x2), some (.int (x2 + 1)), none]) ⟨Or.inr rfl, Or.inr rfl, Or.inr rfl, Or.inr rfl, Or.inr rfl, trivial⟩ (wl_mo_cuts_95 x1 x2 (x2 + 1) M hl22 ?_)
    rcases z24 with t21 | r23
    · show mW mX12_cuts 3 Q 143 [some (.ref 66), some (.int x1), some (.int x2), none, none] [] t21
      refine y_iinc (i := 2) (n := 146) (b := (x2 + 1)) (L2 := [some (.ref 66), some (.int x1), some (.int (x2 + 1)), none, none]) ⟨dX12_cuts_143, rfl⟩ rfl (by rw [ki_1]) (by decide) rfl rfl ?_
      refine y_goto (t := 83) ⟨dX12_cuts_146, rfl, rfl⟩ ?_
      cases hf
      exact y_wk (L2 := [some (.ref 66), some (.int x1), some (.int (x2 + 1)), none, none]) ⟨Or.inr rfl, Or.inr rfl, Or.inr rfl, Or.inr rfl, Or.inr rfl, trivial⟩ hk
    · cases hf
      exact hk
theorem wl_mo_cuts_83 (x1 : Int32) (x2 : Int32) (M : dM) {Q : mz_P} {x : dM} (hf : l_mo_cuts_83 x1 x2 M = some x) (hk : K_mo_cuts_83 Q x1 (.inr x)) : mW mX12_cuts 3 Q 83 [some (.ref 66), some (.int x1), some (.int x2), none, none] [] M :=
  lpc_wp (σ := (Int32 × dM)) (ξ := dM) (s := (x2, M)) (Wh := fun s => mW mX12_cuts 3 Q 83 [some (.ref 66), some (.int x1), some (.int s.1), none, none] [] s.2) (K := K_mo_cuts_83 Q x1) (fun _ h => h) (fun s o hb hk => w_b_mo_cuts_83_83 x1 s.1 s.2 hb hk) hf hk
theorem ok_mo_cuts (a1 : Int32) (M : dM) {o : dM} (hf : f_mo_cuts a1 M = some o) : mO mX12_cuts 3 [.ref 66, .int a1] M none o := by
  refine y_ok (by decide +kernel) (Nat.le_of_ble_eq_true rfl) (L0 := [some (.ref 66), some (.int a1), none, none, none]) rfl ?_
  have hk := mR_mQ none o
  generalize mQ _ _ = Q at hk ⊢
  unfold f_mo_cuts at hf
  refine y_aload_n (i := 0) (n := 1) ⟨dX12_cuts_0, rfl⟩ rfl ?_
  refine y_iconst (n := 2) (v := 0) ⟨dX12_cuts_1, rfl⟩ ki_0 ?_
  refine y_putI (n := 5) ⟨dX12_cuts_2, rfl⟩ kfX12_519 l_66 (by decide +kernel) rfl ?_
  refine y_iconst (n := 6) (v := 0) ⟨dX12_cuts_5, rfl⟩ ki_0 ?_
  refine y_istore_n (i := 2) (n := 7) (L2 := [some (.ref 66), some (.int a1), some (.int 0), none, none]) ⟨dX12_cuts_6, rfl⟩ (by decide) rfl rfl ?_
  obtain ⟨z29, hl4, hf⟩ := b_s hf
  refine y_wk (L2 := [some (.ref 66), some (.int a1), some (.int 0), none, none]) ⟨Or.inr rfl, Or.inr rfl, Or.inr rfl, Or.inr rfl, Or.inr rfl, trivial⟩ (wl_mo_cuts_7 a1 0 (sI M 66 73 0) hl4 ?_)
  rcases z29 with t3 | r5
  · show mW mX12_cuts 3 Q 34 [some (.ref 66), some (.int a1), none, none, none] [] t3
    refine y_iconst (n := 35) (v := 0) ⟨dX12_cuts_34, rfl⟩ ki_0 ?_
    refine y_istore_n (i := 2) (n := 36) (L2 := [some (.ref 66), some (.int a1), some (.int 0), none, none]) ⟨dX12_cuts_35, rfl⟩ (by decide) rfl rfl ?_
    obtain ⟨z28, hl13, hf⟩ := b_s hf
    refine y_wk (L2 := [some (.ref 66), some (.int a1), some (.int 0), none, none]) ⟨Or.inr rfl, Or.inr rfl, Or.inr rfl, Or.inr rfl, Or.inr rfl, trivial⟩ (wl_mo_cuts_36 a1 0 t3 hl13 ?_)
    rcases z28 with t12 | r14
    · show mW mX12_cuts 3 Q 81 [some (.ref 66), some (.int a1), none, none, none] [] t12
      refine y_iconst (n := 82) (v := 0) ⟨dX12_cuts_81, rfl⟩ ki_0 ?_
      refine y_istore_n (i := 2) (n := 83) (L2 := [some (.ref 66), some (.int a1), some (.int 0), none, none]) ⟨dX12_cuts_82, rfl⟩ (by decide) rfl rfl ?_
      obtain ⟨r27, hl26, hf⟩ := b_s hf
      cases hf
      exact y_wk (L2 := [some (.ref 66), some (.int a1), some (.int 0), none, none]) ⟨Or.inr rfl, Or.inr rfl, Or.inr rfl, Or.inr rfl, Or.inr rfl, trivial⟩ (wl_mo_cuts_83 a1 0 t12 hl26 hk)
    · cases hf
      exact hk
  · cases hf
    exact hk
theorem c_mo_cuts (a1 : Int32) (M : dM) {o : dM} {y : mz_M} {d : Nat} {Q : mz_P} {pc n i : Nat} {L : List (Option Value)} {st : List Value} (h : mz_d y.2.1 pc n 3 (.invokevirtual i)) (hl : mz_ml y.1.cls i yX12_cuts) (hf : f_mo_cuts a1 M = some o) (hd : 3 + 1 ≤ d) (hsm : (st.map (fun v => v.category)).sum ≤ 8) (hLr : mz_rL 133 L = true) (hSr : mz_rS 133 st = true) (kk : mW y d Q n L st o) : mW y d Q pc L (.int a1 :: .ref 66 :: st) M :=
  y_callV kmX12_cuts kvX12_cuts l_66 (by decide +kernel) (by decide +kernel) h hl (ok_mo_cuts a1 M hf) (vs := [.int a1]) rfl rfl hd hsm hLr hSr kk
noncomputable def f_mo_cut (a1 : Int32) (a2 : Int32) (M : dM) : Option (Int32 × dM) :=
  if (f_mo_within a1 0 11) = true then
    if (f_mo_within a2 0 3) = true then
      (f_mo_standsWithout 0 (sI M 66 0 0)).bind fun v1 =>
      if ((v1 >>> (a1 &&& 31)) &&& 1) = 0 then
        some ((-1), (sI M 66 0 0))
      else
        (f_mo_cuts a1 (sI M 66 0 0)).bind fun q3 =>
        if (gI q3 66 73) = 0 then
          some ((-1), q3)
        else
          if a2 ≤ (gI q3 66 73) then
            if a2 = 0 then
              some ((gI q3 66 73), q3)
            else
              gd (vp_in (a2 - 1) 3) <|
              some ((gI q3 111 (a2 - 1).toNatClampNeg), q3)
          else
            some ((-1), q3)
    else
      some ((-1), (sI M 66 0 0))
  else
    some ((-1), (sI M 66 0 0))
theorem ok_mo_cut (a1 : Int32) (a2 : Int32) (M : dM) {o : (Int32 × dM)} (hf : f_mo_cut a1 a2 M = some o) : mO mX12_cut 4 [.ref 66, .int a1, .int a2] M (some (.int o.1)) o.2 := by
  refine y_ok (by decide +kernel) (Nat.le_of_ble_eq_true rfl) (L0 := [some (.ref 66), some (.int a1), some (.int a2)]) rfl ?_
  have hk := mR_mQ (some (.int o.1)) o.2
  generalize mQ _ _ = Q at hk ⊢
  unfold f_mo_cut at hf
  refine y_aload_n (i := 0) (n := 1) ⟨dX12_cut_0, rfl⟩ rfl ?_
  refine y_iconst (n := 2) (v := 0) ⟨dX12_cut_1, rfl⟩ ki_0 ?_
  refine y_putI (n := 5) ⟨dX12_cut_2, rfl⟩ kfX12_214 l_66 (by decide +kernel) rfl ?_
  refine y_iload_n (i := 1) (n := 6) ⟨dX12_cut_5, rfl⟩ rfl ?_
  refine y_iconst (n := 7) (v := 0) ⟨dX12_cut_6, rfl⟩ ki_0 ?_
  refine y_bipush (n := 9) (v := 11) ⟨dX12_cut_7, rfl⟩ kb_11 ?_
  refine c_mo_within a1 0 11 (sI M 66 0 0) (n := 12) ⟨dX12_cut_9, rfl⟩ klX12_221 rfl (by decide) (Nat.le_of_ble_eq_true rfl) rfl rfl ?_
  refine y_if_eq (t := 36) (n := 15) ⟨dX12_cut_12, rfl, rfl⟩ (fun h0 => ?_) (fun h0 => ?_)
  · have hc := bI_0 h0
    replace hf := i_f hc hf
    refine y_iconst (n := 37) (v := (-1)) ⟨dX12_cut_36, rfl⟩ ki_m1 ?_
    cases hf
    exact y_ireturn (n := 38) ⟨dX12_cut_37, rfl⟩ rfl rfl hk
  · have hc := bI_1 h0
    replace hf := i_t hc hf
    refine y_iload_n (i := 2) (n := 16) ⟨dX12_cut_15, rfl⟩ rfl ?_
    refine y_iconst (n := 17) (v := 0) ⟨dX12_cut_16, rfl⟩ ki_0 ?_
    refine y_iconst (n := 18) (v := 3) ⟨dX12_cut_17, rfl⟩ ki_3 ?_
    refine c_mo_within a2 0 3 (sI M 66 0 0) (n := 21) ⟨dX12_cut_18, rfl⟩ klX12_221 rfl (by decide) (Nat.le_of_ble_eq_true rfl) rfl rfl ?_
    refine y_if_eq (t := 36) (n := 24) ⟨dX12_cut_21, rfl, rfl⟩ (fun h0 => ?_) (fun h0 => ?_)
    · have hc := bI_0 h0
      replace hf := i_f hc hf
      refine y_iconst (n := 37) (v := (-1)) ⟨dX12_cut_36, rfl⟩ ki_m1 ?_
      cases hf
      exact y_ireturn (n := 38) ⟨dX12_cut_37, rfl⟩ rfl rfl hk
    · have hc := bI_1 h0
      replace hf := i_t hc hf
      refine y_aload_n (i := 0) (n := 25) ⟨dX12_cut_24, rfl⟩ rfl ?_
      refine y_lconst (n := 26) (v := 0) ⟨dX12_cut_25, rfl⟩ kl_0 ?_
      obtain ⟨v1, hv2, hf⟩ := b_s hf
      refine c_mo_standsWithout 0 (sI M 66 0 0) (n := 29) ⟨dX12_cut_26, rfl⟩ klX12_515 hv2 (by decide) (Nat.le_of_ble_eq_true rfl) rfl rfl ?_
      refine y_iload_n (i := 1) (n := 30) ⟨dX12_cut_29, rfl⟩ rfl ?_
      refine y_ishr (n := 31) ⟨dX12_cut_30, rfl⟩ ?_
      refine y_iconst (n := 32) (v := 1) ⟨dX12_cut_31, rfl⟩ ki_1 ?_
      refine y_iand (n := 33) ⟨dX12_cut_32, rfl⟩ ?_
      refine y_if_ne (t := 38) (n := 36) ⟨dX12_cut_33, rfl, rfl⟩ (fun (hc : ¬ (((v1 >>> (a1 &&& 31)) &&& 1) = 0)) => ?_) (fun (hc : ((v1 >>> (a1 &&& 31)) &&& 1) = 0) => ?_)
      · replace hf := i_f hc hf
        refine y_aload_n (i := 0) (n := 39) ⟨dX12_cut_38, rfl⟩ rfl ?_
        refine y_iload_n (i := 1) (n := 40) ⟨dX12_cut_39, rfl⟩ rfl ?_
        obtain ⟨q3, hv4, hf⟩ := b_s hf
        refine c_mo_cuts a1 (sI M 66 0 0) (n := 43) ⟨dX12_cut_40, rfl⟩ klX12_526 hv4 (by decide) (Nat.le_of_ble_eq_true rfl) rfl rfl ?_
        refine y_aload_n (i := 0) (n := 44) ⟨dX12_cut_43, rfl⟩ rfl ?_
        refine y_getI (n := 47) ⟨dX12_cut_44, rfl⟩ kfX12_519 l_66 rfl ?_
        refine y_if_eq (t := 58) (n := 50) ⟨dX12_cut_47, rfl, rfl⟩ (fun (hc : (gI q3 66 73) = 0) => ?_) (fun (hc : ¬ ((gI q3 66 73) = 0)) => ?_)
        · replace hf := i_t hc hf
          refine y_iconst (n := 59) (v := (-1)) ⟨dX12_cut_58, rfl⟩ ki_m1 ?_
          cases hf
          exact y_ireturn (n := 60) ⟨dX12_cut_59, rfl⟩ rfl rfl hk
        · replace hf := i_f hc hf
          refine y_iload_n (i := 2) (n := 51) ⟨dX12_cut_50, rfl⟩ rfl ?_
          refine y_aload_n (i := 0) (n := 52) ⟨dX12_cut_51, rfl⟩ rfl ?_
          refine y_getI (n := 55) ⟨dX12_cut_52, rfl⟩ kfX12_519 l_66 rfl ?_
          refine y_icmp_le (t := 60) (n := 58) ⟨dX12_cut_55, rfl, rfl⟩ (fun (hc : a2 ≤ (gI q3 66 73)) => ?_) (fun (hc : ¬ (a2 ≤ (gI q3 66 73))) => ?_)
          · replace hf := i_t hc hf
            refine y_iload_n (i := 2) (n := 61) ⟨dX12_cut_60, rfl⟩ rfl ?_
            refine y_if_ne (t := 71) (n := 64) ⟨dX12_cut_61, rfl, rfl⟩ (fun (hc : ¬ (a2 = 0)) => ?_) (fun (hc : a2 = 0) => ?_)
            · replace hf := i_f hc hf
              refine y_aload_n (i := 0) (n := 72) ⟨dX12_cut_71, rfl⟩ rfl ?_
              refine y_getR (n := 75) ⟨dX12_cut_72, rfl⟩ kfX12_144 l_66 rfl r_66_74 ?_
              refine y_iload_n (i := 2) (n := 76) ⟨dX12_cut_75, rfl⟩ rfl ?_
              refine y_iconst (n := 77) (v := 1) ⟨dX12_cut_76, rfl⟩ ki_1 ?_
              refine y_isub (n := 78) ⟨dX12_cut_77, rfl⟩ ?_
              obtain ⟨hg5, hf⟩ := g_s hf
              refine y_iaload (n := 79) ⟨dX12_cut_78, rfl⟩ l_111 hg5 ?_
              cases hf
              exact y_ireturn (n := 80) ⟨dX12_cut_79, rfl⟩ rfl rfl hk
            · replace hf := i_t hc hf
              refine y_aload_n (i := 0) (n := 65) ⟨dX12_cut_64, rfl⟩ rfl ?_
              refine y_getI (n := 68) ⟨dX12_cut_65, rfl⟩ kfX12_519 l_66 rfl ?_
              refine y_goto (t := 79) ⟨dX12_cut_68, rfl, rfl⟩ ?_
              cases hf
              exact y_ireturn (n := 80) ⟨dX12_cut_79, rfl⟩ rfl rfl hk
          · replace hf := i_f hc hf
            refine y_iconst (n := 59) (v := (-1)) ⟨dX12_cut_58, rfl⟩ ki_m1 ?_
            cases hf
            exact y_ireturn (n := 60) ⟨dX12_cut_59, rfl⟩ rfl rfl hk
      · replace hf := i_t hc hf
        refine y_iconst (n := 37) (v := (-1)) ⟨dX12_cut_36, rfl⟩ ki_m1 ?_
        cases hf
        exact y_ireturn (n := 38) ⟨dX12_cut_37, rfl⟩ rfl rfl hk
theorem c_mo_cut (a1 : Int32) (a2 : Int32) (M : dM) {o : (Int32 × dM)} {y : mz_M} {d : Nat} {Q : mz_P} {pc n i : Nat} {L : List (Option Value)} {st : List Value} (h : mz_d y.2.1 pc n 3 (.invokevirtual i)) (hl : mz_ml y.1.cls i yX12_cut) (hf : f_mo_cut a1 a2 M = some o) (hd : 4 + 1 ≤ d) (hsm : (st.map (fun v => v.category)).sum ≤ 8) (hLr : mz_rL 133 L = true) (hSr : mz_rS 133 st = true) (kk : mW y d Q n L (.int o.1 :: st) o.2) : mW y d Q pc L (.int a2 :: .int a1 :: .ref 66 :: st) M :=
  y_callV kmX12_cut kvX12_cut l_66 (by decide +kernel) (by decide +kernel) h hl (ok_mo_cut a1 a2 M hf) (vs := [.int a1, .int a2]) rfl rfl hd hsm hLr hSr kk
noncomputable def f_mo_doubted (a1 : Int32) (M : dM) : Option (Int32 × dM) :=
  if (f_mo_isFind a1 (sI M 66 0 0)) = true then
    (f_mo_knows (sI M 66 0 0)).bind fun q1 =>
    if (((gJ q1 66 63) >>> (a1.toInt64 &&& 63)) &&& 1) = 1 then
      some (1, q1)
    else
      some (0, q1)
  else
    some ((-1), (sI M 66 0 0))
theorem ok_mo_doubted (a1 : Int32) (M : dM) {o : (Int32 × dM)} (hf : f_mo_doubted a1 M = some o) : mO mX12_doubted 7 [.ref 66, .int a1] M (some (.int o.1)) o.2 := by
  refine y_ok (by decide +kernel) (Nat.le_of_ble_eq_true rfl) (L0 := [some (.ref 66), some (.int a1)]) rfl ?_
  have hk := mR_mQ (some (.int o.1)) o.2
  generalize mQ _ _ = Q at hk ⊢
  unfold f_mo_doubted at hf
  refine y_aload_n (i := 0) (n := 1) ⟨dX12_doubted_0, rfl⟩ rfl ?_
  refine y_iconst (n := 2) (v := 0) ⟨dX12_doubted_1, rfl⟩ ki_0 ?_
  refine y_putI (n := 5) ⟨dX12_doubted_2, rfl⟩ kfX12_214 l_66 (by decide +kernel) rfl ?_
  refine y_aload_n (i := 0) (n := 6) ⟨dX12_doubted_5, rfl⟩ rfl ?_
  refine y_iload_n (i := 1) (n := 7) ⟨dX12_doubted_6, rfl⟩ rfl ?_
  refine c_mo_isFind a1 (sI M 66 0 0) (n := 10) ⟨dX12_doubted_7, rfl⟩ klX12_249 rfl (by decide) (Nat.le_of_ble_eq_true rfl) rfl rfl ?_
  refine y_if_ne (t := 15) (n := 13) ⟨dX12_doubted_10, rfl, rfl⟩ (fun h0 => ?_) (fun h0 => ?_)
  · have hc := bI_1 h0
    replace hf := i_t hc hf
    refine y_aload_n (i := 0) (n := 16) ⟨dX12_doubted_15, rfl⟩ rfl ?_
    obtain ⟨q1, hv2, hf⟩ := b_s hf
    refine c_mo_knows (sI M 66 0 0) (n := 19) ⟨dX12_doubted_16, rfl⟩ klX12_505 hv2 (by decide) (Nat.le_of_ble_eq_true rfl) rfl rfl ?_
    refine y_aload_n (i := 0) (n := 20) ⟨dX12_doubted_19, rfl⟩ rfl ?_
    refine y_getJ (n := 23) ⟨dX12_doubted_20, rfl⟩ kfX12_502 l_66 rfl ?_
    refine y_iload_n (i := 1) (n := 24) ⟨dX12_doubted_23, rfl⟩ rfl ?_
    refine y_lshr (n := 25) ⟨dX12_doubted_24, rfl⟩ ?_
    refine y_lconst (n := 26) (v := 1) ⟨dX12_doubted_25, rfl⟩ kl_1 ?_
    refine y_land (n := 27) ⟨dX12_doubted_26, rfl⟩ ?_
    refine y_lconst (n := 28) (v := 1) ⟨dX12_doubted_27, rfl⟩ kl_1 ?_
    refine y_lcmp (n := 29) ⟨dX12_doubted_28, rfl⟩ ?_
    refine y_if_ne (t := 36) (n := 32) ⟨dX12_doubted_29, rfl, rfl⟩ (fun h0 => ?_) (fun h0 => ?_)
    · have hc : ¬ ((((gJ q1 66 63) >>> (a1.toInt64 &&& 63)) &&& 1) = 1) := fun e => h0 ((lc_eq _ _).mpr e)
      replace hf := i_f hc hf
      refine y_iconst (n := 37) (v := 0) ⟨dX12_doubted_36, rfl⟩ ki_0 ?_
      cases hf
      exact y_ireturn (n := 38) ⟨dX12_doubted_37, rfl⟩ rfl rfl hk
    · have hc : (((gJ q1 66 63) >>> (a1.toInt64 &&& 63)) &&& 1) = 1 := (lc_eq _ _).mp h0
      replace hf := i_t hc hf
      refine y_iconst (n := 33) (v := 1) ⟨dX12_doubted_32, rfl⟩ ki_1 ?_
      refine y_goto (t := 37) ⟨dX12_doubted_33, rfl, rfl⟩ ?_
      cases hf
      exact y_ireturn (n := 38) ⟨dX12_doubted_37, rfl⟩ rfl rfl hk
  · have hc := bI_0 h0
    replace hf := i_f hc hf
    refine y_iconst (n := 14) (v := (-1)) ⟨dX12_doubted_13, rfl⟩ ki_m1 ?_
    cases hf
    exact y_ireturn (n := 15) ⟨dX12_doubted_14, rfl⟩ rfl rfl hk
theorem c_mo_doubted (a1 : Int32) (M : dM) {o : (Int32 × dM)} {y : mz_M} {d : Nat} {Q : mz_P} {pc n i : Nat} {L : List (Option Value)} {st : List Value} (h : mz_d y.2.1 pc n 3 (.invokevirtual i)) (hl : mz_ml y.1.cls i yX12_doubted) (hf : f_mo_doubted a1 M = some o) (hd : 7 + 1 ≤ d) (hsm : (st.map (fun v => v.category)).sum ≤ 8) (hLr : mz_rL 133 L = true) (hSr : mz_rS 133 st = true) (kk : mW y d Q n L (.int o.1 :: st) o.2) : mW y d Q pc L (.int a1 :: .ref 66 :: st) M :=
  y_callV kmX12_doubted kvX12_doubted l_66 (by decide +kernel) (by decide +kernel) h hl (ok_mo_doubted a1 M hf) (vs := [.int a1]) rfl rfl hd hsm hLr hSr kk
noncomputable def f_mo_settledBy (a1 : Int64) (a2 : Int64) (M : dM) : Option Int32 :=
  (f_mo_standsWithout (a1 ||| a2) M).bind fun v1 =>
  (f_mo_standsWithout a2 M).bind fun v3 =>
  some (v1 ||| ((v3 ^^^ (-1)) &&& 4095))
theorem ok_mo_settledBy (a1 : Int64) (a2 : Int64) (M : dM) {o : Int32} (hf : f_mo_settledBy a1 a2 M = some o) : mO mX12_settledBy 2 [.ref 66, .long a1, .long a2] M (some (.int o)) M := by
  refine y_ok (by decide +kernel) (Nat.le_of_ble_eq_true rfl) (L0 := [some (.ref 66), some (.long a1), none, some (.long a2), none]) rfl ?_
  have hk := mR_mQ (some (.int o)) M
  generalize mQ _ _ = Q at hk ⊢
  unfold f_mo_settledBy at hf
  refine y_aload_n (i := 0) (n := 1) ⟨dX12_settledBy_0, rfl⟩ rfl ?_
  refine y_lload_n (i := 1) (n := 2) ⟨dX12_settledBy_1, rfl⟩ rfl ?_
  refine y_lload_n (i := 3) (n := 3) ⟨dX12_settledBy_2, rfl⟩ rfl ?_
  refine y_lor (n := 4) ⟨dX12_settledBy_3, rfl⟩ ?_
  obtain ⟨v1, hv2, hf⟩ := b_s hf
  refine c_mo_standsWithout (a1 ||| a2) M (n := 7) ⟨dX12_settledBy_4, rfl⟩ klX12_515 hv2 (by decide) (Nat.le_of_ble_eq_true rfl) rfl rfl ?_
  refine y_aload_n (i := 0) (n := 8) ⟨dX12_settledBy_7, rfl⟩ rfl ?_
  refine y_lload_n (i := 3) (n := 9) ⟨dX12_settledBy_8, rfl⟩ rfl ?_
  obtain ⟨v3, hv4, hf⟩ := b_s hf
  refine c_mo_standsWithout a2 M (n := 12) ⟨dX12_settledBy_9, rfl⟩ klX12_515 hv4 (by decide) (Nat.le_of_ble_eq_true rfl) rfl rfl ?_
  refine y_iconst (n := 13) (v := (-1)) ⟨dX12_settledBy_12, rfl⟩ ki_m1 ?_
  refine y_ixor (n := 14) ⟨dX12_settledBy_13, rfl⟩ ?_
  refine y_sipush (n := 17) (v := 4095) ⟨dX12_settledBy_14, rfl⟩ ks_4095 ?_
  refine y_iand (n := 18) ⟨dX12_settledBy_17, rfl⟩ ?_
  refine y_ior (n := 19) ⟨dX12_settledBy_18, rfl⟩ ?_
  cases hf
  exact y_ireturn (n := 20) ⟨dX12_settledBy_19, rfl⟩ rfl rfl hk
theorem c_mo_settledBy (a1 : Int64) (a2 : Int64) (M : dM) {o : Int32} {y : mz_M} {d : Nat} {Q : mz_P} {pc n i : Nat} {L : List (Option Value)} {st : List Value} (h : mz_d y.2.1 pc n 3 (.invokevirtual i)) (hl : mz_ml y.1.cls i yX12_settledBy) (hf : f_mo_settledBy a1 a2 M = some o) (hd : 2 + 1 ≤ d) (hsm : (st.map (fun v => v.category)).sum ≤ 8) (hLr : mz_rL 133 L = true) (hSr : mz_rS 133 st = true) (kk : mW y d Q n L (.int o :: st) M) : mW y d Q pc L (.long a2 :: .long a1 :: .ref 66 :: st) M :=
  y_callV kmX12_settledBy kvX12_settledBy l_66 (by decide +kernel) (by decide +kernel) h hl (ok_mo_settledBy a1 a2 M hf) (vs := [.long a1, .long a2]) rfl rfl hd hsm hLr hSr kk
noncomputable def f_mo_settled (M : dM) : Option (Int32 × dM) :=
  (f_mo_knows (sI M 66 0 0)).bind fun q1 =>
  (f_mo_settledBy (gJ q1 66 63) 0 q1).bind fun v3 =>
  some (v3, q1)
theorem ok_mo_settled  (M : dM) {o : (Int32 × dM)} (hf : f_mo_settled M = some o) : mO mX12_settled 7 [.ref 66] M (some (.int o.1)) o.2 := by
  refine y_ok (by decide +kernel) (Nat.le_of_ble_eq_true rfl) (L0 := [some (.ref 66)]) rfl ?_
  have hk := mR_mQ (some (.int o.1)) o.2
  generalize mQ _ _ = Q at hk ⊢
  unfold f_mo_settled at hf
  refine y_aload_n (i := 0) (n := 1) ⟨dX12_settled_0, rfl⟩ rfl ?_
  refine y_iconst (n := 2) (v := 0) ⟨dX12_settled_1, rfl⟩ ki_0 ?_
  refine y_putI (n := 5) ⟨dX12_settled_2, rfl⟩ kfX12_214 l_66 (by decide +kernel) rfl ?_
  refine y_aload_n (i := 0) (n := 6) ⟨dX12_settled_5, rfl⟩ rfl ?_
  obtain ⟨q1, hv2, hf⟩ := b_s hf
  refine c_mo_knows (sI M 66 0 0) (n := 9) ⟨dX12_settled_6, rfl⟩ klX12_505 hv2 (by decide) (Nat.le_of_ble_eq_true rfl) rfl rfl ?_
  refine y_aload_n (i := 0) (n := 10) ⟨dX12_settled_9, rfl⟩ rfl ?_
  refine y_aload_n (i := 0) (n := 11) ⟨dX12_settled_10, rfl⟩ rfl ?_
  refine y_getJ (n := 14) ⟨dX12_settled_11, rfl⟩ kfX12_502 l_66 rfl ?_
  refine y_lconst (n := 15) (v := 0) ⟨dX12_settled_14, rfl⟩ kl_0 ?_
  obtain ⟨v3, hv4, hf⟩ := b_s hf
  refine c_mo_settledBy (gJ q1 66 63) 0 q1 (n := 18) ⟨dX12_settled_15, rfl⟩ klX12_529 hv4 (by decide) (Nat.le_of_ble_eq_true rfl) rfl rfl ?_
  cases hf
  exact y_ireturn (n := 19) ⟨dX12_settled_18, rfl⟩ rfl rfl hk
theorem c_mo_settled  (M : dM) {o : (Int32 × dM)} {y : mz_M} {d : Nat} {Q : mz_P} {pc n i : Nat} {L : List (Option Value)} {st : List Value} (h : mz_d y.2.1 pc n 3 (.invokevirtual i)) (hl : mz_ml y.1.cls i yX12_settled) (hf : f_mo_settled M = some o) (hd : 7 + 1 ≤ d) (hsm : (st.map (fun v => v.category)).sum ≤ 8) (hLr : mz_rL 133 L = true) (hSr : mz_rS 133 st = true) (kk : mW y d Q n L (.int o.1 :: st) o.2) : mW y d Q pc L (.ref 66 :: st) M :=
  y_callV kmX12_settled kvX12_settled l_66 (by decide +kernel) (by decide +kernel) h hl (ok_mo_settled  M hf) (vs := []) rfl rfl hd hsm hLr hSr kk
def K_mo_goodOf_10 (Q : mz_P) (x1 : Int32) (x2 : Int32) : ((Int64 × Int32 × dM) ⊕ ((Int64 × dM) ⊕ (Int32 × dM))) → Prop
  | .inl s => mW mX12_goodOf 3 Q 10 [some (.ref 66), some (.int x1), some (.int x2), some (.long s.1), none, some (.int s.2.1), none, none, none, none] [] s.2.2
  | .inr (.inl t) => mW mX12_goodOf 3 Q 103 [some (.ref 66), none, none, some (.long t.1), none, none, none, none, none, none] [] t.2
  | .inr (.inr r) => mR Q (some (.int r.1)) r.2
noncomputable def b_mo_goodOf_10_58 (x1 : Int32) (x2 : Int32) (x3 : Int64) (x5 : Int32) (M : dM) : Option ((Int64 × Int32 × dM) ⊕ ((Int64 × dM) ⊕ (Int32 × dM))) :=
  if (gI M 66 76) = 10 then
    some (.inr (.inr ((-1), M)))
  else
    gd (vp_in (gI M 66 76) 10) <|
    some (.inl ((x3 ||| ((1 : Int64) <<< (x5.toInt64 &&& 63))), (x5 + 1), (sI (sI M 112 (gI M 66 76).toNatClampNeg x5) 66 76 ((gI (sI M 112 (gI M 66 76).toNatClampNeg x5) 66 76) + 1))))
noncomputable def b_mo_goodOf_10_10 (x1 : Int32) (x2 : Int32) (x3 : Int64) (x5 : Int32) (M : dM) : Option ((Int64 × Int32 × dM) ⊕ ((Int64 × dM) ⊕ (Int32 × dM))) :=
  if (gI M 66 9) ≤ x5 then
    some (.inr (.inl (x3, M)))
  else
    if (((gJ M 66 63) >>> (x5.toInt64 &&& 63)) &&& 1) = 0 then
      some (.inl (x3, (x5 + 1), M))
    else
      gd (vp_in x5 40) <|
      if (gI M 74 x5.toNatClampNeg) = x1 then
        b_mo_goodOf_10_58 x1 x2 x3 x5 M
      else
        if (gI M 74 x5.toNatClampNeg) = x2 then
          b_mo_goodOf_10_58 x1 x2 x3 x5 M
        else
          some (.inl (x3, (x5 + 1), M))
noncomputable def l_mo_goodOf_10 (x1 : Int32) (x2 : Int32) (x3 : Int64) (x5 : Int32) (M : dM) : Option ((Int64 × dM) ⊕ (Int32 × dM)) := lpc (fun s => b_mo_goodOf_10_10 x1 x2 s.1 s.2.1 s.2.2) (x3, x5, M)
def K_mo_goodOf_111 (Q : mz_P) (x3 : Int64) (M : dM) : ((Int32 × Int32) ⊕ (Int32 × dM)) → Prop
  | .inl s => mW mX12_goodOf 3 Q 111 [some (.ref 66), none, none, some (.long x3), none, some (.int s.1), some (.int s.2), none, none, none] [] M
  | .inr r => mR Q (some (.int r.1)) r.2
def K_mo_goodOf_128 (Q : mz_P) (x3 : Int64) (x5 : Int32) (x6 : Int32) (M : dM) : ((Int64 × Int32) ⊕ Int64) → Prop
  | .inl s => mW mX12_goodOf 3 Q 128 [some (.ref 66), none, none, some (.long x3), none, some (.int x5), some (.int x6), some (.long s.1), none, some (.int s.2)] [] M
  | .inr t => mW mX12_goodOf 3 Q 168 [some (.ref 66), none, none, some (.long x3), none, some (.int x5), some (.int x6), some (.long t), none, none] [] M
noncomputable def b_mo_goodOf_128_128 (x3 : Int64) (x5 : Int32) (x6 : Int32) (x7 : Int64) (x9 : Int32) (M : dM) : Option ((Int64 × Int32) ⊕ Int64) :=
  if (gI M 66 76) ≤ x9 then
    some (.inr x7)
  else
    if ((x6 >>> (x9 &&& 31)) &&& 1) = 1 then
      gd (vp_in x9 10) <|
      some (.inl ((x7 ||| ((1 : Int64) <<< ((gI M 112 x9.toNatClampNeg).toInt64 &&& 63))), (x9 + 1)))
    else
      some (.inl (x7, (x9 + 1)))
noncomputable def l_mo_goodOf_128 (x3 : Int64) (x5 : Int32) (x6 : Int32) (x7 : Int64) (x9 : Int32) (M : dM) : Option Int64 := lpc (fun s => b_mo_goodOf_128_128 x3 x5 x6 s.1 s.2 M) (x7, x9)
noncomputable def b_mo_goodOf_111_111 (x3 : Int64) (x5 : Int32) (x6 : Int32) (M : dM) : Option ((Int32 × Int32) ⊕ (Int32 × dM)) :=
  if ((1 : Int32) <<< ((gI M 66 76) &&& 31)) ≤ x6 then
    (f_mo_bits x5).bind fun v6 =>
    some (.inr (v6, M))
  else
    (l_mo_goodOf_128 x3 x5 x6 0 0 M).bind fun t9 =>
      (f_mo_settledBy ((gJ M 66 63) &&& (x3 ^^^ (-1))) t9 M).bind fun v12 =>
      some (.inl ((x5 &&& v12), (x6 + 1)))
noncomputable def l_mo_goodOf_111 (x3 : Int64) (x5 : Int32) (x6 : Int32) (M : dM) : Option (Int32 × dM) := lpc (fun s => b_mo_goodOf_111_111 x3 s.1 s.2 M) (x5, x6)
noncomputable def f_mo_goodOf (a1 : Int32) (a2 : Int32) (M : dM) : Option (Int32 × dM) :=
  (l_mo_goodOf_10 a1 a2 0 0 (sI M 66 76 0)).bind (Sum.elim (fun t3 =>
      (l_mo_goodOf_111 t3.1 4095 0 t3.2).bind fun r16 => some r16
    ) (fun r5 => some r5))
theorem w_b_mo_goodOf_10_58 (x1 : Int32) (x2 : Int32) (x3 : Int64) (x5 : Int32)  (M : dM) {Q : mz_P} {o : ((Int64 × Int32 × dM) ⊕ ((Int64 × dM) ⊕ (Int32 × dM)))} (hf : b_mo_goodOf_10_58 x1 x2 x3 x5 M = some o) (hk : K_mo_goodOf_10 Q x1 x2 o) : mW mX12_goodOf 3 Q 58 [some (.ref 66), some (.int x1), some (.int x2), some (.long x3), none, some (.int x5), none, none, none, none] [] M := by
  unfold b_mo_goodOf_10_58 at hf
  refine y_aload_n (i := 0) (n := 59) ⟨dX12_goodOf_58, rfl⟩ rfl ?_
  refine y_getI (n := 62) ⟨dX12_goodOf_59, rfl⟩ kfX12_533 l_66 rfl ?_
  refine y_bipush (n := 64) (v := 10) ⟨dX12_goodOf_62, rfl⟩ kb_10 ?_
  refine y_icmp_ne (t := 69) (n := 67) ⟨dX12_goodOf_64, rfl, rfl⟩ (fun (hc : ¬ ((gI M 66 76) = 10)) => ?_) (fun (hc : (gI M 66 76) = 10) => ?_)
  · replace hf := i_f hc hf
    refine y_aload_n (i := 0) (n := 70) ⟨dX12_goodOf_69, rfl⟩ rfl ?_
    refine y_getR (n := 73) ⟨dX12_goodOf_70, rfl⟩ kfX12_147 l_66 rfl r_66_75 ?_
    refine y_aload_n (i := 0) (n := 74) ⟨dX12_goodOf_73, rfl⟩ rfl ?_
    refine y_getI (n := 77) ⟨dX12_goodOf_74, rfl⟩ kfX12_533 l_66 rfl ?_
    refine y_iload (i := 5) (n := 79) ⟨dX12_goodOf_77, rfl⟩ rfl ?_
    obtain ⟨hg2, hf⟩ := g_s hf
    refine y_iastore (n := 80) ⟨dX12_goodOf_79, rfl⟩ l_112 hg2 ?_
    refine y_aload_n (i := 0) (n := 81) ⟨dX12_goodOf_80, rfl⟩ rfl ?_
    refine y_dup_r (n := 82) ⟨dX12_goodOf_81, rfl⟩ ?_
    refine y_getI (n := 85) ⟨dX12_goodOf_82, rfl⟩ kfX12_533 l_66 rfl ?_
    refine y_iconst (n := 86) (v := 1) ⟨dX12_goodOf_85, rfl⟩ ki_1 ?_
    refine y_iadd (n := 87) ⟨dX12_goodOf_86, rfl⟩ ?_
    refine y_putI (n := 90) ⟨dX12_goodOf_87, rfl⟩ kfX12_533 l_66 (by decide +kernel) rfl ?_
    refine y_lload_n (i := 3) (n := 91) ⟨dX12_goodOf_90, rfl⟩ rfl ?_
    refine y_lconst (n := 92) (v := 1) ⟨dX12_goodOf_91, rfl⟩ kl_1 ?_
    refine y_iload (i := 5) (n := 94) ⟨dX12_goodOf_92, rfl⟩ rfl ?_
    refine y_lshl (n := 95) ⟨dX12_goodOf_94, rfl⟩ ?_
    refine y_lor (n := 96) ⟨dX12_goodOf_95, rfl⟩ ?_
    refine y_lstore_n (i := 3) (n := 97) (L2 := [some (.ref 66), some (.int x1), some (.int x2), some (.long (x3 ||| ((1 : Int64) <<< (x5.toInt64 &&& 63)))), none, some (.int x5), none, none, none, none]) ⟨dX12_goodOf_96, rfl⟩ (by decide) rfl rfl ?_
    refine y_iinc (i := 5) (n := 100) (b := (x5 + 1)) (L2 := [some (.ref 66), some (.int x1), some (.int x2), some (.long (x3 ||| ((1 : Int64) <<< (x5.toInt64 &&& 63)))), none, some (.int (x5 + 1)), none, none, none, none]) ⟨dX12_goodOf_97, rfl⟩ rfl (by rw [ki_1]) (by decide) rfl rfl ?_
    refine y_goto (t := 10) ⟨dX12_goodOf_100, rfl, rfl⟩ ?_
    cases hf
    exact y_wk (L2 := [some (.ref 66), some (.int x1), some (.int x2), some (.long (x3 ||| ((1 : Int64) <<< (x5.toInt64 &&& 63)))), none, some (.int (x5 + 1)), none, none, none, none]) ⟨Or.inr rfl, Or.inr rfl, Or.inr rfl, Or.inr rfl, Or.inr rfl, Or.inr rfl, Or.inr rfl, Or.inr rfl, Or.inr rfl, Or.inr rfl, trivial⟩ hk
  · replace hf := i_t hc hf
    refine y_iconst (n := 68) (v := (-1)) ⟨dX12_goodOf_67, rfl⟩ ki_m1 ?_
    cases hf
    exact y_ireturn (n := 69) ⟨dX12_goodOf_68, rfl⟩ rfl rfl hk
theorem w_b_mo_goodOf_10_10 (x1 : Int32) (x2 : Int32) (x3 : Int64) (x5 : Int32)  (M : dM) {Q : mz_P} {o : ((Int64 × Int32 × dM) ⊕ ((Int64 × dM) ⊕ (Int32 × dM)))} (hf : b_mo_goodOf_10_10 x1 x2 x3 x5 M = some o) (hk : K_mo_goodOf_10 Q x1 x2 o) : mW mX12_goodOf 3 Q 10 [some (.ref 66), some (.int x1), some (.int x2), some (.long x3), none, some (.int x5), none, none, none, none] [] M := by
  unfold b_mo_goodOf_10_10 at hf
  refine y_iload (i := 5) (n := 12) ⟨dX12_goodOf_10, rfl⟩ rfl ?_
  refine y_aload_n (i := 0) (n := 13) ⟨dX12_goodOf_12, rfl⟩ rfl ?_
  refine y_getI (n := 16) ⟨dX12_goodOf_13, rfl⟩ kfX12_235 l_66 rfl ?_
  refine y_icmp_ge (t := 103) (n := 19) ⟨dX12_goodOf_16, rfl, rfl⟩ (fun (hc : (gI M 66 9) ≤ x5) => ?_) (fun (hc : ¬ ((gI M 66 9) ≤ x5)) => ?_)
  · replace hf := i_t hc hf
    cases hf
    exact y_wk (L2 := [some (.ref 66), none, none, some (.long x3), none, none, none, none, none, none]) ⟨Or.inr rfl, Or.inl rfl, Or.inl rfl, Or.inr rfl, Or.inr rfl, Or.inl rfl, Or.inr rfl, Or.inr rfl, Or.inr rfl, Or.inr rfl, trivial⟩ hk
  · replace hf := i_f hc hf
    refine y_aload_n (i := 0) (n := 20) ⟨dX12_goodOf_19, rfl⟩ rfl ?_
    refine y_getJ (n := 23) ⟨dX12_goodOf_20, rfl⟩ kfX12_502 l_66 rfl ?_
    refine y_iload (i := 5) (n := 25) ⟨dX12_goodOf_23, rfl⟩ rfl ?_
    refine y_lshr (n := 26) ⟨dX12_goodOf_25, rfl⟩ ?_
    refine y_lconst (n := 27) (v := 1) ⟨dX12_goodOf_26, rfl⟩ kl_1 ?_
    refine y_land (n := 28) ⟨dX12_goodOf_27, rfl⟩ ?_
    refine y_lconst (n := 29) (v := 0) ⟨dX12_goodOf_28, rfl⟩ kl_0 ?_
    refine y_lcmp (n := 30) ⟨dX12_goodOf_29, rfl⟩ ?_
    refine y_if_eq (t := 97) (n := 33) ⟨dX12_goodOf_30, rfl, rfl⟩ (fun h0 => ?_) (fun h0 => ?_)
    · have hc : (((gJ M 66 63) >>> (x5.toInt64 &&& 63)) &&& 1) = 0 := (lc_eq _ _).mp h0
      replace hf := i_t hc hf
      refine y_iinc (i := 5) (n := 100) (b := (x5 + 1)) (L2 := [some (.ref 66), some (.int x1), some (.int x2), some (.long x3), none, some (.int (x5 + 1)), none, none, none, none]) ⟨dX12_goodOf_97, rfl⟩ rfl (by rw [ki_1]) (by decide) rfl rfl ?_
      refine y_goto (t := 10) ⟨dX12_goodOf_100, rfl, rfl⟩ ?_
      cases hf
      exact y_wk (L2 := [some (.ref 66), some (.int x1), some (.int x2), some (.long x3), none, some (.int (x5 + 1)), none, none, none, none]) ⟨Or.inr rfl, Or.inr rfl, Or.inr rfl, Or.inr rfl, Or.inr rfl, Or.inr rfl, Or.inr rfl, Or.inr rfl, Or.inr rfl, Or.inr rfl, trivial⟩ hk
    · have hc : ¬ ((((gJ M 66 63) >>> (x5.toInt64 &&& 63)) &&& 1) = 0) := fun e => h0 ((lc_eq _ _).mpr e)
      replace hf := i_f hc hf
      refine y_aload_n (i := 0) (n := 34) ⟨dX12_goodOf_33, rfl⟩ rfl ?_
      refine y_getR (n := 37) ⟨dX12_goodOf_34, rfl⟩ kfX12_31 l_66 rfl r_66_10 ?_
      refine y_iload (i := 5) (n := 39) ⟨dX12_goodOf_37, rfl⟩ rfl ?_
      obtain ⟨hg1, hf⟩ := g_s hf
      refine y_iaload (n := 40) ⟨dX12_goodOf_39, rfl⟩ l_74 hg1 ?_
      refine y_iload_n (i := 1) (n := 41) ⟨dX12_goodOf_40, rfl⟩ rfl ?_
      refine y_icmp_eq (t := 58) (n := 44) ⟨dX12_goodOf_41, rfl, rfl⟩ (fun (hc : (gI M 74 x5.toNatClampNeg) = x1) => ?_) (fun (hc : ¬ ((gI M 74 x5.toNatClampNeg) = x1)) => ?_)
      · replace hf := i_t hc hf
        exact y_wk (L2 := [some (.ref 66), some (.int x1), some (.int x2), some (.long x3), none, some (.int x5), none, none, none, none]) ⟨Or.inr rfl, Or.inr rfl, Or.inr rfl, Or.inr rfl, Or.inr rfl, Or.inr rfl, Or.inr rfl, Or.inr rfl, Or.inr rfl, Or.inr rfl, trivial⟩ (w_b_mo_goodOf_10_58 x1 x2 x3 x5 M hf hk)
      · replace hf := i_f hc hf
        refine y_aload_n (i := 0) (n := 45) ⟨dX12_goodOf_44, rfl⟩ rfl ?_
        refine y_getR (n := 48) ⟨dX12_goodOf_45, rfl⟩ kfX12_31 l_66 rfl r_66_10 ?_
        refine y_iload (i := 5) (n := 50) ⟨dX12_goodOf_48, rfl⟩ rfl ?_
        refine y_iaload (n := 51) ⟨dX12_goodOf_50, rfl⟩ l_74 hg1 ?_
        refine y_iload_n (i := 2) (n := 52) ⟨dX12_goodOf_51, rfl⟩ rfl ?_
        refine y_icmp_eq (t := 58) (n := 55) ⟨dX12_goodOf_52, rfl, rfl⟩ (fun (hc : (gI M 74 x5.toNatClampNeg) = x2) => ?_) (fun (hc : ¬ ((gI M 74 x5.toNatClampNeg) = x2)) => ?_)
        · replace hf := i_t hc hf
          exact y_wk (L2 := [some (.ref 66), some (.int x1), some (.int x2), some (.long x3), none, some (.int x5), none, none, none, none]) ⟨Or.inr rfl, Or.inr rfl, Or.inr rfl, Or.inr rfl, Or.inr rfl, Or.inr rfl, Or.inr rfl, Or.inr rfl, Or.inr rfl, Or.inr rfl, trivial⟩ (w_b_mo_goodOf_10_58 x1 x2 x3 x5 M hf hk)
        · replace hf := i_f hc hf
          refine y_goto (t := 97) ⟨dX12_goodOf_55, rfl, rfl⟩ ?_
          refine y_iinc (i := 5) (n := 100) (b := (x5 + 1)) (L2 := [some (.ref 66), some (.int x1), some (.int x2), some (.long x3), none, some (.int (x5 + 1)), none, none, none, none]) ⟨dX12_goodOf_97, rfl⟩ rfl (by rw [ki_1]) (by decide) rfl rfl ?_
          refine y_goto (t := 10) ⟨dX12_goodOf_100, rfl, rfl⟩ ?_
          cases hf
          exact y_wk (L2 := [some (.ref 66), some (.int x1), some (.int x2), some (.long x3), none, some (.int (x5 + 1)), none, none, none, none]) ⟨Or.inr rfl, Or.inr rfl, Or.inr rfl, Or.inr rfl, Or.inr rfl, Or.inr rfl, Or.inr rfl, Or.inr rfl, Or.inr rfl, Or.inr rfl, trivial⟩ hk
theorem wl_mo_goodOf_10 (x1 : Int32) (x2 : Int32) (x3 : Int64) (x5 : Int32) (M : dM) {Q : mz_P} {x : ((Int64 × dM) ⊕ (Int32 × dM))} (hf : l_mo_goodOf_10 x1 x2 x3 x5 M = some x) (hk : K_mo_goodOf_10 Q x1 x2 (.inr x)) : mW mX12_goodOf 3 Q 10 [some (.ref 66), some (.int x1), some (.int x2), some (.long x3), none, some (.int x5), none, none, none, none] [] M :=
  lpc_wp (σ := (Int64 × Int32 × dM)) (ξ := ((Int64 × dM) ⊕ (Int32 × dM))) (s := (x3, x5, M)) (Wh := fun s => mW mX12_goodOf 3 Q 10 [some (.ref 66), some (.int x1), some (.int x2), some (.long s.1), none, some (.int s.2.1), none, none, none, none] [] s.2.2) (K := K_mo_goodOf_10 Q x1 x2) (fun _ h => h) (fun s o hb hk => w_b_mo_goodOf_10_10 x1 x2 s.1 s.2.1 s.2.2 hb hk) hf hk
theorem w_b_mo_goodOf_128_128 (x3 : Int64) (x5 : Int32) (x6 : Int32) (x7 : Int64) (x9 : Int32)  (M : dM) {Q : mz_P} {o : ((Int64 × Int32) ⊕ Int64)} (hf : b_mo_goodOf_128_128 x3 x5 x6 x7 x9 M = some o) (hk : K_mo_goodOf_128 Q x3 x5 x6 M o) : mW mX12_goodOf 3 Q 128 [some (.ref 66), none, none, some (.long x3), none, some (.int x5), some (.int x6), some (.long x7), none, some (.int x9)] [] M := by
  unfold b_mo_goodOf_128_128 at hf
  refine y_iload (i := 9) (n := 130) ⟨dX12_goodOf_128, rfl⟩ rfl ?_
  refine y_aload_n (i := 0) (n := 131) ⟨dX12_goodOf_130, rfl⟩ rfl ?_
  refine y_getI (n := 134) ⟨dX12_goodOf_131, rfl⟩ kfX12_533 l_66 rfl ?_
  refine y_icmp_ge (t := 168) (n := 137) ⟨dX12_goodOf_134, rfl, rfl⟩ (fun (hc : (gI M 66 76) ≤ x9) => ?_) (fun (hc : ¬ ((gI M 66 76) ≤ x9)) => ?_)
  · replace hf := i_t hc hf
    cases hf
    exact y_wk (L2 := [some (.ref 66), none, none, some (.long x3), none, some (.int x5), some (.int x6), some (.long x7), none, none]) ⟨Or.inr rfl, Or.inr rfl, Or.inr rfl, Or.inr rfl, Or.inr rfl, Or.inr rfl, Or.inr rfl, Or.inr rfl, Or.inr rfl, Or.inl rfl, trivial⟩ hk
  · replace hf := i_f hc hf
    refine y_iload (i := 6) (n := 139) ⟨dX12_goodOf_137, rfl⟩ rfl ?_
    refine y_iload (i := 9) (n := 141) ⟨dX12_goodOf_139, rfl⟩ rfl ?_
    refine y_ishr (n := 142) ⟨dX12_goodOf_141, rfl⟩ ?_
    refine y_iconst (n := 143) (v := 1) ⟨dX12_goodOf_142, rfl⟩ ki_1 ?_
    refine y_iand (n := 144) ⟨dX12_goodOf_143, rfl⟩ ?_
    refine y_iconst (n := 145) (v := 1) ⟨dX12_goodOf_144, rfl⟩ ki_1 ?_
    refine y_icmp_ne (t := 162) (n := 148) ⟨dX12_goodOf_145, rfl, rfl⟩ (fun (hc : ¬ (((x6 >>> (x9 &&& 31)) &&& 1) = 1)) => ?_) (fun (hc : ((x6 >>> (x9 &&& 31)) &&& 1) = 1) => ?_)
    · replace hf := i_f hc hf
      refine y_iinc (i := 9) (n := 165) (b := (x9 + 1)) (L2 := [some (.ref 66), none, none, some (.long x3), none, some (.int x5), some (.int x6), some (.long x7), none, some (.int (x9 + 1))]) ⟨dX12_goodOf_162, rfl⟩ rfl (by rw [ki_1]) (by decide) rfl rfl ?_
      refine y_goto (t := 128) ⟨dX12_goodOf_165, rfl, rfl⟩ ?_
      cases hf
      exact y_wk (L2 := [some (.ref 66), none, none, some (.long x3), none, some (.int x5), some (.int x6), some (.long x7), none, some (.int (x9 + 1))]) ⟨Or.inr rfl, Or.inr rfl, Or.inr rfl, Or.inr rfl, Or.inr rfl, Or.inr rfl, Or.inr rfl, Or.inr rfl, Or.inr rfl, Or.inr rfl, trivial⟩ hk
    · replace hf := i_t hc hf
      refine y_lload (i := 7) (n := 150) ⟨dX12_goodOf_148, rfl⟩ rfl ?_
      refine y_lconst (n := 151) (v := 1) ⟨dX12_goodOf_150, rfl⟩ kl_1 ?_
      refine y_aload_n (i := 0) (n := 152) ⟨dX12_goodOf_151, rfl⟩ rfl ?_
      refine y_getR (n := 155) ⟨dX12_goodOf_152, rfl⟩ kfX12_147 l_66 rfl r_66_75 ?_
      refine y_iload (i := 9) (n := 157) ⟨dX12_goodOf_155, rfl⟩ rfl ?_
      obtain ⟨hg8, hf⟩ := g_s hf
      refine y_iaload (n := 158) ⟨dX12_goodOf_157, rfl⟩ l_112 hg8 ?_
      refine y_lshl (n := 159) ⟨dX12_goodOf_158, rfl⟩ ?_
      refine y_lor (n := 160) ⟨dX12_goodOf_159, rfl⟩ ?_
      refine y_lstore (i := 7) (n := 162) (L2 := [some (.ref 66), none, none, some (.long x3), none, some (.int x5), some (.int x6), some (.long (x7 ||| ((1 : Int64) <<< ((gI M 112 x9.toNatClampNeg).toInt64 &&& 63)))), none, some (.int x9)]) ⟨dX12_goodOf_160, rfl⟩ (by decide) rfl rfl ?_
      refine y_iinc (i := 9) (n := 165) (b := (x9 + 1)) (L2 := [some (.ref 66), none, none, some (.long x3), none, some (.int x5), some (.int x6), some (.long (x7 ||| ((1 : Int64) <<< ((gI M 112 x9.toNatClampNeg).toInt64 &&& 63)))), none, some (.int (x9 + 1))]) ⟨dX12_goodOf_162, rfl⟩ rfl (by rw [ki_1]) (by decide) rfl rfl ?_
      refine y_goto (t := 128) ⟨dX12_goodOf_165, rfl, rfl⟩ ?_
      cases hf
      exact y_wk (L2 := [some (.ref 66), none, none, some (.long x3), none, some (.int x5), some (.int x6), some (.long (x7 ||| ((1 : Int64) <<< ((gI M 112 x9.toNatClampNeg).toInt64 &&& 63)))), none, some (.int (x9 + 1))]) ⟨Or.inr rfl, Or.inr rfl, Or.inr rfl, Or.inr rfl, Or.inr rfl, Or.inr rfl, Or.inr rfl, Or.inr rfl, Or.inr rfl, Or.inr rfl, trivial⟩ hk
theorem wl_mo_goodOf_128 (x3 : Int64) (x5 : Int32) (x6 : Int32) (x7 : Int64) (x9 : Int32) (M : dM) {Q : mz_P} {x : Int64} (hf : l_mo_goodOf_128 x3 x5 x6 x7 x9 M = some x) (hk : K_mo_goodOf_128 Q x3 x5 x6 M (.inr x)) : mW mX12_goodOf 3 Q 128 [some (.ref 66), none, none, some (.long x3), none, some (.int x5), some (.int x6), some (.long x7), none, some (.int x9)] [] M :=
  lpc_wp (σ := (Int64 × Int32)) (ξ := Int64) (s := (x7, x9)) (Wh := fun s => mW mX12_goodOf 3 Q 128 [some (.ref 66), none, none, some (.long x3), none, some (.int x5), some (.int x6), some (.long s.1), none, some (.int s.2)] [] M) (K := K_mo_goodOf_128 Q x3 x5 x6 M) (fun _ h => h) (fun s o hb hk => w_b_mo_goodOf_128_128 x3 x5 x6 s.1 s.2 M hb hk) hf hk
theorem w_b_mo_goodOf_111_111 (x3 : Int64) (x5 : Int32) (x6 : Int32)  (M : dM) {Q : mz_P} {o : ((Int32 × Int32) ⊕ (Int32 × dM))} (hf : b_mo_goodOf_111_111 x3 x5 x6 M = some o) (hk : K_mo_goodOf_111 Q x3 M o) : mW mX12_goodOf 3 Q 111 [some (.ref 66), none, none, some (.long x3), none, some (.int x5), some (.int x6), none, none, none] [] M := by
  unfold b_mo_goodOf_111_111 at hf
  refine y_iload (i := 6) (n := 113) ⟨dX12_goodOf_111, rfl⟩ rfl ?_
  refine y_iconst (n := 114) (v := 1) ⟨dX12_goodOf_113, rfl⟩ ki_1 ?_
  refine y_aload_n (i := 0) (n := 115) ⟨dX12_goodOf_114, rfl⟩ rfl ?_
  refine y_getI (n := 118) ⟨dX12_goodOf_115, rfl⟩ kfX12_533 l_66 rfl ?_
  refine y_ishl (n := 119) ⟨dX12_goodOf_118, rfl⟩ ?_
  refine y_icmp_ge (t := 195) (n := 122) ⟨dX12_goodOf_119, rfl, rfl⟩ (fun (hc : ((1 : Int32) <<< ((gI M 66 76) &&& 31)) ≤ x6) => ?_) (fun (hc : ¬ (((1 : Int32) <<< ((gI M 66 76) &&& 31)) ≤ x6)) => ?_)
  · replace hf := i_t hc hf
    refine y_iload (i := 5) (n := 197) ⟨dX12_goodOf_195, rfl⟩ rfl ?_
    obtain ⟨v6, hv7, hf⟩ := b_s hf
    refine c_mo_bits x5 M (n := 200) ⟨dX12_goodOf_197, rfl⟩ klX12_242 hv7 (by decide) (Nat.le_of_ble_eq_true rfl) rfl rfl ?_
    cases hf
    exact y_ireturn (n := 201) ⟨dX12_goodOf_200, rfl⟩ rfl rfl hk
  · replace hf := i_f hc hf
    refine y_lconst (n := 123) (v := 0) ⟨dX12_goodOf_122, rfl⟩ kl_0 ?_
    refine y_lstore (i := 7) (n := 125) (L2 := [some (.ref 66), none, none, some (.long x3), none, some (.int x5), some (.int x6), some (.long 0), none, none]) ⟨dX12_goodOf_123, rfl⟩ (by decide) rfl rfl ?_
    refine y_iconst (n := 126) (v := 0) ⟨dX12_goodOf_125, rfl⟩ ki_0 ?_
    refine y_istore (i := 9) (n := 128) (L2 := [some (.ref 66), none, none, some (.long x3), none, some (.int x5), some (.int x6), some (.long 0), none, some (.int 0)]) ⟨dX12_goodOf_126, rfl⟩ (by decide) rfl rfl ?_
    obtain ⟨t9, hl10, hf⟩ := b_s hf
    refine y_wk (L2 := [some (.ref 66), none, none, some (.long x3), none, some (.int x5), some (.int x6), some (.long 0), none, some (.int 0)]) ⟨Or.inr rfl, Or.inr rfl, Or.inr rfl, Or.inr rfl, Or.inr rfl, Or.inr rfl, Or.inr rfl, Or.inr rfl, Or.inr rfl, Or.inr rfl, trivial⟩ (wl_mo_goodOf_128 x3 x5 x6 0 0 M hl10 ?_)
    show mW mX12_goodOf 3 Q 168 [some (.ref 66), none, none, some (.long x3), none, some (.int x5), some (.int x6), some (.long t9), none, none] [] M
    refine y_iload (i := 5) (n := 170) ⟨dX12_goodOf_168, rfl⟩ rfl ?_
    refine y_aload_n (i := 0) (n := 171) ⟨dX12_goodOf_170, rfl⟩ rfl ?_
    refine y_aload_n (i := 0) (n := 172) ⟨dX12_goodOf_171, rfl⟩ rfl ?_
    refine y_getJ (n := 175) ⟨dX12_goodOf_172, rfl⟩ kfX12_502 l_66 rfl ?_
    refine y_lload_n (i := 3) (n := 176) ⟨dX12_goodOf_175, rfl⟩ rfl ?_
    refine y_ldc2 (n := 179) ⟨dX12_goodOf_176, rfl⟩ kcX12_460 ?_
    refine y_lxor (n := 180) ⟨dX12_goodOf_179, rfl⟩ ?_
    refine y_land (n := 181) ⟨dX12_goodOf_180, rfl⟩ ?_
    refine y_lload (i := 7) (n := 183) ⟨dX12_goodOf_181, rfl⟩ rfl ?_
    obtain ⟨v12, hv13, hf⟩ := b_s hf
    refine c_mo_settledBy ((gJ M 66 63) &&& (x3 ^^^ (-1))) t9 M (n := 186) ⟨dX12_goodOf_183, rfl⟩ klX12_529 hv13 (by decide) (Nat.le_of_ble_eq_true rfl) rfl rfl ?_
    refine y_iand (n := 187) ⟨dX12_goodOf_186, rfl⟩ ?_
    refine y_istore (i := 5) (n := 189) (L2 := [some (.ref 66), none, none, some (.long x3), none, some (.int (x5 &&& v12)), some (.int x6), some (.long t9), none, none]) ⟨dX12_goodOf_187, rfl⟩ (by decide) rfl rfl ?_
    refine y_iinc (i := 6) (n := 192) (b := (x6 + 1)) (L2 := [some (.ref 66), none, none, some (.long x3), none, some (.int (x5 &&& v12)), some (.int (x6 + 1)), some (.long t9), none, none]) ⟨dX12_goodOf_189, rfl⟩ rfl (by rw [ki_1]) (by decide) rfl rfl ?_
    refine y_goto (t := 111) ⟨dX12_goodOf_192, rfl, rfl⟩ ?_
    cases hf
    exact y_wk (L2 := [some (.ref 66), none, none, some (.long x3), none, some (.int (x5 &&& v12)), some (.int (x6 + 1)), none, none, none]) ⟨Or.inr rfl, Or.inr rfl, Or.inr rfl, Or.inr rfl, Or.inr rfl, Or.inr rfl, Or.inr rfl, Or.inl rfl, Or.inr rfl, Or.inr rfl, trivial⟩ hk
theorem wl_mo_goodOf_111 (x3 : Int64) (x5 : Int32) (x6 : Int32) (M : dM) {Q : mz_P} {x : (Int32 × dM)} (hf : l_mo_goodOf_111 x3 x5 x6 M = some x) (hk : K_mo_goodOf_111 Q x3 M (.inr x)) : mW mX12_goodOf 3 Q 111 [some (.ref 66), none, none, some (.long x3), none, some (.int x5), some (.int x6), none, none, none] [] M :=
  lpc_wp (σ := (Int32 × Int32)) (ξ := (Int32 × dM)) (s := (x5, x6)) (Wh := fun s => mW mX12_goodOf 3 Q 111 [some (.ref 66), none, none, some (.long x3), none, some (.int s.1), some (.int s.2), none, none, none] [] M) (K := K_mo_goodOf_111 Q x3 M) (fun _ h => h) (fun s o hb hk => w_b_mo_goodOf_111_111 x3 s.1 s.2 M hb hk) hf hk
theorem ok_mo_goodOf (a1 : Int32) (a2 : Int32) (M : dM) {o : (Int32 × dM)} (hf : f_mo_goodOf a1 a2 M = some o) : mO mX12_goodOf 3 [.ref 66, .int a1, .int a2] M (some (.int o.1)) o.2 := by
  refine y_ok (by decide +kernel) (Nat.le_of_ble_eq_true rfl) (L0 := [some (.ref 66), some (.int a1), some (.int a2), none, none, none, none, none, none, none]) rfl ?_
  have hk := mR_mQ (some (.int o.1)) o.2
  generalize mQ _ _ = Q at hk ⊢
  unfold f_mo_goodOf at hf
  refine y_aload_n (i := 0) (n := 1) ⟨dX12_goodOf_0, rfl⟩ rfl ?_
  refine y_iconst (n := 2) (v := 0) ⟨dX12_goodOf_1, rfl⟩ ki_0 ?_
  refine y_putI (n := 5) ⟨dX12_goodOf_2, rfl⟩ kfX12_533 l_66 (by decide +kernel) rfl ?_
  refine y_lconst (n := 6) (v := 0) ⟨dX12_goodOf_5, rfl⟩ kl_0 ?_
  refine y_lstore_n (i := 3) (n := 7) (L2 := [some (.ref 66), some (.int a1), some (.int a2), some (.long 0), none, none, none, none, none, none]) ⟨dX12_goodOf_6, rfl⟩ (by decide) rfl rfl ?_
  refine y_iconst (n := 8) (v := 0) ⟨dX12_goodOf_7, rfl⟩ ki_0 ?_
  refine y_istore (i := 5) (n := 10) (L2 := [some (.ref 66), some (.int a1), some (.int a2), some (.long 0), none, some (.int 0), none, none, none, none]) ⟨dX12_goodOf_8, rfl⟩ (by decide) rfl rfl ?_
  obtain ⟨z17, hl4, hf⟩ := b_s hf
  refine y_wk (L2 := [some (.ref 66), some (.int a1), some (.int a2), some (.long 0), none, some (.int 0), none, none, none, none]) ⟨Or.inr rfl, Or.inr rfl, Or.inr rfl, Or.inr rfl, Or.inr rfl, Or.inr rfl, Or.inr rfl, Or.inr rfl, Or.inr rfl, Or.inr rfl, trivial⟩ (wl_mo_goodOf_10 a1 a2 0 0 (sI M 66 76 0) hl4 ?_)
  rcases z17 with t3 | r5
  · show mW mX12_goodOf 3 Q 103 [some (.ref 66), none, none, some (.long t3.1), none, none, none, none, none, none] [] t3.2
    refine y_sipush (n := 106) (v := 4095) ⟨dX12_goodOf_103, rfl⟩ ks_4095 ?_
    refine y_istore (i := 5) (n := 108) (L2 := [some (.ref 66), none, none, some (.long t3.1), none, some (.int 4095), none, none, none, none]) ⟨dX12_goodOf_106, rfl⟩ (by decide) rfl rfl ?_
    refine y_iconst (n := 109) (v := 0) ⟨dX12_goodOf_108, rfl⟩ ki_0 ?_
    refine y_istore (i := 6) (n := 111) (L2 := [some (.ref 66), none, none, some (.long t3.1), none, some (.int 4095), some (.int 0), none, none, none]) ⟨dX12_goodOf_109, rfl⟩ (by decide) rfl rfl ?_
    obtain ⟨r16, hl15, hf⟩ := b_s hf
    cases hf
    exact y_wk (L2 := [some (.ref 66), none, none, some (.long t3.1), none, some (.int 4095), some (.int 0), none, none, none]) ⟨Or.inr rfl, Or.inr rfl, Or.inr rfl, Or.inr rfl, Or.inr rfl, Or.inr rfl, Or.inr rfl, Or.inr rfl, Or.inr rfl, Or.inr rfl, trivial⟩ (wl_mo_goodOf_111 t3.1 4095 0 t3.2 hl15 hk)
  · cases hf
    exact hk
theorem c_mo_goodOf (a1 : Int32) (a2 : Int32) (M : dM) {o : (Int32 × dM)} {y : mz_M} {d : Nat} {Q : mz_P} {pc n i : Nat} {L : List (Option Value)} {st : List Value} (h : mz_d y.2.1 pc n 3 (.invokevirtual i)) (hl : mz_ml y.1.cls i yX12_goodOf) (hf : f_mo_goodOf a1 a2 M = some o) (hd : 3 + 1 ≤ d) (hsm : (st.map (fun v => v.category)).sum ≤ 8) (hLr : mz_rL 133 L = true) (hSr : mz_rS 133 st = true) (kk : mW y d Q n L (.int o.1 :: st) o.2) : mW y d Q pc L (.int a2 :: .int a1 :: .ref 66 :: st) M :=
  y_callV kmX12_goodOf kvX12_goodOf l_66 (by decide +kernel) (by decide +kernel) h hl (ok_mo_goodOf a1 a2 M hf) (vs := [.int a1, .int a2]) rfl rfl hd hsm hLr hSr kk
noncomputable def t_mo_again_47 (y1 : Int32) (y2 : Int32) (M : dM) : Option (Int32 × dM) :=
  (f_mo_goodOf y1 y2 M).bind fun q3 =>
  some (q3.1, q3.2)
noncomputable def t_mo_again_24 (x1 : Int32) (x2 : Int32) (M : dM) : Option (Int32 × dM) :=
  if x1 = x2 then
    some ((-1), M)
  else
    (f_mo_knows M).bind fun q1 =>
    if x2 = (-1) then
      t_mo_again_47 x1 x1 q1
    else
      t_mo_again_47 x1 x2 q1
noncomputable def f_mo_again (a1 : Int32) (a2 : Int32) (M : dM) : Option (Int32 × dM) :=
  if (f_mo_isSite a1) = true then
    if a2 = (-1) then
      t_mo_again_24 a1 a2 (sI M 66 0 0)
    else
      if (f_mo_isSite a2) = true then
        t_mo_again_24 a1 a2 (sI M 66 0 0)
      else
        some ((-1), (sI M 66 0 0))
  else
    some ((-1), (sI M 66 0 0))
theorem w_t_mo_again_47 (y1 : Int32) (y2 : Int32) (M : dM) {Q : mz_P} {o : (Int32 × dM)} (hf : t_mo_again_47 y1 y2 M = some o) (hk : mR Q (some (.int o.1)) o.2) : mW mX12_again 7 Q 47 [none, none, none] [.int y2, .int y1, .ref 66] M := by
  unfold t_mo_again_47 at hf
  obtain ⟨q3, hv4, hf⟩ := b_s hf
  refine c_mo_goodOf y1 y2 M (n := 50) ⟨dX12_again_47, rfl⟩ klX12_536 hv4 (by decide) (Nat.le_of_ble_eq_true rfl) rfl rfl ?_
  cases hf
  exact y_ireturn (n := 51) ⟨dX12_again_50, rfl⟩ rfl rfl hk
theorem w_t_mo_again_24 (x1 : Int32) (x2 : Int32) (M : dM) {Q : mz_P} {o : (Int32 × dM)} (hf : t_mo_again_24 x1 x2 M = some o) (hk : mR Q (some (.int o.1)) o.2) : mW mX12_again 7 Q 24 [some (.ref 66), some (.int x1), some (.int x2)] [] M := by
  unfold t_mo_again_24 at hf
  refine y_iload_n (i := 1) (n := 25) ⟨dX12_again_24, rfl⟩ rfl ?_
  refine y_iload_n (i := 2) (n := 26) ⟨dX12_again_25, rfl⟩ rfl ?_
  refine y_icmp_ne (t := 31) (n := 29) ⟨dX12_again_26, rfl, rfl⟩ (fun (hc : ¬ (x1 = x2)) => ?_) (fun (hc : x1 = x2) => ?_)
  · replace hf := i_f hc hf
    refine y_aload_n (i := 0) (n := 32) ⟨dX12_again_31, rfl⟩ rfl ?_
    obtain ⟨q1, hv2, hf⟩ := b_s hf
    refine c_mo_knows M (n := 35) ⟨dX12_again_32, rfl⟩ klX12_505 hv2 (by decide) (Nat.le_of_ble_eq_true rfl) rfl rfl ?_
    refine y_aload_n (i := 0) (n := 36) ⟨dX12_again_35, rfl⟩ rfl ?_
    refine y_iload_n (i := 1) (n := 37) ⟨dX12_again_36, rfl⟩ rfl ?_
    refine y_iload_n (i := 2) (n := 38) ⟨dX12_again_37, rfl⟩ rfl ?_
    refine y_iconst (n := 39) (v := (-1)) ⟨dX12_again_38, rfl⟩ ki_m1 ?_
    refine y_icmp_ne (t := 46) (n := 42) ⟨dX12_again_39, rfl, rfl⟩ (fun (hc : ¬ (x2 = (-1))) => ?_) (fun (hc : x2 = (-1)) => ?_)
    · replace hf := i_f hc hf
      refine y_iload_n (i := 2) (n := 47) ⟨dX12_again_46, rfl⟩ rfl ?_
      exact y_wk (L2 := [none, none, none]) ⟨Or.inl rfl, Or.inl rfl, Or.inl rfl, trivial⟩ (w_t_mo_again_47 x1 x2 q1 hf hk)
    · replace hf := i_t hc hf
      refine y_iload_n (i := 1) (n := 43) ⟨dX12_again_42, rfl⟩ rfl ?_
      refine y_goto (t := 47) ⟨dX12_again_43, rfl, rfl⟩ ?_
      exact y_wk (L2 := [none, none, none]) ⟨Or.inl rfl, Or.inl rfl, Or.inl rfl, trivial⟩ (w_t_mo_again_47 x1 x1 q1 hf hk)
  · replace hf := i_t hc hf
    refine y_iconst (n := 30) (v := (-1)) ⟨dX12_again_29, rfl⟩ ki_m1 ?_
    cases hf
    exact y_ireturn (n := 31) ⟨dX12_again_30, rfl⟩ rfl rfl hk
theorem ok_mo_again (a1 : Int32) (a2 : Int32) (M : dM) {o : (Int32 × dM)} (hf : f_mo_again a1 a2 M = some o) : mO mX12_again 7 [.ref 66, .int a1, .int a2] M (some (.int o.1)) o.2 := by
  refine y_ok (by decide +kernel) (Nat.le_of_ble_eq_true rfl) (L0 := [some (.ref 66), some (.int a1), some (.int a2)]) rfl ?_
  have hk := mR_mQ (some (.int o.1)) o.2
  generalize mQ _ _ = Q at hk ⊢
  unfold f_mo_again at hf
  refine y_aload_n (i := 0) (n := 1) ⟨dX12_again_0, rfl⟩ rfl ?_
  refine y_iconst (n := 2) (v := 0) ⟨dX12_again_1, rfl⟩ ki_0 ?_
  refine y_putI (n := 5) ⟨dX12_again_2, rfl⟩ kfX12_214 l_66 (by decide +kernel) rfl ?_
  refine y_iload_n (i := 1) (n := 6) ⟨dX12_again_5, rfl⟩ rfl ?_
  refine c_mo_isSite a1 (sI M 66 0 0) (n := 9) ⟨dX12_again_6, rfl⟩ klX12_217 rfl (by decide) (Nat.le_of_ble_eq_true rfl) rfl rfl ?_
  refine y_if_eq (t := 29) (n := 12) ⟨dX12_again_9, rfl, rfl⟩ (fun h0 => ?_) (fun h0 => ?_)
  · have hc := bI_0 h0
    replace hf := i_f hc hf
    refine y_iconst (n := 30) (v := (-1)) ⟨dX12_again_29, rfl⟩ ki_m1 ?_
    cases hf
    exact y_ireturn (n := 31) ⟨dX12_again_30, rfl⟩ rfl rfl hk
  · have hc := bI_1 h0
    replace hf := i_t hc hf
    refine y_iload_n (i := 2) (n := 13) ⟨dX12_again_12, rfl⟩ rfl ?_
    refine y_iconst (n := 14) (v := (-1)) ⟨dX12_again_13, rfl⟩ ki_m1 ?_
    refine y_icmp_eq (t := 24) (n := 17) ⟨dX12_again_14, rfl, rfl⟩ (fun (hc : a2 = (-1)) => ?_) (fun (hc : ¬ (a2 = (-1))) => ?_)
    · replace hf := i_t hc hf
      exact y_wk (L2 := [some (.ref 66), some (.int a1), some (.int a2)]) ⟨Or.inr rfl, Or.inr rfl, Or.inr rfl, trivial⟩ (w_t_mo_again_24 a1 a2 (sI M 66 0 0) hf hk)
    · replace hf := i_f hc hf
      refine y_iload_n (i := 2) (n := 18) ⟨dX12_again_17, rfl⟩ rfl ?_
      refine c_mo_isSite a2 (sI M 66 0 0) (n := 21) ⟨dX12_again_18, rfl⟩ klX12_217 rfl (by decide) (Nat.le_of_ble_eq_true rfl) rfl rfl ?_
      refine y_if_eq (t := 29) (n := 24) ⟨dX12_again_21, rfl, rfl⟩ (fun h0 => ?_) (fun h0 => ?_)
      · have hc := bI_0 h0
        replace hf := i_f hc hf
        refine y_iconst (n := 30) (v := (-1)) ⟨dX12_again_29, rfl⟩ ki_m1 ?_
        cases hf
        exact y_ireturn (n := 31) ⟨dX12_again_30, rfl⟩ rfl rfl hk
      · have hc := bI_1 h0
        replace hf := i_t hc hf
        exact y_wk (L2 := [some (.ref 66), some (.int a1), some (.int a2)]) ⟨Or.inr rfl, Or.inr rfl, Or.inr rfl, trivial⟩ (w_t_mo_again_24 a1 a2 (sI M 66 0 0) hf hk)
theorem c_mo_again (a1 : Int32) (a2 : Int32) (M : dM) {o : (Int32 × dM)} {y : mz_M} {d : Nat} {Q : mz_P} {pc n i : Nat} {L : List (Option Value)} {st : List Value} (h : mz_d y.2.1 pc n 3 (.invokevirtual i)) (hl : mz_ml y.1.cls i yX12_again) (hf : f_mo_again a1 a2 M = some o) (hd : 7 + 1 ≤ d) (hsm : (st.map (fun v => v.category)).sum ≤ 8) (hLr : mz_rL 133 L = true) (hSr : mz_rS 133 st = true) (kk : mW y d Q n L (.int o.1 :: st) o.2) : mW y d Q pc L (.int a2 :: .int a1 :: .ref 66 :: st) M :=
  y_callV kmX12_again kvX12_again l_66 (by decide +kernel) (by decide +kernel) h hl (ok_mo_again a1 a2 M hf) (vs := [.int a1, .int a2]) rfl rfl hd hsm hLr hSr kk
def K_mo_where_40 (Q : mz_P) (x1 : Int32) (x2 : Int32) : ((Int32 × Int32 × Int32 × Int32 × dM) ⊕ (Int32 × Int32 × Int32 × dM)) → Prop
  | .inl s => mW mX12_where 7 Q 40 [some (.ref 66), some (.int x1), some (.int x2), some (.int s.1), some (.int s.2.1), some (.int s.2.2.1), some (.int s.2.2.2.1), none, none] [] s.2.2.2.2
  | .inr t => mW mX12_where 7 Q 128 [none, none, some (.int x2), some (.int t.1), some (.int t.2.1), some (.int t.2.2.1), none, none, none] [] t.2.2.2
def K_mo_where_51 (Q : mz_P) (x1 : Int32) (x2 : Int32) (x6 : Int32) : ((Int32 × Int32 × Int32 × Int32 × dM) ⊕ (Int32 × Int32 × Int32 × dM)) → Prop
  | .inl s => mW mX12_where 7 Q 51 [some (.ref 66), some (.int x1), some (.int x2), some (.int s.1), some (.int s.2.1), some (.int s.2.2.1), some (.int x6), some (.int s.2.2.2.1), none] [] s.2.2.2.2
  | .inr t => mW mX12_where 7 Q 122 [some (.ref 66), some (.int x1), some (.int x2), some (.int t.1), some (.int t.2.1), some (.int t.2.2.1), some (.int x6), none, none] [] t.2.2.2
noncomputable def b_mo_where_51_80 (x1 : Int32) (x2 : Int32) (x3 : Int32) (x4 : Int32) (x5 : Int32) (x6 : Int32) (x7 : Int32) (y0 : Int32) (y1 : Int32) (M : dM) : Option ((Int32 × Int32 × Int32 × Int32 × dM) ⊕ (Int32 × Int32 × Int32 × dM)) :=
  if y0 = y1 then
    (f_mo_goodOf x6 x7 M).bind fun q3 =>
    if x3 < q3.1 then
      some (.inl (q3.1, x6, x7, (x7 + 1), q3.2))
    else
      some (.inl (x3, x4, x5, (x7 + 1), q3.2))
  else
    some (.inl (x3, x4, x5, (x7 + 1), M))
noncomputable def b_mo_where_51_70 (x1 : Int32) (x2 : Int32) (x3 : Int32) (x4 : Int32) (x5 : Int32) (x6 : Int32) (x7 : Int32) (y0 : Int32) (M : dM) : Option ((Int32 × Int32 × Int32 × Int32 × dM) ⊕ (Int32 × Int32 × Int32 × dM)) :=
  if x1 = 1 then
    b_mo_where_51_80 x1 x2 x3 x4 x5 x6 x7 y0 1 M
  else
    b_mo_where_51_80 x1 x2 x3 x4 x5 x6 x7 y0 0 M
noncomputable def b_mo_where_51_51 (x1 : Int32) (x2 : Int32) (x3 : Int32) (x4 : Int32) (x5 : Int32) (x6 : Int32) (x7 : Int32) (M : dM) : Option ((Int32 × Int32 × Int32 × Int32 × dM) ⊕ (Int32 × Int32 × Int32 × dM)) :=
  if 8 ≤ x7 then
    some (.inr (x3, x4, x5, M))
  else
    if x6 = x7 then
      b_mo_where_51_70 x1 x2 x3 x4 x5 x6 x7 1 M
    else
      b_mo_where_51_70 x1 x2 x3 x4 x5 x6 x7 0 M
noncomputable def l_mo_where_51 (x1 : Int32) (x2 : Int32) (x3 : Int32) (x4 : Int32) (x5 : Int32) (x6 : Int32) (x7 : Int32) (M : dM) : Option (Int32 × Int32 × Int32 × dM) := lpc (fun s => b_mo_where_51_51 x1 x2 s.1 s.2.1 s.2.2.1 x6 s.2.2.2.1 s.2.2.2.2) (x3, x4, x5, x7, M)
noncomputable def b_mo_where_40_40 (x1 : Int32) (x2 : Int32) (x3 : Int32) (x4 : Int32) (x5 : Int32) (x6 : Int32) (M : dM) : Option ((Int32 × Int32 × Int32 × Int32 × dM) ⊕ (Int32 × Int32 × Int32 × dM)) :=
  if 8 ≤ x6 then
    some (.inr (x3, x4, x5, M))
  else
    (l_mo_where_51 x1 x2 x3 x4 x5 x6 x6 M).bind fun t5 =>
      some (.inl (t5.1, t5.2.1, t5.2.2.1, (x6 + 1), t5.2.2.2))
noncomputable def l_mo_where_40 (x1 : Int32) (x2 : Int32) (x3 : Int32) (x4 : Int32) (x5 : Int32) (x6 : Int32) (M : dM) : Option (Int32 × Int32 × Int32 × dM) := lpc (fun s => b_mo_where_40_40 x1 x2 s.1 s.2.1 s.2.2.1 s.2.2.2.1 s.2.2.2.2) (x3, x4, x5, x6, M)
noncomputable def f_mo_where (a1 : Int32) (a2 : Int32) (M : dM) : Option (Int32 × dM) :=
  if (f_mo_within a1 1 2) = true then
    if (f_mo_within a2 0 a1) = true then
      (f_mo_knows (sI M 66 0 0)).bind fun q1 =>
      (l_mo_where_40 a1 a2 (-1) (-1) (-1) 0 q1).bind fun t8 =>
        if a2 = 0 then
          some (t8.1, t8.2.2.2)
        else
          if a2 = 1 then
            some (t8.2.1, t8.2.2.2)
          else
            some (t8.2.2.1, t8.2.2.2)
    else
      some ((-1), (sI M 66 0 0))
  else
    some ((-1), (sI M 66 0 0))
theorem w_b_mo_where_51_80 (x1 : Int32) (x2 : Int32) (x3 : Int32) (x4 : Int32) (x5 : Int32) (x6 : Int32) (x7 : Int32) (y0 : Int32) (y1 : Int32)  (M : dM) {Q : mz_P} {o : ((Int32 × Int32 × Int32 × Int32 × dM) ⊕ (Int32 × Int32 × Int32 × dM))} (hf : b_mo_where_51_80 x1 x2 x3 x4 x5 x6 x7 y0 y1 M = some o) (hk : K_mo_where_51 Q x1 x2 x6 o) : mW mX12_where 7 Q 80 [some (.ref 66), some (.int x1), some (.int x2), some (.int x3), some (.int x4), some (.int x5), some (.int x6), some (.int x7), none] [.int y1, .int y0] M := by
  unfold b_mo_where_51_80 at hf
  refine y_icmp_eq (t := 86) (n := 83) ⟨dX12_where_80, rfl, rfl⟩ (fun (hc : y0 = y1) => ?_) (fun (hc : ¬ (y0 = y1)) => ?_)
  · replace hf := i_t hc hf
    refine y_aload_n (i := 0) (n := 87) ⟨dX12_where_86, rfl⟩ rfl ?_
    refine y_iload (i := 6) (n := 89) ⟨dX12_where_87, rfl⟩ rfl ?_
    refine y_iload (i := 7) (n := 91) ⟨dX12_where_89, rfl⟩ rfl ?_
    obtain ⟨q3, hv4, hf⟩ := b_s hf
    refine c_mo_goodOf x6 x7 M (n := 94) ⟨dX12_where_91, rfl⟩ klX12_536 hv4 (by decide) (Nat.le_of_ble_eq_true rfl) rfl rfl ?_
    refine y_istore (i := 8) (n := 96) (L2 := [some (.ref 66), some (.int x1), some (.int x2), some (.int x3), some (.int x4), some (.int x5), some (.int x6), some (.int x7), some (.int q3.1)]) ⟨dX12_where_94, rfl⟩ (by decide) rfl rfl ?_
    refine y_iload (i := 8) (n := 98) ⟨dX12_where_96, rfl⟩ rfl ?_
    refine y_iload_n (i := 3) (n := 99) ⟨dX12_where_98, rfl⟩ rfl ?_
    refine y_icmp_gt (t := 105) (n := 102) ⟨dX12_where_99, rfl, rfl⟩ (fun (hc : x3 < q3.1) => ?_) (fun (hc : ¬ (x3 < q3.1)) => ?_)
    · replace hf := i_t hc hf
      refine y_iload (i := 8) (n := 107) ⟨dX12_where_105, rfl⟩ rfl ?_
      refine y_istore_n (i := 3) (n := 108) (L2 := [some (.ref 66), some (.int x1), some (.int x2), some (.int q3.1), some (.int x4), some (.int x5), some (.int x6), some (.int x7), some (.int q3.1)]) ⟨dX12_where_107, rfl⟩ (by decide) rfl rfl ?_
      refine y_iload (i := 6) (n := 110) ⟨dX12_where_108, rfl⟩ rfl ?_
      refine y_istore (i := 4) (n := 112) (L2 := [some (.ref 66), some (.int x1), some (.int x2), some (.int q3.1), some (.int x6), some (.int x5), some (.int x6), some (.int x7), some (.int q3.1)]) ⟨dX12_where_110, rfl⟩ (by decide) rfl rfl ?_
      refine y_iload (i := 7) (n := 114) ⟨dX12_where_112, rfl⟩ rfl ?_
      refine y_istore (i := 5) (n := 116) (L2 := [some (.ref 66), some (.int x1), some (.int x2), some (.int q3.1), some (.int x6), some (.int x7), some (.int x6), some (.int x7), some (.int q3.1)]) ⟨dX12_where_114, rfl⟩ (by decide) rfl rfl ?_
      refine y_iinc (i := 7) (n := 119) (b := (x7 + 1)) (L2 := [some (.ref 66), some (.int x1), some (.int x2), some (.int q3.1), some (.int x6), some (.int x7), some (.int x6), some (.int (x7 + 1)), some (.int q3.1)]) ⟨dX12_where_116, rfl⟩ rfl (by rw [ki_1]) (by decide) rfl rfl ?_
      refine y_goto (t := 51) ⟨dX12_where_119, rfl, rfl⟩ ?_
      cases hf
      exact y_wk (L2 := [some (.ref 66), some (.int x1), some (.int x2), some (.int q3.1), some (.int x6), some (.int x7), some (.int x6), some (.int (x7 + 1)), none]) ⟨Or.inr rfl, Or.inr rfl, Or.inr rfl, Or.inr rfl, Or.inr rfl, Or.inr rfl, Or.inr rfl, Or.inr rfl, Or.inl rfl, trivial⟩ hk
    · replace hf := i_f hc hf
      refine y_goto (t := 116) ⟨dX12_where_102, rfl, rfl⟩ ?_
      refine y_iinc (i := 7) (n := 119) (b := (x7 + 1)) (L2 := [some (.ref 66), some (.int x1), some (.int x2), some (.int x3), some (.int x4), some (.int x5), some (.int x6), some (.int (x7 + 1)), some (.int q3.1)]) ⟨dX12_where_116, rfl⟩ rfl (by rw [ki_1]) (by decide) rfl rfl ?_
      refine y_goto (t := 51) ⟨dX12_where_119, rfl, rfl⟩ ?_
      cases hf
      exact y_wk (L2 := [some (.ref 66), some (.int x1), some (.int x2), some (.int x3), some (.int x4), some (.int x5), some (.int x6), some (.int (x7 + 1)), none]) ⟨Or.inr rfl, Or.inr rfl, Or.inr rfl, Or.inr rfl, Or.inr rfl, Or.inr rfl, Or.inr rfl, Or.inr rfl, Or.inl rfl, trivial⟩ hk
  · replace hf := i_f hc hf
    refine y_goto (t := 116) ⟨dX12_where_83, rfl, rfl⟩ ?_
    refine y_iinc (i := 7) (n := 119) (b := (x7 + 1)) (L2 := [some (.ref 66), some (.int x1), some (.int x2), some (.int x3), some (.int x4), some (.int x5), some (.int x6), some (.int (x7 + 1)), none]) ⟨dX12_where_116, rfl⟩ rfl (by rw [ki_1]) (by decide) rfl rfl ?_
    refine y_goto (t := 51) ⟨dX12_where_119, rfl, rfl⟩ ?_
    cases hf
    exact y_wk (L2 := [some (.ref 66), some (.int x1), some (.int x2), some (.int x3), some (.int x4), some (.int x5), some (.int x6), some (.int (x7 + 1)), none]) ⟨Or.inr rfl, Or.inr rfl, Or.inr rfl, Or.inr rfl, Or.inr rfl, Or.inr rfl, Or.inr rfl, Or.inr rfl, Or.inr rfl, trivial⟩ hk
theorem w_b_mo_where_51_70 (x1 : Int32) (x2 : Int32) (x3 : Int32) (x4 : Int32) (x5 : Int32) (x6 : Int32) (x7 : Int32) (y0 : Int32)  (M : dM) {Q : mz_P} {o : ((Int32 × Int32 × Int32 × Int32 × dM) ⊕ (Int32 × Int32 × Int32 × dM))} (hf : b_mo_where_51_70 x1 x2 x3 x4 x5 x6 x7 y0 M = some o) (hk : K_mo_where_51 Q x1 x2 x6 o) : mW mX12_where 7 Q 70 [some (.ref 66), some (.int x1), some (.int x2), some (.int x3), some (.int x4), some (.int x5), some (.int x6), some (.int x7), none] [.int y0] M := by
  unfold b_mo_where_51_70 at hf
  refine y_iload_n (i := 1) (n := 71) ⟨dX12_where_70, rfl⟩ rfl ?_
  refine y_iconst (n := 72) (v := 1) ⟨dX12_where_71, rfl⟩ ki_1 ?_
  refine y_icmp_ne (t := 79) (n := 75) ⟨dX12_where_72, rfl, rfl⟩ (fun (hc : ¬ (x1 = 1)) => ?_) (fun (hc : x1 = 1) => ?_)
  · replace hf := i_f hc hf
    refine y_iconst (n := 80) (v := 0) ⟨dX12_where_79, rfl⟩ ki_0 ?_
    exact y_wk (L2 := [some (.ref 66), some (.int x1), some (.int x2), some (.int x3), some (.int x4), some (.int x5), some (.int x6), some (.int x7), none]) ⟨Or.inr rfl, Or.inr rfl, Or.inr rfl, Or.inr rfl, Or.inr rfl, Or.inr rfl, Or.inr rfl, Or.inr rfl, Or.inr rfl, trivial⟩ (w_b_mo_where_51_80 x1 x2 x3 x4 x5 x6 x7 y0 0 M hf hk)
  · replace hf := i_t hc hf
    refine y_iconst (n := 76) (v := 1) ⟨dX12_where_75, rfl⟩ ki_1 ?_
    refine y_goto (t := 80) ⟨dX12_where_76, rfl, rfl⟩ ?_
    exact y_wk (L2 := [some (.ref 66), some (.int x1), some (.int x2), some (.int x3), some (.int x4), some (.int x5), some (.int x6), some (.int x7), none]) ⟨Or.inr rfl, Or.inr rfl, Or.inr rfl, Or.inr rfl, Or.inr rfl, Or.inr rfl, Or.inr rfl, Or.inr rfl, Or.inr rfl, trivial⟩ (w_b_mo_where_51_80 x1 x2 x3 x4 x5 x6 x7 y0 1 M hf hk)
theorem w_b_mo_where_51_51 (x1 : Int32) (x2 : Int32) (x3 : Int32) (x4 : Int32) (x5 : Int32) (x6 : Int32) (x7 : Int32)  (M : dM) {Q : mz_P} {o : ((Int32 × Int32 × Int32 × Int32 × dM) ⊕ (Int32 × Int32 × Int32 × dM))} (hf : b_mo_where_51_51 x1 x2 x3 x4 x5 x6 x7 M = some o) (hk : K_mo_where_51 Q x1 x2 x6 o) : mW mX12_where 7 Q 51 [some (.ref 66), some (.int x1), some (.int x2), some (.int x3), some (.int x4), some (.int x5), some (.int x6), some (.int x7), none] [] M := by
  unfold b_mo_where_51_51 at hf
  refine y_iload (i := 7) (n := 53) ⟨dX12_where_51, rfl⟩ rfl ?_
  refine y_bipush (n := 55) (v := 8) ⟨dX12_where_53, rfl⟩ kb_8 ?_
  refine y_icmp_ge (t := 122) (n := 58) ⟨dX12_where_55, rfl, rfl⟩ (fun (hc : 8 ≤ x7) => ?_) (fun (hc : ¬ (8 ≤ x7)) => ?_)
  · replace hf := i_t hc hf
    cases hf
    exact y_wk (L2 := [some (.ref 66), some (.int x1), some (.int x2), some (.int x3), some (.int x4), some (.int x5), some (.int x6), none, none]) ⟨Or.inr rfl, Or.inr rfl, Or.inr rfl, Or.inr rfl, Or.inr rfl, Or.inr rfl, Or.inr rfl, Or.inl rfl, Or.inr rfl, trivial⟩ hk
  · replace hf := i_f hc hf
    refine y_iload (i := 6) (n := 60) ⟨dX12_where_58, rfl⟩ rfl ?_
    refine y_iload (i := 7) (n := 62) ⟨dX12_where_60, rfl⟩ rfl ?_
    refine y_icmp_ne (t := 69) (n := 65) ⟨dX12_where_62, rfl, rfl⟩ (fun (hc : ¬ (x6 = x7)) => ?_) (fun (hc : x6 = x7) => ?_)
    · replace hf := i_f hc hf
      refine y_iconst (n := 70) (v := 0) ⟨dX12_where_69, rfl⟩ ki_0 ?_
      exact y_wk (L2 := [some (.ref 66), some (.int x1), some (.int x2), some (.int x3), some (.int x4), some (.int x5), some (.int x6), some (.int x7), none]) ⟨Or.inr rfl, Or.inr rfl, Or.inr rfl, Or.inr rfl, Or.inr rfl, Or.inr rfl, Or.inr rfl, Or.inr rfl, Or.inr rfl, trivial⟩ (w_b_mo_where_51_70 x1 x2 x3 x4 x5 x6 x7 0 M hf hk)
    · replace hf := i_t hc hf
      refine y_iconst (n := 66) (v := 1) ⟨dX12_where_65, rfl⟩ ki_1 ?_
      refine y_goto (t := 70) ⟨dX12_where_66, rfl, rfl⟩ ?_
      exact y_wk (L2 := [some (.ref 66), some (.int x1), some (.int x2), some (.int x3), some (.int x4), some (.int x5), some (.int x6), some (.int x7), none]) ⟨Or.inr rfl, Or.inr rfl, Or.inr rfl, Or.inr rfl, Or.inr rfl, Or.inr rfl, Or.inr rfl, Or.inr rfl, Or.inr rfl, trivial⟩ (w_b_mo_where_51_70 x1 x2 x3 x4 x5 x6 x7 1 M hf hk)
theorem wl_mo_where_51 (x1 : Int32) (x2 : Int32) (x3 : Int32) (x4 : Int32) (x5 : Int32) (x6 : Int32) (x7 : Int32) (M : dM) {Q : mz_P} {x : (Int32 × Int32 × Int32 × dM)} (hf : l_mo_where_51 x1 x2 x3 x4 x5 x6 x7 M = some x) (hk : K_mo_where_51 Q x1 x2 x6 (.inr x)) : mW mX12_where 7 Q 51 [some (.ref 66), some (.int x1), some (.int x2), some (.int x3), some (.int x4), some (.int x5), some (.int x6), some (.int x7), none] [] M :=
  lpc_wp (σ := (Int32 × Int32 × Int32 × Int32 × dM)) (ξ := (Int32 × Int32 × Int32 × dM)) (s := (x3, x4, x5, x7, M)) (Wh := fun s => mW mX12_where 7 Q 51 [some (.ref 66), some (.int x1), some (.int x2), some (.int s.1), some (.int s.2.1), some (.int s.2.2.1), some (.int x6), some (.int s.2.2.2.1), none] [] s.2.2.2.2) (K := K_mo_where_51 Q x1 x2 x6) (fun _ h => h) (fun s o hb hk => w_b_mo_where_51_51 x1 x2 s.1 s.2.1 s.2.2.1 x6 s.2.2.2.1 s.2.2.2.2 hb hk) hf hk
theorem w_b_mo_where_40_40 (x1 : Int32) (x2 : Int32) (x3 : Int32) (x4 : Int32) (x5 : Int32) (x6 : Int32)  (M : dM) {Q : mz_P} {o : ((Int32 × Int32 × Int32 × Int32 × dM) ⊕ (Int32 × Int32 × Int32 × dM))} (hf : b_mo_where_40_40 x1 x2 x3 x4 x5 x6 M = some o) (hk : K_mo_where_40 Q x1 x2 o) : mW mX12_where 7 Q 40 [some (.ref 66), some (.int x1), some (.int x2), some (.int x3), some (.int x4), some (.int x5), some (.int x6), none, none] [] M := by
  unfold b_mo_where_40_40 at hf
  refine y_iload (i := 6) (n := 42) ⟨dX12_where_40, rfl⟩ rfl ?_
  refine y_bipush (n := 44) (v := 8) ⟨dX12_where_42, rfl⟩ kb_8 ?_
  refine y_icmp_ge (t := 128) (n := 47) ⟨dX12_where_44, rfl, rfl⟩ (fun (hc : 8 ≤ x6) => ?_) (fun (hc : ¬ (8 ≤ x6)) => ?_)
  · replace hf := i_t hc hf
    cases hf
    exact y_wk (L2 := [none, none, some (.int x2), some (.int x3), some (.int x4), some (.int x5), none, none, none]) ⟨Or.inl rfl, Or.inl rfl, Or.inr rfl, Or.inr rfl, Or.inr rfl, Or.inr rfl, Or.inl rfl, Or.inr rfl, Or.inr rfl, trivial⟩ hk
  · replace hf := i_f hc hf
    refine y_iload (i := 6) (n := 49) ⟨dX12_where_47, rfl⟩ rfl ?_
    refine y_istore (i := 7) (n := 51) (L2 := [some (.ref 66), some (.int x1), some (.int x2), some (.int x3), some (.int x4), some (.int x5), some (.int x6), some (.int x6), none]) ⟨dX12_where_49, rfl⟩ (by decide) rfl rfl ?_
    obtain ⟨t5, hl6, hf⟩ := b_s hf
    refine y_wk (L2 := [some (.ref 66), some (.int x1), some (.int x2), some (.int x3), some (.int x4), some (.int x5), some (.int x6), some (.int x6), none]) ⟨Or.inr rfl, Or.inr rfl, Or.inr rfl, Or.inr rfl, Or.inr rfl, Or.inr rfl, Or.inr rfl, Or.inr rfl, Or.inr rfl, trivial⟩ (wl_mo_where_51 x1 x2 x3 x4 x5 x6 x6 M hl6 ?_)
    show mW mX12_where 7 Q 122 [some (.ref 66), some (.int x1), some (.int x2), some (.int t5.1), some (.int t5.2.1), some (.int t5.2.2.1), some (.int x6), none, none] [] t5.2.2.2
    refine y_iinc (i := 6) (n := 125) (b := (x6 + 1)) (L2 := [some (.ref 66), some (.int x1), some (.int x2), some (.int t5.1), some (.int t5.2.1), some (.int t5.2.2.1), some (.int (x6 + 1)), none, none]) ⟨dX12_where_122, rfl⟩ rfl (by rw [ki_1]) (by decide) rfl rfl ?_
    refine y_goto (t := 40) ⟨dX12_where_125, rfl, rfl⟩ ?_
    cases hf
    exact y_wk (L2 := [some (.ref 66), some (.int x1), some (.int x2), some (.int t5.1), some (.int t5.2.1), some (.int t5.2.2.1), some (.int (x6 + 1)), none, none]) ⟨Or.inr rfl, Or.inr rfl, Or.inr rfl, Or.inr rfl, Or.inr rfl, Or.inr rfl, Or.inr rfl, Or.inr rfl, Or.inr rfl, trivial⟩ hk
theorem wl_mo_where_40 (x1 : Int32) (x2 : Int32) (x3 : Int32) (x4 : Int32) (x5 : Int32) (x6 : Int32) (M : dM) {Q : mz_P} {x : (Int32 × Int32 × Int32 × dM)} (hf : l_mo_where_40 x1 x2 x3 x4 x5 x6 M = some x) (hk : K_mo_where_40 Q x1 x2 (.inr x)) : mW mX12_where 7 Q 40 [some (.ref 66), some (.int x1), some (.int x2), some (.int x3), some (.int x4), some (.int x5), some (.int x6), none, none] [] M :=
  lpc_wp (σ := (Int32 × Int32 × Int32 × Int32 × dM)) (ξ := (Int32 × Int32 × Int32 × dM)) (s := (x3, x4, x5, x6, M)) (Wh := fun s => mW mX12_where 7 Q 40 [some (.ref 66), some (.int x1), some (.int x2), some (.int s.1), some (.int s.2.1), some (.int s.2.2.1), some (.int s.2.2.2.1), none, none] [] s.2.2.2.2) (K := K_mo_where_40 Q x1 x2) (fun _ h => h) (fun s o hb hk => w_b_mo_where_40_40 x1 x2 s.1 s.2.1 s.2.2.1 s.2.2.2.1 s.2.2.2.2 hb hk) hf hk
theorem ok_mo_where (a1 : Int32) (a2 : Int32) (M : dM) {o : (Int32 × dM)} (hf : f_mo_where a1 a2 M = some o) : mO mX12_where 7 [.ref 66, .int a1, .int a2] M (some (.int o.1)) o.2 := by
  refine y_ok (by decide +kernel) (Nat.le_of_ble_eq_true rfl) (L0 := [some (.ref 66), some (.int a1), some (.int a2), none, none, none, none, none, none]) rfl ?_
  have hk := mR_mQ (some (.int o.1)) o.2
  generalize mQ _ _ = Q at hk ⊢
  unfold f_mo_where at hf
  refine y_aload_n (i := 0) (n := 1) ⟨dX12_where_0, rfl⟩ rfl ?_
  refine y_iconst (n := 2) (v := 0) ⟨dX12_where_1, rfl⟩ ki_0 ?_
  refine y_putI (n := 5) ⟨dX12_where_2, rfl⟩ kfX12_214 l_66 (by decide +kernel) rfl ?_
  refine y_iload_n (i := 1) (n := 6) ⟨dX12_where_5, rfl⟩ rfl ?_
  refine y_iconst (n := 7) (v := 1) ⟨dX12_where_6, rfl⟩ ki_1 ?_
  refine y_iconst (n := 8) (v := 2) ⟨dX12_where_7, rfl⟩ ki_2 ?_
  refine c_mo_within a1 1 2 (sI M 66 0 0) (n := 11) ⟨dX12_where_8, rfl⟩ klX12_221 rfl (by decide) (Nat.le_of_ble_eq_true rfl) rfl rfl ?_
  refine y_if_eq (t := 23) (n := 14) ⟨dX12_where_11, rfl, rfl⟩ (fun h0 => ?_) (fun h0 => ?_)
  · have hc := bI_0 h0
    replace hf := i_f hc hf
    refine y_iconst (n := 24) (v := (-1)) ⟨dX12_where_23, rfl⟩ ki_m1 ?_
    cases hf
    exact y_ireturn (n := 25) ⟨dX12_where_24, rfl⟩ rfl rfl hk
  · have hc := bI_1 h0
    replace hf := i_t hc hf
    refine y_iload_n (i := 2) (n := 15) ⟨dX12_where_14, rfl⟩ rfl ?_
    refine y_iconst (n := 16) (v := 0) ⟨dX12_where_15, rfl⟩ ki_0 ?_
    refine y_iload_n (i := 1) (n := 17) ⟨dX12_where_16, rfl⟩ rfl ?_
    refine c_mo_within a2 0 a1 (sI M 66 0 0) (n := 20) ⟨dX12_where_17, rfl⟩ klX12_221 rfl (by decide) (Nat.le_of_ble_eq_true rfl) rfl rfl ?_
    refine y_if_ne (t := 25) (n := 23) ⟨dX12_where_20, rfl, rfl⟩ (fun h0 => ?_) (fun h0 => ?_)
    · have hc := bI_1 h0
      replace hf := i_t hc hf
      refine y_aload_n (i := 0) (n := 26) ⟨dX12_where_25, rfl⟩ rfl ?_
      obtain ⟨q1, hv2, hf⟩ := b_s hf
      refine c_mo_knows (sI M 66 0 0) (n := 29) ⟨dX12_where_26, rfl⟩ klX12_505 hv2 (by decide) (Nat.le_of_ble_eq_true rfl) rfl rfl ?_
      refine y_iconst (n := 30) (v := (-1)) ⟨dX12_where_29, rfl⟩ ki_m1 ?_
      refine y_istore_n (i := 3) (n := 31) (L2 := [some (.ref 66), some (.int a1), some (.int a2), some (.int (-1)), none, none, none, none, none]) ⟨dX12_where_30, rfl⟩ (by decide) rfl rfl ?_
      refine y_iconst (n := 32) (v := (-1)) ⟨dX12_where_31, rfl⟩ ki_m1 ?_
      refine y_istore (i := 4) (n := 34) (L2 := [some (.ref 66), some (.int a1), some (.int a2), some (.int (-1)), some (.int (-1)), none, none, none, none]) ⟨dX12_where_32, rfl⟩ (by decide) rfl rfl ?_
      refine y_iconst (n := 35) (v := (-1)) ⟨dX12_where_34, rfl⟩ ki_m1 ?_
      refine y_istore (i := 5) (n := 37) (L2 := [some (.ref 66), some (.int a1), some (.int a2), some (.int (-1)), some (.int (-1)), some (.int (-1)), none, none, none]) ⟨dX12_where_35, rfl⟩ (by decide) rfl rfl ?_
      refine y_iconst (n := 38) (v := 0) ⟨dX12_where_37, rfl⟩ ki_0 ?_
      refine y_istore (i := 6) (n := 40) (L2 := [some (.ref 66), some (.int a1), some (.int a2), some (.int (-1)), some (.int (-1)), some (.int (-1)), some (.int 0), none, none]) ⟨dX12_where_38, rfl⟩ (by decide) rfl rfl ?_
      obtain ⟨t8, hl9, hf⟩ := b_s hf
      refine y_wk (L2 := [some (.ref 66), some (.int a1), some (.int a2), some (.int (-1)), some (.int (-1)), some (.int (-1)), some (.int 0), none, none]) ⟨Or.inr rfl, Or.inr rfl, Or.inr rfl, Or.inr rfl, Or.inr rfl, Or.inr rfl, Or.inr rfl, Or.inr rfl, Or.inr rfl, trivial⟩ (wl_mo_where_40 a1 a2 (-1) (-1) (-1) 0 q1 hl9 ?_)
      show mW mX12_where 7 Q 128 [none, none, some (.int a2), some (.int t8.1), some (.int t8.2.1), some (.int t8.2.2.1), none, none, none] [] t8.2.2.2
      refine y_iload_n (i := 2) (n := 129) ⟨dX12_where_128, rfl⟩ rfl ?_
      refine y_if_ne (t := 136) (n := 132) ⟨dX12_where_129, rfl, rfl⟩ (fun (hc : ¬ (a2 = 0)) => ?_) (fun (hc : a2 = 0) => ?_)
      · replace hf := i_f hc hf
        refine y_iload_n (i := 2) (n := 137) ⟨dX12_where_136, rfl⟩ rfl ?_
        refine y_iconst (n := 138) (v := 1) ⟨dX12_where_137, rfl⟩ ki_1 ?_
        refine y_icmp_ne (t := 146) (n := 141) ⟨dX12_where_138, rfl, rfl⟩ (fun (hc : ¬ (a2 = 1)) => ?_) (fun (hc : a2 = 1) => ?_)
        · replace hf := i_f hc hf
          refine y_iload (i := 5) (n := 148) ⟨dX12_where_146, rfl⟩ rfl ?_
          cases hf
          exact y_ireturn (n := 149) ⟨dX12_where_148, rfl⟩ rfl rfl hk
        · replace hf := i_t hc hf
          refine y_iload (i := 4) (n := 143) ⟨dX12_where_141, rfl⟩ rfl ?_
          refine y_goto (t := 148) ⟨dX12_where_143, rfl, rfl⟩ ?_
          cases hf
          exact y_ireturn (n := 149) ⟨dX12_where_148, rfl⟩ rfl rfl hk
      · replace hf := i_t hc hf
        refine y_iload_n (i := 3) (n := 133) ⟨dX12_where_132, rfl⟩ rfl ?_
        refine y_goto (t := 148) ⟨dX12_where_133, rfl, rfl⟩ ?_
        cases hf
        exact y_ireturn (n := 149) ⟨dX12_where_148, rfl⟩ rfl rfl hk
    · have hc := bI_0 h0
      replace hf := i_f hc hf
      refine y_iconst (n := 24) (v := (-1)) ⟨dX12_where_23, rfl⟩ ki_m1 ?_
      cases hf
      exact y_ireturn (n := 25) ⟨dX12_where_24, rfl⟩ rfl rfl hk
theorem c_mo_where (a1 : Int32) (a2 : Int32) (M : dM) {o : (Int32 × dM)} {y : mz_M} {d : Nat} {Q : mz_P} {pc n i : Nat} {L : List (Option Value)} {st : List Value} (h : mz_d y.2.1 pc n 3 (.invokevirtual i)) (hl : mz_ml y.1.cls i yX12_where) (hf : f_mo_where a1 a2 M = some o) (hd : 7 + 1 ≤ d) (hsm : (st.map (fun v => v.category)).sum ≤ 8) (hLr : mz_rL 133 L = true) (hSr : mz_rS 133 st = true) (kk : mW y d Q n L (.int o.1 :: st) o.2) : mW y d Q pc L (.int a2 :: .int a1 :: .ref 66 :: st) M :=
  y_callV kmX12_where kvX12_where l_66 (by decide +kernel) (by decide +kernel) h hl (ok_mo_where a1 a2 M hf) (vs := [.int a1, .int a2]) rfl rfl hd hsm hLr hSr kk
def K_mo_ruled_4 (Q : mz_P)  (M : dM) : ((Int32 × Int32) ⊕ Int32) → Prop
  | .inl s => mW mX12_ruled 1 Q 4 [some (.ref 66), some (.int s.1), some (.int s.2)] [] M
  | .inr r => mR Q (some (.int r)) M
noncomputable def b_mo_ruled_4_4 (x1 : Int32) (x2 : Int32) (M : dM) : Option ((Int32 × Int32) ⊕ Int32) :=
  if 8 ≤ x2 then
    some (.inr x1)
  else
    gd (vp_in (12 + x2) 21) <|
    if (gI M 82 (12 + x2).toNatClampNeg) = 0 then
      some (.inl ((x1 ||| 0), (x2 + 1)))
    else
      some (.inl ((x1 ||| ((1 : Int32) <<< (x2 &&& 31))), (x2 + 1)))
noncomputable def l_mo_ruled_4 (x1 : Int32) (x2 : Int32) (M : dM) : Option Int32 := lpc (fun s => b_mo_ruled_4_4 s.1 s.2 M) (x1, x2)
noncomputable def f_mo_ruled (M : dM) : Option Int32 :=
  (l_mo_ruled_4 0 0 M).bind fun r4 => some r4
theorem w_b_mo_ruled_4_4 (x1 : Int32) (x2 : Int32)  (M : dM) {Q : mz_P} {o : ((Int32 × Int32) ⊕ Int32)} (hf : b_mo_ruled_4_4 x1 x2 M = some o) (hk : K_mo_ruled_4 Q  M o) : mW mX12_ruled 1 Q 4 [some (.ref 66), some (.int x1), some (.int x2)] [] M := by
  unfold b_mo_ruled_4_4 at hf
  refine y_iload_n (i := 2) (n := 5) ⟨dX12_ruled_4, rfl⟩ rfl ?_
  refine y_bipush (n := 7) (v := 8) ⟨dX12_ruled_5, rfl⟩ kb_8 ?_
  refine y_icmp_ge (t := 38) (n := 10) ⟨dX12_ruled_7, rfl, rfl⟩ (fun (hc : 8 ≤ x2) => ?_) (fun (hc : ¬ (8 ≤ x2)) => ?_)
  · replace hf := i_t hc hf
    refine y_iload_n (i := 1) (n := 39) ⟨dX12_ruled_38, rfl⟩ rfl ?_
    cases hf
    exact y_ireturn (n := 40) ⟨dX12_ruled_39, rfl⟩ rfl rfl hk
  · replace hf := i_f hc hf
    refine y_iload_n (i := 1) (n := 11) ⟨dX12_ruled_10, rfl⟩ rfl ?_
    refine y_aload_n (i := 0) (n := 12) ⟨dX12_ruled_11, rfl⟩ rfl ?_
    refine y_getR (n := 15) ⟨dX12_ruled_12, rfl⟩ kfX12_55 l_66 rfl r_66_26 ?_
    refine y_bipush (n := 17) (v := 12) ⟨dX12_ruled_15, rfl⟩ kb_12 ?_
    refine y_iload_n (i := 2) (n := 18) ⟨dX12_ruled_17, rfl⟩ rfl ?_
    refine y_iadd (n := 19) ⟨dX12_ruled_18, rfl⟩ ?_
    obtain ⟨hg1, hf⟩ := g_s hf
    refine y_baload (n := 20) ⟨dX12_ruled_19, rfl⟩ l_82 hg1 ?_
    refine y_if_eq (t := 29) (n := 23) ⟨dX12_ruled_20, rfl, rfl⟩ (fun (hc : (gI M 82 (12 + x2).toNatClampNeg) = 0) => ?_) (fun (hc : ¬ ((gI M 82 (12 + x2).toNatClampNeg) = 0)) => ?_)
    · replace hf := i_t hc hf
      refine y_iconst (n := 30) (v := 0) ⟨dX12_ruled_29, rfl⟩ ki_0 ?_
      refine y_ior (n := 31) ⟨dX12_ruled_30, rfl⟩ ?_
      refine y_istore_n (i := 1) (n := 32) (L2 := [some (.ref 66), some (.int (x1 ||| 0)), some (.int x2)]) ⟨dX12_ruled_31, rfl⟩ (by decide) rfl rfl ?_
      refine y_iinc (i := 2) (n := 35) (b := (x2 + 1)) (L2 := [some (.ref 66), some (.int (x1 ||| 0)), some (.int (x2 + 1))]) ⟨dX12_ruled_32, rfl⟩ rfl (by rw [ki_1]) (by decide) rfl rfl ?_
      refine y_goto (t := 4) ⟨dX12_ruled_35, rfl, rfl⟩ ?_
      cases hf
      exact y_wk (L2 := [some (.ref 66), some (.int (x1 ||| 0)), some (.int (x2 + 1))]) ⟨Or.inr rfl, Or.inr rfl, Or.inr rfl, trivial⟩ hk
    · replace hf := i_f hc hf
      refine y_iconst (n := 24) (v := 1) ⟨dX12_ruled_23, rfl⟩ ki_1 ?_
      refine y_iload_n (i := 2) (n := 25) ⟨dX12_ruled_24, rfl⟩ rfl ?_
      refine y_ishl (n := 26) ⟨dX12_ruled_25, rfl⟩ ?_
      refine y_goto (t := 30) ⟨dX12_ruled_26, rfl, rfl⟩ ?_
      refine y_ior (n := 31) ⟨dX12_ruled_30, rfl⟩ ?_
      refine y_istore_n (i := 1) (n := 32) (L2 := [some (.ref 66), some (.int (x1 ||| ((1 : Int32) <<< (x2 &&& 31)))), some (.int x2)]) ⟨dX12_ruled_31, rfl⟩ (by decide) rfl rfl ?_
      refine y_iinc (i := 2) (n := 35) (b := (x2 + 1)) (L2 := [some (.ref 66), some (.int (x1 ||| ((1 : Int32) <<< (x2 &&& 31)))), some (.int (x2 + 1))]) ⟨dX12_ruled_32, rfl⟩ rfl (by rw [ki_1]) (by decide) rfl rfl ?_
      refine y_goto (t := 4) ⟨dX12_ruled_35, rfl, rfl⟩ ?_
      cases hf
      exact y_wk (L2 := [some (.ref 66), some (.int (x1 ||| ((1 : Int32) <<< (x2 &&& 31)))), some (.int (x2 + 1))]) ⟨Or.inr rfl, Or.inr rfl, Or.inr rfl, trivial⟩ hk
theorem wl_mo_ruled_4 (x1 : Int32) (x2 : Int32) (M : dM) {Q : mz_P} {x : Int32} (hf : l_mo_ruled_4 x1 x2 M = some x) (hk : K_mo_ruled_4 Q  M (.inr x)) : mW mX12_ruled 1 Q 4 [some (.ref 66), some (.int x1), some (.int x2)] [] M :=
  lpc_wp (σ := (Int32 × Int32)) (ξ := Int32) (s := (x1, x2)) (Wh := fun s => mW mX12_ruled 1 Q 4 [some (.ref 66), some (.int s.1), some (.int s.2)] [] M) (K := K_mo_ruled_4 Q  M) (fun _ h => h) (fun s o hb hk => w_b_mo_ruled_4_4 s.1 s.2 M hb hk) hf hk
theorem ok_mo_ruled  (M : dM) {o : Int32} (hf : f_mo_ruled M = some o) : mO mX12_ruled 1 [.ref 66] M (some (.int o)) M := by
  refine y_ok (by decide +kernel) (Nat.le_of_ble_eq_true rfl) (L0 := [some (.ref 66), none, none]) rfl ?_
  have hk := mR_mQ (some (.int o)) M
  generalize mQ _ _ = Q at hk ⊢
  unfold f_mo_ruled at hf
  refine y_iconst (n := 1) (v := 0) ⟨dX12_ruled_0, rfl⟩ ki_0 ?_
  refine y_istore_n (i := 1) (n := 2) (L2 := [some (.ref 66), some (.int 0), none]) ⟨dX12_ruled_1, rfl⟩ (by decide) rfl rfl ?_
  refine y_iconst (n := 3) (v := 0) ⟨dX12_ruled_2, rfl⟩ ki_0 ?_
  refine y_istore_n (i := 2) (n := 4) (L2 := [some (.ref 66), some (.int 0), some (.int 0)]) ⟨dX12_ruled_3, rfl⟩ (by decide) rfl rfl ?_
  obtain ⟨r4, hl3, hf⟩ := b_s hf
  cases hf
  exact y_wk (L2 := [some (.ref 66), some (.int 0), some (.int 0)]) ⟨Or.inr rfl, Or.inr rfl, Or.inr rfl, trivial⟩ (wl_mo_ruled_4 0 0 M hl3 hk)
theorem c_mo_ruled  (M : dM) {o : Int32} {y : mz_M} {d : Nat} {Q : mz_P} {pc n i : Nat} {L : List (Option Value)} {st : List Value} (h : mz_d y.2.1 pc n 3 (.invokevirtual i)) (hl : mz_ml y.1.cls i yX12_ruled) (hf : f_mo_ruled M = some o) (hd : 1 + 1 ≤ d) (hsm : (st.map (fun v => v.category)).sum ≤ 8) (hLr : mz_rL 133 L = true) (hSr : mz_rS 133 st = true) (kk : mW y d Q n L (.int o :: st) M) : mW y d Q pc L (.ref 66 :: st) M :=
  y_callV kmX12_ruled kvX12_ruled l_66 (by decide +kernel) (by decide +kernel) h hl (ok_mo_ruled  M hf) (vs := []) rfl rfl hd hsm hLr hSr kk
