def K_mo_ways_16 (Q : mz_P) (x0 : Int32) (x1 : Int32) (M : dM) : ((Int64 × Int32) ⊕ Int64) → Prop
  | .inl s => mW mX12_ways 1 Q 16 [some (.int x0), some (.int x1), some (.long s.1), none, some (.int s.2)] [] M
  | .inr r => mR Q (some (.long r)) M
noncomputable def b_mo_ways_16_16 (x0 : Int32) (x1 : Int32) (x2 : Int64) (x4 : Int32) : Option ((Int64 × Int32) ⊕ Int64) :=
  if x1 < x4 then
    some (.inr x2)
  else
    gd (¬ x4.toInt64 = 0) <|
    some (.inl (((x2 * ((x0 - x1) + x4).toInt64) / x4.toInt64), (x4 + 1)))
noncomputable def l_mo_ways_16 (x0 : Int32) (x1 : Int32) (x2 : Int64) (x4 : Int32) : Option Int64 := lpc (fun s => b_mo_ways_16_16 x0 x1 s.1 s.2) (x2, x4)
noncomputable def f_mo_ways (a1 : Int32) (a2 : Int32) : Option Int64 :=
  if a2 < 0 then
    some 0
  else
    if a2 ≤ a1 then
      (l_mo_ways_16 a1 a2 1 1).bind fun r4 => some r4
    else
      some 0
theorem w_b_mo_ways_16_16 (x0 : Int32) (x1 : Int32) (x2 : Int64) (x4 : Int32) (M : dM) {Q : mz_P} {o : ((Int64 × Int32) ⊕ Int64)} (hf : b_mo_ways_16_16 x0 x1 x2 x4 = some o) (hk : K_mo_ways_16 Q x0 x1 M o) : mW mX12_ways 1 Q 16 [some (.int x0), some (.int x1), some (.long x2), none, some (.int x4)] [] M := by
  unfold b_mo_ways_16_16 at hf
  refine y_iload (i := 4) (n := 18) ⟨dX12_ways_16, rfl⟩ rfl ?_
  refine y_iload_n (i := 1) (n := 19) ⟨dX12_ways_18, rfl⟩ rfl ?_
  refine y_icmp_gt (t := 42) (n := 22) ⟨dX12_ways_19, rfl, rfl⟩ (fun (hc : x1 < x4) => ?_) (fun (hc : ¬ (x1 < x4)) => ?_)
  · replace hf := i_t hc hf
    refine y_lload_n (i := 2) (n := 43) ⟨dX12_ways_42, rfl⟩ rfl ?_
    cases hf
    exact y_lreturn (n := 44) ⟨dX12_ways_43, rfl⟩ rfl hk
  · replace hf := i_f hc hf
    refine y_lload_n (i := 2) (n := 23) ⟨dX12_ways_22, rfl⟩ rfl ?_
    refine y_iload_n (i := 0) (n := 24) ⟨dX12_ways_23, rfl⟩ rfl ?_
    refine y_iload_n (i := 1) (n := 25) ⟨dX12_ways_24, rfl⟩ rfl ?_
    refine y_isub (n := 26) ⟨dX12_ways_25, rfl⟩ ?_
    refine y_iload (i := 4) (n := 28) ⟨dX12_ways_26, rfl⟩ rfl ?_
    refine y_iadd (n := 29) ⟨dX12_ways_28, rfl⟩ ?_
    refine y_i2l (n := 30) ⟨dX12_ways_29, rfl⟩ ?_
    refine y_lmul (n := 31) ⟨dX12_ways_30, rfl⟩ ?_
    refine y_iload (i := 4) (n := 33) ⟨dX12_ways_31, rfl⟩ rfl ?_
    refine y_i2l (n := 34) ⟨dX12_ways_33, rfl⟩ ?_
    obtain ⟨hg1, hf⟩ := g_s hf
    refine y_ldiv (n := 35) ⟨dX12_ways_34, rfl⟩ hg1 ?_
    refine y_lstore_n (i := 2) (n := 36) (L2 := [some (.int x0), some (.int x1), some (.long ((x2 * ((x0 - x1) + x4).toInt64) / x4.toInt64)), none, some (.int x4)]) ⟨dX12_ways_35, rfl⟩ (by decide) rfl rfl ?_
    refine y_iinc (i := 4) (n := 39) (b := (x4 + 1)) (L2 := [some (.int x0), some (.int x1), some (.long ((x2 * ((x0 - x1) + x4).toInt64) / x4.toInt64)), none, some (.int (x4 + 1))]) ⟨dX12_ways_36, rfl⟩ rfl (by rw [ki_1]) (by decide) rfl rfl ?_
    refine y_goto (t := 16) ⟨dX12_ways_39, rfl, rfl⟩ ?_
    cases hf
    exact y_wk ⟨Or.inr rfl, Or.inr rfl, Or.inr rfl, Or.inr rfl, Or.inr rfl, trivial⟩ hk
theorem wl_mo_ways_16 (x0 : Int32) (x1 : Int32) (x2 : Int64) (x4 : Int32) (M : dM) {Q : mz_P} {x : Int64} (hf : l_mo_ways_16 x0 x1 x2 x4 = some x) (hk : K_mo_ways_16 Q x0 x1 M (.inr x)) : mW mX12_ways 1 Q 16 [some (.int x0), some (.int x1), some (.long x2), none, some (.int x4)] [] M :=
  lpc_wp (Wh := fun s => mW mX12_ways 1 Q 16 [some (.int x0), some (.int x1), some (.long s.1), none, some (.int s.2)] [] M) (K := K_mo_ways_16 Q x0 x1 M) (fun _ h => h) (fun s o hb hk => w_b_mo_ways_16_16 x0 x1 s.1 s.2 M hb hk) hf hk
theorem ok_mo_ways (a1 : Int32) (a2 : Int32) (M : dM) {o : Int64} (hf : f_mo_ways a1 a2 = some o) : mO mX12_ways 1 [.int a1, .int a2] M (some (.long o)) M := by
  refine y_ok (by decide +kernel) (by decide) (L0 := [some (.int a1), some (.int a2), none, none, none]) rfl ?_
  have hk := mR_mQ (some (.long o)) M
  generalize mQ _ _ = Q at hk ⊢
  unfold f_mo_ways at hf
  refine y_iload_n (i := 1) (n := 1) ⟨dX12_ways_0, rfl⟩ rfl ?_
  refine y_if_lt (t := 9) (n := 4) ⟨dX12_ways_1, rfl, rfl⟩ (fun (hc : a2 < 0) => ?_) (fun (hc : ¬ (a2 < 0)) => ?_)
  · replace hf := i_t hc hf
    refine y_lconst (n := 10) (v := 0) ⟨dX12_ways_9, rfl⟩ kl_0 ?_
    cases hf
    exact y_lreturn (n := 11) ⟨dX12_ways_10, rfl⟩ rfl hk
  · replace hf := i_f hc hf
    refine y_iload_n (i := 1) (n := 5) ⟨dX12_ways_4, rfl⟩ rfl ?_
    refine y_iload_n (i := 0) (n := 6) ⟨dX12_ways_5, rfl⟩ rfl ?_
    refine y_icmp_le (t := 11) (n := 9) ⟨dX12_ways_6, rfl, rfl⟩ (fun (hc : a2 ≤ a1) => ?_) (fun (hc : ¬ (a2 ≤ a1)) => ?_)
    · replace hf := i_t hc hf
      refine y_lconst (n := 12) (v := 1) ⟨dX12_ways_11, rfl⟩ kl_1 ?_
      refine y_lstore_n (i := 2) (n := 13) (L2 := [some (.int a1), some (.int a2), some (.long 1), none, none]) ⟨dX12_ways_12, rfl⟩ (by decide) rfl rfl ?_
      refine y_iconst (n := 14) (v := 1) ⟨dX12_ways_13, rfl⟩ ki_1 ?_
      refine y_istore (i := 4) (n := 16) (L2 := [some (.int a1), some (.int a2), some (.long 1), none, some (.int 1)]) ⟨dX12_ways_14, rfl⟩ (by decide) rfl rfl ?_
      obtain ⟨r4, hl3, hf⟩ := b_s hf
      cases hf
      exact y_wk ⟨Or.inr rfl, Or.inr rfl, Or.inr rfl, Or.inr rfl, Or.inr rfl, trivial⟩ (wl_mo_ways_16 a1 a2 1 1 M hl3 hk)
    · replace hf := i_f hc hf
      refine y_lconst (n := 10) (v := 0) ⟨dX12_ways_9, rfl⟩ kl_0 ?_
      cases hf
      exact y_lreturn (n := 11) ⟨dX12_ways_10, rfl⟩ rfl hk
theorem c_mo_ways (a1 : Int32) (a2 : Int32) (M : dM) {o : Int64} {y : mz_M} {d : Nat} {Q : mz_P} {pc n i : Nat} {L : List (Option Value)} {st : List Value} (h : mz_d y.2.1 pc n 3 (.invokestatic i)) (hl : mz_ml y.1.cls i yX12_ways) (hf : f_mo_ways a1 a2 = some o) (hd : 1 + 1 ≤ d) (hsm : (st.map (fun v => v.category)).sum ≤ 8) (hLr : mz_rL 133 L = true) (hSr : mz_rS 133 st = true) (kk : mW y d Q n L (.long o :: st) M) : mW y d Q pc L (.int a2 :: .int a1 :: st) M :=
  y_callS kmX12_ways ksX12_ways h hl (ok_mo_ways a1 a2 M hf) (vs := [.int a1, .int a2]) rfl rfl hd hsm hLr hSr kk
def K_mo_lowest_6 (Q : mz_P) (x0 : Int64) (x2 : Int64) (x4 : Int32) (M : dM) : ((Int64 × Int64) ⊕ Int64) → Prop
  | .inl s => mW mX12_lowest 1 Q 6 [some (.long x0), none, some (.long x2), none, some (.int x4), some (.long s.1), none, some (.long s.2), none, none, none] [] M
  | .inr t => mW mX12_lowest 1 Q 31 [some (.long x0), none, some (.long x2), none, some (.int x4), some (.long t), none, none, none, none, none] [] M
noncomputable def b_mo_lowest_6_6 (x0 : Int64) (x2 : Int64) (x4 : Int32) (x5 : Int64) (x7 : Int64) : Option ((Int64 × Int64) ⊕ Int64) :=
  if x7 = 0 then
    some (.inr x5)
  else
    gd (¬ x7 = 0) <|
    some (.inl (x7, (x5 - x5 / x7 * x7)))
noncomputable def l_mo_lowest_6 (x0 : Int64) (x2 : Int64) (x4 : Int32) (x5 : Int64) (x7 : Int64) : Option Int64 := lpc (fun s => b_mo_lowest_6_6 x0 x2 x4 s.1 s.2) (x5, x7)
noncomputable def f_mo_lowest (a1 : Int64) (a2 : Int64) (a3 : Int32) : Option Int64 :=
  (l_mo_lowest_6 a1 a2 a3 a1 a2).bind fun t2 =>
    if a3 = 0 then
      gd (¬ t2 = 0) <|
      some (a1 / t2)
    else
      gd (¬ t2 = 0) <|
      some (a2 / t2)
theorem w_b_mo_lowest_6_6 (x0 : Int64) (x2 : Int64) (x4 : Int32) (x5 : Int64) (x7 : Int64) (M : dM) {Q : mz_P} {o : ((Int64 × Int64) ⊕ Int64)} (hf : b_mo_lowest_6_6 x0 x2 x4 x5 x7 = some o) (hk : K_mo_lowest_6 Q x0 x2 x4 M o) : mW mX12_lowest 1 Q 6 [some (.long x0), none, some (.long x2), none, some (.int x4), some (.long x5), none, some (.long x7), none, none, none] [] M := by
  unfold b_mo_lowest_6_6 at hf
  refine y_lload (i := 7) (n := 8) ⟨dX12_lowest_6, rfl⟩ rfl ?_
  refine y_lconst (n := 9) (v := 0) ⟨dX12_lowest_8, rfl⟩ kl_0 ?_
  refine y_lcmp (n := 10) ⟨dX12_lowest_9, rfl⟩ ?_
  refine y_if_eq (t := 31) (n := 13) ⟨dX12_lowest_10, rfl, rfl⟩ (fun h0 => ?_) (fun h0 => ?_)
  · have hc : x7 = 0 := (lc_eq _ _).mp h0
    replace hf := i_t hc hf
    cases hf
    exact y_wk ⟨Or.inr rfl, Or.inr rfl, Or.inr rfl, Or.inr rfl, Or.inr rfl, Or.inr rfl, Or.inr rfl, Or.inl rfl, Or.inr rfl, Or.inr rfl, Or.inr rfl, trivial⟩ hk
  · have hc : ¬ (x7 = 0) := fun e => h0 ((lc_eq _ _).mpr e)
    replace hf := i_f hc hf
    refine y_lload (i := 5) (n := 15) ⟨dX12_lowest_13, rfl⟩ rfl ?_
    refine y_lload (i := 7) (n := 17) ⟨dX12_lowest_15, rfl⟩ rfl ?_
    obtain ⟨hg1, hf⟩ := g_s hf
    refine y_lrem (n := 18) ⟨dX12_lowest_17, rfl⟩ hg1 ?_
    refine y_lstore (i := 9) (n := 20) (L2 := [some (.long x0), none, some (.long x2), none, some (.int x4), some (.long x5), none, some (.long x7), none, some (.long (x5 - x5 / x7 * x7)), none]) ⟨dX12_lowest_18, rfl⟩ (by decide) rfl rfl ?_
    refine y_lload (i := 7) (n := 22) ⟨dX12_lowest_20, rfl⟩ rfl ?_
    refine y_lstore (i := 5) (n := 24) (L2 := [some (.long x0), none, some (.long x2), none, some (.int x4), some (.long x7), none, some (.long x7), none, some (.long (x5 - x5 / x7 * x7)), none]) ⟨dX12_lowest_22, rfl⟩ (by decide) rfl rfl ?_
    refine y_lload (i := 9) (n := 26) ⟨dX12_lowest_24, rfl⟩ rfl ?_
    refine y_lstore (i := 7) (n := 28) (L2 := [some (.long x0), none, some (.long x2), none, some (.int x4), some (.long x7), none, some (.long (x5 - x5 / x7 * x7)), none, some (.long (x5 - x5 / x7 * x7)), none]) ⟨dX12_lowest_26, rfl⟩ (by decide) rfl rfl ?_
    refine y_goto (t := 6) ⟨dX12_lowest_28, rfl, rfl⟩ ?_
    cases hf
    exact y_wk ⟨Or.inr rfl, Or.inr rfl, Or.inr rfl, Or.inr rfl, Or.inr rfl, Or.inr rfl, Or.inr rfl, Or.inr rfl, Or.inr rfl, Or.inl rfl, Or.inr rfl, trivial⟩ hk
theorem wl_mo_lowest_6 (x0 : Int64) (x2 : Int64) (x4 : Int32) (x5 : Int64) (x7 : Int64) (M : dM) {Q : mz_P} {x : Int64} (hf : l_mo_lowest_6 x0 x2 x4 x5 x7 = some x) (hk : K_mo_lowest_6 Q x0 x2 x4 M (.inr x)) : mW mX12_lowest 1 Q 6 [some (.long x0), none, some (.long x2), none, some (.int x4), some (.long x5), none, some (.long x7), none, none, none] [] M :=
  lpc_wp (Wh := fun s => mW mX12_lowest 1 Q 6 [some (.long x0), none, some (.long x2), none, some (.int x4), some (.long s.1), none, some (.long s.2), none, none, none] [] M) (K := K_mo_lowest_6 Q x0 x2 x4 M) (fun _ h => h) (fun s o hb hk => w_b_mo_lowest_6_6 x0 x2 x4 s.1 s.2 M hb hk) hf hk
theorem ok_mo_lowest (a1 : Int64) (a2 : Int64) (a3 : Int32) (M : dM) {o : Int64} (hf : f_mo_lowest a1 a2 a3 = some o) : mO mX12_lowest 1 [.long a1, .long a2, .int a3] M (some (.long o)) M := by
  refine y_ok (by decide +kernel) (by decide) (L0 := [some (.long a1), none, some (.long a2), none, some (.int a3), none, none, none, none, none, none]) rfl ?_
  have hk := mR_mQ (some (.long o)) M
  generalize mQ _ _ = Q at hk ⊢
  unfold f_mo_lowest at hf
  refine y_lload_n (i := 0) (n := 1) ⟨dX12_lowest_0, rfl⟩ rfl ?_
  refine y_lstore (i := 5) (n := 3) (L2 := [some (.long a1), none, some (.long a2), none, some (.int a3), some (.long a1), none, none, none, none, none]) ⟨dX12_lowest_1, rfl⟩ (by decide) rfl rfl ?_
  refine y_lload_n (i := 2) (n := 4) ⟨dX12_lowest_3, rfl⟩ rfl ?_
  refine y_lstore (i := 7) (n := 6) (L2 := [some (.long a1), none, some (.long a2), none, some (.int a3), some (.long a1), none, some (.long a2), none, none, none]) ⟨dX12_lowest_4, rfl⟩ (by decide) rfl rfl ?_
  obtain ⟨t2, hl3, hf⟩ := b_s hf
  refine y_wk ⟨Or.inr rfl, Or.inr rfl, Or.inr rfl, Or.inr rfl, Or.inr rfl, Or.inr rfl, Or.inr rfl, Or.inr rfl, Or.inr rfl, Or.inr rfl, Or.inr rfl, trivial⟩ (wl_mo_lowest_6 a1 a2 a3 a1 a2 M hl3 ?_)
  show mW mX12_lowest 1 Q 31 [some (.long a1), none, some (.long a2), none, some (.int a3), some (.long t2), none, none, none, none, none] [] M
  refine y_iload (i := 4) (n := 33) ⟨dX12_lowest_31, rfl⟩ rfl ?_
  refine y_if_ne (t := 43) (n := 36) ⟨dX12_lowest_33, rfl, rfl⟩ (fun (hc : ¬ (a3 = 0)) => ?_) (fun (hc : a3 = 0) => ?_)
  · replace hf := i_f hc hf
    refine y_lload_n (i := 2) (n := 44) ⟨dX12_lowest_43, rfl⟩ rfl ?_
    refine y_lload (i := 5) (n := 46) ⟨dX12_lowest_44, rfl⟩ rfl ?_
    obtain ⟨hg5, hf⟩ := g_s hf
    refine y_ldiv (n := 47) ⟨dX12_lowest_46, rfl⟩ hg5 ?_
    cases hf
    exact y_lreturn (n := 48) ⟨dX12_lowest_47, rfl⟩ rfl hk
  · replace hf := i_t hc hf
    refine y_lload_n (i := 0) (n := 37) ⟨dX12_lowest_36, rfl⟩ rfl ?_
    refine y_lload (i := 5) (n := 39) ⟨dX12_lowest_37, rfl⟩ rfl ?_
    obtain ⟨hg6, hf⟩ := g_s hf
    refine y_ldiv (n := 40) ⟨dX12_lowest_39, rfl⟩ hg6 ?_
    refine y_goto (t := 47) ⟨dX12_lowest_40, rfl, rfl⟩ ?_
    cases hf
    exact y_lreturn (n := 48) ⟨dX12_lowest_47, rfl⟩ rfl hk
theorem c_mo_lowest (a1 : Int64) (a2 : Int64) (a3 : Int32) (M : dM) {o : Int64} {y : mz_M} {d : Nat} {Q : mz_P} {pc n i : Nat} {L : List (Option Value)} {st : List Value} (h : mz_d y.2.1 pc n 3 (.invokestatic i)) (hl : mz_ml y.1.cls i yX12_lowest) (hf : f_mo_lowest a1 a2 a3 = some o) (hd : 1 + 1 ≤ d) (hsm : (st.map (fun v => v.category)).sum ≤ 8) (hLr : mz_rL 133 L = true) (hSr : mz_rS 133 st = true) (kk : mW y d Q n L (.long o :: st) M) : mW y d Q pc L (.int a3 :: .long a2 :: .long a1 :: st) M :=
  y_callS kmX12_lowest ksX12_lowest h hl (ok_mo_lowest a1 a2 a3 M hf) (vs := [.long a1, .long a2, .int a3]) rfl rfl hd hsm hLr hSr kk
def K_mo_odds_49 (Q : mz_P) (x3 : Int32) (M : dM) : ((Int64 × Int32) ⊕ (Int64 × dM)) → Prop
  | .inl s => mW mX12_odds 7 Q 49 [some (.ref 66), none, none, some (.int x3), some (.long s.1), none, some (.int s.2)] [] M
  | .inr r => mR Q (some (.long r.1)) r.2
noncomputable def b_mo_odds_49_49 (x3 : Int32) (x4 : Int64) (x6 : Int32) (M : dM) : Option ((Int64 × Int32) ⊕ (Int64 × dM)) :=
  if (gI M 66 51) < x6 then
    (f_mo_ways (gI M 66 53) (gI M 66 51)).bind fun v3 =>
    (f_mo_lowest x4 v3 x3).bind fun v5 =>
    some (.inr (v5, M))
  else
    (f_mo_ways (gI M 66 54) x6).bind fun v7 =>
    (f_mo_ways ((gI M 66 53) - (gI M 66 54)) ((gI M 66 51) - x6)).bind fun v9 =>
    some (.inl ((x4 + (v7 * v9)), (x6 + 1)))
noncomputable def l_mo_odds_49 (x3 : Int32) (x4 : Int64) (x6 : Int32) (M : dM) : Option (Int64 × dM) := lpc (fun s => b_mo_odds_49_49 x3 s.1 s.2 M) (x4, x6)
noncomputable def f_mo_odds (a1 : Int32) (a2 : Int32) (a3 : Int32) (M : dM) : Option (Int64 × dM) :=
  if (f_mo_isHand a1) = true then
    if (f_mo_within a2 0 2) = true then
      if (f_mo_within a3 0 1) = true then
        (f_mo_counts a1 a2 (sI M 66 0 0)).bind fun q1 =>
        (l_mo_odds_49 a3 0 (gI q1 66 52) q1).bind fun r13 => some r13
      else
        some ((-1), (sI M 66 0 0))
    else
      some ((-1), (sI M 66 0 0))
  else
    some ((-1), (sI M 66 0 0))
theorem w_b_mo_odds_49_49 (x3 : Int32) (x4 : Int64) (x6 : Int32) (M : dM) {Q : mz_P} {o : ((Int64 × Int32) ⊕ (Int64 × dM))} (hf : b_mo_odds_49_49 x3 x4 x6 M = some o) (hk : K_mo_odds_49 Q x3 M o) : mW mX12_odds 7 Q 49 [some (.ref 66), none, none, some (.int x3), some (.long x4), none, some (.int x6)] [] M := by
  unfold b_mo_odds_49_49 at hf
  refine y_iload (i := 6) (n := 51) ⟨dX12_odds_49, rfl⟩ rfl ?_
  refine y_aload_n (i := 0) (n := 52) ⟨dX12_odds_51, rfl⟩ rfl ?_
  refine y_getI (n := 55) ⟨dX12_odds_52, rfl⟩ kfX12_444 l_66 rfl ?_
  refine y_icmp_gt (t := 98) (n := 58) ⟨dX12_odds_55, rfl, rfl⟩ (fun (hc : (gI M 66 51) < x6) => ?_) (fun (hc : ¬ ((gI M 66 51) < x6)) => ?_)
  · replace hf := i_t hc hf
    refine y_lload (i := 4) (n := 100) ⟨dX12_odds_98, rfl⟩ rfl ?_
    refine y_aload_n (i := 0) (n := 101) ⟨dX12_odds_100, rfl⟩ rfl ?_
    refine y_getI (n := 104) ⟨dX12_odds_101, rfl⟩ kfX12_450 l_66 rfl ?_
    refine y_aload_n (i := 0) (n := 105) ⟨dX12_odds_104, rfl⟩ rfl ?_
    refine y_getI (n := 108) ⟨dX12_odds_105, rfl⟩ kfX12_444 l_66 rfl ?_
    obtain ⟨v3, hv4, hf⟩ := b_s hf
    refine c_mo_ways (gI M 66 53) (gI M 66 51) M (n := 111) ⟨dX12_odds_108, rfl⟩ klX12_462 hv4 (by decide) (Nat.le_of_ble_eq_true rfl) rfl rfl ?_
    refine y_iload_n (i := 3) (n := 112) ⟨dX12_odds_111, rfl⟩ rfl ?_
    obtain ⟨v5, hv6, hf⟩ := b_s hf
    refine c_mo_lowest x4 v3 x3 M (n := 115) ⟨dX12_odds_112, rfl⟩ klX12_465 hv6 (by decide) (Nat.le_of_ble_eq_true rfl) rfl rfl ?_
    cases hf
    exact y_lreturn (n := 116) ⟨dX12_odds_115, rfl⟩ rfl hk
  · replace hf := i_f hc hf
    refine y_lload (i := 4) (n := 60) ⟨dX12_odds_58, rfl⟩ rfl ?_
    refine y_aload_n (i := 0) (n := 61) ⟨dX12_odds_60, rfl⟩ rfl ?_
    refine y_getI (n := 64) ⟨dX12_odds_61, rfl⟩ kfX12_453 l_66 rfl ?_
    refine y_iload (i := 6) (n := 66) ⟨dX12_odds_64, rfl⟩ rfl ?_
    obtain ⟨v7, hv8, hf⟩ := b_s hf
    refine c_mo_ways (gI M 66 54) x6 M (n := 69) ⟨dX12_odds_66, rfl⟩ klX12_462 hv8 (by decide) (Nat.le_of_ble_eq_true rfl) rfl rfl ?_
    refine y_aload_n (i := 0) (n := 70) ⟨dX12_odds_69, rfl⟩ rfl ?_
    refine y_getI (n := 73) ⟨dX12_odds_70, rfl⟩ kfX12_450 l_66 rfl ?_
    refine y_aload_n (i := 0) (n := 74) ⟨dX12_odds_73, rfl⟩ rfl ?_
    refine y_getI (n := 77) ⟨dX12_odds_74, rfl⟩ kfX12_453 l_66 rfl ?_
    refine y_isub (n := 78) ⟨dX12_odds_77, rfl⟩ ?_
    refine y_aload_n (i := 0) (n := 79) ⟨dX12_odds_78, rfl⟩ rfl ?_
    refine y_getI (n := 82) ⟨dX12_odds_79, rfl⟩ kfX12_444 l_66 rfl ?_
    refine y_iload (i := 6) (n := 84) ⟨dX12_odds_82, rfl⟩ rfl ?_
    refine y_isub (n := 85) ⟨dX12_odds_84, rfl⟩ ?_
    obtain ⟨v9, hv10, hf⟩ := b_s hf
    refine c_mo_ways ((gI M 66 53) - (gI M 66 54)) ((gI M 66 51) - x6) M (n := 88) ⟨dX12_odds_85, rfl⟩ klX12_462 hv10 (by decide) (Nat.le_of_ble_eq_true rfl) rfl rfl ?_
    refine y_lmul (n := 89) ⟨dX12_odds_88, rfl⟩ ?_
    refine y_ladd (n := 90) ⟨dX12_odds_89, rfl⟩ ?_
    refine y_lstore (i := 4) (n := 92) (L2 := [some (.ref 66), none, none, some (.int x3), some (.long (x4 + (v7 * v9))), none, some (.int x6)]) ⟨dX12_odds_90, rfl⟩ (by decide) rfl rfl ?_
    refine y_iinc (i := 6) (n := 95) (b := (x6 + 1)) (L2 := [some (.ref 66), none, none, some (.int x3), some (.long (x4 + (v7 * v9))), none, some (.int (x6 + 1))]) ⟨dX12_odds_92, rfl⟩ rfl (by rw [ki_1]) (by decide) rfl rfl ?_
    refine y_goto (t := 49) ⟨dX12_odds_95, rfl, rfl⟩ ?_
    cases hf
    exact y_wk ⟨Or.inr rfl, Or.inr rfl, Or.inr rfl, Or.inr rfl, Or.inr rfl, Or.inr rfl, Or.inr rfl, trivial⟩ hk
theorem wl_mo_odds_49 (x3 : Int32) (x4 : Int64) (x6 : Int32) (M : dM) {Q : mz_P} {x : (Int64 × dM)} (hf : l_mo_odds_49 x3 x4 x6 M = some x) (hk : K_mo_odds_49 Q x3 M (.inr x)) : mW mX12_odds 7 Q 49 [some (.ref 66), none, none, some (.int x3), some (.long x4), none, some (.int x6)] [] M :=
  lpc_wp (Wh := fun s => mW mX12_odds 7 Q 49 [some (.ref 66), none, none, some (.int x3), some (.long s.1), none, some (.int s.2)] [] M) (K := K_mo_odds_49 Q x3 M) (fun _ h => h) (fun s o hb hk => w_b_mo_odds_49_49 x3 s.1 s.2 M hb hk) hf hk
theorem ok_mo_odds (a1 : Int32) (a2 : Int32) (a3 : Int32) (M : dM) {o : (Int64 × dM)} (hf : f_mo_odds a1 a2 a3 M = some o) : mO mX12_odds 7 [.ref 66, .int a1, .int a2, .int a3] M (some (.long o.1)) o.2 := by
  refine y_ok (by decide +kernel) (by decide) (L0 := [some (.ref 66), some (.int a1), some (.int a2), some (.int a3), none, none, none]) rfl ?_
  have hk := mR_mQ (some (.long o.1)) o.2
  generalize mQ _ _ = Q at hk ⊢
  unfold f_mo_odds at hf
  refine y_aload_n (i := 0) (n := 1) ⟨dX12_odds_0, rfl⟩ rfl ?_
  refine y_iconst (n := 2) (v := 0) ⟨dX12_odds_1, rfl⟩ ki_0 ?_
  refine y_putI (n := 5) ⟨dX12_odds_2, rfl⟩ kfX12_214 l_66 (by decide +kernel) rfl ?_
  refine y_iload_n (i := 1) (n := 6) ⟨dX12_odds_5, rfl⟩ rfl ?_
  refine c_mo_isHand a1 (sI M 66 0 0) (n := 9) ⟨dX12_odds_6, rfl⟩ klX12_225 rfl (by decide) (Nat.le_of_ble_eq_true rfl) rfl rfl ?_
  refine y_if_eq (t := 30) (n := 12) ⟨dX12_odds_9, rfl, rfl⟩ (fun h0 => ?_) (fun h0 => ?_)
  · have hc := bI_0 h0
    replace hf := i_f hc hf
    refine y_ldc2 (n := 33) ⟨dX12_odds_30, rfl⟩ kcX12_460 ?_
    cases hf
    exact y_lreturn (n := 34) ⟨dX12_odds_33, rfl⟩ rfl hk
  · have hc := bI_1 h0
    replace hf := i_t hc hf
    refine y_iload_n (i := 2) (n := 13) ⟨dX12_odds_12, rfl⟩ rfl ?_
    refine y_iconst (n := 14) (v := 0) ⟨dX12_odds_13, rfl⟩ ki_0 ?_
    refine y_iconst (n := 15) (v := 2) ⟨dX12_odds_14, rfl⟩ ki_2 ?_
    refine c_mo_within a2 0 2 (sI M 66 0 0) (n := 18) ⟨dX12_odds_15, rfl⟩ klX12_221 rfl (by decide) (Nat.le_of_ble_eq_true rfl) rfl rfl ?_
    refine y_if_eq (t := 30) (n := 21) ⟨dX12_odds_18, rfl, rfl⟩ (fun h0 => ?_) (fun h0 => ?_)
    · have hc := bI_0 h0
      replace hf := i_f hc hf
      refine y_ldc2 (n := 33) ⟨dX12_odds_30, rfl⟩ kcX12_460 ?_
      cases hf
      exact y_lreturn (n := 34) ⟨dX12_odds_33, rfl⟩ rfl hk
    · have hc := bI_1 h0
      replace hf := i_t hc hf
      refine y_iload_n (i := 3) (n := 22) ⟨dX12_odds_21, rfl⟩ rfl ?_
      refine y_iconst (n := 23) (v := 0) ⟨dX12_odds_22, rfl⟩ ki_0 ?_
      refine y_iconst (n := 24) (v := 1) ⟨dX12_odds_23, rfl⟩ ki_1 ?_
      refine c_mo_within a3 0 1 (sI M 66 0 0) (n := 27) ⟨dX12_odds_24, rfl⟩ klX12_221 rfl (by decide) (Nat.le_of_ble_eq_true rfl) rfl rfl ?_
      refine y_if_ne (t := 34) (n := 30) ⟨dX12_odds_27, rfl, rfl⟩ (fun h0 => ?_) (fun h0 => ?_)
      · have hc := bI_1 h0
        replace hf := i_t hc hf
        refine y_aload_n (i := 0) (n := 35) ⟨dX12_odds_34, rfl⟩ rfl ?_
        refine y_iload_n (i := 1) (n := 36) ⟨dX12_odds_35, rfl⟩ rfl ?_
        refine y_iload_n (i := 2) (n := 37) ⟨dX12_odds_36, rfl⟩ rfl ?_
        obtain ⟨q1, hv2, hf⟩ := b_s hf
        refine c_mo_counts a1 a2 (sI M 66 0 0) (n := 40) ⟨dX12_odds_37, rfl⟩ klX12_456 hv2 (by decide) (Nat.le_of_ble_eq_true rfl) rfl rfl ?_
        refine y_lconst (n := 41) (v := 0) ⟨dX12_odds_40, rfl⟩ kl_0 ?_
        refine y_lstore (i := 4) (n := 43) (L2 := [some (.ref 66), some (.int a1), some (.int a2), some (.int a3), some (.long 0), none, none]) ⟨dX12_odds_41, rfl⟩ (by decide) rfl rfl ?_
        refine y_aload_n (i := 0) (n := 44) ⟨dX12_odds_43, rfl⟩ rfl ?_
        refine y_getI (n := 47) ⟨dX12_odds_44, rfl⟩ kfX12_447 l_66 rfl ?_
        refine y_istore (i := 6) (n := 49) (L2 := [some (.ref 66), some (.int a1), some (.int a2), some (.int a3), some (.long 0), none, some (.int (gI q1 66 52))]) ⟨dX12_odds_47, rfl⟩ (by decide) rfl rfl ?_
        obtain ⟨r13, hl12, hf⟩ := b_s hf
        cases hf
        exact y_wk ⟨Or.inr rfl, Or.inl rfl, Or.inl rfl, Or.inr rfl, Or.inr rfl, Or.inr rfl, Or.inr rfl, trivial⟩ (wl_mo_odds_49 a3 0 (gI q1 66 52) q1 hl12 hk)
      · have hc := bI_0 h0
        replace hf := i_f hc hf
        refine y_ldc2 (n := 33) ⟨dX12_odds_30, rfl⟩ kcX12_460 ?_
        cases hf
        exact y_lreturn (n := 34) ⟨dX12_odds_33, rfl⟩ rfl hk
theorem c_mo_odds (a1 : Int32) (a2 : Int32) (a3 : Int32) (M : dM) {o : (Int64 × dM)} {y : mz_M} {d : Nat} {Q : mz_P} {pc n i : Nat} {L : List (Option Value)} {st : List Value} (h : mz_d y.2.1 pc n 3 (.invokevirtual i)) (hl : mz_ml y.1.cls i yX12_odds) (hf : f_mo_odds a1 a2 a3 M = some o) (hd : 7 + 1 ≤ d) (hsm : (st.map (fun v => v.category)).sum ≤ 8) (hLr : mz_rL 133 L = true) (hSr : mz_rS 133 st = true) (kk : mW y d Q n L (.long o.1 :: st) o.2) : mW y d Q pc L (.int a3 :: .int a2 :: .int a1 :: .ref 66 :: st) M :=
  y_callV kmX12_odds kvX12_odds l_66 (by decide +kernel) (by decide +kernel) h hl (ok_mo_odds a1 a2 a3 M hf) (vs := [.int a1, .int a2, .int a3]) rfl rfl hd hsm hLr hSr kk
def K_mo_power_5 (Q : mz_P) (x0 : Int64) (x2 : Int32) (M : dM) : ((Int64 × Int32) ⊕ Int64) → Prop
  | .inl s => mW mX12_power 1 Q 5 [some (.long x0), none, some (.int x2), some (.long s.1), none, some (.int s.2)] [] M
  | .inr r => mR Q (some (.long r)) M
noncomputable def b_mo_power_5_5 (x0 : Int64) (x2 : Int32) (x3 : Int64) (x5 : Int32) : Option ((Int64 × Int32) ⊕ Int64) :=
  if x2 ≤ x5 then
    some (.inr x3)
  else
    some (.inl ((x3 * x0), (x5 + 1)))
noncomputable def l_mo_power_5 (x0 : Int64) (x2 : Int32) (x3 : Int64) (x5 : Int32) : Option Int64 := lpc (fun s => b_mo_power_5_5 x0 x2 s.1 s.2) (x3, x5)
noncomputable def f_mo_power (a1 : Int64) (a2 : Int32) : Option Int64 :=
  (l_mo_power_5 a1 a2 1 0).bind fun r3 => some r3
theorem w_b_mo_power_5_5 (x0 : Int64) (x2 : Int32) (x3 : Int64) (x5 : Int32) (M : dM) {Q : mz_P} {o : ((Int64 × Int32) ⊕ Int64)} (hf : b_mo_power_5_5 x0 x2 x3 x5 = some o) (hk : K_mo_power_5 Q x0 x2 M o) : mW mX12_power 1 Q 5 [some (.long x0), none, some (.int x2), some (.long x3), none, some (.int x5)] [] M := by
  unfold b_mo_power_5_5 at hf
  refine y_iload (i := 5) (n := 7) ⟨dX12_power_5, rfl⟩ rfl ?_
  refine y_iload_n (i := 2) (n := 8) ⟨dX12_power_7, rfl⟩ rfl ?_
  refine y_icmp_ge (t := 21) (n := 11) ⟨dX12_power_8, rfl, rfl⟩ (fun (hc : x2 ≤ x5) => ?_) (fun (hc : ¬ (x2 ≤ x5)) => ?_)
  · replace hf := i_t hc hf
    refine y_lload_n (i := 3) (n := 22) ⟨dX12_power_21, rfl⟩ rfl ?_
    cases hf
    exact y_lreturn (n := 23) ⟨dX12_power_22, rfl⟩ rfl hk
  · replace hf := i_f hc hf
    refine y_lload_n (i := 3) (n := 12) ⟨dX12_power_11, rfl⟩ rfl ?_
    refine y_lload_n (i := 0) (n := 13) ⟨dX12_power_12, rfl⟩ rfl ?_
    refine y_lmul (n := 14) ⟨dX12_power_13, rfl⟩ ?_
    refine y_lstore_n (i := 3) (n := 15) (L2 := [some (.long x0), none, some (.int x2), some (.long (x3 * x0)), none, some (.int x5)]) ⟨dX12_power_14, rfl⟩ (by decide) rfl rfl ?_
    refine y_iinc (i := 5) (n := 18) (b := (x5 + 1)) (L2 := [some (.long x0), none, some (.int x2), some (.long (x3 * x0)), none, some (.int (x5 + 1))]) ⟨dX12_power_15, rfl⟩ rfl (by rw [ki_1]) (by decide) rfl rfl ?_
    refine y_goto (t := 5) ⟨dX12_power_18, rfl, rfl⟩ ?_
    cases hf
    exact y_wk ⟨Or.inr rfl, Or.inr rfl, Or.inr rfl, Or.inr rfl, Or.inr rfl, Or.inr rfl, trivial⟩ hk
theorem wl_mo_power_5 (x0 : Int64) (x2 : Int32) (x3 : Int64) (x5 : Int32) (M : dM) {Q : mz_P} {x : Int64} (hf : l_mo_power_5 x0 x2 x3 x5 = some x) (hk : K_mo_power_5 Q x0 x2 M (.inr x)) : mW mX12_power 1 Q 5 [some (.long x0), none, some (.int x2), some (.long x3), none, some (.int x5)] [] M :=
  lpc_wp (Wh := fun s => mW mX12_power 1 Q 5 [some (.long x0), none, some (.int x2), some (.long s.1), none, some (.int s.2)] [] M) (K := K_mo_power_5 Q x0 x2 M) (fun _ h => h) (fun s o hb hk => w_b_mo_power_5_5 x0 x2 s.1 s.2 M hb hk) hf hk
theorem ok_mo_power (a1 : Int64) (a2 : Int32) (M : dM) {o : Int64} (hf : f_mo_power a1 a2 = some o) : mO mX12_power 1 [.long a1, .int a2] M (some (.long o)) M := by
  refine y_ok (by decide +kernel) (by decide) (L0 := [some (.long a1), none, some (.int a2), none, none, none]) rfl ?_
  have hk := mR_mQ (some (.long o)) M
  generalize mQ _ _ = Q at hk ⊢
  unfold f_mo_power at hf
  refine y_lconst (n := 1) (v := 1) ⟨dX12_power_0, rfl⟩ kl_1 ?_
  refine y_lstore_n (i := 3) (n := 2) (L2 := [some (.long a1), none, some (.int a2), some (.long 1), none, none]) ⟨dX12_power_1, rfl⟩ (by decide) rfl rfl ?_
  refine y_iconst (n := 3) (v := 0) ⟨dX12_power_2, rfl⟩ ki_0 ?_
  refine y_istore (i := 5) (n := 5) (L2 := [some (.long a1), none, some (.int a2), some (.long 1), none, some (.int 0)]) ⟨dX12_power_3, rfl⟩ (by decide) rfl rfl ?_
  obtain ⟨r3, hl2, hf⟩ := b_s hf
  cases hf
  exact y_wk ⟨Or.inr rfl, Or.inr rfl, Or.inr rfl, Or.inr rfl, Or.inr rfl, Or.inr rfl, trivial⟩ (wl_mo_power_5 a1 a2 1 0 M hl2 hk)
theorem c_mo_power (a1 : Int64) (a2 : Int32) (M : dM) {o : Int64} {y : mz_M} {d : Nat} {Q : mz_P} {pc n i : Nat} {L : List (Option Value)} {st : List Value} (h : mz_d y.2.1 pc n 3 (.invokestatic i)) (hl : mz_ml y.1.cls i yX12_power) (hf : f_mo_power a1 a2 = some o) (hd : 1 + 1 ≤ d) (hsm : (st.map (fun v => v.category)).sum ≤ 8) (hLr : mz_rL 133 L = true) (hSr : mz_rS 133 st = true) (kk : mW y d Q n L (.long o :: st) M) : mW y d Q pc L (.int a2 :: .long a1 :: st) M :=
  y_callS kmX12_power ksX12_power h hl (ok_mo_power a1 a2 M hf) (vs := [.long a1, .int a2]) rfl rfl hd hsm hLr hSr kk
def K_mo_luck_64 (Q : mz_P) (x1 : Int32) (x2 : Int32) (x3 : Int32) (x4 : Int32) (x5 : Int32) (M : dM) : ((Int64 × Int32) ⊕ Int64) → Prop
  | .inl s => mW mX12_luck 2 Q 64 [none, some (.int x1), some (.int x2), some (.int x3), some (.int x4), some (.int x5), some (.long s.1), none, some (.int s.2), none] [] M
  | .inr t => mW mX12_luck 2 Q 108 [none, none, some (.int x2), none, some (.int x4), some (.int x5), some (.long t), none, none, none] [] M
noncomputable def b_mo_luck_64_64 (x1 : Int32) (x2 : Int32) (x3 : Int32) (x4 : Int32) (x5 : Int32) (x6 : Int64) (x8 : Int32) (M : dM) : Option ((Int64 × Int32) ⊕ Int64) :=
  if x3 ≤ x8 then
    some (.inr x6)
  else
    (f_mo_ways x2 x8).bind fun v1 =>
    (f_mo_power x1.toInt64 x8).bind fun v3 =>
    (f_mo_power ((10 - x1).toInt64) (x2 - x8)).bind fun v5 =>
    some (.inl ((x6 + ((v1 * v3) * v5)), (x8 + 1)))
noncomputable def l_mo_luck_64 (x1 : Int32) (x2 : Int32) (x3 : Int32) (x4 : Int32) (x5 : Int32) (x6 : Int64) (x8 : Int32) (M : dM) : Option Int64 := lpc (fun s => b_mo_luck_64_64 x1 x2 x3 x4 x5 s.1 s.2 M) (x6, x8)
noncomputable def f_mo_luck (a1 : Int32) (a2 : Int32) (a3 : Int32) (a4 : Int32) (a5 : Int32) (M : dM) : Option (Int64 × dM) :=
  if (f_mo_within a1 1 9) = true then
    if (f_mo_within a2 1 6) = true then
      if (f_mo_within a3 0 a2) = true then
        if (f_mo_within a4 1 3) = true then
          if (f_mo_within a5 0 1) = true then
            (l_mo_luck_64 a1 a2 a3 a4 a5 0 0 (sI M 66 0 0)).bind fun t7 =>
              (f_mo_power 10 a2).bind fun v10 =>
              (f_mo_power v10 a4).bind fun v12 =>
              (f_mo_power t7 a4).bind fun v14 =>
              (f_mo_lowest (v12 - v14) v12 a5).bind fun v16 =>
              some (v16, (sI M 66 0 0))
          else
            some ((-1), (sI M 66 0 0))
        else
          some ((-1), (sI M 66 0 0))
      else
        some ((-1), (sI M 66 0 0))
    else
      some ((-1), (sI M 66 0 0))
  else
    some ((-1), (sI M 66 0 0))
theorem w_b_mo_luck_64_64 (x1 : Int32) (x2 : Int32) (x3 : Int32) (x4 : Int32) (x5 : Int32) (x6 : Int64) (x8 : Int32) (M : dM) {Q : mz_P} {o : ((Int64 × Int32) ⊕ Int64)} (hf : b_mo_luck_64_64 x1 x2 x3 x4 x5 x6 x8 M = some o) (hk : K_mo_luck_64 Q x1 x2 x3 x4 x5 M o) : mW mX12_luck 2 Q 64 [none, some (.int x1), some (.int x2), some (.int x3), some (.int x4), some (.int x5), some (.long x6), none, some (.int x8), none] [] M := by
  unfold b_mo_luck_64_64 at hf
  refine y_iload (i := 8) (n := 66) ⟨dX12_luck_64, rfl⟩ rfl ?_
  refine y_iload_n (i := 3) (n := 67) ⟨dX12_luck_66, rfl⟩ rfl ?_
  refine y_icmp_ge (t := 108) (n := 70) ⟨dX12_luck_67, rfl, rfl⟩ (fun (hc : x3 ≤ x8) => ?_) (fun (hc : ¬ (x3 ≤ x8)) => ?_)
  · replace hf := i_t hc hf
    cases hf
    exact y_wk ⟨Or.inr rfl, Or.inl rfl, Or.inr rfl, Or.inl rfl, Or.inr rfl, Or.inr rfl, Or.inr rfl, Or.inr rfl, Or.inl rfl, Or.inr rfl, trivial⟩ hk
  · replace hf := i_f hc hf
    refine y_lload (i := 6) (n := 72) ⟨dX12_luck_70, rfl⟩ rfl ?_
    refine y_iload_n (i := 2) (n := 73) ⟨dX12_luck_72, rfl⟩ rfl ?_
    refine y_iload (i := 8) (n := 75) ⟨dX12_luck_73, rfl⟩ rfl ?_
    obtain ⟨v1, hv2, hf⟩ := b_s hf
    refine c_mo_ways x2 x8 M (n := 78) ⟨dX12_luck_75, rfl⟩ klX12_462 hv2 (by decide) (Nat.le_of_ble_eq_true rfl) rfl rfl ?_
    refine y_iload_n (i := 1) (n := 79) ⟨dX12_luck_78, rfl⟩ rfl ?_
    refine y_i2l (n := 80) ⟨dX12_luck_79, rfl⟩ ?_
    refine y_iload (i := 8) (n := 82) ⟨dX12_luck_80, rfl⟩ rfl ?_
    obtain ⟨v3, hv4, hf⟩ := b_s hf
    refine c_mo_power x1.toInt64 x8 M (n := 85) ⟨dX12_luck_82, rfl⟩ klX12_469 hv4 (by decide) (Nat.le_of_ble_eq_true rfl) rfl rfl ?_
    refine y_lmul (n := 86) ⟨dX12_luck_85, rfl⟩ ?_
    refine y_bipush (n := 88) (v := 10) ⟨dX12_luck_86, rfl⟩ kb_10 ?_
    refine y_iload_n (i := 1) (n := 89) ⟨dX12_luck_88, rfl⟩ rfl ?_
    refine y_isub (n := 90) ⟨dX12_luck_89, rfl⟩ ?_
    refine y_i2l (n := 91) ⟨dX12_luck_90, rfl⟩ ?_
    refine y_iload_n (i := 2) (n := 92) ⟨dX12_luck_91, rfl⟩ rfl ?_
    refine y_iload (i := 8) (n := 94) ⟨dX12_luck_92, rfl⟩ rfl ?_
    refine y_isub (n := 95) ⟨dX12_luck_94, rfl⟩ ?_
    obtain ⟨v5, hv6, hf⟩ := b_s hf
    refine c_mo_power ((10 - x1).toInt64) (x2 - x8) M (n := 98) ⟨dX12_luck_95, rfl⟩ klX12_469 hv6 (by decide) (Nat.le_of_ble_eq_true rfl) rfl rfl ?_
    refine y_lmul (n := 99) ⟨dX12_luck_98, rfl⟩ ?_
    refine y_ladd (n := 100) ⟨dX12_luck_99, rfl⟩ ?_
    refine y_lstore (i := 6) (n := 102) (L2 := [none, some (.int x1), some (.int x2), some (.int x3), some (.int x4), some (.int x5), some (.long (x6 + ((v1 * v3) * v5))), none, some (.int x8), none]) ⟨dX12_luck_100, rfl⟩ (by decide) rfl rfl ?_
    refine y_iinc (i := 8) (n := 105) (b := (x8 + 1)) (L2 := [none, some (.int x1), some (.int x2), some (.int x3), some (.int x4), some (.int x5), some (.long (x6 + ((v1 * v3) * v5))), none, some (.int (x8 + 1)), none]) ⟨dX12_luck_102, rfl⟩ rfl (by rw [ki_1]) (by decide) rfl rfl ?_
    refine y_goto (t := 64) ⟨dX12_luck_105, rfl, rfl⟩ ?_
    cases hf
    exact y_wk ⟨Or.inr rfl, Or.inr rfl, Or.inr rfl, Or.inr rfl, Or.inr rfl, Or.inr rfl, Or.inr rfl, Or.inr rfl, Or.inr rfl, Or.inr rfl, trivial⟩ hk
theorem wl_mo_luck_64 (x1 : Int32) (x2 : Int32) (x3 : Int32) (x4 : Int32) (x5 : Int32) (x6 : Int64) (x8 : Int32) (M : dM) {Q : mz_P} {x : Int64} (hf : l_mo_luck_64 x1 x2 x3 x4 x5 x6 x8 M = some x) (hk : K_mo_luck_64 Q x1 x2 x3 x4 x5 M (.inr x)) : mW mX12_luck 2 Q 64 [none, some (.int x1), some (.int x2), some (.int x3), some (.int x4), some (.int x5), some (.long x6), none, some (.int x8), none] [] M :=
  lpc_wp (Wh := fun s => mW mX12_luck 2 Q 64 [none, some (.int x1), some (.int x2), some (.int x3), some (.int x4), some (.int x5), some (.long s.1), none, some (.int s.2), none] [] M) (K := K_mo_luck_64 Q x1 x2 x3 x4 x5 M) (fun _ h => h) (fun s o hb hk => w_b_mo_luck_64_64 x1 x2 x3 x4 x5 s.1 s.2 M hb hk) hf hk
theorem ok_mo_luck (a1 : Int32) (a2 : Int32) (a3 : Int32) (a4 : Int32) (a5 : Int32) (M : dM) {o : (Int64 × dM)} (hf : f_mo_luck a1 a2 a3 a4 a5 M = some o) : mO mX12_luck 2 [.ref 66, .int a1, .int a2, .int a3, .int a4, .int a5] M (some (.long o.1)) o.2 := by
  refine y_ok (by decide +kernel) (by decide) (L0 := [some (.ref 66), some (.int a1), some (.int a2), some (.int a3), some (.int a4), some (.int a5), none, none, none, none]) rfl ?_
  have hk := mR_mQ (some (.long o.1)) o.2
  generalize mQ _ _ = Q at hk ⊢
  unfold f_mo_luck at hf
  refine y_aload_n (i := 0) (n := 1) ⟨dX12_luck_0, rfl⟩ rfl ?_
  refine y_iconst (n := 2) (v := 0) ⟨dX12_luck_1, rfl⟩ ki_0 ?_
  refine y_putI (n := 5) ⟨dX12_luck_2, rfl⟩ kfX12_214 l_66 (by decide +kernel) rfl ?_
  refine y_iload_n (i := 1) (n := 6) ⟨dX12_luck_5, rfl⟩ rfl ?_
  refine y_iconst (n := 7) (v := 1) ⟨dX12_luck_6, rfl⟩ ki_1 ?_
  refine y_bipush (n := 9) (v := 9) ⟨dX12_luck_7, rfl⟩ kb_9 ?_
  refine c_mo_within a1 1 9 (sI M 66 0 0) (n := 12) ⟨dX12_luck_9, rfl⟩ klX12_221 rfl (by decide) (Nat.le_of_ble_eq_true rfl) rfl rfl ?_
  refine y_if_eq (t := 54) (n := 15) ⟨dX12_luck_12, rfl, rfl⟩ (fun h0 => ?_) (fun h0 => ?_)
  · have hc := bI_0 h0
    replace hf := i_f hc hf
    refine y_ldc2 (n := 57) ⟨dX12_luck_54, rfl⟩ kcX12_460 ?_
    cases hf
    exact y_lreturn (n := 58) ⟨dX12_luck_57, rfl⟩ rfl hk
  · have hc := bI_1 h0
    replace hf := i_t hc hf
    refine y_iload_n (i := 2) (n := 16) ⟨dX12_luck_15, rfl⟩ rfl ?_
    refine y_iconst (n := 17) (v := 1) ⟨dX12_luck_16, rfl⟩ ki_1 ?_
    refine y_bipush (n := 19) (v := 6) ⟨dX12_luck_17, rfl⟩ kb_6 ?_
    refine c_mo_within a2 1 6 (sI M 66 0 0) (n := 22) ⟨dX12_luck_19, rfl⟩ klX12_221 rfl (by decide) (Nat.le_of_ble_eq_true rfl) rfl rfl ?_
    refine y_if_eq (t := 54) (n := 25) ⟨dX12_luck_22, rfl, rfl⟩ (fun h0 => ?_) (fun h0 => ?_)
    · have hc := bI_0 h0
      replace hf := i_f hc hf
      refine y_ldc2 (n := 57) ⟨dX12_luck_54, rfl⟩ kcX12_460 ?_
      cases hf
      exact y_lreturn (n := 58) ⟨dX12_luck_57, rfl⟩ rfl hk
    · have hc := bI_1 h0
      replace hf := i_t hc hf
      refine y_iload_n (i := 3) (n := 26) ⟨dX12_luck_25, rfl⟩ rfl ?_
      refine y_iconst (n := 27) (v := 0) ⟨dX12_luck_26, rfl⟩ ki_0 ?_
      refine y_iload_n (i := 2) (n := 28) ⟨dX12_luck_27, rfl⟩ rfl ?_
      refine c_mo_within a3 0 a2 (sI M 66 0 0) (n := 31) ⟨dX12_luck_28, rfl⟩ klX12_221 rfl (by decide) (Nat.le_of_ble_eq_true rfl) rfl rfl ?_
      refine y_if_eq (t := 54) (n := 34) ⟨dX12_luck_31, rfl, rfl⟩ (fun h0 => ?_) (fun h0 => ?_)
      · have hc := bI_0 h0
        replace hf := i_f hc hf
        refine y_ldc2 (n := 57) ⟨dX12_luck_54, rfl⟩ kcX12_460 ?_
        cases hf
        exact y_lreturn (n := 58) ⟨dX12_luck_57, rfl⟩ rfl hk
      · have hc := bI_1 h0
        replace hf := i_t hc hf
        refine y_iload (i := 4) (n := 36) ⟨dX12_luck_34, rfl⟩ rfl ?_
        refine y_iconst (n := 37) (v := 1) ⟨dX12_luck_36, rfl⟩ ki_1 ?_
        refine y_iconst (n := 38) (v := 3) ⟨dX12_luck_37, rfl⟩ ki_3 ?_
        refine c_mo_within a4 1 3 (sI M 66 0 0) (n := 41) ⟨dX12_luck_38, rfl⟩ klX12_221 rfl (by decide) (Nat.le_of_ble_eq_true rfl) rfl rfl ?_
        refine y_if_eq (t := 54) (n := 44) ⟨dX12_luck_41, rfl, rfl⟩ (fun h0 => ?_) (fun h0 => ?_)
        · have hc := bI_0 h0
          replace hf := i_f hc hf
          refine y_ldc2 (n := 57) ⟨dX12_luck_54, rfl⟩ kcX12_460 ?_
          cases hf
          exact y_lreturn (n := 58) ⟨dX12_luck_57, rfl⟩ rfl hk
        · have hc := bI_1 h0
          replace hf := i_t hc hf
          refine y_iload (i := 5) (n := 46) ⟨dX12_luck_44, rfl⟩ rfl ?_
          refine y_iconst (n := 47) (v := 0) ⟨dX12_luck_46, rfl⟩ ki_0 ?_
          refine y_iconst (n := 48) (v := 1) ⟨dX12_luck_47, rfl⟩ ki_1 ?_
          refine c_mo_within a5 0 1 (sI M 66 0 0) (n := 51) ⟨dX12_luck_48, rfl⟩ klX12_221 rfl (by decide) (Nat.le_of_ble_eq_true rfl) rfl rfl ?_
          refine y_if_ne (t := 58) (n := 54) ⟨dX12_luck_51, rfl, rfl⟩ (fun h0 => ?_) (fun h0 => ?_)
          · have hc := bI_1 h0
            replace hf := i_t hc hf
            refine y_lconst (n := 59) (v := 0) ⟨dX12_luck_58, rfl⟩ kl_0 ?_
            refine y_lstore (i := 6) (n := 61) (L2 := [some (.ref 66), some (.int a1), some (.int a2), some (.int a3), some (.int a4), some (.int a5), some (.long 0), none, none, none]) ⟨dX12_luck_59, rfl⟩ (by decide) rfl rfl ?_
            refine y_iconst (n := 62) (v := 0) ⟨dX12_luck_61, rfl⟩ ki_0 ?_
            refine y_istore (i := 8) (n := 64) (L2 := [some (.ref 66), some (.int a1), some (.int a2), some (.int a3), some (.int a4), some (.int a5), some (.long 0), none, some (.int 0), none]) ⟨dX12_luck_62, rfl⟩ (by decide) rfl rfl ?_
            obtain ⟨t7, hl8, hf⟩ := b_s hf
            refine y_wk ⟨Or.inl rfl, Or.inr rfl, Or.inr rfl, Or.inr rfl, Or.inr rfl, Or.inr rfl, Or.inr rfl, Or.inr rfl, Or.inr rfl, Or.inr rfl, trivial⟩ (wl_mo_luck_64 a1 a2 a3 a4 a5 0 0 (sI M 66 0 0) hl8 ?_)
            show mW mX12_luck 2 Q 108 [none, none, some (.int a2), none, some (.int a4), some (.int a5), some (.long t7), none, none, none] [] (sI M 66 0 0)
            refine y_ldc2 (n := 111) ⟨dX12_luck_108, rfl⟩ kcX12_473 ?_
            refine y_iload_n (i := 2) (n := 112) ⟨dX12_luck_111, rfl⟩ rfl ?_
            obtain ⟨v10, hv11, hf⟩ := b_s hf
            refine c_mo_power 10 a2 (sI M 66 0 0) (n := 115) ⟨dX12_luck_112, rfl⟩ klX12_469 hv11 (by decide) (Nat.le_of_ble_eq_true rfl) rfl rfl ?_
            refine y_iload (i := 4) (n := 117) ⟨dX12_luck_115, rfl⟩ rfl ?_
            obtain ⟨v12, hv13, hf⟩ := b_s hf
            refine c_mo_power v10 a4 (sI M 66 0 0) (n := 120) ⟨dX12_luck_117, rfl⟩ klX12_469 hv13 (by decide) (Nat.le_of_ble_eq_true rfl) rfl rfl ?_
            refine y_lstore (i := 8) (n := 122) (L2 := [some (.ref 66), some (.int a1), some (.int a2), some (.int a3), some (.int a4), some (.int a5), some (.long t7), none, some (.long v12), none]) ⟨dX12_luck_120, rfl⟩ (by decide) rfl rfl ?_
            refine y_lload (i := 8) (n := 124) ⟨dX12_luck_122, rfl⟩ rfl ?_
            refine y_lload (i := 6) (n := 126) ⟨dX12_luck_124, rfl⟩ rfl ?_
            refine y_iload (i := 4) (n := 128) ⟨dX12_luck_126, rfl⟩ rfl ?_
            obtain ⟨v14, hv15, hf⟩ := b_s hf
            refine c_mo_power t7 a4 (sI M 66 0 0) (n := 131) ⟨dX12_luck_128, rfl⟩ klX12_469 hv15 (by decide) (Nat.le_of_ble_eq_true rfl) rfl rfl ?_
            refine y_lsub (n := 132) ⟨dX12_luck_131, rfl⟩ ?_
            refine y_lload (i := 8) (n := 134) ⟨dX12_luck_132, rfl⟩ rfl ?_
            refine y_iload (i := 5) (n := 136) ⟨dX12_luck_134, rfl⟩ rfl ?_
            obtain ⟨v16, hv17, hf⟩ := b_s hf
            refine c_mo_lowest (v12 - v14) v12 a5 (sI M 66 0 0) (n := 139) ⟨dX12_luck_136, rfl⟩ klX12_465 hv17 (by decide) (Nat.le_of_ble_eq_true rfl) rfl rfl ?_
            cases hf
            exact y_lreturn (n := 140) ⟨dX12_luck_139, rfl⟩ rfl hk
          · have hc := bI_0 h0
            replace hf := i_f hc hf
            refine y_ldc2 (n := 57) ⟨dX12_luck_54, rfl⟩ kcX12_460 ?_
            cases hf
            exact y_lreturn (n := 58) ⟨dX12_luck_57, rfl⟩ rfl hk
theorem c_mo_luck (a1 : Int32) (a2 : Int32) (a3 : Int32) (a4 : Int32) (a5 : Int32) (M : dM) {o : (Int64 × dM)} {y : mz_M} {d : Nat} {Q : mz_P} {pc n i : Nat} {L : List (Option Value)} {st : List Value} (h : mz_d y.2.1 pc n 3 (.invokevirtual i)) (hl : mz_ml y.1.cls i yX12_luck) (hf : f_mo_luck a1 a2 a3 a4 a5 M = some o) (hd : 2 + 1 ≤ d) (hsm : (st.map (fun v => v.category)).sum ≤ 8) (hLr : mz_rL 133 L = true) (hSr : mz_rS 133 st = true) (kk : mW y d Q n L (.long o.1 :: st) o.2) : mW y d Q pc L (.int a5 :: .int a4 :: .int a3 :: .int a2 :: .int a1 :: .ref 66 :: st) M :=
  y_callV kmX12_luck kvX12_luck l_66 (by decide +kernel) (by decide +kernel) h hl (ok_mo_luck a1 a2 a3 a4 a5 M hf) (vs := [.int a1, .int a2, .int a3, .int a4, .int a5]) rfl rfl hd hsm hLr hSr kk
def K_mo_canOf_4 (Q : mz_P) (x1 : Int32) (M : dM) : ((Int32 × Int32) ⊕ Int32) → Prop
  | .inl s => mW mX12_canOf 2 Q 4 [some (.ref 66), some (.int x1), some (.int s.1), some (.int s.2), none, none, none] [] M
  | .inr r => mR Q (some (.int r)) M
def K_mo_canOf_25 (Q : mz_P) (x1 : Int32) (x3 : Int32) (x4 : Int32) (M : dM) : ((Int32 × Int32) ⊕ Int32) → Prop
  | .inl s => mW mX12_canOf 2 Q 25 [some (.ref 66), some (.int x1), some (.int s.1), some (.int x3), some (.int x4), some (.int s.2), none] [] M
  | .inr t => mW mX12_canOf 2 Q 86 [some (.ref 66), some (.int x1), some (.int t), some (.int x3), none, none, none] [] M
noncomputable def b_mo_canOf_25_42 (x1 : Int32) (x2 : Int32) (x3 : Int32) (x4 : Int32) (x5 : Int32) (y0 : Int32) (y1 : Int32) (M : dM) : Option ((Int32 × Int32) ⊕ Int32) :=
  if y1 ≤ y0 then
    some (.inr x2)
  else
    if x4 < 0 then
      some (.inr x2)
    else
      gd (vp_in x1 40) <|
      (f_mo_presentAt (gI M 74 x1.toNatClampNeg) x4 x5 M).bind fun v3 =>
      (f_mo_bits v3).bind fun v5 =>
      if v5 = 1 then
        some (.inl ((x2 ||| v3), (x5 + 1)))
      else
        some (.inl (x2, (x5 + 1)))
noncomputable def b_mo_canOf_25_25 (x1 : Int32) (x2 : Int32) (x3 : Int32) (x4 : Int32) (x5 : Int32) (M : dM) : Option ((Int32 × Int32) ⊕ Int32) :=
  if x3 = 0 then
    gd (vp_in x1 40) <|
    b_mo_canOf_25_42 x1 x2 x3 x4 x5 x5 (gI M 77 x1.toNatClampNeg) M
  else
    b_mo_canOf_25_42 x1 x2 x3 x4 x5 x5 24 M
noncomputable def l_mo_canOf_25 (x1 : Int32) (x2 : Int32) (x3 : Int32) (x4 : Int32) (x5 : Int32) (M : dM) : Option Int32 := lpc (fun s => b_mo_canOf_25_25 x1 s.1 x3 x4 s.2 M) (x2, x5)
noncomputable def b_mo_canOf_4_4 (x1 : Int32) (x2 : Int32) (x3 : Int32) (M : dM) : Option ((Int32 × Int32) ⊕ Int32) :=
  if (gI M 66 32) < x3 then
    some (.inr x2)
  else
    gd (vp_in x1 40) <|
    (l_mo_canOf_25 x1 x2 x3 ((gI M 76 x1.toNatClampNeg) - x3) 0 M).bind fun t8 =>
      some (.inl (t8, (x3 + 1)))
noncomputable def l_mo_canOf_4 (x1 : Int32) (x2 : Int32) (x3 : Int32) (M : dM) : Option Int32 := lpc (fun s => b_mo_canOf_4_4 x1 s.1 s.2 M) (x2, x3)
noncomputable def f_mo_canOf (a1 : Int32) (M : dM) : Option Int32 :=
  (l_mo_canOf_4 a1 0 0 M).bind fun r13 => some r13
theorem w_b_mo_canOf_25_42 (x1 : Int32) (x2 : Int32) (x3 : Int32) (x4 : Int32) (x5 : Int32) (y0 : Int32) (y1 : Int32) (M : dM) {Q : mz_P} {o : ((Int32 × Int32) ⊕ Int32)} (hf : b_mo_canOf_25_42 x1 x2 x3 x4 x5 y0 y1 M = some o) (hk : K_mo_canOf_25 Q x1 x3 x4 M o) : mW mX12_canOf 2 Q 42 [some (.ref 66), some (.int x1), some (.int x2), some (.int x3), some (.int x4), some (.int x5), none] [.int y0, .int y1] M := by
  unfold b_mo_canOf_25_42 at hf
  refine y_icmp_ge (t := 86) (n := 45) ⟨dX12_canOf_42, rfl, rfl⟩ (fun (hc : y1 ≤ y0) => ?_) (fun (hc : ¬ (y1 ≤ y0)) => ?_)
  · replace hf := i_t hc hf
    cases hf
    exact y_wk ⟨Or.inr rfl, Or.inr rfl, Or.inr rfl, Or.inr rfl, Or.inl rfl, Or.inl rfl, Or.inr rfl, trivial⟩ hk
  · replace hf := i_f hc hf
    refine y_iload (i := 4) (n := 47) ⟨dX12_canOf_45, rfl⟩ rfl ?_
    refine y_if_lt (t := 86) (n := 50) ⟨dX12_canOf_47, rfl, rfl⟩ (fun (hc : x4 < 0) => ?_) (fun (hc : ¬ (x4 < 0)) => ?_)
    · replace hf := i_t hc hf
      cases hf
      exact y_wk ⟨Or.inr rfl, Or.inr rfl, Or.inr rfl, Or.inr rfl, Or.inl rfl, Or.inl rfl, Or.inr rfl, trivial⟩ hk
    · replace hf := i_f hc hf
      refine y_aload_n (i := 0) (n := 51) ⟨dX12_canOf_50, rfl⟩ rfl ?_
      refine y_aload_n (i := 0) (n := 52) ⟨dX12_canOf_51, rfl⟩ rfl ?_
      refine y_getR (n := 55) ⟨dX12_canOf_52, rfl⟩ kfX12_31 l_66 rfl r_66_10 ?_
      refine y_iload_n (i := 1) (n := 56) ⟨dX12_canOf_55, rfl⟩ rfl ?_
      obtain ⟨hg2, hf⟩ := g_s hf
      refine y_iaload (n := 57) ⟨dX12_canOf_56, rfl⟩ l_74 hg2 ?_
      refine y_iload (i := 4) (n := 59) ⟨dX12_canOf_57, rfl⟩ rfl ?_
      refine y_iload (i := 5) (n := 61) ⟨dX12_canOf_59, rfl⟩ rfl ?_
      obtain ⟨v3, hv4, hf⟩ := b_s hf
      refine c_mo_presentAt (gI M 74 x1.toNatClampNeg) x4 x5 M (n := 64) ⟨dX12_canOf_61, rfl⟩ klX12_231 hv4 (by decide) (Nat.le_of_ble_eq_true rfl) rfl rfl ?_
      refine y_istore (i := 6) (n := 66) (L2 := [some (.ref 66), some (.int x1), some (.int x2), some (.int x3), some (.int x4), some (.int x5), some (.int v3)]) ⟨dX12_canOf_64, rfl⟩ (by decide) rfl rfl ?_
      refine y_iload (i := 6) (n := 68) ⟨dX12_canOf_66, rfl⟩ rfl ?_
      obtain ⟨v5, hv6, hf⟩ := b_s hf
      refine c_mo_bits v3 M (n := 71) ⟨dX12_canOf_68, rfl⟩ klX12_242 hv6 (by decide) (Nat.le_of_ble_eq_true rfl) rfl rfl ?_
      refine y_iconst (n := 72) (v := 1) ⟨dX12_canOf_71, rfl⟩ ki_1 ?_
      refine y_icmp_ne (t := 80) (n := 75) ⟨dX12_canOf_72, rfl, rfl⟩ (fun (hc : ¬ (v5 = 1)) => ?_) (fun (hc : v5 = 1) => ?_)
      · replace hf := i_f hc hf
        refine y_iinc (i := 5) (n := 83) (b := (x5 + 1)) (L2 := [some (.ref 66), some (.int x1), some (.int x2), some (.int x3), some (.int x4), some (.int (x5 + 1)), some (.int v3)]) ⟨dX12_canOf_80, rfl⟩ rfl (by rw [ki_1]) (by decide) rfl rfl ?_
        refine y_goto (t := 25) ⟨dX12_canOf_83, rfl, rfl⟩ ?_
        cases hf
        exact y_wk ⟨Or.inr rfl, Or.inr rfl, Or.inr rfl, Or.inr rfl, Or.inr rfl, Or.inr rfl, Or.inl rfl, trivial⟩ hk
      · replace hf := i_t hc hf
        refine y_iload_n (i := 2) (n := 76) ⟨dX12_canOf_75, rfl⟩ rfl ?_
        refine y_iload (i := 6) (n := 78) ⟨dX12_canOf_76, rfl⟩ rfl ?_
        refine y_ior (n := 79) ⟨dX12_canOf_78, rfl⟩ ?_
        refine y_istore_n (i := 2) (n := 80) (L2 := [some (.ref 66), some (.int x1), some (.int (x2 ||| v3)), some (.int x3), some (.int x4), some (.int x5), some (.int v3)]) ⟨dX12_canOf_79, rfl⟩ (by decide) rfl rfl ?_
        refine y_iinc (i := 5) (n := 83) (b := (x5 + 1)) (L2 := [some (.ref 66), some (.int x1), some (.int (x2 ||| v3)), some (.int x3), some (.int x4), some (.int (x5 + 1)), some (.int v3)]) ⟨dX12_canOf_80, rfl⟩ rfl (by rw [ki_1]) (by decide) rfl rfl ?_
        refine y_goto (t := 25) ⟨dX12_canOf_83, rfl, rfl⟩ ?_
        cases hf
        exact y_wk ⟨Or.inr rfl, Or.inr rfl, Or.inr rfl, Or.inr rfl, Or.inr rfl, Or.inr rfl, Or.inl rfl, trivial⟩ hk
theorem w_b_mo_canOf_25_25 (x1 : Int32) (x2 : Int32) (x3 : Int32) (x4 : Int32) (x5 : Int32) (M : dM) {Q : mz_P} {o : ((Int32 × Int32) ⊕ Int32)} (hf : b_mo_canOf_25_25 x1 x2 x3 x4 x5 M = some o) (hk : K_mo_canOf_25 Q x1 x3 x4 M o) : mW mX12_canOf 2 Q 25 [some (.ref 66), some (.int x1), some (.int x2), some (.int x3), some (.int x4), some (.int x5), none] [] M := by
  unfold b_mo_canOf_25_25 at hf
  refine y_iload (i := 5) (n := 27) ⟨dX12_canOf_25, rfl⟩ rfl ?_
  refine y_iload_n (i := 3) (n := 28) ⟨dX12_canOf_27, rfl⟩ rfl ?_
  refine y_if_ne (t := 40) (n := 31) ⟨dX12_canOf_28, rfl, rfl⟩ (fun (hc : ¬ (x3 = 0)) => ?_) (fun (hc : x3 = 0) => ?_)
  · replace hf := i_f hc hf
    refine y_bipush (n := 42) (v := 24) ⟨dX12_canOf_40, rfl⟩ kb_24 ?_
    exact y_wk ⟨Or.inr rfl, Or.inr rfl, Or.inr rfl, Or.inr rfl, Or.inr rfl, Or.inr rfl, Or.inr rfl, trivial⟩ (w_b_mo_canOf_25_42 x1 x2 x3 x4 x5 x5 24 M hf hk)
  · replace hf := i_t hc hf
    refine y_aload_n (i := 0) (n := 32) ⟨dX12_canOf_31, rfl⟩ rfl ?_
    refine y_getR (n := 35) ⟨dX12_canOf_32, rfl⟩ kfX12_40 l_66 rfl r_66_13 ?_
    refine y_iload_n (i := 1) (n := 36) ⟨dX12_canOf_35, rfl⟩ rfl ?_
    obtain ⟨hg7, hf⟩ := g_s hf
    refine y_iaload (n := 37) ⟨dX12_canOf_36, rfl⟩ l_77 hg7 ?_
    refine y_goto (t := 42) ⟨dX12_canOf_37, rfl, rfl⟩ ?_
    exact y_wk ⟨Or.inr rfl, Or.inr rfl, Or.inr rfl, Or.inr rfl, Or.inr rfl, Or.inr rfl, Or.inr rfl, trivial⟩ (w_b_mo_canOf_25_42 x1 x2 x3 x4 x5 x5 (gI M 77 x1.toNatClampNeg) M hf hk)
theorem wl_mo_canOf_25 (x1 : Int32) (x2 : Int32) (x3 : Int32) (x4 : Int32) (x5 : Int32) (M : dM) {Q : mz_P} {x : Int32} (hf : l_mo_canOf_25 x1 x2 x3 x4 x5 M = some x) (hk : K_mo_canOf_25 Q x1 x3 x4 M (.inr x)) : mW mX12_canOf 2 Q 25 [some (.ref 66), some (.int x1), some (.int x2), some (.int x3), some (.int x4), some (.int x5), none] [] M :=
  lpc_wp (Wh := fun s => mW mX12_canOf 2 Q 25 [some (.ref 66), some (.int x1), some (.int s.1), some (.int x3), some (.int x4), some (.int s.2), none] [] M) (K := K_mo_canOf_25 Q x1 x3 x4 M) (fun _ h => h) (fun s o hb hk => w_b_mo_canOf_25_25 x1 s.1 x3 x4 s.2 M hb hk) hf hk
theorem w_b_mo_canOf_4_4 (x1 : Int32) (x2 : Int32) (x3 : Int32) (M : dM) {Q : mz_P} {o : ((Int32 × Int32) ⊕ Int32)} (hf : b_mo_canOf_4_4 x1 x2 x3 M = some o) (hk : K_mo_canOf_4 Q x1 M o) : mW mX12_canOf 2 Q 4 [some (.ref 66), some (.int x1), some (.int x2), some (.int x3), none, none, none] [] M := by
  unfold b_mo_canOf_4_4 at hf
  refine y_iload_n (i := 3) (n := 5) ⟨dX12_canOf_4, rfl⟩ rfl ?_
  refine y_aload_n (i := 0) (n := 6) ⟨dX12_canOf_5, rfl⟩ rfl ?_
  refine y_getI (n := 9) ⟨dX12_canOf_6, rfl⟩ kfX12_207 l_66 rfl ?_
  refine y_icmp_gt (t := 92) (n := 12) ⟨dX12_canOf_9, rfl, rfl⟩ (fun (hc : (gI M 66 32) < x3) => ?_) (fun (hc : ¬ ((gI M 66 32) < x3)) => ?_)
  · replace hf := i_t hc hf
    refine y_iload_n (i := 2) (n := 93) ⟨dX12_canOf_92, rfl⟩ rfl ?_
    cases hf
    exact y_ireturn (n := 94) ⟨dX12_canOf_93, rfl⟩ rfl rfl hk
  · replace hf := i_f hc hf
    refine y_aload_n (i := 0) (n := 13) ⟨dX12_canOf_12, rfl⟩ rfl ?_
    refine y_getR (n := 16) ⟨dX12_canOf_13, rfl⟩ kfX12_37 l_66 rfl r_66_12 ?_
    refine y_iload_n (i := 1) (n := 17) ⟨dX12_canOf_16, rfl⟩ rfl ?_
    obtain ⟨hg1, hf⟩ := g_s hf
    refine y_iaload (n := 18) ⟨dX12_canOf_17, rfl⟩ l_76 hg1 ?_
    refine y_iload_n (i := 3) (n := 19) ⟨dX12_canOf_18, rfl⟩ rfl ?_
    refine y_isub (n := 20) ⟨dX12_canOf_19, rfl⟩ ?_
    refine y_istore (i := 4) (n := 22) (L2 := [some (.ref 66), some (.int x1), some (.int x2), some (.int x3), some (.int ((gI M 76 x1.toNatClampNeg) - x3)), none, none]) ⟨dX12_canOf_20, rfl⟩ (by decide) rfl rfl ?_
    refine y_iconst (n := 23) (v := 0) ⟨dX12_canOf_22, rfl⟩ ki_0 ?_
    refine y_istore (i := 5) (n := 25) (L2 := [some (.ref 66), some (.int x1), some (.int x2), some (.int x3), some (.int ((gI M 76 x1.toNatClampNeg) - x3)), some (.int 0), none]) ⟨dX12_canOf_23, rfl⟩ (by decide) rfl rfl ?_
    obtain ⟨t8, hl9, hf⟩ := b_s hf
    refine y_wk ⟨Or.inr rfl, Or.inr rfl, Or.inr rfl, Or.inr rfl, Or.inr rfl, Or.inr rfl, Or.inr rfl, trivial⟩ (wl_mo_canOf_25 x1 x2 x3 ((gI M 76 x1.toNatClampNeg) - x3) 0 M hl9 ?_)
    show mW mX12_canOf 2 Q 86 [some (.ref 66), some (.int x1), some (.int t8), some (.int x3), none, none, none] [] M
    refine y_iinc (i := 3) (n := 89) (b := (x3 + 1)) (L2 := [some (.ref 66), some (.int x1), some (.int t8), some (.int (x3 + 1)), some (.int ((gI M 76 x1.toNatClampNeg) - x3)), none, none]) ⟨dX12_canOf_86, rfl⟩ rfl (by rw [ki_1]) (by decide) rfl rfl ?_
    refine y_goto (t := 4) ⟨dX12_canOf_89, rfl, rfl⟩ ?_
    cases hf
    exact y_wk ⟨Or.inr rfl, Or.inr rfl, Or.inr rfl, Or.inr rfl, Or.inl rfl, Or.inr rfl, Or.inr rfl, trivial⟩ hk
theorem wl_mo_canOf_4 (x1 : Int32) (x2 : Int32) (x3 : Int32) (M : dM) {Q : mz_P} {x : Int32} (hf : l_mo_canOf_4 x1 x2 x3 M = some x) (hk : K_mo_canOf_4 Q x1 M (.inr x)) : mW mX12_canOf 2 Q 4 [some (.ref 66), some (.int x1), some (.int x2), some (.int x3), none, none, none] [] M :=
  lpc_wp (Wh := fun s => mW mX12_canOf 2 Q 4 [some (.ref 66), some (.int x1), some (.int s.1), some (.int s.2), none, none, none] [] M) (K := K_mo_canOf_4 Q x1 M) (fun _ h => h) (fun s o hb hk => w_b_mo_canOf_4_4 x1 s.1 s.2 M hb hk) hf hk
theorem ok_mo_canOf (a1 : Int32) (M : dM) {o : Int32} (hf : f_mo_canOf a1 M = some o) : mO mX12_canOf 2 [.ref 66, .int a1] M (some (.int o)) M := by
  refine y_ok (by decide +kernel) (by decide) (L0 := [some (.ref 66), some (.int a1), none, none, none, none, none]) rfl ?_
  have hk := mR_mQ (some (.int o)) M
  generalize mQ _ _ = Q at hk ⊢
  unfold f_mo_canOf at hf
  refine y_iconst (n := 1) (v := 0) ⟨dX12_canOf_0, rfl⟩ ki_0 ?_
  refine y_istore_n (i := 2) (n := 2) (L2 := [some (.ref 66), some (.int a1), some (.int 0), none, none, none, none]) ⟨dX12_canOf_1, rfl⟩ (by decide) rfl rfl ?_
  refine y_iconst (n := 3) (v := 0) ⟨dX12_canOf_2, rfl⟩ ki_0 ?_
  refine y_istore_n (i := 3) (n := 4) (L2 := [some (.ref 66), some (.int a1), some (.int 0), some (.int 0), none, none, none]) ⟨dX12_canOf_3, rfl⟩ (by decide) rfl rfl ?_
  obtain ⟨r13, hl12, hf⟩ := b_s hf
  cases hf
  exact y_wk ⟨Or.inr rfl, Or.inr rfl, Or.inr rfl, Or.inr rfl, Or.inr rfl, Or.inr rfl, Or.inr rfl, trivial⟩ (wl_mo_canOf_4 a1 0 0 M hl12 hk)
theorem c_mo_canOf (a1 : Int32) (M : dM) {o : Int32} {y : mz_M} {d : Nat} {Q : mz_P} {pc n i : Nat} {L : List (Option Value)} {st : List Value} (h : mz_d y.2.1 pc n 3 (.invokevirtual i)) (hl : mz_ml y.1.cls i yX12_canOf) (hf : f_mo_canOf a1 M = some o) (hd : 2 + 1 ≤ d) (hsm : (st.map (fun v => v.category)).sum ≤ 8) (hLr : mz_rL 133 L = true) (hSr : mz_rS 133 st = true) (kk : mW y d Q n L (.int o :: st) M) : mW y d Q pc L (.int a1 :: .ref 66 :: st) M :=
  y_callV kmX12_canOf kvX12_canOf l_66 (by decide +kernel) (by decide +kernel) h hl (ok_mo_canOf a1 M hf) (vs := [.int a1]) rfl rfl hd hsm hLr hSr kk
noncomputable def f_mo_can (a1 : Int32) (M : dM) : Option (Int32 × dM) :=
  if (f_mo_isFind a1 (sI M 66 0 0)) = true then
    (f_mo_canOf a1 (sI M 66 0 0)).bind fun v1 =>
    some (v1, (sI M 66 0 0))
  else
    some ((-1), (sI M 66 0 0))
theorem ok_mo_can (a1 : Int32) (M : dM) {o : (Int32 × dM)} (hf : f_mo_can a1 M = some o) : mO mX12_can 3 [.ref 66, .int a1] M (some (.int o.1)) o.2 := by
  refine y_ok (by decide +kernel) (by decide) (L0 := [some (.ref 66), some (.int a1)]) rfl ?_
  have hk := mR_mQ (some (.int o.1)) o.2
  generalize mQ _ _ = Q at hk ⊢
  unfold f_mo_can at hf
  refine y_aload_n (i := 0) (n := 1) ⟨dX12_can_0, rfl⟩ rfl ?_
  refine y_iconst (n := 2) (v := 0) ⟨dX12_can_1, rfl⟩ ki_0 ?_
  refine y_putI (n := 5) ⟨dX12_can_2, rfl⟩ kfX12_214 l_66 (by decide +kernel) rfl ?_
  refine y_aload_n (i := 0) (n := 6) ⟨dX12_can_5, rfl⟩ rfl ?_
  refine y_iload_n (i := 1) (n := 7) ⟨dX12_can_6, rfl⟩ rfl ?_
  refine c_mo_isFind a1 (sI M 66 0 0) (n := 10) ⟨dX12_can_7, rfl⟩ klX12_249 rfl (by decide) (Nat.le_of_ble_eq_true rfl) rfl rfl ?_
  refine y_if_eq (t := 21) (n := 13) ⟨dX12_can_10, rfl, rfl⟩ (fun h0 => ?_) (fun h0 => ?_)
  · have hc := bI_0 h0
    replace hf := i_f hc hf
    refine y_iconst (n := 22) (v := (-1)) ⟨dX12_can_21, rfl⟩ ki_m1 ?_
    cases hf
    exact y_ireturn (n := 23) ⟨dX12_can_22, rfl⟩ rfl rfl hk
  · have hc := bI_1 h0
    replace hf := i_t hc hf
    refine y_aload_n (i := 0) (n := 14) ⟨dX12_can_13, rfl⟩ rfl ?_
    refine y_iload_n (i := 1) (n := 15) ⟨dX12_can_14, rfl⟩ rfl ?_
    obtain ⟨v1, hv2, hf⟩ := b_s hf
    refine c_mo_canOf a1 (sI M 66 0 0) (n := 18) ⟨dX12_can_15, rfl⟩ klX12_478 hv2 (by decide) (Nat.le_of_ble_eq_true rfl) rfl rfl ?_
    refine y_goto (t := 22) ⟨dX12_can_18, rfl, rfl⟩ ?_
    cases hf
    exact y_ireturn (n := 23) ⟨dX12_can_22, rfl⟩ rfl rfl hk
theorem c_mo_can (a1 : Int32) (M : dM) {o : (Int32 × dM)} {y : mz_M} {d : Nat} {Q : mz_P} {pc n i : Nat} {L : List (Option Value)} {st : List Value} (h : mz_d y.2.1 pc n 3 (.invokevirtual i)) (hl : mz_ml y.1.cls i yX12_can) (hf : f_mo_can a1 M = some o) (hd : 3 + 1 ≤ d) (hsm : (st.map (fun v => v.category)).sum ≤ 8) (hLr : mz_rL 133 L = true) (hSr : mz_rS 133 st = true) (kk : mW y d Q n L (.int o.1 :: st) o.2) : mW y d Q pc L (.int a1 :: .ref 66 :: st) M :=
  y_callV kmX12_can kvX12_can l_66 (by decide +kernel) (by decide +kernel) h hl (ok_mo_can a1 M hf) (vs := [.int a1]) rfl rfl hd hsm hLr hSr kk
noncomputable def f_mo_seen (a1 : Int32) (a2 : Int32) (a3 : Int32) (M : dM) : Option (Bool × dM) :=
  if (f_mo_isHand a1) = true then
    if (f_mo_isSite a2) = true then
      if (f_mo_within a3 0 999) = true then
        if (gI (sI M 66 0 0) 66 55) = 20 then
          some (false, (sI M 66 0 0))
        else
          gd (vp_in (gI (sI M 66 0 0) 66 55) 20) <|
          gd (vp_in (gI (sI (sI M 66 0 0) 101 (gI (sI M 66 0 0) 66 55).toNatClampNeg a1) 66 55) 20) <|
          gd (vp_in (gI (sI (sI (sI M 66 0 0) 101 (gI (sI M 66 0 0) 66 55).toNatClampNeg a1) 102 (gI (sI (sI M 66 0 0) 101 (gI (sI M 66 0 0) 66 55).toNatClampNeg a1) 66 55).toNatClampNeg a2) 66 55) 20) <|
          some (true, (sI (sI (sI (sI (sI M 66 0 0) 101 (gI (sI M 66 0 0) 66 55).toNatClampNeg a1) 102 (gI (sI (sI M 66 0 0) 101 (gI (sI M 66 0 0) 66 55).toNatClampNeg a1) 66 55).toNatClampNeg a2) 103 (gI (sI (sI (sI M 66 0 0) 101 (gI (sI M 66 0 0) 66 55).toNatClampNeg a1) 102 (gI (sI (sI M 66 0 0) 101 (gI (sI M 66 0 0) 66 55).toNatClampNeg a1) 66 55).toNatClampNeg a2) 66 55).toNatClampNeg a3) 66 55 ((gI (sI (sI (sI (sI M 66 0 0) 101 (gI (sI M 66 0 0) 66 55).toNatClampNeg a1) 102 (gI (sI (sI M 66 0 0) 101 (gI (sI M 66 0 0) 66 55).toNatClampNeg a1) 66 55).toNatClampNeg a2) 103 (gI (sI (sI (sI M 66 0 0) 101 (gI (sI M 66 0 0) 66 55).toNatClampNeg a1) 102 (gI (sI (sI M 66 0 0) 101 (gI (sI M 66 0 0) 66 55).toNatClampNeg a1) 66 55).toNatClampNeg a2) 66 55).toNatClampNeg a3) 66 55) + 1)))
      else
        some (false, (sI M 66 0 0))
    else
      some (false, (sI M 66 0 0))
  else
    some (false, (sI M 66 0 0))
theorem ok_mo_seen (a1 : Int32) (a2 : Int32) (a3 : Int32) (M : dM) {o : (Bool × dM)} (hf : f_mo_seen a1 a2 a3 M = some o) : mO mX12_seen 2 [.ref 66, .int a1, .int a2, .int a3] M (some (.int (bI o.1))) o.2 := by
  refine y_ok (by decide +kernel) (by decide) (L0 := [some (.ref 66), some (.int a1), some (.int a2), some (.int a3)]) rfl ?_
  have hk := mR_mQ (some (.int (bI o.1))) o.2
  generalize mQ _ _ = Q at hk ⊢
  unfold f_mo_seen at hf
  refine y_aload_n (i := 0) (n := 1) ⟨dX12_seen_0, rfl⟩ rfl ?_
  refine y_iconst (n := 2) (v := 0) ⟨dX12_seen_1, rfl⟩ ki_0 ?_
  refine y_putI (n := 5) ⟨dX12_seen_2, rfl⟩ kfX12_214 l_66 (by decide +kernel) rfl ?_
  refine y_iload_n (i := 1) (n := 6) ⟨dX12_seen_5, rfl⟩ rfl ?_
  refine c_mo_isHand a1 (sI M 66 0 0) (n := 9) ⟨dX12_seen_6, rfl⟩ klX12_225 rfl (by decide) (Nat.le_of_ble_eq_true rfl) rfl rfl ?_
  refine y_if_eq (t := 39) (n := 12) ⟨dX12_seen_9, rfl, rfl⟩ (fun h0 => ?_) (fun h0 => ?_)
  · have hc := bI_0 h0
    replace hf := i_f hc hf
    refine y_iconst (n := 40) (v := 0) ⟨dX12_seen_39, rfl⟩ ki_0 ?_
    cases hf
    exact y_ireturn (n := 41) ⟨dX12_seen_40, rfl⟩ rfl rfl hk
  · have hc := bI_1 h0
    replace hf := i_t hc hf
    refine y_iload_n (i := 2) (n := 13) ⟨dX12_seen_12, rfl⟩ rfl ?_
    refine c_mo_isSite a2 (sI M 66 0 0) (n := 16) ⟨dX12_seen_13, rfl⟩ klX12_217 rfl (by decide) (Nat.le_of_ble_eq_true rfl) rfl rfl ?_
    refine y_if_eq (t := 39) (n := 19) ⟨dX12_seen_16, rfl, rfl⟩ (fun h0 => ?_) (fun h0 => ?_)
    · have hc := bI_0 h0
      replace hf := i_f hc hf
      refine y_iconst (n := 40) (v := 0) ⟨dX12_seen_39, rfl⟩ ki_0 ?_
      cases hf
      exact y_ireturn (n := 41) ⟨dX12_seen_40, rfl⟩ rfl rfl hk
    · have hc := bI_1 h0
      replace hf := i_t hc hf
      refine y_iload_n (i := 3) (n := 20) ⟨dX12_seen_19, rfl⟩ rfl ?_
      refine y_iconst (n := 21) (v := 0) ⟨dX12_seen_20, rfl⟩ ki_0 ?_
      refine y_sipush (n := 24) (v := 999) ⟨dX12_seen_21, rfl⟩ ks_999 ?_
      refine c_mo_within a3 0 999 (sI M 66 0 0) (n := 27) ⟨dX12_seen_24, rfl⟩ klX12_221 rfl (by decide) (Nat.le_of_ble_eq_true rfl) rfl rfl ?_
      refine y_if_eq (t := 39) (n := 30) ⟨dX12_seen_27, rfl, rfl⟩ (fun h0 => ?_) (fun h0 => ?_)
      · have hc := bI_0 h0
        replace hf := i_f hc hf
        refine y_iconst (n := 40) (v := 0) ⟨dX12_seen_39, rfl⟩ ki_0 ?_
        cases hf
        exact y_ireturn (n := 41) ⟨dX12_seen_40, rfl⟩ rfl rfl hk
      · have hc := bI_1 h0
        replace hf := i_t hc hf
        refine y_aload_n (i := 0) (n := 31) ⟨dX12_seen_30, rfl⟩ rfl ?_
        refine y_getI (n := 34) ⟨dX12_seen_31, rfl⟩ kfX12_475 l_66 rfl ?_
        refine y_bipush (n := 36) (v := 20) ⟨dX12_seen_34, rfl⟩ kb_20 ?_
        refine y_icmp_ne (t := 41) (n := 39) ⟨dX12_seen_36, rfl, rfl⟩ (fun (hc : ¬ ((gI (sI M 66 0 0) 66 55) = 20)) => ?_) (fun (hc : (gI (sI M 66 0 0) 66 55) = 20) => ?_)
        · replace hf := i_f hc hf
          refine y_aload_n (i := 0) (n := 42) ⟨dX12_seen_41, rfl⟩ rfl ?_
          refine y_getR (n := 45) ⟨dX12_seen_42, rfl⟩ kfX12_113 l_66 rfl r_66_56 ?_
          refine y_aload_n (i := 0) (n := 46) ⟨dX12_seen_45, rfl⟩ rfl ?_
          refine y_getI (n := 49) ⟨dX12_seen_46, rfl⟩ kfX12_475 l_66 rfl ?_
          refine y_iload_n (i := 1) (n := 50) ⟨dX12_seen_49, rfl⟩ rfl ?_
          obtain ⟨hg1, hf⟩ := g_s hf
          refine y_iastore (n := 51) ⟨dX12_seen_50, rfl⟩ l_101 hg1 ?_
          refine y_aload_n (i := 0) (n := 52) ⟨dX12_seen_51, rfl⟩ rfl ?_
          refine y_getR (n := 55) ⟨dX12_seen_52, rfl⟩ kfX12_116 l_66 rfl r_66_57 ?_
          refine y_aload_n (i := 0) (n := 56) ⟨dX12_seen_55, rfl⟩ rfl ?_
          refine y_getI (n := 59) ⟨dX12_seen_56, rfl⟩ kfX12_475 l_66 rfl ?_
          refine y_iload_n (i := 2) (n := 60) ⟨dX12_seen_59, rfl⟩ rfl ?_
          obtain ⟨hg2, hf⟩ := g_s hf
          refine y_iastore (n := 61) ⟨dX12_seen_60, rfl⟩ l_102 hg2 ?_
          refine y_aload_n (i := 0) (n := 62) ⟨dX12_seen_61, rfl⟩ rfl ?_
          refine y_getR (n := 65) ⟨dX12_seen_62, rfl⟩ kfX12_119 l_66 rfl r_66_58 ?_
          refine y_aload_n (i := 0) (n := 66) ⟨dX12_seen_65, rfl⟩ rfl ?_
          refine y_getI (n := 69) ⟨dX12_seen_66, rfl⟩ kfX12_475 l_66 rfl ?_
          refine y_iload_n (i := 3) (n := 70) ⟨dX12_seen_69, rfl⟩ rfl ?_
          obtain ⟨hg3, hf⟩ := g_s hf
          refine y_iastore (n := 71) ⟨dX12_seen_70, rfl⟩ l_103 hg3 ?_
          refine y_aload_n (i := 0) (n := 72) ⟨dX12_seen_71, rfl⟩ rfl ?_
          refine y_dup_r (n := 73) ⟨dX12_seen_72, rfl⟩ ?_
          refine y_getI (n := 76) ⟨dX12_seen_73, rfl⟩ kfX12_475 l_66 rfl ?_
          refine y_iconst (n := 77) (v := 1) ⟨dX12_seen_76, rfl⟩ ki_1 ?_
          refine y_iadd (n := 78) ⟨dX12_seen_77, rfl⟩ ?_
          refine y_putI (n := 81) ⟨dX12_seen_78, rfl⟩ kfX12_475 l_66 (by decide +kernel) rfl ?_
          refine y_iconst (n := 82) (v := 1) ⟨dX12_seen_81, rfl⟩ ki_1 ?_
          cases hf
          exact y_ireturn (n := 83) ⟨dX12_seen_82, rfl⟩ rfl rfl hk
        · replace hf := i_t hc hf
          refine y_iconst (n := 40) (v := 0) ⟨dX12_seen_39, rfl⟩ ki_0 ?_
          cases hf
          exact y_ireturn (n := 41) ⟨dX12_seen_40, rfl⟩ rfl rfl hk
theorem c_mo_seen (a1 : Int32) (a2 : Int32) (a3 : Int32) (M : dM) {o : (Bool × dM)} {y : mz_M} {d : Nat} {Q : mz_P} {pc n i : Nat} {L : List (Option Value)} {st : List Value} (h : mz_d y.2.1 pc n 3 (.invokevirtual i)) (hl : mz_ml y.1.cls i yX12_seen) (hf : f_mo_seen a1 a2 a3 M = some o) (hd : 2 + 1 ≤ d) (hsm : (st.map (fun v => v.category)).sum ≤ 8) (hLr : mz_rL 133 L = true) (hSr : mz_rS 133 st = true) (kk : mW y d Q n L (.int (bI o.1) :: st) o.2) : mW y d Q pc L (.int a3 :: .int a2 :: .int a1 :: .ref 66 :: st) M :=
  y_callV kmX12_seen kvX12_seen l_66 (by decide +kernel) (by decide +kernel) h hl (ok_mo_seen a1 a2 a3 M hf) (vs := [.int a1, .int a2, .int a3]) rfl rfl hd hsm hLr hSr kk
def K_mo_seenOf_5 (Q : mz_P) (x1 : Int32) (x2 : Int32) (M : dM) : ((Int32 × Int32) ⊕ Int32) → Prop
  | .inl s => mW mX12_seenOf 1 Q 5 [some (.ref 66), some (.int x1), some (.int x2), some (.int s.1), some (.int s.2)] [] M
  | .inr r => mR Q (some (.int r)) M
noncomputable def b_mo_seenOf_5_5 (x1 : Int32) (x2 : Int32) (x3 : Int32) (x4 : Int32) (M : dM) : Option ((Int32 × Int32) ⊕ Int32) :=
  if (gI M 66 55) ≤ x4 then
    some (.inr x3)
  else
    gd (vp_in x4 20) <|
    gd (vp_in x1 40) <|
    if (gI M 102 x4.toNatClampNeg) = (gI M 74 x1.toNatClampNeg) then
      if (gI M 76 x1.toNatClampNeg) < (gI M 103 x4.toNatClampNeg) then
        some (.inl (x3, (x4 + 1)))
      else
        if ((gI M 103 x4.toNatClampNeg) + (gI M 66 32)) < (gI M 76 x1.toNatClampNeg) then
          some (.inl (x3, (x4 + 1)))
        else
          some (.inl ((x3 ||| (x2 &&& ((1 : Int32) <<< ((gI M 101 x4.toNatClampNeg) &&& 31)))), (x4 + 1)))
    else
      some (.inl (x3, (x4 + 1)))
noncomputable def l_mo_seenOf_5 (x1 : Int32) (x2 : Int32) (x3 : Int32) (x4 : Int32) (M : dM) : Option Int32 := lpc (fun s => b_mo_seenOf_5_5 x1 x2 s.1 s.2 M) (x3, x4)
noncomputable def f_mo_seenOf (a1 : Int32) (a2 : Int32) (M : dM) : Option Int32 :=
  (l_mo_seenOf_5 a1 a2 0 0 M).bind fun r5 => some r5
theorem w_b_mo_seenOf_5_5 (x1 : Int32) (x2 : Int32) (x3 : Int32) (x4 : Int32) (M : dM) {Q : mz_P} {o : ((Int32 × Int32) ⊕ Int32)} (hf : b_mo_seenOf_5_5 x1 x2 x3 x4 M = some o) (hk : K_mo_seenOf_5 Q x1 x2 M o) : mW mX12_seenOf 1 Q 5 [some (.ref 66), some (.int x1), some (.int x2), some (.int x3), some (.int x4)] [] M := by
  unfold b_mo_seenOf_5_5 at hf
  refine y_iload (i := 4) (n := 7) ⟨dX12_seenOf_5, rfl⟩ rfl ?_
  refine y_aload_n (i := 0) (n := 8) ⟨dX12_seenOf_7, rfl⟩ rfl ?_
  refine y_getI (n := 11) ⟨dX12_seenOf_8, rfl⟩ kfX12_475 l_66 rfl ?_
  refine y_icmp_ge (t := 87) (n := 14) ⟨dX12_seenOf_11, rfl, rfl⟩ (fun (hc : (gI M 66 55) ≤ x4) => ?_) (fun (hc : ¬ ((gI M 66 55) ≤ x4)) => ?_)
  · replace hf := i_t hc hf
    refine y_iload_n (i := 3) (n := 88) ⟨dX12_seenOf_87, rfl⟩ rfl ?_
    cases hf
    exact y_ireturn (n := 89) ⟨dX12_seenOf_88, rfl⟩ rfl rfl hk
  · replace hf := i_f hc hf
    refine y_aload_n (i := 0) (n := 15) ⟨dX12_seenOf_14, rfl⟩ rfl ?_
    refine y_getR (n := 18) ⟨dX12_seenOf_15, rfl⟩ kfX12_116 l_66 rfl r_66_57 ?_
    refine y_iload (i := 4) (n := 20) ⟨dX12_seenOf_18, rfl⟩ rfl ?_
    obtain ⟨hg1, hf⟩ := g_s hf
    refine y_iaload (n := 21) ⟨dX12_seenOf_20, rfl⟩ l_102 hg1 ?_
    refine y_aload_n (i := 0) (n := 22) ⟨dX12_seenOf_21, rfl⟩ rfl ?_
    refine y_getR (n := 25) ⟨dX12_seenOf_22, rfl⟩ kfX12_31 l_66 rfl r_66_10 ?_
    refine y_iload_n (i := 1) (n := 26) ⟨dX12_seenOf_25, rfl⟩ rfl ?_
    obtain ⟨hg2, hf⟩ := g_s hf
    refine y_iaload (n := 27) ⟨dX12_seenOf_26, rfl⟩ l_74 hg2 ?_
    refine y_icmp_ne (t := 81) (n := 30) ⟨dX12_seenOf_27, rfl, rfl⟩ (fun (hc : ¬ ((gI M 102 x4.toNatClampNeg) = (gI M 74 x1.toNatClampNeg))) => ?_) (fun (hc : (gI M 102 x4.toNatClampNeg) = (gI M 74 x1.toNatClampNeg)) => ?_)
    · replace hf := i_f hc hf
      refine y_iinc (i := 4) (n := 84) (b := (x4 + 1)) (L2 := [some (.ref 66), some (.int x1), some (.int x2), some (.int x3), some (.int (x4 + 1))]) ⟨dX12_seenOf_81, rfl⟩ rfl (by rw [ki_1]) (by decide) rfl rfl ?_
      refine y_goto (t := 5) ⟨dX12_seenOf_84, rfl, rfl⟩ ?_
      cases hf
      exact y_wk ⟨Or.inr rfl, Or.inr rfl, Or.inr rfl, Or.inr rfl, Or.inr rfl, trivial⟩ hk
    · replace hf := i_t hc hf
      refine y_aload_n (i := 0) (n := 31) ⟨dX12_seenOf_30, rfl⟩ rfl ?_
      refine y_getR (n := 34) ⟨dX12_seenOf_31, rfl⟩ kfX12_119 l_66 rfl r_66_58 ?_
      refine y_iload (i := 4) (n := 36) ⟨dX12_seenOf_34, rfl⟩ rfl ?_
      refine y_iaload (n := 37) ⟨dX12_seenOf_36, rfl⟩ l_103 hg1 ?_
      refine y_aload_n (i := 0) (n := 38) ⟨dX12_seenOf_37, rfl⟩ rfl ?_
      refine y_getR (n := 41) ⟨dX12_seenOf_38, rfl⟩ kfX12_37 l_66 rfl r_66_12 ?_
      refine y_iload_n (i := 1) (n := 42) ⟨dX12_seenOf_41, rfl⟩ rfl ?_
      refine y_iaload (n := 43) ⟨dX12_seenOf_42, rfl⟩ l_76 hg2 ?_
      refine y_icmp_gt (t := 81) (n := 46) ⟨dX12_seenOf_43, rfl, rfl⟩ (fun (hc : (gI M 76 x1.toNatClampNeg) < (gI M 103 x4.toNatClampNeg)) => ?_) (fun (hc : ¬ ((gI M 76 x1.toNatClampNeg) < (gI M 103 x4.toNatClampNeg))) => ?_)
      · replace hf := i_t hc hf
        refine y_iinc (i := 4) (n := 84) (b := (x4 + 1)) (L2 := [some (.ref 66), some (.int x1), some (.int x2), some (.int x3), some (.int (x4 + 1))]) ⟨dX12_seenOf_81, rfl⟩ rfl (by rw [ki_1]) (by decide) rfl rfl ?_
        refine y_goto (t := 5) ⟨dX12_seenOf_84, rfl, rfl⟩ ?_
        cases hf
        exact y_wk ⟨Or.inr rfl, Or.inr rfl, Or.inr rfl, Or.inr rfl, Or.inr rfl, trivial⟩ hk
      · replace hf := i_f hc hf
        refine y_aload_n (i := 0) (n := 47) ⟨dX12_seenOf_46, rfl⟩ rfl ?_
        refine y_getR (n := 50) ⟨dX12_seenOf_47, rfl⟩ kfX12_119 l_66 rfl r_66_58 ?_
        refine y_iload (i := 4) (n := 52) ⟨dX12_seenOf_50, rfl⟩ rfl ?_
        refine y_iaload (n := 53) ⟨dX12_seenOf_52, rfl⟩ l_103 hg1 ?_
        refine y_aload_n (i := 0) (n := 54) ⟨dX12_seenOf_53, rfl⟩ rfl ?_
        refine y_getI (n := 57) ⟨dX12_seenOf_54, rfl⟩ kfX12_207 l_66 rfl ?_
        refine y_iadd (n := 58) ⟨dX12_seenOf_57, rfl⟩ ?_
        refine y_aload_n (i := 0) (n := 59) ⟨dX12_seenOf_58, rfl⟩ rfl ?_
        refine y_getR (n := 62) ⟨dX12_seenOf_59, rfl⟩ kfX12_37 l_66 rfl r_66_12 ?_
        refine y_iload_n (i := 1) (n := 63) ⟨dX12_seenOf_62, rfl⟩ rfl ?_
        refine y_iaload (n := 64) ⟨dX12_seenOf_63, rfl⟩ l_76 hg2 ?_
        refine y_icmp_lt (t := 81) (n := 67) ⟨dX12_seenOf_64, rfl, rfl⟩ (fun (hc : ((gI M 103 x4.toNatClampNeg) + (gI M 66 32)) < (gI M 76 x1.toNatClampNeg)) => ?_) (fun (hc : ¬ (((gI M 103 x4.toNatClampNeg) + (gI M 66 32)) < (gI M 76 x1.toNatClampNeg))) => ?_)
        · replace hf := i_t hc hf
          refine y_iinc (i := 4) (n := 84) (b := (x4 + 1)) (L2 := [some (.ref 66), some (.int x1), some (.int x2), some (.int x3), some (.int (x4 + 1))]) ⟨dX12_seenOf_81, rfl⟩ rfl (by rw [ki_1]) (by decide) rfl rfl ?_
          refine y_goto (t := 5) ⟨dX12_seenOf_84, rfl, rfl⟩ ?_
          cases hf
          exact y_wk ⟨Or.inr rfl, Or.inr rfl, Or.inr rfl, Or.inr rfl, Or.inr rfl, trivial⟩ hk
        · replace hf := i_f hc hf
          refine y_iload_n (i := 3) (n := 68) ⟨dX12_seenOf_67, rfl⟩ rfl ?_
          refine y_iload_n (i := 2) (n := 69) ⟨dX12_seenOf_68, rfl⟩ rfl ?_
          refine y_iconst (n := 70) (v := 1) ⟨dX12_seenOf_69, rfl⟩ ki_1 ?_
          refine y_aload_n (i := 0) (n := 71) ⟨dX12_seenOf_70, rfl⟩ rfl ?_
          refine y_getR (n := 74) ⟨dX12_seenOf_71, rfl⟩ kfX12_113 l_66 rfl r_66_56 ?_
          refine y_iload (i := 4) (n := 76) ⟨dX12_seenOf_74, rfl⟩ rfl ?_
          refine y_iaload (n := 77) ⟨dX12_seenOf_76, rfl⟩ l_101 hg1 ?_
          refine y_ishl (n := 78) ⟨dX12_seenOf_77, rfl⟩ ?_
          refine y_iand (n := 79) ⟨dX12_seenOf_78, rfl⟩ ?_
          refine y_ior (n := 80) ⟨dX12_seenOf_79, rfl⟩ ?_
          refine y_istore_n (i := 3) (n := 81) (L2 := [some (.ref 66), some (.int x1), some (.int x2), some (.int (x3 ||| (x2 &&& ((1 : Int32) <<< ((gI M 101 x4.toNatClampNeg) &&& 31))))), some (.int x4)]) ⟨dX12_seenOf_80, rfl⟩ (by decide) rfl rfl ?_
          refine y_iinc (i := 4) (n := 84) (b := (x4 + 1)) (L2 := [some (.ref 66), some (.int x1), some (.int x2), some (.int (x3 ||| (x2 &&& ((1 : Int32) <<< ((gI M 101 x4.toNatClampNeg) &&& 31))))), some (.int (x4 + 1))]) ⟨dX12_seenOf_81, rfl⟩ rfl (by rw [ki_1]) (by decide) rfl rfl ?_
          refine y_goto (t := 5) ⟨dX12_seenOf_84, rfl, rfl⟩ ?_
          cases hf
          exact y_wk ⟨Or.inr rfl, Or.inr rfl, Or.inr rfl, Or.inr rfl, Or.inr rfl, trivial⟩ hk
theorem wl_mo_seenOf_5 (x1 : Int32) (x2 : Int32) (x3 : Int32) (x4 : Int32) (M : dM) {Q : mz_P} {x : Int32} (hf : l_mo_seenOf_5 x1 x2 x3 x4 M = some x) (hk : K_mo_seenOf_5 Q x1 x2 M (.inr x)) : mW mX12_seenOf 1 Q 5 [some (.ref 66), some (.int x1), some (.int x2), some (.int x3), some (.int x4)] [] M :=
  lpc_wp (Wh := fun s => mW mX12_seenOf 1 Q 5 [some (.ref 66), some (.int x1), some (.int x2), some (.int s.1), some (.int s.2)] [] M) (K := K_mo_seenOf_5 Q x1 x2 M) (fun _ h => h) (fun s o hb hk => w_b_mo_seenOf_5_5 x1 x2 s.1 s.2 M hb hk) hf hk
theorem ok_mo_seenOf (a1 : Int32) (a2 : Int32) (M : dM) {o : Int32} (hf : f_mo_seenOf a1 a2 M = some o) : mO mX12_seenOf 1 [.ref 66, .int a1, .int a2] M (some (.int o)) M := by
  refine y_ok (by decide +kernel) (by decide) (L0 := [some (.ref 66), some (.int a1), some (.int a2), none, none]) rfl ?_
  have hk := mR_mQ (some (.int o)) M
  generalize mQ _ _ = Q at hk ⊢
  unfold f_mo_seenOf at hf
  refine y_iconst (n := 1) (v := 0) ⟨dX12_seenOf_0, rfl⟩ ki_0 ?_
  refine y_istore_n (i := 3) (n := 2) (L2 := [some (.ref 66), some (.int a1), some (.int a2), some (.int 0), none]) ⟨dX12_seenOf_1, rfl⟩ (by decide) rfl rfl ?_
  refine y_iconst (n := 3) (v := 0) ⟨dX12_seenOf_2, rfl⟩ ki_0 ?_
  refine y_istore (i := 4) (n := 5) (L2 := [some (.ref 66), some (.int a1), some (.int a2), some (.int 0), some (.int 0)]) ⟨dX12_seenOf_3, rfl⟩ (by decide) rfl rfl ?_
  obtain ⟨r5, hl4, hf⟩ := b_s hf
  cases hf
  exact y_wk ⟨Or.inr rfl, Or.inr rfl, Or.inr rfl, Or.inr rfl, Or.inr rfl, trivial⟩ (wl_mo_seenOf_5 a1 a2 0 0 M hl4 hk)
theorem c_mo_seenOf (a1 : Int32) (a2 : Int32) (M : dM) {o : Int32} {y : mz_M} {d : Nat} {Q : mz_P} {pc n i : Nat} {L : List (Option Value)} {st : List Value} (h : mz_d y.2.1 pc n 3 (.invokevirtual i)) (hl : mz_ml y.1.cls i yX12_seenOf) (hf : f_mo_seenOf a1 a2 M = some o) (hd : 1 + 1 ≤ d) (hsm : (st.map (fun v => v.category)).sum ≤ 8) (hLr : mz_rL 133 L = true) (hSr : mz_rS 133 st = true) (kk : mW y d Q n L (.int o :: st) M) : mW y d Q pc L (.int a2 :: .int a1 :: .ref 66 :: st) M :=
  y_callV kmX12_seenOf kvX12_seenOf l_66 (by decide +kernel) (by decide +kernel) h hl (ok_mo_seenOf a1 a2 M hf) (vs := [.int a1, .int a2]) rfl rfl hd hsm hLr hSr kk
noncomputable def f_mo_may (a1 : Int32) (M : dM) : Option (Int32 × dM) :=
  if (f_mo_isFind a1 (sI M 66 0 0)) = true then
    (f_mo_canOf a1 (sI M 66 0 0)).bind fun v1 =>
    (f_mo_seenOf a1 v1 (sI M 66 0 0)).bind fun v3 =>
    if v3 = 0 then
      some (v1, (sI M 66 0 0))
    else
      some (v3, (sI M 66 0 0))
  else
    some ((-1), (sI M 66 0 0))
theorem ok_mo_may (a1 : Int32) (M : dM) {o : (Int32 × dM)} (hf : f_mo_may a1 M = some o) : mO mX12_may 3 [.ref 66, .int a1] M (some (.int o.1)) o.2 := by
  refine y_ok (by decide +kernel) (by decide) (L0 := [some (.ref 66), some (.int a1), none, none]) rfl ?_
  have hk := mR_mQ (some (.int o.1)) o.2
  generalize mQ _ _ = Q at hk ⊢
  unfold f_mo_may at hf
  refine y_aload_n (i := 0) (n := 1) ⟨dX12_may_0, rfl⟩ rfl ?_
  refine y_iconst (n := 2) (v := 0) ⟨dX12_may_1, rfl⟩ ki_0 ?_
  refine y_putI (n := 5) ⟨dX12_may_2, rfl⟩ kfX12_214 l_66 (by decide +kernel) rfl ?_
  refine y_aload_n (i := 0) (n := 6) ⟨dX12_may_5, rfl⟩ rfl ?_
  refine y_iload_n (i := 1) (n := 7) ⟨dX12_may_6, rfl⟩ rfl ?_
  refine c_mo_isFind a1 (sI M 66 0 0) (n := 10) ⟨dX12_may_7, rfl⟩ klX12_249 rfl (by decide) (Nat.le_of_ble_eq_true rfl) rfl rfl ?_
  refine y_if_ne (t := 15) (n := 13) ⟨dX12_may_10, rfl, rfl⟩ (fun h0 => ?_) (fun h0 => ?_)
  · have hc := bI_1 h0
    replace hf := i_t hc hf
    refine y_aload_n (i := 0) (n := 16) ⟨dX12_may_15, rfl⟩ rfl ?_
    refine y_iload_n (i := 1) (n := 17) ⟨dX12_may_16, rfl⟩ rfl ?_
    obtain ⟨v1, hv2, hf⟩ := b_s hf
    refine c_mo_canOf a1 (sI M 66 0 0) (n := 20) ⟨dX12_may_17, rfl⟩ klX12_478 hv2 (by decide) (Nat.le_of_ble_eq_true rfl) rfl rfl ?_
    refine y_istore_n (i := 2) (n := 21) (L2 := [some (.ref 66), some (.int a1), some (.int v1), none]) ⟨dX12_may_20, rfl⟩ (by decide) rfl rfl ?_
    refine y_aload_n (i := 0) (n := 22) ⟨dX12_may_21, rfl⟩ rfl ?_
    refine y_iload_n (i := 1) (n := 23) ⟨dX12_may_22, rfl⟩ rfl ?_
    refine y_iload_n (i := 2) (n := 24) ⟨dX12_may_23, rfl⟩ rfl ?_
    obtain ⟨v3, hv4, hf⟩ := b_s hf
    refine c_mo_seenOf a1 v1 (sI M 66 0 0) (n := 27) ⟨dX12_may_24, rfl⟩ klX12_481 hv4 (by decide) (Nat.le_of_ble_eq_true rfl) rfl rfl ?_
    refine y_istore_n (i := 3) (n := 28) (L2 := [some (.ref 66), some (.int a1), some (.int v1), some (.int v3)]) ⟨dX12_may_27, rfl⟩ (by decide) rfl rfl ?_
    refine y_iload_n (i := 3) (n := 29) ⟨dX12_may_28, rfl⟩ rfl ?_
    refine y_if_eq (t := 36) (n := 32) ⟨dX12_may_29, rfl, rfl⟩ (fun (hc : v3 = 0) => ?_) (fun (hc : ¬ (v3 = 0)) => ?_)
    · replace hf := i_t hc hf
      refine y_iload_n (i := 2) (n := 37) ⟨dX12_may_36, rfl⟩ rfl ?_
      cases hf
      exact y_ireturn (n := 38) ⟨dX12_may_37, rfl⟩ rfl rfl hk
    · replace hf := i_f hc hf
      refine y_iload_n (i := 3) (n := 33) ⟨dX12_may_32, rfl⟩ rfl ?_
      refine y_goto (t := 37) ⟨dX12_may_33, rfl, rfl⟩ ?_
      cases hf
      exact y_ireturn (n := 38) ⟨dX12_may_37, rfl⟩ rfl rfl hk
  · have hc := bI_0 h0
    replace hf := i_f hc hf
    refine y_iconst (n := 14) (v := (-1)) ⟨dX12_may_13, rfl⟩ ki_m1 ?_
    cases hf
    exact y_ireturn (n := 15) ⟨dX12_may_14, rfl⟩ rfl rfl hk
theorem c_mo_may (a1 : Int32) (M : dM) {o : (Int32 × dM)} {y : mz_M} {d : Nat} {Q : mz_P} {pc n i : Nat} {L : List (Option Value)} {st : List Value} (h : mz_d y.2.1 pc n 3 (.invokevirtual i)) (hl : mz_ml y.1.cls i yX12_may) (hf : f_mo_may a1 M = some o) (hd : 3 + 1 ≤ d) (hsm : (st.map (fun v => v.category)).sum ≤ 8) (hLr : mz_rL 133 L = true) (hSr : mz_rS 133 st = true) (kk : mW y d Q n L (.int o.1 :: st) o.2) : mW y d Q pc L (.int a1 :: .ref 66 :: st) M :=
  y_callV kmX12_may kvX12_may l_66 (by decide +kernel) (by decide +kernel) h hl (ok_mo_may a1 M hf) (vs := [.int a1]) rfl rfl hd hsm hLr hSr kk
noncomputable def f_mo_put (a1 : Int32) (M : dM) : Option (Int32 × dM) :=
  if (f_mo_isFind a1 (sI M 66 0 0)) = true then
    (f_mo_canOf a1 (sI M 66 0 0)).bind fun v1 =>
    (f_mo_seenOf a1 v1 (sI M 66 0 0)).bind fun v3 =>
    if v3 = 0 then
      (f_mo_eachOf a1 (sI M 66 0 0)).bind fun q5 =>
      if q5.1 = 2 then
        some (1, q5.2)
      else
        some (0, q5.2)
    else
      some (1, (sI M 66 0 0))
  else
    some ((-1), (sI M 66 0 0))
theorem ok_mo_put (a1 : Int32) (M : dM) {o : (Int32 × dM)} (hf : f_mo_put a1 M = some o) : mO mX12_put 6 [.ref 66, .int a1] M (some (.int o.1)) o.2 := by
  refine y_ok (by decide +kernel) (by decide) (L0 := [some (.ref 66), some (.int a1)]) rfl ?_
  have hk := mR_mQ (some (.int o.1)) o.2
  generalize mQ _ _ = Q at hk ⊢
  unfold f_mo_put at hf
  refine y_aload_n (i := 0) (n := 1) ⟨dX12_put_0, rfl⟩ rfl ?_
  refine y_iconst (n := 2) (v := 0) ⟨dX12_put_1, rfl⟩ ki_0 ?_
  refine y_putI (n := 5) ⟨dX12_put_2, rfl⟩ kfX12_214 l_66 (by decide +kernel) rfl ?_
  refine y_aload_n (i := 0) (n := 6) ⟨dX12_put_5, rfl⟩ rfl ?_
  refine y_iload_n (i := 1) (n := 7) ⟨dX12_put_6, rfl⟩ rfl ?_
  refine c_mo_isFind a1 (sI M 66 0 0) (n := 10) ⟨dX12_put_7, rfl⟩ klX12_249 rfl (by decide) (Nat.le_of_ble_eq_true rfl) rfl rfl ?_
  refine y_if_ne (t := 15) (n := 13) ⟨dX12_put_10, rfl, rfl⟩ (fun h0 => ?_) (fun h0 => ?_)
  · have hc := bI_1 h0
    replace hf := i_t hc hf
    refine y_aload_n (i := 0) (n := 16) ⟨dX12_put_15, rfl⟩ rfl ?_
    refine y_iload_n (i := 1) (n := 17) ⟨dX12_put_16, rfl⟩ rfl ?_
    refine y_aload_n (i := 0) (n := 18) ⟨dX12_put_17, rfl⟩ rfl ?_
    refine y_iload_n (i := 1) (n := 19) ⟨dX12_put_18, rfl⟩ rfl ?_
    obtain ⟨v1, hv2, hf⟩ := b_s hf
    refine c_mo_canOf a1 (sI M 66 0 0) (n := 22) ⟨dX12_put_19, rfl⟩ klX12_478 hv2 (by decide) (Nat.le_of_ble_eq_true rfl) rfl rfl ?_
    obtain ⟨v3, hv4, hf⟩ := b_s hf
    refine c_mo_seenOf a1 v1 (sI M 66 0 0) (n := 25) ⟨dX12_put_22, rfl⟩ klX12_481 hv4 (by decide) (Nat.le_of_ble_eq_true rfl) rfl rfl ?_
    refine y_if_ne (t := 37) (n := 28) ⟨dX12_put_25, rfl, rfl⟩ (fun (hc : ¬ (v3 = 0)) => ?_) (fun (hc : v3 = 0) => ?_)
    · replace hf := i_f hc hf
      refine y_iconst (n := 38) (v := 1) ⟨dX12_put_37, rfl⟩ ki_1 ?_
      refine y_goto (t := 42) ⟨dX12_put_38, rfl, rfl⟩ ?_
      cases hf
      exact y_ireturn (n := 43) ⟨dX12_put_42, rfl⟩ rfl rfl hk
    · replace hf := i_t hc hf
      refine y_aload_n (i := 0) (n := 29) ⟨dX12_put_28, rfl⟩ rfl ?_
      refine y_iload_n (i := 1) (n := 30) ⟨dX12_put_29, rfl⟩ rfl ?_
      obtain ⟨q5, hv6, hf⟩ := b_s hf
      refine c_mo_eachOf a1 (sI M 66 0 0) (n := 33) ⟨dX12_put_30, rfl⟩ klX12_438 hv6 (by decide) (Nat.le_of_ble_eq_true rfl) rfl rfl ?_
      refine y_iconst (n := 34) (v := 2) ⟨dX12_put_33, rfl⟩ ki_2 ?_
      refine y_icmp_ne (t := 41) (n := 37) ⟨dX12_put_34, rfl, rfl⟩ (fun (hc : ¬ (q5.1 = 2)) => ?_) (fun (hc : q5.1 = 2) => ?_)
      · replace hf := i_f hc hf
        refine y_iconst (n := 42) (v := 0) ⟨dX12_put_41, rfl⟩ ki_0 ?_
        cases hf
        exact y_ireturn (n := 43) ⟨dX12_put_42, rfl⟩ rfl rfl hk
      · replace hf := i_t hc hf
        refine y_iconst (n := 38) (v := 1) ⟨dX12_put_37, rfl⟩ ki_1 ?_
        refine y_goto (t := 42) ⟨dX12_put_38, rfl, rfl⟩ ?_
        cases hf
        exact y_ireturn (n := 43) ⟨dX12_put_42, rfl⟩ rfl rfl hk
  · have hc := bI_0 h0
    replace hf := i_f hc hf
    refine y_iconst (n := 14) (v := (-1)) ⟨dX12_put_13, rfl⟩ ki_m1 ?_
    cases hf
    exact y_ireturn (n := 15) ⟨dX12_put_14, rfl⟩ rfl rfl hk
theorem c_mo_put (a1 : Int32) (M : dM) {o : (Int32 × dM)} {y : mz_M} {d : Nat} {Q : mz_P} {pc n i : Nat} {L : List (Option Value)} {st : List Value} (h : mz_d y.2.1 pc n 3 (.invokevirtual i)) (hl : mz_ml y.1.cls i yX12_put) (hf : f_mo_put a1 M = some o) (hd : 6 + 1 ≤ d) (hsm : (st.map (fun v => v.category)).sum ≤ 8) (hLr : mz_rL 133 L = true) (hSr : mz_rS 133 st = true) (kk : mW y d Q n L (.int o.1 :: st) o.2) : mW y d Q pc L (.int a1 :: .ref 66 :: st) M :=
  y_callV kmX12_put kvX12_put l_66 (by decide +kernel) (by decide +kernel) h hl (ok_mo_put a1 M hf) (vs := [.int a1]) rfl rfl hd hsm hLr hSr kk
def K_mo_explains_2 (Q : mz_P) (x1 : Int32) (M : dM) : (Int32 ⊕ Bool) → Prop
  | .inl s => mW mX12_explains 2 Q 2 [some (.ref 66), some (.int x1), some (.int s), none] [] M
  | .inr r => mR Q (some (.int (bI r))) M
def K_mo_explains_34 (Q : mz_P) (x1 : Int32) (x2 : Int32) (M : dM) : (Int32 ⊕ (Unit ⊕ Bool)) → Prop
  | .inl s => mW mX12_explains 2 Q 34 [some (.ref 66), some (.int x1), some (.int x2), some (.int s)] [] M
  | .inr (.inl t) => mW mX12_explains 2 Q 74 [some (.ref 66), some (.int x1), some (.int x2), none] [] M
  | .inr (.inr r) => mR Q (some (.int (bI r))) M
noncomputable def b_mo_explains_34_34 (x1 : Int32) (x2 : Int32) (x3 : Int32) (M : dM) : Option (Int32 ⊕ (Unit ⊕ Bool)) :=
  if x2 ≤ x3 then
    some (.inr (.inl ()))
  else
    (f_mo_isTwin x2 x3 M).bind fun v2 =>
    if v2 = true then
      gd (vp_in x2 40) <|
      gd (vp_in x3 40) <|
      if (((gI M 106 x2.toNatClampNeg) ||| (gI M 106 x3.toNatClampNeg)) &&& x1) = 0 then
        some (.inr (.inr false))
      else
        some (.inl (x3 + 1))
    else
      some (.inl (x3 + 1))
noncomputable def l_mo_explains_34 (x1 : Int32) (x2 : Int32) (x3 : Int32) (M : dM) : Option (Unit ⊕ Bool) := lpc (fun s => b_mo_explains_34_34 x1 x2 s M) x3
noncomputable def b_mo_explains_2_32 (x1 : Int32) (x2 : Int32) (M : dM) : Option (Int32 ⊕ Bool) :=
  (l_mo_explains_34 x1 x2 0 M).bind (Sum.elim (fun t6 =>
      some (.inl (x2 + 1))
    ) (fun r8 => some (.inr r8)))
noncomputable def b_mo_explains_2_2 (x1 : Int32) (x2 : Int32) (M : dM) : Option (Int32 ⊕ Bool) :=
  if (gI M 66 9) ≤ x2 then
    some (.inr true)
  else
    gd (vp_in x2 40) <|
    if (gI M 107 x2.toNatClampNeg) = 0 then
      b_mo_explains_2_32 x1 x2 M
    else
      if ((gI M 106 x2.toNatClampNeg) &&& x1) = 0 then
        some (.inr false)
      else
        b_mo_explains_2_32 x1 x2 M
noncomputable def l_mo_explains_2 (x1 : Int32) (x2 : Int32) (M : dM) : Option Bool := lpc (fun s => b_mo_explains_2_2 x1 s M) x2
noncomputable def f_mo_explains (a1 : Int32) (M : dM) : Option Bool :=
  (l_mo_explains_2 a1 0 M).bind fun r12 => some r12
theorem w_b_mo_explains_34_34 (x1 : Int32) (x2 : Int32) (x3 : Int32) (M : dM) {Q : mz_P} {o : (Int32 ⊕ (Unit ⊕ Bool))} (hf : b_mo_explains_34_34 x1 x2 x3 M = some o) (hk : K_mo_explains_34 Q x1 x2 M o) : mW mX12_explains 2 Q 34 [some (.ref 66), some (.int x1), some (.int x2), some (.int x3)] [] M := by
  unfold b_mo_explains_34_34 at hf
  refine y_iload_n (i := 3) (n := 35) ⟨dX12_explains_34, rfl⟩ rfl ?_
  refine y_iload_n (i := 2) (n := 36) ⟨dX12_explains_35, rfl⟩ rfl ?_
  refine y_icmp_ge (t := 74) (n := 39) ⟨dX12_explains_36, rfl, rfl⟩ (fun (hc : x2 ≤ x3) => ?_) (fun (hc : ¬ (x2 ≤ x3)) => ?_)
  · replace hf := i_t hc hf
    cases hf
    exact y_wk ⟨Or.inr rfl, Or.inr rfl, Or.inr rfl, Or.inl rfl, trivial⟩ hk
  · replace hf := i_f hc hf
    refine y_aload_n (i := 0) (n := 40) ⟨dX12_explains_39, rfl⟩ rfl ?_
    refine y_iload_n (i := 2) (n := 41) ⟨dX12_explains_40, rfl⟩ rfl ?_
    refine y_iload_n (i := 3) (n := 42) ⟨dX12_explains_41, rfl⟩ rfl ?_
    obtain ⟨v2, hv3, hf⟩ := b_s hf
    refine c_mo_isTwin x2 x3 M (n := 45) ⟨dX12_explains_42, rfl⟩ klX12_245 hv3 (by decide) (Nat.le_of_ble_eq_true rfl) rfl rfl ?_
    refine y_if_eq (t := 68) (n := 48) ⟨dX12_explains_45, rfl, rfl⟩ (fun h0 => ?_) (fun h0 => ?_)
    · have hc := bI_0 h0
      replace hf := i_f hc hf
      refine y_iinc (i := 3) (n := 71) (b := (x3 + 1)) (L2 := [some (.ref 66), some (.int x1), some (.int x2), some (.int (x3 + 1))]) ⟨dX12_explains_68, rfl⟩ rfl (by rw [ki_1]) (by decide) rfl rfl ?_
      refine y_goto (t := 34) ⟨dX12_explains_71, rfl, rfl⟩ ?_
      cases hf
      exact y_wk ⟨Or.inr rfl, Or.inr rfl, Or.inr rfl, Or.inr rfl, trivial⟩ hk
    · have hc := bI_1 h0
      replace hf := i_t hc hf
      refine y_aload_n (i := 0) (n := 49) ⟨dX12_explains_48, rfl⟩ rfl ?_
      refine y_getR (n := 52) ⟨dX12_explains_49, rfl⟩ kfX12_128 l_66 rfl r_66_61 ?_
      refine y_iload_n (i := 2) (n := 53) ⟨dX12_explains_52, rfl⟩ rfl ?_
      obtain ⟨hg4, hf⟩ := g_s hf
      refine y_iaload (n := 54) ⟨dX12_explains_53, rfl⟩ l_106 hg4 ?_
      refine y_aload_n (i := 0) (n := 55) ⟨dX12_explains_54, rfl⟩ rfl ?_
      refine y_getR (n := 58) ⟨dX12_explains_55, rfl⟩ kfX12_128 l_66 rfl r_66_61 ?_
      refine y_iload_n (i := 3) (n := 59) ⟨dX12_explains_58, rfl⟩ rfl ?_
      obtain ⟨hg5, hf⟩ := g_s hf
      refine y_iaload (n := 60) ⟨dX12_explains_59, rfl⟩ l_106 hg5 ?_
      refine y_ior (n := 61) ⟨dX12_explains_60, rfl⟩ ?_
      refine y_iload_n (i := 1) (n := 62) ⟨dX12_explains_61, rfl⟩ rfl ?_
      refine y_iand (n := 63) ⟨dX12_explains_62, rfl⟩ ?_
      refine y_if_ne (t := 68) (n := 66) ⟨dX12_explains_63, rfl, rfl⟩ (fun (hc : ¬ ((((gI M 106 x2.toNatClampNeg) ||| (gI M 106 x3.toNatClampNeg)) &&& x1) = 0)) => ?_) (fun (hc : (((gI M 106 x2.toNatClampNeg) ||| (gI M 106 x3.toNatClampNeg)) &&& x1) = 0) => ?_)
      · replace hf := i_f hc hf
        refine y_iinc (i := 3) (n := 71) (b := (x3 + 1)) (L2 := [some (.ref 66), some (.int x1), some (.int x2), some (.int (x3 + 1))]) ⟨dX12_explains_68, rfl⟩ rfl (by rw [ki_1]) (by decide) rfl rfl ?_
        refine y_goto (t := 34) ⟨dX12_explains_71, rfl, rfl⟩ ?_
        cases hf
        exact y_wk ⟨Or.inr rfl, Or.inr rfl, Or.inr rfl, Or.inr rfl, trivial⟩ hk
      · replace hf := i_t hc hf
        refine y_iconst (n := 67) (v := 0) ⟨dX12_explains_66, rfl⟩ ki_0 ?_
        cases hf
        exact y_ireturn (n := 68) ⟨dX12_explains_67, rfl⟩ rfl rfl hk
theorem wl_mo_explains_34 (x1 : Int32) (x2 : Int32) (x3 : Int32) (M : dM) {Q : mz_P} {x : (Unit ⊕ Bool)} (hf : l_mo_explains_34 x1 x2 x3 M = some x) (hk : K_mo_explains_34 Q x1 x2 M (.inr x)) : mW mX12_explains 2 Q 34 [some (.ref 66), some (.int x1), some (.int x2), some (.int x3)] [] M :=
  lpc_wp (Wh := fun s => mW mX12_explains 2 Q 34 [some (.ref 66), some (.int x1), some (.int x2), some (.int s)] [] M) (K := K_mo_explains_34 Q x1 x2 M) (fun _ h => h) (fun s o hb hk => w_b_mo_explains_34_34 x1 x2 s M hb hk) hf hk
theorem w_b_mo_explains_2_32 (x1 : Int32) (x2 : Int32) (M : dM) {Q : mz_P} {o : (Int32 ⊕ Bool)} (hf : b_mo_explains_2_32 x1 x2 M = some o) (hk : K_mo_explains_2 Q x1 M o) : mW mX12_explains 2 Q 32 [some (.ref 66), some (.int x1), some (.int x2), none] [] M := by
  unfold b_mo_explains_2_32 at hf
  refine y_iconst (n := 33) (v := 0) ⟨dX12_explains_32, rfl⟩ ki_0 ?_
  refine y_istore_n (i := 3) (n := 34) (L2 := [some (.ref 66), some (.int x1), some (.int x2), some (.int 0)]) ⟨dX12_explains_33, rfl⟩ (by decide) rfl rfl ?_
  obtain ⟨z9, hl7, hf⟩ := b_s hf
  refine y_wk ⟨Or.inr rfl, Or.inr rfl, Or.inr rfl, Or.inr rfl, trivial⟩ (wl_mo_explains_34 x1 x2 0 M hl7 ?_)
  rcases z9 with t6 | r8
  · show mW mX12_explains 2 Q 74 [some (.ref 66), some (.int x1), some (.int x2), none] [] M
    refine y_iinc (i := 2) (n := 77) (b := (x2 + 1)) (L2 := [some (.ref 66), some (.int x1), some (.int (x2 + 1)), none]) ⟨dX12_explains_74, rfl⟩ rfl (by rw [ki_1]) (by decide) rfl rfl ?_
    refine y_goto (t := 2) ⟨dX12_explains_77, rfl, rfl⟩ ?_
    cases hf
    exact y_wk ⟨Or.inr rfl, Or.inr rfl, Or.inr rfl, Or.inr rfl, trivial⟩ hk
  · cases hf
    exact hk
theorem w_b_mo_explains_2_2 (x1 : Int32) (x2 : Int32) (M : dM) {Q : mz_P} {o : (Int32 ⊕ Bool)} (hf : b_mo_explains_2_2 x1 x2 M = some o) (hk : K_mo_explains_2 Q x1 M o) : mW mX12_explains 2 Q 2 [some (.ref 66), some (.int x1), some (.int x2), none] [] M := by
  unfold b_mo_explains_2_2 at hf
  refine y_iload_n (i := 2) (n := 3) ⟨dX12_explains_2, rfl⟩ rfl ?_
  refine y_aload_n (i := 0) (n := 4) ⟨dX12_explains_3, rfl⟩ rfl ?_
  refine y_getI (n := 7) ⟨dX12_explains_4, rfl⟩ kfX12_235 l_66 rfl ?_
  refine y_icmp_ge (t := 80) (n := 10) ⟨dX12_explains_7, rfl, rfl⟩ (fun (hc : (gI M 66 9) ≤ x2) => ?_) (fun (hc : ¬ ((gI M 66 9) ≤ x2)) => ?_)
  · replace hf := i_t hc hf
    refine y_iconst (n := 81) (v := 1) ⟨dX12_explains_80, rfl⟩ ki_1 ?_
    cases hf
    exact y_ireturn (n := 82) ⟨dX12_explains_81, rfl⟩ rfl rfl hk
  · replace hf := i_f hc hf
    refine y_aload_n (i := 0) (n := 11) ⟨dX12_explains_10, rfl⟩ rfl ?_
    refine y_getR (n := 14) ⟨dX12_explains_11, rfl⟩ kfX12_131 l_66 rfl r_66_62 ?_
    refine y_iload_n (i := 2) (n := 15) ⟨dX12_explains_14, rfl⟩ rfl ?_
    obtain ⟨hg1, hf⟩ := g_s hf
    refine y_baload (n := 16) ⟨dX12_explains_15, rfl⟩ l_107 hg1 ?_
    refine y_if_eq (t := 32) (n := 19) ⟨dX12_explains_16, rfl, rfl⟩ (fun (hc : (gI M 107 x2.toNatClampNeg) = 0) => ?_) (fun (hc : ¬ ((gI M 107 x2.toNatClampNeg) = 0)) => ?_)
    · replace hf := i_t hc hf
      exact y_wk ⟨Or.inr rfl, Or.inr rfl, Or.inr rfl, Or.inr rfl, trivial⟩ (w_b_mo_explains_2_32 x1 x2 M hf hk)
    · replace hf := i_f hc hf
      refine y_aload_n (i := 0) (n := 20) ⟨dX12_explains_19, rfl⟩ rfl ?_
      refine y_getR (n := 23) ⟨dX12_explains_20, rfl⟩ kfX12_128 l_66 rfl r_66_61 ?_
      refine y_iload_n (i := 2) (n := 24) ⟨dX12_explains_23, rfl⟩ rfl ?_
      refine y_iaload (n := 25) ⟨dX12_explains_24, rfl⟩ l_106 hg1 ?_
      refine y_iload_n (i := 1) (n := 26) ⟨dX12_explains_25, rfl⟩ rfl ?_
      refine y_iand (n := 27) ⟨dX12_explains_26, rfl⟩ ?_
      refine y_if_ne (t := 32) (n := 30) ⟨dX12_explains_27, rfl, rfl⟩ (fun (hc : ¬ (((gI M 106 x2.toNatClampNeg) &&& x1) = 0)) => ?_) (fun (hc : ((gI M 106 x2.toNatClampNeg) &&& x1) = 0) => ?_)
      · replace hf := i_f hc hf
        exact y_wk ⟨Or.inr rfl, Or.inr rfl, Or.inr rfl, Or.inr rfl, trivial⟩ (w_b_mo_explains_2_32 x1 x2 M hf hk)
      · replace hf := i_t hc hf
        refine y_iconst (n := 31) (v := 0) ⟨dX12_explains_30, rfl⟩ ki_0 ?_
        cases hf
        exact y_ireturn (n := 32) ⟨dX12_explains_31, rfl⟩ rfl rfl hk
theorem wl_mo_explains_2 (x1 : Int32) (x2 : Int32) (M : dM) {Q : mz_P} {x : Bool} (hf : l_mo_explains_2 x1 x2 M = some x) (hk : K_mo_explains_2 Q x1 M (.inr x)) : mW mX12_explains 2 Q 2 [some (.ref 66), some (.int x1), some (.int x2), none] [] M :=
  lpc_wp (Wh := fun s => mW mX12_explains 2 Q 2 [some (.ref 66), some (.int x1), some (.int s), none] [] M) (K := K_mo_explains_2 Q x1 M) (fun _ h => h) (fun s o hb hk => w_b_mo_explains_2_2 x1 s M hb hk) hf hk
theorem ok_mo_explains (a1 : Int32) (M : dM) {o : Bool} (hf : f_mo_explains a1 M = some o) : mO mX12_explains 2 [.ref 66, .int a1] M (some (.int (bI o))) M := by
  refine y_ok (by decide +kernel) (by decide) (L0 := [some (.ref 66), some (.int a1), none, none]) rfl ?_
  have hk := mR_mQ (some (.int (bI o))) M
  generalize mQ _ _ = Q at hk ⊢
  unfold f_mo_explains at hf
  refine y_iconst (n := 1) (v := 0) ⟨dX12_explains_0, rfl⟩ ki_0 ?_
  refine y_istore_n (i := 2) (n := 2) (L2 := [some (.ref 66), some (.int a1), some (.int 0), none]) ⟨dX12_explains_1, rfl⟩ (by decide) rfl rfl ?_
  obtain ⟨r12, hl11, hf⟩ := b_s hf
  cases hf
  exact y_wk ⟨Or.inr rfl, Or.inr rfl, Or.inr rfl, Or.inr rfl, trivial⟩ (wl_mo_explains_2 a1 0 M hl11 hk)
theorem c_mo_explains (a1 : Int32) (M : dM) {o : Bool} {y : mz_M} {d : Nat} {Q : mz_P} {pc n i : Nat} {L : List (Option Value)} {st : List Value} (h : mz_d y.2.1 pc n 3 (.invokevirtual i)) (hl : mz_ml y.1.cls i yX12_explains) (hf : f_mo_explains a1 M = some o) (hd : 2 + 1 ≤ d) (hsm : (st.map (fun v => v.category)).sum ≤ 8) (hLr : mz_rL 133 L = true) (hSr : mz_rS 133 st = true) (kk : mW y d Q n L (.int (bI o) :: st) M) : mW y d Q pc L (.int a1 :: .ref 66 :: st) M :=
  y_callV kmX12_explains kvX12_explains l_66 (by decide +kernel) (by decide +kernel) h hl (ok_mo_explains a1 M hf) (vs := [.int a1]) rfl rfl hd hsm hLr hSr kk
def K_mo_knows_2 (Q : mz_P)  (M : dM) : ((Int32 × dM) ⊕ dM) → Prop
  | .inl s => mW mX12_knows 6 Q 2 [some (.ref 66), some (.int s.1), none] [] s.2
  | .inr t => mW mX12_knows 6 Q 95 [some (.ref 66), none, none] [] t
noncomputable def b_mo_knows_2_88 (x1 : Int32) (y1 : Int32) (y2 : Int32) (M : dM) : Option ((Int32 × dM) ⊕ dM) :=
  gd (vp_in y1 40) <|
  some (.inl ((x1 + 1), (sI M 107 y1.toNatClampNeg (vp_nar .boolean y2))))
noncomputable def b_mo_knows_2_83 (x1 : Int32) (y1 : Int32) (M : dM) : Option ((Int32 × dM) ⊕ dM) :=
  b_mo_knows_2_88 x1 y1 1 M
noncomputable def b_mo_knows_2_63 (x1 : Int32) (x2 : Int32) (y1 : Int32) (y2 : Int32) (M : dM) : Option ((Int32 × dM) ⊕ dM) :=
  gd (vp_in y1 40) <|
  if x2 = 0 then
    gd (vp_in x1 40) <|
    if (gI (sI M 106 y1.toNatClampNeg y2) 104 x1.toNatClampNeg) = 2 then
      b_mo_knows_2_83 x1 x1 (sI M 106 y1.toNatClampNeg y2)
    else
      b_mo_knows_2_88 x1 x1 0 (sI M 106 y1.toNatClampNeg y2)
  else
    b_mo_knows_2_83 x1 x1 (sI M 106 y1.toNatClampNeg y2)
noncomputable def b_mo_knows_2_2 (x1 : Int32) (M : dM) : Option ((Int32 × dM) ⊕ dM) :=
  if (gI M 66 9) ≤ x1 then
    some (.inr M)
  else
    (f_mo_eachOf x1 M).bind fun q1 =>
    gd (vp_in x1 40) <|
    (f_mo_canOf x1 (sI q1.2 104 x1.toNatClampNeg q1.1)).bind fun v4 =>
    (f_mo_seenOf x1 (gI (sI (sI q1.2 104 x1.toNatClampNeg q1.1) 105 x1.toNatClampNeg v4) 105 x1.toNatClampNeg) (sI (sI q1.2 104 x1.toNatClampNeg q1.1) 105 x1.toNatClampNeg v4)).bind fun v6 =>
    if v6 = 0 then
      b_mo_knows_2_63 x1 v6 x1 (gI (sI (sI q1.2 104 x1.toNatClampNeg q1.1) 105 x1.toNatClampNeg v4) 105 x1.toNatClampNeg) (sI (sI q1.2 104 x1.toNatClampNeg q1.1) 105 x1.toNatClampNeg v4)
    else
      b_mo_knows_2_63 x1 v6 x1 v6 (sI (sI q1.2 104 x1.toNatClampNeg q1.1) 105 x1.toNatClampNeg v4)
noncomputable def l_mo_knows_2 (x1 : Int32) (M : dM) : Option dM := lpc (fun s => b_mo_knows_2_2 s.1 s.2) (x1, M)
def K_mo_knows_123 (Q : mz_P)  (M : dM) : ((Int32 × dM) ⊕ dM) → Prop
  | .inl s => mW mX12_knows 6 Q 123 [some (.ref 66), some (.int s.1), none] [] s.2
  | .inr t => mW mX12_knows 6 Q 221 [some (.ref 66), none, none] [] t
noncomputable def b_mo_knows_123_195 (x1 : Int32) (M : dM) : Option ((Int32 × dM) ⊕ dM) :=
  some (.inl ((x1 + 1), (sI (sI M 66 67 ((gI M 66 67) &&& x1)) 66 68 ((gI (sI M 66 67 ((gI M 66 67) &&& x1)) 66 68) ||| x1))))
noncomputable def b_mo_knows_123_123 (x1 : Int32) (M : dM) : Option ((Int32 × dM) ⊕ dM) :=
  if 1024 ≤ x1 then
    some (.inr M)
  else
    (f_mo_explains x1 M).bind fun v14 =>
    if v14 = true then
      (f_mo_bits x1).bind fun v16 =>
      if v16 ≤ (gI (sI M 66 64 ((gI M 66 64) + 1)) 66 65) then
        if (gI (sI M 66 64 ((gI M 66 64) + 1)) 66 65) ≤ v16 then
          b_mo_knows_123_195 x1 (sI M 66 64 ((gI M 66 64) + 1))
        else
          b_mo_knows_123_195 x1 (sI (sI (sI (sI (sI M 66 64 ((gI M 66 64) + 1)) 66 65 v16) 66 66 x1) 66 67 x1) 66 68 x1)
      else
        some (.inl ((x1 + 1), (sI M 66 64 ((gI M 66 64) + 1))))
    else
      some (.inl ((x1 + 1), M))
noncomputable def l_mo_knows_123 (x1 : Int32) (M : dM) : Option dM := lpc (fun s => b_mo_knows_123_123 s.1 s.2) (x1, M)
def K_mo_knows_228 (Q : mz_P)  (M : dM) : ((Int32 × dM) ⊕ dM) → Prop
  | .inl s => mW mX12_knows 6 Q 228 [some (.ref 66), some (.int s.1), none] [] s.2
  | .inr r => mR Q none r
noncomputable def b_mo_knows_228_262 (x1 : Int32) (M : dM) : Option ((Int32 × dM) ⊕ dM) :=
  some (.inl ((x1 + 1), (sJ M 66 63 ((gJ M 66 63) ||| ((1 : Int64) <<< (x1.toInt64 &&& 63))))))
noncomputable def b_mo_knows_228_228 (x1 : Int32) (M : dM) : Option ((Int32 × dM) ⊕ dM) :=
  if (gI M 66 9) ≤ x1 then
    some (.inr M)
  else
    gd (vp_in x1 40) <|
    if 0 < (gI M 104 x1.toNatClampNeg) then
      b_mo_knows_228_262 x1 M
    else
      if (((gI M 66 68) >>> ((gI M 78 x1.toNatClampNeg) &&& 31)) &&& 1) = 1 then
        b_mo_knows_228_262 x1 M
      else
        some (.inl ((x1 + 1), M))
noncomputable def l_mo_knows_228 (x1 : Int32) (M : dM) : Option dM := lpc (fun s => b_mo_knows_228_228 s.1 s.2) (x1, M)
noncomputable def f_mo_knows (M : dM) : Option dM :=
  (l_mo_knows_2 0 M).bind fun t11 =>
    (l_mo_knows_123 0 (sI (sI (sI (sI (sI t11 66 64 0) 66 65 99) 66 66 (-1)) 66 67 0) 66 68 0)).bind fun t18 =>
      (l_mo_knows_228 0 (sJ t18 66 63 0)).bind fun r24 => some r24
theorem w_b_mo_knows_2_88 (x1 : Int32) (y1 : Int32) (y2 : Int32) (M : dM) {Q : mz_P} {o : ((Int32 × dM) ⊕ dM)} (hf : b_mo_knows_2_88 x1 y1 y2 M = some o) (hk : K_mo_knows_2 Q  M o) : mW mX12_knows 6 Q 88 [some (.ref 66), some (.int x1), none] [.ref 107, .int y1, .int y2] M := by
  unfold b_mo_knows_2_88 at hf
  obtain ⟨hg9, hf⟩ := g_s hf
  refine y_bastore (x' := vp_nar .boolean y2) (n := 89) ⟨dX12_knows_88, rfl⟩ l_107 hg9 rfl ?_
  refine y_iinc (i := 1) (n := 92) (b := (x1 + 1)) (L2 := [some (.ref 66), some (.int (x1 + 1)), none]) ⟨dX12_knows_89, rfl⟩ rfl (by rw [ki_1]) (by decide) rfl rfl ?_
  refine y_goto (t := 2) ⟨dX12_knows_92, rfl, rfl⟩ ?_
  cases hf
  exact y_wk ⟨Or.inr rfl, Or.inr rfl, Or.inr rfl, trivial⟩ hk
theorem w_b_mo_knows_2_83 (x1 : Int32) (y1 : Int32) (M : dM) {Q : mz_P} {o : ((Int32 × dM) ⊕ dM)} (hf : b_mo_knows_2_83 x1 y1 M = some o) (hk : K_mo_knows_2 Q  M o) : mW mX12_knows 6 Q 83 [some (.ref 66), some (.int x1), none] [.ref 107, .int y1] M := by
  unfold b_mo_knows_2_83 at hf
  refine y_iconst (n := 84) (v := 1) ⟨dX12_knows_83, rfl⟩ ki_1 ?_
  refine y_goto (t := 88) ⟨dX12_knows_84, rfl, rfl⟩ ?_
  exact y_wk ⟨Or.inr rfl, Or.inr rfl, Or.inr rfl, trivial⟩ (w_b_mo_knows_2_88 x1 y1 1 M hf hk)
theorem w_b_mo_knows_2_63 (x1 : Int32) (x2 : Int32) (y1 : Int32) (y2 : Int32) (M : dM) {Q : mz_P} {o : ((Int32 × dM) ⊕ dM)} (hf : b_mo_knows_2_63 x1 x2 y1 y2 M = some o) (hk : K_mo_knows_2 Q  M o) : mW mX12_knows 6 Q 63 [some (.ref 66), some (.int x1), some (.int x2)] [.ref 106, .int y1, .int y2] M := by
  unfold b_mo_knows_2_63 at hf
  obtain ⟨hg8, hf⟩ := g_s hf
  refine y_iastore (n := 64) ⟨dX12_knows_63, rfl⟩ l_106 hg8 ?_
  refine y_aload_n (i := 0) (n := 65) ⟨dX12_knows_64, rfl⟩ rfl ?_
  refine y_getR (n := 68) ⟨dX12_knows_65, rfl⟩ kfX12_131 l_66 rfl r_66_62 ?_
  refine y_iload_n (i := 1) (n := 69) ⟨dX12_knows_68, rfl⟩ rfl ?_
  refine y_iload_n (i := 2) (n := 70) ⟨dX12_knows_69, rfl⟩ rfl ?_
  refine y_if_ne (t := 83) (n := 73) ⟨dX12_knows_70, rfl, rfl⟩ (fun (hc : ¬ (x2 = 0)) => ?_) (fun (hc : x2 = 0) => ?_)
  · replace hf := i_f hc hf
    exact y_wk ⟨Or.inr rfl, Or.inr rfl, Or.inl rfl, trivial⟩ (w_b_mo_knows_2_83 x1 x1 (sI M 106 y1.toNatClampNeg y2) hf hk)
  · replace hf := i_t hc hf
    refine y_aload_n (i := 0) (n := 74) ⟨dX12_knows_73, rfl⟩ rfl ?_
    refine y_getR (n := 77) ⟨dX12_knows_74, rfl⟩ kfX12_122 l_66 rfl r_66_59 ?_
    refine y_iload_n (i := 1) (n := 78) ⟨dX12_knows_77, rfl⟩ rfl ?_
    obtain ⟨hg10, hf⟩ := g_s hf
    refine y_iaload (n := 79) ⟨dX12_knows_78, rfl⟩ l_104 hg10 ?_
    refine y_iconst (n := 80) (v := 2) ⟨dX12_knows_79, rfl⟩ ki_2 ?_
    refine y_icmp_ne (t := 87) (n := 83) ⟨dX12_knows_80, rfl, rfl⟩ (fun (hc : ¬ ((gI (sI M 106 y1.toNatClampNeg y2) 104 x1.toNatClampNeg) = 2)) => ?_) (fun (hc : (gI (sI M 106 y1.toNatClampNeg y2) 104 x1.toNatClampNeg) = 2) => ?_)
    · replace hf := i_f hc hf
      refine y_iconst (n := 88) (v := 0) ⟨dX12_knows_87, rfl⟩ ki_0 ?_
      exact y_wk ⟨Or.inr rfl, Or.inr rfl, Or.inl rfl, trivial⟩ (w_b_mo_knows_2_88 x1 x1 0 (sI M 106 y1.toNatClampNeg y2) hf hk)
    · replace hf := i_t hc hf
      exact y_wk ⟨Or.inr rfl, Or.inr rfl, Or.inl rfl, trivial⟩ (w_b_mo_knows_2_83 x1 x1 (sI M 106 y1.toNatClampNeg y2) hf hk)
theorem w_b_mo_knows_2_2 (x1 : Int32) (M : dM) {Q : mz_P} {o : ((Int32 × dM) ⊕ dM)} (hf : b_mo_knows_2_2 x1 M = some o) (hk : K_mo_knows_2 Q  M o) : mW mX12_knows 6 Q 2 [some (.ref 66), some (.int x1), none] [] M := by
  unfold b_mo_knows_2_2 at hf
  refine y_iload_n (i := 1) (n := 3) ⟨dX12_knows_2, rfl⟩ rfl ?_
  refine y_aload_n (i := 0) (n := 4) ⟨dX12_knows_3, rfl⟩ rfl ?_
  refine y_getI (n := 7) ⟨dX12_knows_4, rfl⟩ kfX12_235 l_66 rfl ?_
  refine y_icmp_ge (t := 95) (n := 10) ⟨dX12_knows_7, rfl, rfl⟩ (fun (hc : (gI M 66 9) ≤ x1) => ?_) (fun (hc : ¬ ((gI M 66 9) ≤ x1)) => ?_)
  · replace hf := i_t hc hf
    cases hf
    exact y_wk ⟨Or.inr rfl, Or.inl rfl, Or.inr rfl, trivial⟩ hk
  · replace hf := i_f hc hf
    refine y_aload_n (i := 0) (n := 11) ⟨dX12_knows_10, rfl⟩ rfl ?_
    refine y_getR (n := 14) ⟨dX12_knows_11, rfl⟩ kfX12_122 l_66 rfl r_66_59 ?_
    refine y_iload_n (i := 1) (n := 15) ⟨dX12_knows_14, rfl⟩ rfl ?_
    refine y_aload_n (i := 0) (n := 16) ⟨dX12_knows_15, rfl⟩ rfl ?_
    refine y_iload_n (i := 1) (n := 17) ⟨dX12_knows_16, rfl⟩ rfl ?_
    obtain ⟨q1, hv2, hf⟩ := b_s hf
    refine c_mo_eachOf x1 M (n := 20) ⟨dX12_knows_17, rfl⟩ klX12_438 hv2 (by decide) (Nat.le_of_ble_eq_true rfl) rfl rfl ?_
    obtain ⟨hg3, hf⟩ := g_s hf
    refine y_iastore (n := 21) ⟨dX12_knows_20, rfl⟩ l_104 hg3 ?_
    refine y_aload_n (i := 0) (n := 22) ⟨dX12_knows_21, rfl⟩ rfl ?_
    refine y_getR (n := 25) ⟨dX12_knows_22, rfl⟩ kfX12_125 l_66 rfl r_66_60 ?_
    refine y_iload_n (i := 1) (n := 26) ⟨dX12_knows_25, rfl⟩ rfl ?_
    refine y_aload_n (i := 0) (n := 27) ⟨dX12_knows_26, rfl⟩ rfl ?_
    refine y_iload_n (i := 1) (n := 28) ⟨dX12_knows_27, rfl⟩ rfl ?_
    obtain ⟨v4, hv5, hf⟩ := b_s hf
    refine c_mo_canOf x1 (sI q1.2 104 x1.toNatClampNeg q1.1) (n := 31) ⟨dX12_knows_28, rfl⟩ klX12_478 hv5 (by decide) (Nat.le_of_ble_eq_true rfl) rfl rfl ?_
    refine y_iastore (n := 32) ⟨dX12_knows_31, rfl⟩ l_105 hg3 ?_
    refine y_aload_n (i := 0) (n := 33) ⟨dX12_knows_32, rfl⟩ rfl ?_
    refine y_iload_n (i := 1) (n := 34) ⟨dX12_knows_33, rfl⟩ rfl ?_
    refine y_aload_n (i := 0) (n := 35) ⟨dX12_knows_34, rfl⟩ rfl ?_
    refine y_getR (n := 38) ⟨dX12_knows_35, rfl⟩ kfX12_125 l_66 rfl r_66_60 ?_
    refine y_iload_n (i := 1) (n := 39) ⟨dX12_knows_38, rfl⟩ rfl ?_
    refine y_iaload (n := 40) ⟨dX12_knows_39, rfl⟩ l_105 hg3 ?_
    obtain ⟨v6, hv7, hf⟩ := b_s hf
    refine c_mo_seenOf x1 (gI (sI (sI q1.2 104 x1.toNatClampNeg q1.1) 105 x1.toNatClampNeg v4) 105 x1.toNatClampNeg) (sI (sI q1.2 104 x1.toNatClampNeg q1.1) 105 x1.toNatClampNeg v4) (n := 43) ⟨dX12_knows_40, rfl⟩ klX12_481 hv7 (by decide) (Nat.le_of_ble_eq_true rfl) rfl rfl ?_
    refine y_istore_n (i := 2) (n := 44) (L2 := [some (.ref 66), some (.int x1), some (.int v6)]) ⟨dX12_knows_43, rfl⟩ (by decide) rfl rfl ?_
    refine y_aload_n (i := 0) (n := 45) ⟨dX12_knows_44, rfl⟩ rfl ?_
    refine y_getR (n := 48) ⟨dX12_knows_45, rfl⟩ kfX12_128 l_66 rfl r_66_61 ?_
    refine y_iload_n (i := 1) (n := 49) ⟨dX12_knows_48, rfl⟩ rfl ?_
    refine y_iload_n (i := 2) (n := 50) ⟨dX12_knows_49, rfl⟩ rfl ?_
    refine y_if_eq (t := 57) (n := 53) ⟨dX12_knows_50, rfl, rfl⟩ (fun (hc : v6 = 0) => ?_) (fun (hc : ¬ (v6 = 0)) => ?_)
    · replace hf := i_t hc hf
      refine y_aload_n (i := 0) (n := 58) ⟨dX12_knows_57, rfl⟩ rfl ?_
      refine y_getR (n := 61) ⟨dX12_knows_58, rfl⟩ kfX12_125 l_66 rfl r_66_60 ?_
      refine y_iload_n (i := 1) (n := 62) ⟨dX12_knows_61, rfl⟩ rfl ?_
      refine y_iaload (n := 63) ⟨dX12_knows_62, rfl⟩ l_105 hg3 ?_
      exact y_wk ⟨Or.inr rfl, Or.inr rfl, Or.inr rfl, trivial⟩ (w_b_mo_knows_2_63 x1 v6 x1 (gI (sI (sI q1.2 104 x1.toNatClampNeg q1.1) 105 x1.toNatClampNeg v4) 105 x1.toNatClampNeg) (sI (sI q1.2 104 x1.toNatClampNeg q1.1) 105 x1.toNatClampNeg v4) hf hk)
    · replace hf := i_f hc hf
      refine y_iload_n (i := 2) (n := 54) ⟨dX12_knows_53, rfl⟩ rfl ?_
      refine y_goto (t := 63) ⟨dX12_knows_54, rfl, rfl⟩ ?_
      exact y_wk ⟨Or.inr rfl, Or.inr rfl, Or.inr rfl, trivial⟩ (w_b_mo_knows_2_63 x1 v6 x1 v6 (sI (sI q1.2 104 x1.toNatClampNeg q1.1) 105 x1.toNatClampNeg v4) hf hk)
theorem wl_mo_knows_2 (x1 : Int32) (M : dM) {Q : mz_P} {x : dM} (hf : l_mo_knows_2 x1 M = some x) (hk : K_mo_knows_2 Q  M (.inr x)) : mW mX12_knows 6 Q 2 [some (.ref 66), some (.int x1), none] [] M :=
  lpc_wp (Wh := fun s => mW mX12_knows 6 Q 2 [some (.ref 66), some (.int s.1), none] [] s.2) (K := K_mo_knows_2 Q  M) (fun _ h => h) (fun s o hb hk => w_b_mo_knows_2_2 s.1 s.2 hb hk) hf hk
theorem w_b_mo_knows_123_195 (x1 : Int32) (M : dM) {Q : mz_P} {o : ((Int32 × dM) ⊕ dM)} (hf : b_mo_knows_123_195 x1 M = some o) (hk : K_mo_knows_123 Q  M o) : mW mX12_knows 6 Q 195 [some (.ref 66), some (.int x1), none] [] M := by
  unfold b_mo_knows_123_195 at hf
  refine y_aload_n (i := 0) (n := 196) ⟨dX12_knows_195, rfl⟩ rfl ?_
  refine y_dup_r (n := 197) ⟨dX12_knows_196, rfl⟩ ?_
  refine y_getI (n := 200) ⟨dX12_knows_197, rfl⟩ kfX12_493 l_66 rfl ?_
  refine y_iload_n (i := 1) (n := 201) ⟨dX12_knows_200, rfl⟩ rfl ?_
  refine y_iand (n := 202) ⟨dX12_knows_201, rfl⟩ ?_
  refine y_putI (n := 205) ⟨dX12_knows_202, rfl⟩ kfX12_493 l_66 (by decide +kernel) rfl ?_
  refine y_aload_n (i := 0) (n := 206) ⟨dX12_knows_205, rfl⟩ rfl ?_
  refine y_dup_r (n := 207) ⟨dX12_knows_206, rfl⟩ ?_
  refine y_getI (n := 210) ⟨dX12_knows_207, rfl⟩ kfX12_496 l_66 rfl ?_
  refine y_iload_n (i := 1) (n := 211) ⟨dX12_knows_210, rfl⟩ rfl ?_
  refine y_ior (n := 212) ⟨dX12_knows_211, rfl⟩ ?_
  refine y_putI (n := 215) ⟨dX12_knows_212, rfl⟩ kfX12_496 l_66 (by decide +kernel) rfl ?_
  refine y_iinc (i := 1) (n := 218) (b := (x1 + 1)) (L2 := [some (.ref 66), some (.int (x1 + 1)), none]) ⟨dX12_knows_215, rfl⟩ rfl (by rw [ki_1]) (by decide) rfl rfl ?_
  refine y_goto (t := 123) ⟨dX12_knows_218, rfl, rfl⟩ ?_
  cases hf
  exact y_wk ⟨Or.inr rfl, Or.inr rfl, Or.inr rfl, trivial⟩ hk
theorem w_b_mo_knows_123_123 (x1 : Int32) (M : dM) {Q : mz_P} {o : ((Int32 × dM) ⊕ dM)} (hf : b_mo_knows_123_123 x1 M = some o) (hk : K_mo_knows_123 Q  M o) : mW mX12_knows 6 Q 123 [some (.ref 66), some (.int x1), none] [] M := by
  unfold b_mo_knows_123_123 at hf
  refine y_iload_n (i := 1) (n := 124) ⟨dX12_knows_123, rfl⟩ rfl ?_
  refine y_sipush (n := 127) (v := 1024) ⟨dX12_knows_124, rfl⟩ ks_1024 ?_
  refine y_icmp_ge (t := 221) (n := 130) ⟨dX12_knows_127, rfl, rfl⟩ (fun (hc : 1024 ≤ x1) => ?_) (fun (hc : ¬ (1024 ≤ x1)) => ?_)
  · replace hf := i_t hc hf
    cases hf
    exact y_wk ⟨Or.inr rfl, Or.inl rfl, Or.inr rfl, trivial⟩ hk
  · replace hf := i_f hc hf
    refine y_aload_n (i := 0) (n := 131) ⟨dX12_knows_130, rfl⟩ rfl ?_
    refine y_iload_n (i := 1) (n := 132) ⟨dX12_knows_131, rfl⟩ rfl ?_
    obtain ⟨v14, hv15, hf⟩ := b_s hf
    refine c_mo_explains x1 M (n := 135) ⟨dX12_knows_132, rfl⟩ klX12_499 hv15 (by decide) (Nat.le_of_ble_eq_true rfl) rfl rfl ?_
    refine y_if_ne (t := 141) (n := 138) ⟨dX12_knows_135, rfl, rfl⟩ (fun h0 => ?_) (fun h0 => ?_)
    · have hc := bI_1 h0
      replace hf := i_t hc hf
      refine y_aload_n (i := 0) (n := 142) ⟨dX12_knows_141, rfl⟩ rfl ?_
      refine y_dup_r (n := 143) ⟨dX12_knows_142, rfl⟩ ?_
      refine y_getI (n := 146) ⟨dX12_knows_143, rfl⟩ kfX12_484 l_66 rfl ?_
      refine y_iconst (n := 147) (v := 1) ⟨dX12_knows_146, rfl⟩ ki_1 ?_
      refine y_iadd (n := 148) ⟨dX12_knows_147, rfl⟩ ?_
      refine y_putI (n := 151) ⟨dX12_knows_148, rfl⟩ kfX12_484 l_66 (by decide +kernel) rfl ?_
      refine y_iload_n (i := 1) (n := 152) ⟨dX12_knows_151, rfl⟩ rfl ?_
      obtain ⟨v16, hv17, hf⟩ := b_s hf
      refine c_mo_bits x1 (sI M 66 64 ((gI M 66 64) + 1)) (n := 155) ⟨dX12_knows_152, rfl⟩ klX12_242 hv17 (by decide) (Nat.le_of_ble_eq_true rfl) rfl rfl ?_
      refine y_istore_n (i := 2) (n := 156) (L2 := [some (.ref 66), some (.int x1), some (.int v16)]) ⟨dX12_knows_155, rfl⟩ (by decide) rfl rfl ?_
      refine y_iload_n (i := 2) (n := 157) ⟨dX12_knows_156, rfl⟩ rfl ?_
      refine y_aload_n (i := 0) (n := 158) ⟨dX12_knows_157, rfl⟩ rfl ?_
      refine y_getI (n := 161) ⟨dX12_knows_158, rfl⟩ kfX12_487 l_66 rfl ?_
      refine y_icmp_le (t := 167) (n := 164) ⟨dX12_knows_161, rfl, rfl⟩ (fun (hc : v16 ≤ (gI (sI M 66 64 ((gI M 66 64) + 1)) 66 65)) => ?_) (fun (hc : ¬ (v16 ≤ (gI (sI M 66 64 ((gI M 66 64) + 1)) 66 65))) => ?_)
      · replace hf := i_t hc hf
        refine y_iload_n (i := 2) (n := 168) ⟨dX12_knows_167, rfl⟩ rfl ?_
        refine y_aload_n (i := 0) (n := 169) ⟨dX12_knows_168, rfl⟩ rfl ?_
        refine y_getI (n := 172) ⟨dX12_knows_169, rfl⟩ kfX12_487 l_66 rfl ?_
        refine y_icmp_ge (t := 195) (n := 175) ⟨dX12_knows_172, rfl, rfl⟩ (fun (hc : (gI (sI M 66 64 ((gI M 66 64) + 1)) 66 65) ≤ v16) => ?_) (fun (hc : ¬ ((gI (sI M 66 64 ((gI M 66 64) + 1)) 66 65) ≤ v16)) => ?_)
        · replace hf := i_t hc hf
          exact y_wk ⟨Or.inr rfl, Or.inr rfl, Or.inl rfl, trivial⟩ (w_b_mo_knows_123_195 x1 (sI M 66 64 ((gI M 66 64) + 1)) hf hk)
        · replace hf := i_f hc hf
          refine y_aload_n (i := 0) (n := 176) ⟨dX12_knows_175, rfl⟩ rfl ?_
          refine y_iload_n (i := 2) (n := 177) ⟨dX12_knows_176, rfl⟩ rfl ?_
          refine y_putI (n := 180) ⟨dX12_knows_177, rfl⟩ kfX12_487 l_66 (by decide +kernel) rfl ?_
          refine y_aload_n (i := 0) (n := 181) ⟨dX12_knows_180, rfl⟩ rfl ?_
          refine y_iload_n (i := 1) (n := 182) ⟨dX12_knows_181, rfl⟩ rfl ?_
          refine y_putI (n := 185) ⟨dX12_knows_182, rfl⟩ kfX12_490 l_66 (by decide +kernel) rfl ?_
          refine y_aload_n (i := 0) (n := 186) ⟨dX12_knows_185, rfl⟩ rfl ?_
          refine y_iload_n (i := 1) (n := 187) ⟨dX12_knows_186, rfl⟩ rfl ?_
          refine y_putI (n := 190) ⟨dX12_knows_187, rfl⟩ kfX12_493 l_66 (by decide +kernel) rfl ?_
          refine y_aload_n (i := 0) (n := 191) ⟨dX12_knows_190, rfl⟩ rfl ?_
          refine y_iload_n (i := 1) (n := 192) ⟨dX12_knows_191, rfl⟩ rfl ?_
          refine y_putI (n := 195) ⟨dX12_knows_192, rfl⟩ kfX12_496 l_66 (by decide +kernel) rfl ?_
          exact y_wk ⟨Or.inr rfl, Or.inr rfl, Or.inl rfl, trivial⟩ (w_b_mo_knows_123_195 x1 (sI (sI (sI (sI (sI M 66 64 ((gI M 66 64) + 1)) 66 65 v16) 66 66 x1) 66 67 x1) 66 68 x1) hf hk)
      · replace hf := i_f hc hf
        refine y_goto (t := 215) ⟨dX12_knows_164, rfl, rfl⟩ ?_
        refine y_iinc (i := 1) (n := 218) (b := (x1 + 1)) (L2 := [some (.ref 66), some (.int (x1 + 1)), some (.int v16)]) ⟨dX12_knows_215, rfl⟩ rfl (by rw [ki_1]) (by decide) rfl rfl ?_
        refine y_goto (t := 123) ⟨dX12_knows_218, rfl, rfl⟩ ?_
        cases hf
        exact y_wk ⟨Or.inr rfl, Or.inr rfl, Or.inl rfl, trivial⟩ hk
    · have hc := bI_0 h0
      replace hf := i_f hc hf
      refine y_goto (t := 215) ⟨dX12_knows_138, rfl, rfl⟩ ?_
      refine y_iinc (i := 1) (n := 218) (b := (x1 + 1)) (L2 := [some (.ref 66), some (.int (x1 + 1)), none]) ⟨dX12_knows_215, rfl⟩ rfl (by rw [ki_1]) (by decide) rfl rfl ?_
      refine y_goto (t := 123) ⟨dX12_knows_218, rfl, rfl⟩ ?_
      cases hf
      exact y_wk ⟨Or.inr rfl, Or.inr rfl, Or.inr rfl, trivial⟩ hk
theorem wl_mo_knows_123 (x1 : Int32) (M : dM) {Q : mz_P} {x : dM} (hf : l_mo_knows_123 x1 M = some x) (hk : K_mo_knows_123 Q  M (.inr x)) : mW mX12_knows 6 Q 123 [some (.ref 66), some (.int x1), none] [] M :=
  lpc_wp (Wh := fun s => mW mX12_knows 6 Q 123 [some (.ref 66), some (.int s.1), none] [] s.2) (K := K_mo_knows_123 Q  M) (fun _ h => h) (fun s o hb hk => w_b_mo_knows_123_123 s.1 s.2 hb hk) hf hk
theorem w_b_mo_knows_228_262 (x1 : Int32) (M : dM) {Q : mz_P} {o : ((Int32 × dM) ⊕ dM)} (hf : b_mo_knows_228_262 x1 M = some o) (hk : K_mo_knows_228 Q  M o) : mW mX12_knows 6 Q 262 [some (.ref 66), some (.int x1), none] [] M := by
  unfold b_mo_knows_228_262 at hf
  refine y_aload_n (i := 0) (n := 263) ⟨dX12_knows_262, rfl⟩ rfl ?_
  refine y_dup_r (n := 264) ⟨dX12_knows_263, rfl⟩ ?_
  refine y_getJ (n := 267) ⟨dX12_knows_264, rfl⟩ kfX12_502 l_66 rfl ?_
  refine y_lconst (n := 268) (v := 1) ⟨dX12_knows_267, rfl⟩ kl_1 ?_
  refine y_iload_n (i := 1) (n := 269) ⟨dX12_knows_268, rfl⟩ rfl ?_
  refine y_lshl (n := 270) ⟨dX12_knows_269, rfl⟩ ?_
  refine y_lor (n := 271) ⟨dX12_knows_270, rfl⟩ ?_
  refine y_putJ (n := 274) ⟨dX12_knows_271, rfl⟩ kfX12_502 l_66 (by decide +kernel) rfl ?_
  refine y_iinc (i := 1) (n := 277) (b := (x1 + 1)) (L2 := [some (.ref 66), some (.int (x1 + 1)), none]) ⟨dX12_knows_274, rfl⟩ rfl (by rw [ki_1]) (by decide) rfl rfl ?_
  refine y_goto (t := 228) ⟨dX12_knows_277, rfl, rfl⟩ ?_
  cases hf
  exact y_wk ⟨Or.inr rfl, Or.inr rfl, Or.inr rfl, trivial⟩ hk
theorem w_b_mo_knows_228_228 (x1 : Int32) (M : dM) {Q : mz_P} {o : ((Int32 × dM) ⊕ dM)} (hf : b_mo_knows_228_228 x1 M = some o) (hk : K_mo_knows_228 Q  M o) : mW mX12_knows 6 Q 228 [some (.ref 66), some (.int x1), none] [] M := by
  unfold b_mo_knows_228_228 at hf
  refine y_iload_n (i := 1) (n := 229) ⟨dX12_knows_228, rfl⟩ rfl ?_
  refine y_aload_n (i := 0) (n := 230) ⟨dX12_knows_229, rfl⟩ rfl ?_
  refine y_getI (n := 233) ⟨dX12_knows_230, rfl⟩ kfX12_235 l_66 rfl ?_
  refine y_icmp_ge (t := 280) (n := 236) ⟨dX12_knows_233, rfl, rfl⟩ (fun (hc : (gI M 66 9) ≤ x1) => ?_) (fun (hc : ¬ ((gI M 66 9) ≤ x1)) => ?_)
  · replace hf := i_t hc hf
    cases hf
    exact y_return (n := 281) ⟨dX12_knows_280, rfl⟩ rfl hk
  · replace hf := i_f hc hf
    refine y_aload_n (i := 0) (n := 237) ⟨dX12_knows_236, rfl⟩ rfl ?_
    refine y_getR (n := 240) ⟨dX12_knows_237, rfl⟩ kfX12_122 l_66 rfl r_66_59 ?_
    refine y_iload_n (i := 1) (n := 241) ⟨dX12_knows_240, rfl⟩ rfl ?_
    obtain ⟨hg21, hf⟩ := g_s hf
    refine y_iaload (n := 242) ⟨dX12_knows_241, rfl⟩ l_104 hg21 ?_
    refine y_if_gt (t := 262) (n := 245) ⟨dX12_knows_242, rfl, rfl⟩ (fun (hc : 0 < (gI M 104 x1.toNatClampNeg)) => ?_) (fun (hc : ¬ (0 < (gI M 104 x1.toNatClampNeg))) => ?_)
    · replace hf := i_t hc hf
      exact y_wk ⟨Or.inr rfl, Or.inr rfl, Or.inr rfl, trivial⟩ (w_b_mo_knows_228_262 x1 M hf hk)
    · replace hf := i_f hc hf
      refine y_aload_n (i := 0) (n := 246) ⟨dX12_knows_245, rfl⟩ rfl ?_
      refine y_getI (n := 249) ⟨dX12_knows_246, rfl⟩ kfX12_496 l_66 rfl ?_
      refine y_aload_n (i := 0) (n := 250) ⟨dX12_knows_249, rfl⟩ rfl ?_
      refine y_getR (n := 253) ⟨dX12_knows_250, rfl⟩ kfX12_43 l_66 rfl r_66_14 ?_
      refine y_iload_n (i := 1) (n := 254) ⟨dX12_knows_253, rfl⟩ rfl ?_
      refine y_iaload (n := 255) ⟨dX12_knows_254, rfl⟩ l_78 hg21 ?_
      refine y_ishr (n := 256) ⟨dX12_knows_255, rfl⟩ ?_
      refine y_iconst (n := 257) (v := 1) ⟨dX12_knows_256, rfl⟩ ki_1 ?_
      refine y_iand (n := 258) ⟨dX12_knows_257, rfl⟩ ?_
      refine y_iconst (n := 259) (v := 1) ⟨dX12_knows_258, rfl⟩ ki_1 ?_
      refine y_icmp_ne (t := 274) (n := 262) ⟨dX12_knows_259, rfl, rfl⟩ (fun (hc : ¬ ((((gI M 66 68) >>> ((gI M 78 x1.toNatClampNeg) &&& 31)) &&& 1) = 1)) => ?_) (fun (hc : (((gI M 66 68) >>> ((gI M 78 x1.toNatClampNeg) &&& 31)) &&& 1) = 1) => ?_)
      · replace hf := i_f hc hf
        refine y_iinc (i := 1) (n := 277) (b := (x1 + 1)) (L2 := [some (.ref 66), some (.int (x1 + 1)), none]) ⟨dX12_knows_274, rfl⟩ rfl (by rw [ki_1]) (by decide) rfl rfl ?_
        refine y_goto (t := 228) ⟨dX12_knows_277, rfl, rfl⟩ ?_
        cases hf
        exact y_wk ⟨Or.inr rfl, Or.inr rfl, Or.inr rfl, trivial⟩ hk
      · replace hf := i_t hc hf
        exact y_wk ⟨Or.inr rfl, Or.inr rfl, Or.inr rfl, trivial⟩ (w_b_mo_knows_228_262 x1 M hf hk)
theorem wl_mo_knows_228 (x1 : Int32) (M : dM) {Q : mz_P} {x : dM} (hf : l_mo_knows_228 x1 M = some x) (hk : K_mo_knows_228 Q  M (.inr x)) : mW mX12_knows 6 Q 228 [some (.ref 66), some (.int x1), none] [] M :=
  lpc_wp (Wh := fun s => mW mX12_knows 6 Q 228 [some (.ref 66), some (.int s.1), none] [] s.2) (K := K_mo_knows_228 Q  M) (fun _ h => h) (fun s o hb hk => w_b_mo_knows_228_228 s.1 s.2 hb hk) hf hk
theorem ok_mo_knows  (M : dM) {o : dM} (hf : f_mo_knows M = some o) : mO mX12_knows 6 [.ref 66] M none o := by
  refine y_ok (by decide +kernel) (by decide) (L0 := [some (.ref 66), none, none]) rfl ?_
  have hk := mR_mQ none o
  generalize mQ _ _ = Q at hk ⊢
  unfold f_mo_knows at hf
  refine y_iconst (n := 1) (v := 0) ⟨dX12_knows_0, rfl⟩ ki_0 ?_
  refine y_istore_n (i := 1) (n := 2) (L2 := [some (.ref 66), some (.int 0), none]) ⟨dX12_knows_1, rfl⟩ (by decide) rfl rfl ?_
  obtain ⟨t11, hl12, hf⟩ := b_s hf
  refine y_wk ⟨Or.inr rfl, Or.inr rfl, Or.inr rfl, trivial⟩ (wl_mo_knows_2 0 M hl12 ?_)
  show mW mX12_knows 6 Q 95 [some (.ref 66), none, none] [] t11
  refine y_aload_n (i := 0) (n := 96) ⟨dX12_knows_95, rfl⟩ rfl ?_
  refine y_iconst (n := 97) (v := 0) ⟨dX12_knows_96, rfl⟩ ki_0 ?_
  refine y_putI (n := 100) ⟨dX12_knows_97, rfl⟩ kfX12_484 l_66 (by decide +kernel) rfl ?_
  refine y_aload_n (i := 0) (n := 101) ⟨dX12_knows_100, rfl⟩ rfl ?_
  refine y_bipush (n := 103) (v := 99) ⟨dX12_knows_101, rfl⟩ kb_99 ?_
  refine y_putI (n := 106) ⟨dX12_knows_103, rfl⟩ kfX12_487 l_66 (by decide +kernel) rfl ?_
  refine y_aload_n (i := 0) (n := 107) ⟨dX12_knows_106, rfl⟩ rfl ?_
  refine y_iconst (n := 108) (v := (-1)) ⟨dX12_knows_107, rfl⟩ ki_m1 ?_
  refine y_putI (n := 111) ⟨dX12_knows_108, rfl⟩ kfX12_490 l_66 (by decide +kernel) rfl ?_
  refine y_aload_n (i := 0) (n := 112) ⟨dX12_knows_111, rfl⟩ rfl ?_
  refine y_iconst (n := 113) (v := 0) ⟨dX12_knows_112, rfl⟩ ki_0 ?_
  refine y_putI (n := 116) ⟨dX12_knows_113, rfl⟩ kfX12_493 l_66 (by decide +kernel) rfl ?_
  refine y_aload_n (i := 0) (n := 117) ⟨dX12_knows_116, rfl⟩ rfl ?_
  refine y_iconst (n := 118) (v := 0) ⟨dX12_knows_117, rfl⟩ ki_0 ?_
  refine y_putI (n := 121) ⟨dX12_knows_118, rfl⟩ kfX12_496 l_66 (by decide +kernel) rfl ?_
  refine y_iconst (n := 122) (v := 0) ⟨dX12_knows_121, rfl⟩ ki_0 ?_
  refine y_istore_n (i := 1) (n := 123) (L2 := [some (.ref 66), some (.int 0), none]) ⟨dX12_knows_122, rfl⟩ (by decide) rfl rfl ?_
  obtain ⟨t18, hl19, hf⟩ := b_s hf
  refine y_wk ⟨Or.inr rfl, Or.inr rfl, Or.inr rfl, trivial⟩ (wl_mo_knows_123 0 (sI (sI (sI (sI (sI t11 66 64 0) 66 65 99) 66 66 (-1)) 66 67 0) 66 68 0) hl19 ?_)
  show mW mX12_knows 6 Q 221 [some (.ref 66), none, none] [] t18
  refine y_aload_n (i := 0) (n := 222) ⟨dX12_knows_221, rfl⟩ rfl ?_
  refine y_lconst (n := 223) (v := 0) ⟨dX12_knows_222, rfl⟩ kl_0 ?_
  refine y_putJ (n := 226) ⟨dX12_knows_223, rfl⟩ kfX12_502 l_66 (by decide +kernel) rfl ?_
  refine y_iconst (n := 227) (v := 0) ⟨dX12_knows_226, rfl⟩ ki_0 ?_
  refine y_istore_n (i := 1) (n := 228) (L2 := [some (.ref 66), some (.int 0), none]) ⟨dX12_knows_227, rfl⟩ (by decide) rfl rfl ?_
  obtain ⟨r24, hl23, hf⟩ := b_s hf
  cases hf
  exact y_wk ⟨Or.inr rfl, Or.inr rfl, Or.inr rfl, trivial⟩ (wl_mo_knows_228 0 (sJ t18 66 63 0) hl23 hk)
theorem c_mo_knows  (M : dM) {o : dM} {y : mz_M} {d : Nat} {Q : mz_P} {pc n i : Nat} {L : List (Option Value)} {st : List Value} (h : mz_d y.2.1 pc n 3 (.invokevirtual i)) (hl : mz_ml y.1.cls i yX12_knows) (hf : f_mo_knows M = some o) (hd : 6 + 1 ≤ d) (hsm : (st.map (fun v => v.category)).sum ≤ 8) (hLr : mz_rL 133 L = true) (hSr : mz_rS 133 st = true) (kk : mW y d Q n L st o) : mW y d Q pc L (.ref 66 :: st) M :=
  y_callV kmX12_knows kvX12_knows l_66 (by decide +kernel) (by decide +kernel) h hl (ok_mo_knows  M hf) (vs := []) rfl rfl hd hsm hLr hSr kk
noncomputable def f_mo_stories (a1 : Int32) (M : dM) : Option (Int32 × dM) :=
  if (f_mo_within a1 0 4) = true then
    (f_mo_knows (sI M 66 0 0)).bind fun q1 =>
    if a1 = 0 then
      some ((gI q1 66 64), q1)
    else
      if (gI q1 66 64) = 0 then
        some ((-1), q1)
      else
        if a1 = 1 then
          some ((gI q1 66 65), q1)
        else
          if a1 = 2 then
            some ((gI q1 66 66), q1)
          else
            if a1 = 3 then
              some ((gI q1 66 67), q1)
            else
              some ((gI q1 66 68), q1)
  else
    some ((-1), (sI M 66 0 0))
theorem ok_mo_stories (a1 : Int32) (M : dM) {o : (Int32 × dM)} (hf : f_mo_stories a1 M = some o) : mO mX12_stories 7 [.ref 66, .int a1] M (some (.int o.1)) o.2 := by
  refine y_ok (by decide +kernel) (by decide) (L0 := [some (.ref 66), some (.int a1)]) rfl ?_
  have hk := mR_mQ (some (.int o.1)) o.2
  generalize mQ _ _ = Q at hk ⊢
  unfold f_mo_stories at hf
  refine y_aload_n (i := 0) (n := 1) ⟨dX12_stories_0, rfl⟩ rfl ?_
  refine y_iconst (n := 2) (v := 0) ⟨dX12_stories_1, rfl⟩ ki_0 ?_
  refine y_putI (n := 5) ⟨dX12_stories_2, rfl⟩ kfX12_214 l_66 (by decide +kernel) rfl ?_
  refine y_iload_n (i := 1) (n := 6) ⟨dX12_stories_5, rfl⟩ rfl ?_
  refine y_iconst (n := 7) (v := 0) ⟨dX12_stories_6, rfl⟩ ki_0 ?_
  refine y_iconst (n := 8) (v := 4) ⟨dX12_stories_7, rfl⟩ ki_4 ?_
  refine c_mo_within a1 0 4 (sI M 66 0 0) (n := 11) ⟨dX12_stories_8, rfl⟩ klX12_221 rfl (by decide) (Nat.le_of_ble_eq_true rfl) rfl rfl ?_
  refine y_if_ne (t := 16) (n := 14) ⟨dX12_stories_11, rfl, rfl⟩ (fun h0 => ?_) (fun h0 => ?_)
  · have hc := bI_1 h0
    replace hf := i_t hc hf
    refine y_aload_n (i := 0) (n := 17) ⟨dX12_stories_16, rfl⟩ rfl ?_
    obtain ⟨q1, hv2, hf⟩ := b_s hf
    refine c_mo_knows (sI M 66 0 0) (n := 20) ⟨dX12_stories_17, rfl⟩ klX12_505 hv2 (by decide) (Nat.le_of_ble_eq_true rfl) rfl rfl ?_
    refine y_iload_n (i := 1) (n := 21) ⟨dX12_stories_20, rfl⟩ rfl ?_
    refine y_if_ne (t := 29) (n := 24) ⟨dX12_stories_21, rfl, rfl⟩ (fun (hc : ¬ (a1 = 0)) => ?_) (fun (hc : a1 = 0) => ?_)
    · replace hf := i_f hc hf
      refine y_aload_n (i := 0) (n := 30) ⟨dX12_stories_29, rfl⟩ rfl ?_
      refine y_getI (n := 33) ⟨dX12_stories_30, rfl⟩ kfX12_484 l_66 rfl ?_
      refine y_if_ne (t := 38) (n := 36) ⟨dX12_stories_33, rfl, rfl⟩ (fun (hc : ¬ ((gI q1 66 64) = 0)) => ?_) (fun (hc : (gI q1 66 64) = 0) => ?_)
      · replace hf := i_f hc hf
        refine y_iload_n (i := 1) (n := 39) ⟨dX12_stories_38, rfl⟩ rfl ?_
        refine y_iconst (n := 40) (v := 1) ⟨dX12_stories_39, rfl⟩ ki_1 ?_
        refine y_icmp_ne (t := 50) (n := 43) ⟨dX12_stories_40, rfl, rfl⟩ (fun (hc : ¬ (a1 = 1)) => ?_) (fun (hc : a1 = 1) => ?_)
        · replace hf := i_f hc hf
          refine y_iload_n (i := 1) (n := 51) ⟨dX12_stories_50, rfl⟩ rfl ?_
          refine y_iconst (n := 52) (v := 2) ⟨dX12_stories_51, rfl⟩ ki_2 ?_
          refine y_icmp_ne (t := 62) (n := 55) ⟨dX12_stories_52, rfl, rfl⟩ (fun (hc : ¬ (a1 = 2)) => ?_) (fun (hc : a1 = 2) => ?_)
          · replace hf := i_f hc hf
            refine y_iload_n (i := 1) (n := 63) ⟨dX12_stories_62, rfl⟩ rfl ?_
            refine y_iconst (n := 64) (v := 3) ⟨dX12_stories_63, rfl⟩ ki_3 ?_
            refine y_icmp_ne (t := 74) (n := 67) ⟨dX12_stories_64, rfl, rfl⟩ (fun (hc : ¬ (a1 = 3)) => ?_) (fun (hc : a1 = 3) => ?_)
            · replace hf := i_f hc hf
              refine y_aload_n (i := 0) (n := 75) ⟨dX12_stories_74, rfl⟩ rfl ?_
              refine y_getI (n := 78) ⟨dX12_stories_75, rfl⟩ kfX12_496 l_66 rfl ?_
              cases hf
              exact y_ireturn (n := 79) ⟨dX12_stories_78, rfl⟩ rfl rfl hk
            · replace hf := i_t hc hf
              refine y_aload_n (i := 0) (n := 68) ⟨dX12_stories_67, rfl⟩ rfl ?_
              refine y_getI (n := 71) ⟨dX12_stories_68, rfl⟩ kfX12_493 l_66 rfl ?_
              refine y_goto (t := 78) ⟨dX12_stories_71, rfl, rfl⟩ ?_
              cases hf
              exact y_ireturn (n := 79) ⟨dX12_stories_78, rfl⟩ rfl rfl hk
          · replace hf := i_t hc hf
            refine y_aload_n (i := 0) (n := 56) ⟨dX12_stories_55, rfl⟩ rfl ?_
            refine y_getI (n := 59) ⟨dX12_stories_56, rfl⟩ kfX12_490 l_66 rfl ?_
            refine y_goto (t := 78) ⟨dX12_stories_59, rfl, rfl⟩ ?_
            cases hf
            exact y_ireturn (n := 79) ⟨dX12_stories_78, rfl⟩ rfl rfl hk
        · replace hf := i_t hc hf
          refine y_aload_n (i := 0) (n := 44) ⟨dX12_stories_43, rfl⟩ rfl ?_
          refine y_getI (n := 47) ⟨dX12_stories_44, rfl⟩ kfX12_487 l_66 rfl ?_
          refine y_goto (t := 78) ⟨dX12_stories_47, rfl, rfl⟩ ?_
          cases hf
          exact y_ireturn (n := 79) ⟨dX12_stories_78, rfl⟩ rfl rfl hk
      · replace hf := i_t hc hf
        refine y_iconst (n := 37) (v := (-1)) ⟨dX12_stories_36, rfl⟩ ki_m1 ?_
        cases hf
        exact y_ireturn (n := 38) ⟨dX12_stories_37, rfl⟩ rfl rfl hk
    · replace hf := i_t hc hf
      refine y_aload_n (i := 0) (n := 25) ⟨dX12_stories_24, rfl⟩ rfl ?_
      refine y_getI (n := 28) ⟨dX12_stories_25, rfl⟩ kfX12_484 l_66 rfl ?_
      cases hf
      exact y_ireturn (n := 29) ⟨dX12_stories_28, rfl⟩ rfl rfl hk
  · have hc := bI_0 h0
    replace hf := i_f hc hf
    refine y_iconst (n := 15) (v := (-1)) ⟨dX12_stories_14, rfl⟩ ki_m1 ?_
    cases hf
    exact y_ireturn (n := 16) ⟨dX12_stories_15, rfl⟩ rfl rfl hk
theorem c_mo_stories (a1 : Int32) (M : dM) {o : (Int32 × dM)} {y : mz_M} {d : Nat} {Q : mz_P} {pc n i : Nat} {L : List (Option Value)} {st : List Value} (h : mz_d y.2.1 pc n 3 (.invokevirtual i)) (hl : mz_ml y.1.cls i yX12_stories) (hf : f_mo_stories a1 M = some o) (hd : 7 + 1 ≤ d) (hsm : (st.map (fun v => v.category)).sum ≤ 8) (hLr : mz_rL 133 L = true) (hSr : mz_rS 133 st = true) (kk : mW y d Q n L (.int o.1 :: st) o.2) : mW y d Q pc L (.int a1 :: .ref 66 :: st) M :=
  y_callV kmX12_stories kvX12_stories l_66 (by decide +kernel) (by decide +kernel) h hl (ok_mo_stories a1 M hf) (vs := [.int a1]) rfl rfl hd hsm hLr hSr kk
def K_mo_ground_63 (Q : mz_P) (x1 : Int32) (x2 : Int64) (x4 : Int32) (M : dM) : ((Int32 × Int32) ⊕ Int32) → Prop
  | .inl s => mW mX12_ground 2 Q 63 [some (.ref 66), some (.int x1), some (.long x2), none, some (.int x4), some (.int s.1), some (.int s.2)] [] M
  | .inr t => mW mX12_ground 2 Q 99 [some (.ref 66), some (.int x1), some (.long x2), none, some (.int x4), some (.int t), none] [] M
noncomputable def b_mo_ground_63_63 (x1 : Int32) (x2 : Int64) (x4 : Int32) (x5 : Int32) (x6 : Int32) (M : dM) : Option ((Int32 × Int32) ⊕ Int32) :=
  if (gI M 66 69) ≤ x6 then
    some (.inr x5)
  else
    gd (vp_in x6 36) <|
    if (gI M 108 x6.toNatClampNeg) = x1 then
      some (.inl ((x5 + 1), (x6 + 1)))
    else
      some (.inl ((x5 + 0), (x6 + 1)))
noncomputable def l_mo_ground_63 (x1 : Int32) (x2 : Int64) (x4 : Int32) (x5 : Int32) (x6 : Int32) (M : dM) : Option Int32 := lpc (fun s => b_mo_ground_63_63 x1 x2 x4 s.1 s.2 M) (x5, x6)
noncomputable def t_mo_ground_57 (x1 : Int32) (x2 : Int64) (x4 : Int32) (M : dM) : Option (Bool × dM) :=
  (l_mo_ground_63 x1 x2 x4 0 0 M).bind fun t2 =>
    if t2 = 3 then
      some (false, M)
    else
      gd (vp_in (gI M 66 69) 36) <|
      gd (vp_in (gI (sI M 108 (gI M 66 69).toNatClampNeg x1) 66 69) 36) <|
      gd (vp_in (gI (sJ (sI M 108 (gI M 66 69).toNatClampNeg x1) 109 (gI (sI M 108 (gI M 66 69).toNatClampNeg x1) 66 69).toNatClampNeg x2) 66 69) 36) <|
      some (true, (sI (sI (sJ (sI M 108 (gI M 66 69).toNatClampNeg x1) 109 (gI (sI M 108 (gI M 66 69).toNatClampNeg x1) 66 69).toNatClampNeg x2) 110 (gI (sJ (sI M 108 (gI M 66 69).toNatClampNeg x1) 109 (gI (sI M 108 (gI M 66 69).toNatClampNeg x1) 66 69).toNatClampNeg x2) 66 69).toNatClampNeg x4) 66 69 ((gI (sI (sJ (sI M 108 (gI M 66 69).toNatClampNeg x1) 109 (gI (sI M 108 (gI M 66 69).toNatClampNeg x1) 66 69).toNatClampNeg x2) 110 (gI (sJ (sI M 108 (gI M 66 69).toNatClampNeg x1) 109 (gI (sI M 108 (gI M 66 69).toNatClampNeg x1) 66 69).toNatClampNeg x2) 66 69).toNatClampNeg x4) 66 69) + 1)))
noncomputable def f_mo_ground (a1 : Int32) (a2 : Int64) (a3 : Int32) (M : dM) : Option (Bool × dM) :=
  if (f_mo_within a1 0 11) = true then
    if a2 < 0 then
      some (false, (sI M 66 0 0))
    else
      if ((1 : Int64) <<< ((gI (sI M 66 0 0) 66 9).toInt64 &&& 63)) ≤ a2 then
        some (false, (sI M 66 0 0))
      else
        if (f_mo_within a3 0 4095) = true then
          if a2 = 0 then
            if a3 = 0 then
              some (false, (sI M 66 0 0))
            else
              t_mo_ground_57 a1 a2 a3 (sI M 66 0 0)
          else
            t_mo_ground_57 a1 a2 a3 (sI M 66 0 0)
        else
          some (false, (sI M 66 0 0))
  else
    some (false, (sI M 66 0 0))
theorem w_b_mo_ground_63_63 (x1 : Int32) (x2 : Int64) (x4 : Int32) (x5 : Int32) (x6 : Int32) (M : dM) {Q : mz_P} {o : ((Int32 × Int32) ⊕ Int32)} (hf : b_mo_ground_63_63 x1 x2 x4 x5 x6 M = some o) (hk : K_mo_ground_63 Q x1 x2 x4 M o) : mW mX12_ground 2 Q 63 [some (.ref 66), some (.int x1), some (.long x2), none, some (.int x4), some (.int x5), some (.int x6)] [] M := by
  unfold b_mo_ground_63_63 at hf
  refine y_iload (i := 6) (n := 65) ⟨dX12_ground_63, rfl⟩ rfl ?_
  refine y_aload_n (i := 0) (n := 66) ⟨dX12_ground_65, rfl⟩ rfl ?_
  refine y_getI (n := 69) ⟨dX12_ground_66, rfl⟩ kfX12_508 l_66 rfl ?_
  refine y_icmp_ge (t := 99) (n := 72) ⟨dX12_ground_69, rfl, rfl⟩ (fun (hc : (gI M 66 69) ≤ x6) => ?_) (fun (hc : ¬ ((gI M 66 69) ≤ x6)) => ?_)
  · replace hf := i_t hc hf
    cases hf
    exact y_wk ⟨Or.inr rfl, Or.inr rfl, Or.inr rfl, Or.inr rfl, Or.inr rfl, Or.inr rfl, Or.inl rfl, trivial⟩ hk
  · replace hf := i_f hc hf
    refine y_iload (i := 5) (n := 74) ⟨dX12_ground_72, rfl⟩ rfl ?_
    refine y_aload_n (i := 0) (n := 75) ⟨dX12_ground_74, rfl⟩ rfl ?_
    refine y_getR (n := 78) ⟨dX12_ground_75, rfl⟩ kfX12_134 l_66 rfl r_66_70 ?_
    refine y_iload (i := 6) (n := 80) ⟨dX12_ground_78, rfl⟩ rfl ?_
    obtain ⟨hg1, hf⟩ := g_s hf
    refine y_iaload (n := 81) ⟨dX12_ground_80, rfl⟩ l_108 hg1 ?_
    refine y_iload_n (i := 1) (n := 82) ⟨dX12_ground_81, rfl⟩ rfl ?_
    refine y_icmp_ne (t := 89) (n := 85) ⟨dX12_ground_82, rfl, rfl⟩ (fun (hc : ¬ ((gI M 108 x6.toNatClampNeg) = x1)) => ?_) (fun (hc : (gI M 108 x6.toNatClampNeg) = x1) => ?_)
    · replace hf := i_f hc hf
      refine y_iconst (n := 90) (v := 0) ⟨dX12_ground_89, rfl⟩ ki_0 ?_
      refine y_iadd (n := 91) ⟨dX12_ground_90, rfl⟩ ?_
      refine y_istore (i := 5) (n := 93) (L2 := [some (.ref 66), some (.int x1), some (.long x2), none, some (.int x4), some (.int (x5 + 0)), some (.int x6)]) ⟨dX12_ground_91, rfl⟩ (by decide) rfl rfl ?_
      refine y_iinc (i := 6) (n := 96) (b := (x6 + 1)) (L2 := [some (.ref 66), some (.int x1), some (.long x2), none, some (.int x4), some (.int (x5 + 0)), some (.int (x6 + 1))]) ⟨dX12_ground_93, rfl⟩ rfl (by rw [ki_1]) (by decide) rfl rfl ?_
      refine y_goto (t := 63) ⟨dX12_ground_96, rfl, rfl⟩ ?_
      cases hf
      exact y_wk ⟨Or.inr rfl, Or.inr rfl, Or.inr rfl, Or.inr rfl, Or.inr rfl, Or.inr rfl, Or.inr rfl, trivial⟩ hk
    · replace hf := i_t hc hf
      refine y_iconst (n := 86) (v := 1) ⟨dX12_ground_85, rfl⟩ ki_1 ?_
      refine y_goto (t := 90) ⟨dX12_ground_86, rfl, rfl⟩ ?_
      refine y_iadd (n := 91) ⟨dX12_ground_90, rfl⟩ ?_
      refine y_istore (i := 5) (n := 93) (L2 := [some (.ref 66), some (.int x1), some (.long x2), none, some (.int x4), some (.int (x5 + 1)), some (.int x6)]) ⟨dX12_ground_91, rfl⟩ (by decide) rfl rfl ?_
      refine y_iinc (i := 6) (n := 96) (b := (x6 + 1)) (L2 := [some (.ref 66), some (.int x1), some (.long x2), none, some (.int x4), some (.int (x5 + 1)), some (.int (x6 + 1))]) ⟨dX12_ground_93, rfl⟩ rfl (by rw [ki_1]) (by decide) rfl rfl ?_
      refine y_goto (t := 63) ⟨dX12_ground_96, rfl, rfl⟩ ?_
      cases hf
      exact y_wk ⟨Or.inr rfl, Or.inr rfl, Or.inr rfl, Or.inr rfl, Or.inr rfl, Or.inr rfl, Or.inr rfl, trivial⟩ hk
theorem wl_mo_ground_63 (x1 : Int32) (x2 : Int64) (x4 : Int32) (x5 : Int32) (x6 : Int32) (M : dM) {Q : mz_P} {x : Int32} (hf : l_mo_ground_63 x1 x2 x4 x5 x6 M = some x) (hk : K_mo_ground_63 Q x1 x2 x4 M (.inr x)) : mW mX12_ground 2 Q 63 [some (.ref 66), some (.int x1), some (.long x2), none, some (.int x4), some (.int x5), some (.int x6)] [] M :=
  lpc_wp (Wh := fun s => mW mX12_ground 2 Q 63 [some (.ref 66), some (.int x1), some (.long x2), none, some (.int x4), some (.int s.1), some (.int s.2)] [] M) (K := K_mo_ground_63 Q x1 x2 x4 M) (fun _ h => h) (fun s o hb hk => w_b_mo_ground_63_63 x1 x2 x4 s.1 s.2 M hb hk) hf hk
theorem w_t_mo_ground_57 (x1 : Int32) (x2 : Int64) (x4 : Int32) (M : dM) {Q : mz_P} {o : (Bool × dM)} (hf : t_mo_ground_57 x1 x2 x4 M = some o) (hk : mR Q (some (.int (bI o.1))) o.2) : mW mX12_ground 2 Q 57 [some (.ref 66), some (.int x1), some (.long x2), none, some (.int x4), none, none] [] M := by
  unfold t_mo_ground_57 at hf
  refine y_iconst (n := 58) (v := 0) ⟨dX12_ground_57, rfl⟩ ki_0 ?_
  refine y_istore (i := 5) (n := 60) (L2 := [some (.ref 66), some (.int x1), some (.long x2), none, some (.int x4), some (.int 0), none]) ⟨dX12_ground_58, rfl⟩ (by decide) rfl rfl ?_
  refine y_iconst (n := 61) (v := 0) ⟨dX12_ground_60, rfl⟩ ki_0 ?_
  refine y_istore (i := 6) (n := 63) (L2 := [some (.ref 66), some (.int x1), some (.long x2), none, some (.int x4), some (.int 0), some (.int 0)]) ⟨dX12_ground_61, rfl⟩ (by decide) rfl rfl ?_
  obtain ⟨t2, hl3, hf⟩ := b_s hf
  refine y_wk ⟨Or.inr rfl, Or.inr rfl, Or.inr rfl, Or.inr rfl, Or.inr rfl, Or.inr rfl, Or.inr rfl, trivial⟩ (wl_mo_ground_63 x1 x2 x4 0 0 M hl3 ?_)
  show mW mX12_ground 2 Q 99 [some (.ref 66), some (.int x1), some (.long x2), none, some (.int x4), some (.int t2), none] [] M
  refine y_iload (i := 5) (n := 101) ⟨dX12_ground_99, rfl⟩ rfl ?_
  refine y_iconst (n := 102) (v := 3) ⟨dX12_ground_101, rfl⟩ ki_3 ?_
  refine y_icmp_ne (t := 107) (n := 105) ⟨dX12_ground_102, rfl, rfl⟩ (fun (hc : ¬ (t2 = 3)) => ?_) (fun (hc : t2 = 3) => ?_)
  · replace hf := i_f hc hf
    refine y_aload_n (i := 0) (n := 108) ⟨dX12_ground_107, rfl⟩ rfl ?_
    refine y_getR (n := 111) ⟨dX12_ground_108, rfl⟩ kfX12_134 l_66 rfl r_66_70 ?_
    refine y_aload_n (i := 0) (n := 112) ⟨dX12_ground_111, rfl⟩ rfl ?_
    refine y_getI (n := 115) ⟨dX12_ground_112, rfl⟩ kfX12_508 l_66 rfl ?_
    refine y_iload_n (i := 1) (n := 116) ⟨dX12_ground_115, rfl⟩ rfl ?_
    obtain ⟨hg5, hf⟩ := g_s hf
    refine y_iastore (n := 117) ⟨dX12_ground_116, rfl⟩ l_108 hg5 ?_
    refine y_aload_n (i := 0) (n := 118) ⟨dX12_ground_117, rfl⟩ rfl ?_
    refine y_getR (n := 121) ⟨dX12_ground_118, rfl⟩ kfX12_137 l_66 rfl r_66_71 ?_
    refine y_aload_n (i := 0) (n := 122) ⟨dX12_ground_121, rfl⟩ rfl ?_
    refine y_getI (n := 125) ⟨dX12_ground_122, rfl⟩ kfX12_508 l_66 rfl ?_
    refine y_lload_n (i := 2) (n := 126) ⟨dX12_ground_125, rfl⟩ rfl ?_
    obtain ⟨hg6, hf⟩ := g_s hf
    refine y_lastore (n := 127) ⟨dX12_ground_126, rfl⟩ l_109 hg6 ?_
    refine y_aload_n (i := 0) (n := 128) ⟨dX12_ground_127, rfl⟩ rfl ?_
    refine y_getR (n := 131) ⟨dX12_ground_128, rfl⟩ kfX12_141 l_66 rfl r_66_72 ?_
    refine y_aload_n (i := 0) (n := 132) ⟨dX12_ground_131, rfl⟩ rfl ?_
    refine y_getI (n := 135) ⟨dX12_ground_132, rfl⟩ kfX12_508 l_66 rfl ?_
    refine y_iload (i := 4) (n := 137) ⟨dX12_ground_135, rfl⟩ rfl ?_
    obtain ⟨hg7, hf⟩ := g_s hf
    refine y_iastore (n := 138) ⟨dX12_ground_137, rfl⟩ l_110 hg7 ?_
    refine y_aload_n (i := 0) (n := 139) ⟨dX12_ground_138, rfl⟩ rfl ?_
    refine y_dup_r (n := 140) ⟨dX12_ground_139, rfl⟩ ?_
    refine y_getI (n := 143) ⟨dX12_ground_140, rfl⟩ kfX12_508 l_66 rfl ?_
    refine y_iconst (n := 144) (v := 1) ⟨dX12_ground_143, rfl⟩ ki_1 ?_
    refine y_iadd (n := 145) ⟨dX12_ground_144, rfl⟩ ?_
    refine y_putI (n := 148) ⟨dX12_ground_145, rfl⟩ kfX12_508 l_66 (by decide +kernel) rfl ?_
    refine y_iconst (n := 149) (v := 1) ⟨dX12_ground_148, rfl⟩ ki_1 ?_
    cases hf
    exact y_ireturn (n := 150) ⟨dX12_ground_149, rfl⟩ rfl rfl hk
  · replace hf := i_t hc hf
    refine y_iconst (n := 106) (v := 0) ⟨dX12_ground_105, rfl⟩ ki_0 ?_
    cases hf
    exact y_ireturn (n := 107) ⟨dX12_ground_106, rfl⟩ rfl rfl hk
theorem ok_mo_ground (a1 : Int32) (a2 : Int64) (a3 : Int32) (M : dM) {o : (Bool × dM)} (hf : f_mo_ground a1 a2 a3 M = some o) : mO mX12_ground 2 [.ref 66, .int a1, .long a2, .int a3] M (some (.int (bI o.1))) o.2 := by
  refine y_ok (by decide +kernel) (by decide) (L0 := [some (.ref 66), some (.int a1), some (.long a2), none, some (.int a3), none, none]) rfl ?_
  have hk := mR_mQ (some (.int (bI o.1))) o.2
  generalize mQ _ _ = Q at hk ⊢
  unfold f_mo_ground at hf
  refine y_aload_n (i := 0) (n := 1) ⟨dX12_ground_0, rfl⟩ rfl ?_
  refine y_iconst (n := 2) (v := 0) ⟨dX12_ground_1, rfl⟩ ki_0 ?_
  refine y_putI (n := 5) ⟨dX12_ground_2, rfl⟩ kfX12_214 l_66 (by decide +kernel) rfl ?_
  refine y_iload_n (i := 1) (n := 6) ⟨dX12_ground_5, rfl⟩ rfl ?_
  refine y_iconst (n := 7) (v := 0) ⟨dX12_ground_6, rfl⟩ ki_0 ?_
  refine y_bipush (n := 9) (v := 11) ⟨dX12_ground_7, rfl⟩ kb_11 ?_
  refine c_mo_within a1 0 11 (sI M 66 0 0) (n := 12) ⟨dX12_ground_9, rfl⟩ klX12_221 rfl (by decide) (Nat.le_of_ble_eq_true rfl) rfl rfl ?_
  refine y_if_eq (t := 55) (n := 15) ⟨dX12_ground_12, rfl, rfl⟩ (fun h0 => ?_) (fun h0 => ?_)
  · have hc := bI_0 h0
    replace hf := i_f hc hf
    refine y_iconst (n := 56) (v := 0) ⟨dX12_ground_55, rfl⟩ ki_0 ?_
    cases hf
    exact y_ireturn (n := 57) ⟨dX12_ground_56, rfl⟩ rfl rfl hk
  · have hc := bI_1 h0
    replace hf := i_t hc hf
    refine y_lload_n (i := 2) (n := 16) ⟨dX12_ground_15, rfl⟩ rfl ?_
    refine y_lconst (n := 17) (v := 0) ⟨dX12_ground_16, rfl⟩ kl_0 ?_
    refine y_lcmp (n := 18) ⟨dX12_ground_17, rfl⟩ ?_
    refine y_if_lt (t := 55) (n := 21) ⟨dX12_ground_18, rfl, rfl⟩ (fun h0 => ?_) (fun h0 => ?_)
    · have hc : a2 < 0 := (lc_lt _ _).mp h0
      replace hf := i_t hc hf
      refine y_iconst (n := 56) (v := 0) ⟨dX12_ground_55, rfl⟩ ki_0 ?_
      cases hf
      exact y_ireturn (n := 57) ⟨dX12_ground_56, rfl⟩ rfl rfl hk
    · have hc : ¬ (a2 < 0) := fun e => h0 ((lc_lt _ _).mpr e)
      replace hf := i_f hc hf
      refine y_lload_n (i := 2) (n := 22) ⟨dX12_ground_21, rfl⟩ rfl ?_
      refine y_lconst (n := 23) (v := 1) ⟨dX12_ground_22, rfl⟩ kl_1 ?_
      refine y_aload_n (i := 0) (n := 24) ⟨dX12_ground_23, rfl⟩ rfl ?_
      refine y_getI (n := 27) ⟨dX12_ground_24, rfl⟩ kfX12_235 l_66 rfl ?_
      refine y_lshl (n := 28) ⟨dX12_ground_27, rfl⟩ ?_
      refine y_lcmp (n := 29) ⟨dX12_ground_28, rfl⟩ ?_
      refine y_if_ge (t := 55) (n := 32) ⟨dX12_ground_29, rfl, rfl⟩ (fun h0 => ?_) (fun h0 => ?_)
      · have hc : ((1 : Int64) <<< ((gI (sI M 66 0 0) 66 9).toInt64 &&& 63)) ≤ a2 := (lc_ge _ _).mp h0
        replace hf := i_t hc hf
        refine y_iconst (n := 56) (v := 0) ⟨dX12_ground_55, rfl⟩ ki_0 ?_
        cases hf
        exact y_ireturn (n := 57) ⟨dX12_ground_56, rfl⟩ rfl rfl hk
      · have hc : ¬ (((1 : Int64) <<< ((gI (sI M 66 0 0) 66 9).toInt64 &&& 63)) ≤ a2) := fun e => h0 ((lc_ge _ _).mpr e)
        replace hf := i_f hc hf
        refine y_iload (i := 4) (n := 34) ⟨dX12_ground_32, rfl⟩ rfl ?_
        refine y_iconst (n := 35) (v := 0) ⟨dX12_ground_34, rfl⟩ ki_0 ?_
        refine y_sipush (n := 38) (v := 4095) ⟨dX12_ground_35, rfl⟩ ks_4095 ?_
        refine c_mo_within a3 0 4095 (sI M 66 0 0) (n := 41) ⟨dX12_ground_38, rfl⟩ klX12_221 rfl (by decide) (Nat.le_of_ble_eq_true rfl) rfl rfl ?_
        refine y_if_eq (t := 55) (n := 44) ⟨dX12_ground_41, rfl, rfl⟩ (fun h0 => ?_) (fun h0 => ?_)
        · have hc := bI_0 h0
          replace hf := i_f hc hf
          refine y_iconst (n := 56) (v := 0) ⟨dX12_ground_55, rfl⟩ ki_0 ?_
          cases hf
          exact y_ireturn (n := 57) ⟨dX12_ground_56, rfl⟩ rfl rfl hk
        · have hc := bI_1 h0
          replace hf := i_t hc hf
          refine y_lload_n (i := 2) (n := 45) ⟨dX12_ground_44, rfl⟩ rfl ?_
          refine y_lconst (n := 46) (v := 0) ⟨dX12_ground_45, rfl⟩ kl_0 ?_
          refine y_lcmp (n := 47) ⟨dX12_ground_46, rfl⟩ ?_
          refine y_if_ne (t := 57) (n := 50) ⟨dX12_ground_47, rfl, rfl⟩ (fun h0 => ?_) (fun h0 => ?_)
          · have hc : ¬ (a2 = 0) := fun e => h0 ((lc_eq _ _).mpr e)
            replace hf := i_f hc hf
            exact y_wk ⟨Or.inr rfl, Or.inr rfl, Or.inr rfl, Or.inr rfl, Or.inr rfl, Or.inr rfl, Or.inr rfl, trivial⟩ (w_t_mo_ground_57 a1 a2 a3 (sI M 66 0 0) hf hk)
          · have hc : a2 = 0 := (lc_eq _ _).mp h0
            replace hf := i_t hc hf
            refine y_iload (i := 4) (n := 52) ⟨dX12_ground_50, rfl⟩ rfl ?_
            refine y_if_ne (t := 57) (n := 55) ⟨dX12_ground_52, rfl, rfl⟩ (fun (hc : ¬ (a3 = 0)) => ?_) (fun (hc : a3 = 0) => ?_)
            · replace hf := i_f hc hf
              exact y_wk ⟨Or.inr rfl, Or.inr rfl, Or.inr rfl, Or.inr rfl, Or.inr rfl, Or.inr rfl, Or.inr rfl, trivial⟩ (w_t_mo_ground_57 a1 a2 a3 (sI M 66 0 0) hf hk)
            · replace hf := i_t hc hf
              refine y_iconst (n := 56) (v := 0) ⟨dX12_ground_55, rfl⟩ ki_0 ?_
              cases hf
              exact y_ireturn (n := 57) ⟨dX12_ground_56, rfl⟩ rfl rfl hk
theorem c_mo_ground (a1 : Int32) (a2 : Int64) (a3 : Int32) (M : dM) {o : (Bool × dM)} {y : mz_M} {d : Nat} {Q : mz_P} {pc n i : Nat} {L : List (Option Value)} {st : List Value} (h : mz_d y.2.1 pc n 3 (.invokevirtual i)) (hl : mz_ml y.1.cls i yX12_ground) (hf : f_mo_ground a1 a2 a3 M = some o) (hd : 2 + 1 ≤ d) (hsm : (st.map (fun v => v.category)).sum ≤ 8) (hLr : mz_rL 133 L = true) (hSr : mz_rS 133 st = true) (kk : mW y d Q n L (.int (bI o.1) :: st) o.2) : mW y d Q pc L (.int a3 :: .long a2 :: .int a1 :: .ref 66 :: st) M :=
  y_callV kmX12_ground kvX12_ground l_66 (by decide +kernel) (by decide +kernel) h hl (ok_mo_ground a1 a2 a3 M hf) (vs := [.int a1, .long a2, .int a3]) rfl rfl hd hsm hLr hSr kk
def K_mo_findsBy_5 (Q : mz_P) (x1 : Int32) (M : dM) : ((Int64 × Int32) ⊕ Int64) → Prop
  | .inl s => mW mX12_findsBy 1 Q 5 [some (.ref 66), some (.int x1), some (.long s.1), none, some (.int s.2)] [] M
  | .inr r => mR Q (some (.long r)) M
noncomputable def b_mo_findsBy_5_5 (x1 : Int32) (x2 : Int64) (x4 : Int32) (M : dM) : Option ((Int64 × Int32) ⊕ Int64) :=
  if (gI M 66 9) ≤ x4 then
    some (.inr x2)
  else
    gd (vp_in x4 40) <|
    if (gI M 78 x4.toNatClampNeg) = x1 then
      some (.inl ((x2 ||| ((1 : Int64) <<< (x4.toInt64 &&& 63))), (x4 + 1)))
    else
      some (.inl (x2, (x4 + 1)))
noncomputable def l_mo_findsBy_5 (x1 : Int32) (x2 : Int64) (x4 : Int32) (M : dM) : Option Int64 := lpc (fun s => b_mo_findsBy_5_5 x1 s.1 s.2 M) (x2, x4)
noncomputable def f_mo_findsBy (a1 : Int32) (M : dM) : Option Int64 :=
  (l_mo_findsBy_5 a1 0 0 M).bind fun r4 => some r4
theorem w_b_mo_findsBy_5_5 (x1 : Int32) (x2 : Int64) (x4 : Int32) (M : dM) {Q : mz_P} {o : ((Int64 × Int32) ⊕ Int64)} (hf : b_mo_findsBy_5_5 x1 x2 x4 M = some o) (hk : K_mo_findsBy_5 Q x1 M o) : mW mX12_findsBy 1 Q 5 [some (.ref 66), some (.int x1), some (.long x2), none, some (.int x4)] [] M := by
  unfold b_mo_findsBy_5_5 at hf
  refine y_iload (i := 4) (n := 7) ⟨dX12_findsBy_5, rfl⟩ rfl ?_
  refine y_aload_n (i := 0) (n := 8) ⟨dX12_findsBy_7, rfl⟩ rfl ?_
  refine y_getI (n := 11) ⟨dX12_findsBy_8, rfl⟩ kfX12_235 l_66 rfl ?_
  refine y_icmp_ge (t := 38) (n := 14) ⟨dX12_findsBy_11, rfl, rfl⟩ (fun (hc : (gI M 66 9) ≤ x4) => ?_) (fun (hc : ¬ ((gI M 66 9) ≤ x4)) => ?_)
  · replace hf := i_t hc hf
    refine y_lload_n (i := 2) (n := 39) ⟨dX12_findsBy_38, rfl⟩ rfl ?_
    cases hf
    exact y_lreturn (n := 40) ⟨dX12_findsBy_39, rfl⟩ rfl hk
  · replace hf := i_f hc hf
    refine y_aload_n (i := 0) (n := 15) ⟨dX12_findsBy_14, rfl⟩ rfl ?_
    refine y_getR (n := 18) ⟨dX12_findsBy_15, rfl⟩ kfX12_43 l_66 rfl r_66_14 ?_
    refine y_iload (i := 4) (n := 20) ⟨dX12_findsBy_18, rfl⟩ rfl ?_
    obtain ⟨hg1, hf⟩ := g_s hf
    refine y_iaload (n := 21) ⟨dX12_findsBy_20, rfl⟩ l_78 hg1 ?_
    refine y_iload_n (i := 1) (n := 22) ⟨dX12_findsBy_21, rfl⟩ rfl ?_
    refine y_icmp_ne (t := 32) (n := 25) ⟨dX12_findsBy_22, rfl, rfl⟩ (fun (hc : ¬ ((gI M 78 x4.toNatClampNeg) = x1)) => ?_) (fun (hc : (gI M 78 x4.toNatClampNeg) = x1) => ?_)
    · replace hf := i_f hc hf
      refine y_iinc (i := 4) (n := 35) (b := (x4 + 1)) (L2 := [some (.ref 66), some (.int x1), some (.long x2), none, some (.int (x4 + 1))]) ⟨dX12_findsBy_32, rfl⟩ rfl (by rw [ki_1]) (by decide) rfl rfl ?_
      refine y_goto (t := 5) ⟨dX12_findsBy_35, rfl, rfl⟩ ?_
      cases hf
      exact y_wk ⟨Or.inr rfl, Or.inr rfl, Or.inr rfl, Or.inr rfl, Or.inr rfl, trivial⟩ hk
    · replace hf := i_t hc hf
      refine y_lload_n (i := 2) (n := 26) ⟨dX12_findsBy_25, rfl⟩ rfl ?_
      refine y_lconst (n := 27) (v := 1) ⟨dX12_findsBy_26, rfl⟩ kl_1 ?_
      refine y_iload (i := 4) (n := 29) ⟨dX12_findsBy_27, rfl⟩ rfl ?_
      refine y_lshl (n := 30) ⟨dX12_findsBy_29, rfl⟩ ?_
      refine y_lor (n := 31) ⟨dX12_findsBy_30, rfl⟩ ?_
      refine y_lstore_n (i := 2) (n := 32) (L2 := [some (.ref 66), some (.int x1), some (.long (x2 ||| ((1 : Int64) <<< (x4.toInt64 &&& 63)))), none, some (.int x4)]) ⟨dX12_findsBy_31, rfl⟩ (by decide) rfl rfl ?_
      refine y_iinc (i := 4) (n := 35) (b := (x4 + 1)) (L2 := [some (.ref 66), some (.int x1), some (.long (x2 ||| ((1 : Int64) <<< (x4.toInt64 &&& 63)))), none, some (.int (x4 + 1))]) ⟨dX12_findsBy_32, rfl⟩ rfl (by rw [ki_1]) (by decide) rfl rfl ?_
      refine y_goto (t := 5) ⟨dX12_findsBy_35, rfl, rfl⟩ ?_
      cases hf
      exact y_wk ⟨Or.inr rfl, Or.inr rfl, Or.inr rfl, Or.inr rfl, Or.inr rfl, trivial⟩ hk
theorem wl_mo_findsBy_5 (x1 : Int32) (x2 : Int64) (x4 : Int32) (M : dM) {Q : mz_P} {x : Int64} (hf : l_mo_findsBy_5 x1 x2 x4 M = some x) (hk : K_mo_findsBy_5 Q x1 M (.inr x)) : mW mX12_findsBy 1 Q 5 [some (.ref 66), some (.int x1), some (.long x2), none, some (.int x4)] [] M :=
  lpc_wp (Wh := fun s => mW mX12_findsBy 1 Q 5 [some (.ref 66), some (.int x1), some (.long s.1), none, some (.int s.2)] [] M) (K := K_mo_findsBy_5 Q x1 M) (fun _ h => h) (fun s o hb hk => w_b_mo_findsBy_5_5 x1 s.1 s.2 M hb hk) hf hk
theorem ok_mo_findsBy (a1 : Int32) (M : dM) {o : Int64} (hf : f_mo_findsBy a1 M = some o) : mO mX12_findsBy 1 [.ref 66, .int a1] M (some (.long o)) M := by
  refine y_ok (by decide +kernel) (by decide) (L0 := [some (.ref 66), some (.int a1), none, none, none]) rfl ?_
  have hk := mR_mQ (some (.long o)) M
  generalize mQ _ _ = Q at hk ⊢
  unfold f_mo_findsBy at hf
  refine y_lconst (n := 1) (v := 0) ⟨dX12_findsBy_0, rfl⟩ kl_0 ?_
  refine y_lstore_n (i := 2) (n := 2) (L2 := [some (.ref 66), some (.int a1), some (.long 0), none, none]) ⟨dX12_findsBy_1, rfl⟩ (by decide) rfl rfl ?_
  refine y_iconst (n := 3) (v := 0) ⟨dX12_findsBy_2, rfl⟩ ki_0 ?_
  refine y_istore (i := 4) (n := 5) (L2 := [some (.ref 66), some (.int a1), some (.long 0), none, some (.int 0)]) ⟨dX12_findsBy_3, rfl⟩ (by decide) rfl rfl ?_
  obtain ⟨r4, hl3, hf⟩ := b_s hf
  cases hf
  exact y_wk ⟨Or.inr rfl, Or.inr rfl, Or.inr rfl, Or.inr rfl, Or.inr rfl, trivial⟩ (wl_mo_findsBy_5 a1 0 0 M hl3 hk)
theorem c_mo_findsBy (a1 : Int32) (M : dM) {o : Int64} {y : mz_M} {d : Nat} {Q : mz_P} {pc n i : Nat} {L : List (Option Value)} {st : List Value} (h : mz_d y.2.1 pc n 3 (.invokevirtual i)) (hl : mz_ml y.1.cls i yX12_findsBy) (hf : f_mo_findsBy a1 M = some o) (hd : 1 + 1 ≤ d) (hsm : (st.map (fun v => v.category)).sum ≤ 8) (hLr : mz_rL 133 L = true) (hSr : mz_rS 133 st = true) (kk : mW y d Q n L (.long o :: st) M) : mW y d Q pc L (.int a1 :: .ref 66 :: st) M :=
  y_callV kmX12_findsBy kvX12_findsBy l_66 (by decide +kernel) (by decide +kernel) h hl (ok_mo_findsBy a1 M hf) (vs := [.int a1]) rfl rfl hd hsm hLr hSr kk
def K_mo_standsWithout_5 (Q : mz_P) (x1 : Int64) (M : dM) : ((Int32 × Int32) ⊕ Int32) → Prop
  | .inl s => mW mX12_standsWithout 1 Q 5 [some (.ref 66), some (.long x1), none, some (.int s.1), some (.int s.2), none] [] M
  | .inr r => mR Q (some (.int r)) M
def K_mo_standsWithout_16 (Q : mz_P) (x1 : Int64) (M : dM) : ((Int32 × Int32 × Int32) ⊕ (Int32 × Int32)) → Prop
  | .inl s => mW mX12_standsWithout 1 Q 16 [some (.ref 66), some (.long x1), none, some (.int s.1), some (.int s.2.1), some (.int s.2.2)] [] M
  | .inr t => mW mX12_standsWithout 1 Q 92 [some (.ref 66), some (.long x1), none, some (.int t.1), some (.int t.2), none] [] M
noncomputable def b_mo_standsWithout_16_16 (x1 : Int64) (x3 : Int32) (x4 : Int32) (x5 : Int32) (M : dM) : Option ((Int32 × Int32 × Int32) ⊕ (Int32 × Int32)) :=
  if (gI M 66 69) ≤ x5 then
    some (.inr (x3, x4))
  else
    gd (vp_in x5 36) <|
    if ((x3 >>> ((gI M 108 x5.toNatClampNeg) &&& 31)) &&& 1) = 1 then
      some (.inl (x3, x4, (x5 + 1)))
    else
      if ((gJ M 109 x5.toNatClampNeg) &&& x1) = 0 then
        if ((gI M 110 x5.toNatClampNeg) &&& (x3 ^^^ (-1))) = 0 then
          some (.inl ((x3 ||| ((1 : Int32) <<< ((gI M 108 x5.toNatClampNeg) &&& 31))), 1, (x5 + 1)))
        else
          some (.inl (x3, x4, (x5 + 1)))
      else
        some (.inl (x3, x4, (x5 + 1)))
noncomputable def l_mo_standsWithout_16 (x1 : Int64) (x3 : Int32) (x4 : Int32) (x5 : Int32) (M : dM) : Option (Int32 × Int32) := lpc (fun s => b_mo_standsWithout_16_16 x1 s.1 s.2.1 s.2.2 M) (x3, x4, x5)
noncomputable def b_mo_standsWithout_5_5 (x1 : Int64) (x3 : Int32) (x4 : Int32) (M : dM) : Option ((Int32 × Int32) ⊕ Int32) :=
  if x4 = 0 then
    some (.inr x3)
  else
    (l_mo_standsWithout_16 x1 x3 0 0 M).bind fun t2 =>
      some (.inl (t2.1, t2.2))
noncomputable def l_mo_standsWithout_5 (x1 : Int64) (x3 : Int32) (x4 : Int32) (M : dM) : Option Int32 := lpc (fun s => b_mo_standsWithout_5_5 x1 s.1 s.2 M) (x3, x4)
noncomputable def f_mo_standsWithout (a1 : Int64) (M : dM) : Option Int32 :=
  (l_mo_standsWithout_5 a1 0 1 M).bind fun r7 => some r7
theorem w_b_mo_standsWithout_16_16 (x1 : Int64) (x3 : Int32) (x4 : Int32) (x5 : Int32) (M : dM) {Q : mz_P} {o : ((Int32 × Int32 × Int32) ⊕ (Int32 × Int32))} (hf : b_mo_standsWithout_16_16 x1 x3 x4 x5 M = some o) (hk : K_mo_standsWithout_16 Q x1 M o) : mW mX12_standsWithout 1 Q 16 [some (.ref 66), some (.long x1), none, some (.int x3), some (.int x4), some (.int x5)] [] M := by
  unfold b_mo_standsWithout_16_16 at hf
  refine y_iload (i := 5) (n := 18) ⟨dX12_standsWithout_16, rfl⟩ rfl ?_
  refine y_aload_n (i := 0) (n := 19) ⟨dX12_standsWithout_18, rfl⟩ rfl ?_
  refine y_getI (n := 22) ⟨dX12_standsWithout_19, rfl⟩ kfX12_508 l_66 rfl ?_
  refine y_icmp_ge (t := 92) (n := 25) ⟨dX12_standsWithout_22, rfl, rfl⟩ (fun (hc : (gI M 66 69) ≤ x5) => ?_) (fun (hc : ¬ ((gI M 66 69) ≤ x5)) => ?_)
  · replace hf := i_t hc hf
    cases hf
    exact y_wk ⟨Or.inr rfl, Or.inr rfl, Or.inr rfl, Or.inr rfl, Or.inr rfl, Or.inl rfl, trivial⟩ hk
  · replace hf := i_f hc hf
    refine y_iload_n (i := 3) (n := 26) ⟨dX12_standsWithout_25, rfl⟩ rfl ?_
    refine y_aload_n (i := 0) (n := 27) ⟨dX12_standsWithout_26, rfl⟩ rfl ?_
    refine y_getR (n := 30) ⟨dX12_standsWithout_27, rfl⟩ kfX12_134 l_66 rfl r_66_70 ?_
    refine y_iload (i := 5) (n := 32) ⟨dX12_standsWithout_30, rfl⟩ rfl ?_
    obtain ⟨hg1, hf⟩ := g_s hf
    refine y_iaload (n := 33) ⟨dX12_standsWithout_32, rfl⟩ l_108 hg1 ?_
    refine y_ishr (n := 34) ⟨dX12_standsWithout_33, rfl⟩ ?_
    refine y_iconst (n := 35) (v := 1) ⟨dX12_standsWithout_34, rfl⟩ ki_1 ?_
    refine y_iand (n := 36) ⟨dX12_standsWithout_35, rfl⟩ ?_
    refine y_iconst (n := 37) (v := 1) ⟨dX12_standsWithout_36, rfl⟩ ki_1 ?_
    refine y_icmp_eq (t := 86) (n := 40) ⟨dX12_standsWithout_37, rfl, rfl⟩ (fun (hc : ((x3 >>> ((gI M 108 x5.toNatClampNeg) &&& 31)) &&& 1) = 1) => ?_) (fun (hc : ¬ (((x3 >>> ((gI M 108 x5.toNatClampNeg) &&& 31)) &&& 1) = 1)) => ?_)
    · replace hf := i_t hc hf
      refine y_iinc (i := 5) (n := 89) (b := (x5 + 1)) (L2 := [some (.ref 66), some (.long x1), none, some (.int x3), some (.int x4), some (.int (x5 + 1))]) ⟨dX12_standsWithout_86, rfl⟩ rfl (by rw [ki_1]) (by decide) rfl rfl ?_
      refine y_goto (t := 16) ⟨dX12_standsWithout_89, rfl, rfl⟩ ?_
      cases hf
      exact y_wk ⟨Or.inr rfl, Or.inr rfl, Or.inr rfl, Or.inr rfl, Or.inr rfl, Or.inr rfl, trivial⟩ hk
    · replace hf := i_f hc hf
      refine y_aload_n (i := 0) (n := 41) ⟨dX12_standsWithout_40, rfl⟩ rfl ?_
      refine y_getR (n := 44) ⟨dX12_standsWithout_41, rfl⟩ kfX12_137 l_66 rfl r_66_71 ?_
      refine y_iload (i := 5) (n := 46) ⟨dX12_standsWithout_44, rfl⟩ rfl ?_
      refine y_laload (n := 47) ⟨dX12_standsWithout_46, rfl⟩ l_109 hg1 ?_
      refine y_lload_n (i := 1) (n := 48) ⟨dX12_standsWithout_47, rfl⟩ rfl ?_
      refine y_land (n := 49) ⟨dX12_standsWithout_48, rfl⟩ ?_
      refine y_lconst (n := 50) (v := 0) ⟨dX12_standsWithout_49, rfl⟩ kl_0 ?_
      refine y_lcmp (n := 51) ⟨dX12_standsWithout_50, rfl⟩ ?_
      refine y_if_ne (t := 86) (n := 54) ⟨dX12_standsWithout_51, rfl, rfl⟩ (fun h0 => ?_) (fun h0 => ?_)
      · have hc : ¬ (((gJ M 109 x5.toNatClampNeg) &&& x1) = 0) := fun e => h0 ((lc_eq _ _).mpr e)
        replace hf := i_f hc hf
        refine y_iinc (i := 5) (n := 89) (b := (x5 + 1)) (L2 := [some (.ref 66), some (.long x1), none, some (.int x3), some (.int x4), some (.int (x5 + 1))]) ⟨dX12_standsWithout_86, rfl⟩ rfl (by rw [ki_1]) (by decide) rfl rfl ?_
        refine y_goto (t := 16) ⟨dX12_standsWithout_89, rfl, rfl⟩ ?_
        cases hf
        exact y_wk ⟨Or.inr rfl, Or.inr rfl, Or.inr rfl, Or.inr rfl, Or.inr rfl, Or.inr rfl, trivial⟩ hk
      · have hc : ((gJ M 109 x5.toNatClampNeg) &&& x1) = 0 := (lc_eq _ _).mp h0
        replace hf := i_t hc hf
        refine y_aload_n (i := 0) (n := 55) ⟨dX12_standsWithout_54, rfl⟩ rfl ?_
        refine y_getR (n := 58) ⟨dX12_standsWithout_55, rfl⟩ kfX12_141 l_66 rfl r_66_72 ?_
        refine y_iload (i := 5) (n := 60) ⟨dX12_standsWithout_58, rfl⟩ rfl ?_
        refine y_iaload (n := 61) ⟨dX12_standsWithout_60, rfl⟩ l_110 hg1 ?_
        refine y_iload_n (i := 3) (n := 62) ⟨dX12_standsWithout_61, rfl⟩ rfl ?_
        refine y_iconst (n := 63) (v := (-1)) ⟨dX12_standsWithout_62, rfl⟩ ki_m1 ?_
        refine y_ixor (n := 64) ⟨dX12_standsWithout_63, rfl⟩ ?_
        refine y_iand (n := 65) ⟨dX12_standsWithout_64, rfl⟩ ?_
        refine y_if_eq (t := 71) (n := 68) ⟨dX12_standsWithout_65, rfl, rfl⟩ (fun (hc : ((gI M 110 x5.toNatClampNeg) &&& (x3 ^^^ (-1))) = 0) => ?_) (fun (hc : ¬ (((gI M 110 x5.toNatClampNeg) &&& (x3 ^^^ (-1))) = 0)) => ?_)
        · replace hf := i_t hc hf
          refine y_iload_n (i := 3) (n := 72) ⟨dX12_standsWithout_71, rfl⟩ rfl ?_
          refine y_iconst (n := 73) (v := 1) ⟨dX12_standsWithout_72, rfl⟩ ki_1 ?_
          refine y_aload_n (i := 0) (n := 74) ⟨dX12_standsWithout_73, rfl⟩ rfl ?_
          refine y_getR (n := 77) ⟨dX12_standsWithout_74, rfl⟩ kfX12_134 l_66 rfl r_66_70 ?_
          refine y_iload (i := 5) (n := 79) ⟨dX12_standsWithout_77, rfl⟩ rfl ?_
          refine y_iaload (n := 80) ⟨dX12_standsWithout_79, rfl⟩ l_108 hg1 ?_
          refine y_ishl (n := 81) ⟨dX12_standsWithout_80, rfl⟩ ?_
          refine y_ior (n := 82) ⟨dX12_standsWithout_81, rfl⟩ ?_
          refine y_istore_n (i := 3) (n := 83) (L2 := [some (.ref 66), some (.long x1), none, some (.int (x3 ||| ((1 : Int32) <<< ((gI M 108 x5.toNatClampNeg) &&& 31)))), some (.int x4), some (.int x5)]) ⟨dX12_standsWithout_82, rfl⟩ (by decide) rfl rfl ?_
          refine y_iconst (n := 84) (v := 1) ⟨dX12_standsWithout_83, rfl⟩ ki_1 ?_
          refine y_istore (i := 4) (n := 86) (L2 := [some (.ref 66), some (.long x1), none, some (.int (x3 ||| ((1 : Int32) <<< ((gI M 108 x5.toNatClampNeg) &&& 31)))), some (.int 1), some (.int x5)]) ⟨dX12_standsWithout_84, rfl⟩ (by decide) rfl rfl ?_
          refine y_iinc (i := 5) (n := 89) (b := (x5 + 1)) (L2 := [some (.ref 66), some (.long x1), none, some (.int (x3 ||| ((1 : Int32) <<< ((gI M 108 x5.toNatClampNeg) &&& 31)))), some (.int 1), some (.int (x5 + 1))]) ⟨dX12_standsWithout_86, rfl⟩ rfl (by rw [ki_1]) (by decide) rfl rfl ?_
          refine y_goto (t := 16) ⟨dX12_standsWithout_89, rfl, rfl⟩ ?_
          cases hf
          exact y_wk ⟨Or.inr rfl, Or.inr rfl, Or.inr rfl, Or.inr rfl, Or.inr rfl, Or.inr rfl, trivial⟩ hk
        · replace hf := i_f hc hf
          refine y_goto (t := 86) ⟨dX12_standsWithout_68, rfl, rfl⟩ ?_
          refine y_iinc (i := 5) (n := 89) (b := (x5 + 1)) (L2 := [some (.ref 66), some (.long x1), none, some (.int x3), some (.int x4), some (.int (x5 + 1))]) ⟨dX12_standsWithout_86, rfl⟩ rfl (by rw [ki_1]) (by decide) rfl rfl ?_
          refine y_goto (t := 16) ⟨dX12_standsWithout_89, rfl, rfl⟩ ?_
          cases hf
          exact y_wk ⟨Or.inr rfl, Or.inr rfl, Or.inr rfl, Or.inr rfl, Or.inr rfl, Or.inr rfl, trivial⟩ hk
theorem wl_mo_standsWithout_16 (x1 : Int64) (x3 : Int32) (x4 : Int32) (x5 : Int32) (M : dM) {Q : mz_P} {x : (Int32 × Int32)} (hf : l_mo_standsWithout_16 x1 x3 x4 x5 M = some x) (hk : K_mo_standsWithout_16 Q x1 M (.inr x)) : mW mX12_standsWithout 1 Q 16 [some (.ref 66), some (.long x1), none, some (.int x3), some (.int x4), some (.int x5)] [] M :=
  lpc_wp (Wh := fun s => mW mX12_standsWithout 1 Q 16 [some (.ref 66), some (.long x1), none, some (.int s.1), some (.int s.2.1), some (.int s.2.2)] [] M) (K := K_mo_standsWithout_16 Q x1 M) (fun _ h => h) (fun s o hb hk => w_b_mo_standsWithout_16_16 x1 s.1 s.2.1 s.2.2 M hb hk) hf hk
theorem w_b_mo_standsWithout_5_5 (x1 : Int64) (x3 : Int32) (x4 : Int32) (M : dM) {Q : mz_P} {o : ((Int32 × Int32) ⊕ Int32)} (hf : b_mo_standsWithout_5_5 x1 x3 x4 M = some o) (hk : K_mo_standsWithout_5 Q x1 M o) : mW mX12_standsWithout 1 Q 5 [some (.ref 66), some (.long x1), none, some (.int x3), some (.int x4), none] [] M := by
  unfold b_mo_standsWithout_5_5 at hf
  refine y_iload (i := 4) (n := 7) ⟨dX12_standsWithout_5, rfl⟩ rfl ?_
  refine y_if_eq (t := 95) (n := 10) ⟨dX12_standsWithout_7, rfl, rfl⟩ (fun (hc : x4 = 0) => ?_) (fun (hc : ¬ (x4 = 0)) => ?_)
  · replace hf := i_t hc hf
    refine y_iload_n (i := 3) (n := 96) ⟨dX12_standsWithout_95, rfl⟩ rfl ?_
    cases hf
    exact y_ireturn (n := 97) ⟨dX12_standsWithout_96, rfl⟩ rfl rfl hk
  · replace hf := i_f hc hf
    refine y_iconst (n := 11) (v := 0) ⟨dX12_standsWithout_10, rfl⟩ ki_0 ?_
    refine y_istore (i := 4) (n := 13) (L2 := [some (.ref 66), some (.long x1), none, some (.int x3), some (.int 0), none]) ⟨dX12_standsWithout_11, rfl⟩ (by decide) rfl rfl ?_
    refine y_iconst (n := 14) (v := 0) ⟨dX12_standsWithout_13, rfl⟩ ki_0 ?_
    refine y_istore (i := 5) (n := 16) (L2 := [some (.ref 66), some (.long x1), none, some (.int x3), some (.int 0), some (.int 0)]) ⟨dX12_standsWithout_14, rfl⟩ (by decide) rfl rfl ?_
    obtain ⟨t2, hl3, hf⟩ := b_s hf
    refine y_wk ⟨Or.inr rfl, Or.inr rfl, Or.inr rfl, Or.inr rfl, Or.inr rfl, Or.inr rfl, trivial⟩ (wl_mo_standsWithout_16 x1 x3 0 0 M hl3 ?_)
    show mW mX12_standsWithout 1 Q 92 [some (.ref 66), some (.long x1), none, some (.int t2.1), some (.int t2.2), none] [] M
    refine y_goto (t := 5) ⟨dX12_standsWithout_92, rfl, rfl⟩ ?_
    cases hf
    exact y_wk ⟨Or.inr rfl, Or.inr rfl, Or.inr rfl, Or.inr rfl, Or.inr rfl, Or.inr rfl, trivial⟩ hk
theorem wl_mo_standsWithout_5 (x1 : Int64) (x3 : Int32) (x4 : Int32) (M : dM) {Q : mz_P} {x : Int32} (hf : l_mo_standsWithout_5 x1 x3 x4 M = some x) (hk : K_mo_standsWithout_5 Q x1 M (.inr x)) : mW mX12_standsWithout 1 Q 5 [some (.ref 66), some (.long x1), none, some (.int x3), some (.int x4), none] [] M :=
  lpc_wp (Wh := fun s => mW mX12_standsWithout 1 Q 5 [some (.ref 66), some (.long x1), none, some (.int s.1), some (.int s.2), none] [] M) (K := K_mo_standsWithout_5 Q x1 M) (fun _ h => h) (fun s o hb hk => w_b_mo_standsWithout_5_5 x1 s.1 s.2 M hb hk) hf hk
theorem ok_mo_standsWithout (a1 : Int64) (M : dM) {o : Int32} (hf : f_mo_standsWithout a1 M = some o) : mO mX12_standsWithout 1 [.ref 66, .long a1] M (some (.int o)) M := by
  refine y_ok (by decide +kernel) (by decide) (L0 := [some (.ref 66), some (.long a1), none, none, none, none]) rfl ?_
  have hk := mR_mQ (some (.int o)) M
  generalize mQ _ _ = Q at hk ⊢
  unfold f_mo_standsWithout at hf
  refine y_iconst (n := 1) (v := 0) ⟨dX12_standsWithout_0, rfl⟩ ki_0 ?_
  refine y_istore_n (i := 3) (n := 2) (L2 := [some (.ref 66), some (.long a1), none, some (.int 0), none, none]) ⟨dX12_standsWithout_1, rfl⟩ (by decide) rfl rfl ?_
  refine y_iconst (n := 3) (v := 1) ⟨dX12_standsWithout_2, rfl⟩ ki_1 ?_
  refine y_istore (i := 4) (n := 5) (L2 := [some (.ref 66), some (.long a1), none, some (.int 0), some (.int 1), none]) ⟨dX12_standsWithout_3, rfl⟩ (by decide) rfl rfl ?_
  obtain ⟨r7, hl6, hf⟩ := b_s hf
  cases hf
  exact y_wk ⟨Or.inr rfl, Or.inr rfl, Or.inr rfl, Or.inr rfl, Or.inr rfl, Or.inr rfl, trivial⟩ (wl_mo_standsWithout_5 a1 0 1 M hl6 hk)
theorem c_mo_standsWithout (a1 : Int64) (M : dM) {o : Int32} {y : mz_M} {d : Nat} {Q : mz_P} {pc n i : Nat} {L : List (Option Value)} {st : List Value} (h : mz_d y.2.1 pc n 3 (.invokevirtual i)) (hl : mz_ml y.1.cls i yX12_standsWithout) (hf : f_mo_standsWithout a1 M = some o) (hd : 1 + 1 ≤ d) (hsm : (st.map (fun v => v.category)).sum ≤ 8) (hLr : mz_rL 133 L = true) (hSr : mz_rS 133 st = true) (kk : mW y d Q n L (.int o :: st) M) : mW y d Q pc L (.long a1 :: .ref 66 :: st) M :=
  y_callV kmX12_standsWithout kvX12_standsWithout l_66 (by decide +kernel) (by decide +kernel) h hl (ok_mo_standsWithout a1 M hf) (vs := [.long a1]) rfl rfl hd hsm hLr hSr kk
noncomputable def t_mo_standing_17 (x1 : Int32) (M : dM) : Option (Int32 × dM) :=
  (f_mo_findsBy x1 M).bind fun v1 =>
  (f_mo_standsWithout v1 M).bind fun v3 =>
  some (v3, M)
noncomputable def f_mo_standing (a1 : Int32) (M : dM) : Option (Int32 × dM) :=
  if a1 = (-1) then
    t_mo_standing_17 a1 (sI M 66 0 0)
  else
    if (f_mo_isHand a1) = true then
      t_mo_standing_17 a1 (sI M 66 0 0)
    else
      some ((-1), (sI M 66 0 0))
theorem w_t_mo_standing_17 (x1 : Int32) (M : dM) {Q : mz_P} {o : (Int32 × dM)} (hf : t_mo_standing_17 x1 M = some o) (hk : mR Q (some (.int o.1)) o.2) : mW mX12_standing 2 Q 17 [some (.ref 66), some (.int x1)] [] M := by
  unfold t_mo_standing_17 at hf
  refine y_aload_n (i := 0) (n := 18) ⟨dX12_standing_17, rfl⟩ rfl ?_
  refine y_aload_n (i := 0) (n := 19) ⟨dX12_standing_18, rfl⟩ rfl ?_
  refine y_iload_n (i := 1) (n := 20) ⟨dX12_standing_19, rfl⟩ rfl ?_
  obtain ⟨v1, hv2, hf⟩ := b_s hf
  refine c_mo_findsBy x1 M (n := 23) ⟨dX12_standing_20, rfl⟩ klX12_511 hv2 (by decide) (Nat.le_of_ble_eq_true rfl) rfl rfl ?_
  obtain ⟨v3, hv4, hf⟩ := b_s hf
  refine c_mo_standsWithout v1 M (n := 26) ⟨dX12_standing_23, rfl⟩ klX12_515 hv4 (by decide) (Nat.le_of_ble_eq_true rfl) rfl rfl ?_
  refine y_goto (t := 30) ⟨dX12_standing_26, rfl, rfl⟩ ?_
  cases hf
  exact y_ireturn (n := 31) ⟨dX12_standing_30, rfl⟩ rfl rfl hk
theorem ok_mo_standing (a1 : Int32) (M : dM) {o : (Int32 × dM)} (hf : f_mo_standing a1 M = some o) : mO mX12_standing 2 [.ref 66, .int a1] M (some (.int o.1)) o.2 := by
  refine y_ok (by decide +kernel) (by decide) (L0 := [some (.ref 66), some (.int a1)]) rfl ?_
  have hk := mR_mQ (some (.int o.1)) o.2
  generalize mQ _ _ = Q at hk ⊢
  unfold f_mo_standing at hf
  refine y_aload_n (i := 0) (n := 1) ⟨dX12_standing_0, rfl⟩ rfl ?_
  refine y_iconst (n := 2) (v := 0) ⟨dX12_standing_1, rfl⟩ ki_0 ?_
  refine y_putI (n := 5) ⟨dX12_standing_2, rfl⟩ kfX12_214 l_66 (by decide +kernel) rfl ?_
  refine y_iload_n (i := 1) (n := 6) ⟨dX12_standing_5, rfl⟩ rfl ?_
  refine y_iconst (n := 7) (v := (-1)) ⟨dX12_standing_6, rfl⟩ ki_m1 ?_
  refine y_icmp_eq (t := 17) (n := 10) ⟨dX12_standing_7, rfl, rfl⟩ (fun (hc : a1 = (-1)) => ?_) (fun (hc : ¬ (a1 = (-1))) => ?_)
  · replace hf := i_t hc hf
    exact y_wk ⟨Or.inr rfl, Or.inr rfl, trivial⟩ (w_t_mo_standing_17 a1 (sI M 66 0 0) hf hk)
  · replace hf := i_f hc hf
    refine y_iload_n (i := 1) (n := 11) ⟨dX12_standing_10, rfl⟩ rfl ?_
    refine c_mo_isHand a1 (sI M 66 0 0) (n := 14) ⟨dX12_standing_11, rfl⟩ klX12_225 rfl (by decide) (Nat.le_of_ble_eq_true rfl) rfl rfl ?_
    refine y_if_eq (t := 29) (n := 17) ⟨dX12_standing_14, rfl, rfl⟩ (fun h0 => ?_) (fun h0 => ?_)
    · have hc := bI_0 h0
      replace hf := i_f hc hf
      refine y_iconst (n := 30) (v := (-1)) ⟨dX12_standing_29, rfl⟩ ki_m1 ?_
      cases hf
      exact y_ireturn (n := 31) ⟨dX12_standing_30, rfl⟩ rfl rfl hk
    · have hc := bI_1 h0
      replace hf := i_t hc hf
      exact y_wk ⟨Or.inr rfl, Or.inr rfl, trivial⟩ (w_t_mo_standing_17 a1 (sI M 66 0 0) hf hk)
theorem c_mo_standing (a1 : Int32) (M : dM) {o : (Int32 × dM)} {y : mz_M} {d : Nat} {Q : mz_P} {pc n i : Nat} {L : List (Option Value)} {st : List Value} (h : mz_d y.2.1 pc n 3 (.invokevirtual i)) (hl : mz_ml y.1.cls i yX12_standing) (hf : f_mo_standing a1 M = some o) (hd : 2 + 1 ≤ d) (hsm : (st.map (fun v => v.category)).sum ≤ 8) (hLr : mz_rL 133 L = true) (hSr : mz_rS 133 st = true) (kk : mW y d Q n L (.int o.1 :: st) o.2) : mW y d Q pc L (.int a1 :: .ref 66 :: st) M :=
  y_callV kmX12_standing kvX12_standing l_66 (by decide +kernel) (by decide +kernel) h hl (ok_mo_standing a1 M hf) (vs := [.int a1]) rfl rfl hd hsm hLr hSr kk
def K_mo_oldest_23 (Q : mz_P) (x1 : Int32) (M : dM) : ((Int32 × Int32) ⊕ (Int32 × dM)) → Prop
  | .inl s => mW mX12_oldest 2 Q 23 [some (.ref 66), some (.int x1), some (.int s.1), some (.int s.2)] [] M
  | .inr r => mR Q (some (.int r.1)) r.2
noncomputable def b_mo_oldest_23_23 (x1 : Int32) (x2 : Int32) (x3 : Int32) (M : dM) : Option ((Int32 × Int32) ⊕ (Int32 × dM)) :=
  if (gI M 66 9) ≤ x3 then
    some (.inr (x2, M))
  else
    gd (vp_in x3 40) <|
    if (gI M 78 x3.toNatClampNeg) = x1 then
      some (.inl (x2, (x3 + 1)))
    else
      (f_mo_ageOf x3 M).bind fun v2 =>
      if v2 ≤ x2 then
        some (.inl (x2, (x3 + 1)))
      else
        (f_mo_ageOf x3 M).bind fun v4 =>
        some (.inl (v4, (x3 + 1)))
noncomputable def l_mo_oldest_23 (x1 : Int32) (x2 : Int32) (x3 : Int32) (M : dM) : Option (Int32 × dM) := lpc (fun s => b_mo_oldest_23_23 x1 s.1 s.2 M) (x2, x3)
noncomputable def t_mo_oldest_21 (x1 : Int32) (x2 : Int32) (M : dM) : Option (Int32 × dM) :=
  (l_mo_oldest_23 x1 x2 0 M).bind fun r8 => some r8
noncomputable def f_mo_oldest (a1 : Int32) (M : dM) : Option (Int32 × dM) :=
  if a1 = (-1) then
    t_mo_oldest_21 a1 (-1) (sI M 66 0 0)
  else
    if (f_mo_isHand a1) = true then
      t_mo_oldest_21 a1 (-1) (sI M 66 0 0)
    else
      some ((-1), (sI M 66 0 0))
theorem w_b_mo_oldest_23_23 (x1 : Int32) (x2 : Int32) (x3 : Int32) (M : dM) {Q : mz_P} {o : ((Int32 × Int32) ⊕ (Int32 × dM))} (hf : b_mo_oldest_23_23 x1 x2 x3 M = some o) (hk : K_mo_oldest_23 Q x1 M o) : mW mX12_oldest 2 Q 23 [some (.ref 66), some (.int x1), some (.int x2), some (.int x3)] [] M := by
  unfold b_mo_oldest_23_23 at hf
  refine y_iload_n (i := 3) (n := 24) ⟨dX12_oldest_23, rfl⟩ rfl ?_
  refine y_aload_n (i := 0) (n := 25) ⟨dX12_oldest_24, rfl⟩ rfl ?_
  refine y_getI (n := 28) ⟨dX12_oldest_25, rfl⟩ kfX12_235 l_66 rfl ?_
  refine y_icmp_ge (t := 62) (n := 31) ⟨dX12_oldest_28, rfl, rfl⟩ (fun (hc : (gI M 66 9) ≤ x3) => ?_) (fun (hc : ¬ ((gI M 66 9) ≤ x3)) => ?_)
  · replace hf := i_t hc hf
    refine y_iload_n (i := 2) (n := 63) ⟨dX12_oldest_62, rfl⟩ rfl ?_
    cases hf
    exact y_ireturn (n := 64) ⟨dX12_oldest_63, rfl⟩ rfl rfl hk
  · replace hf := i_f hc hf
    refine y_aload_n (i := 0) (n := 32) ⟨dX12_oldest_31, rfl⟩ rfl ?_
    refine y_getR (n := 35) ⟨dX12_oldest_32, rfl⟩ kfX12_43 l_66 rfl r_66_14 ?_
    refine y_iload_n (i := 3) (n := 36) ⟨dX12_oldest_35, rfl⟩ rfl ?_
    obtain ⟨hg1, hf⟩ := g_s hf
    refine y_iaload (n := 37) ⟨dX12_oldest_36, rfl⟩ l_78 hg1 ?_
    refine y_iload_n (i := 1) (n := 38) ⟨dX12_oldest_37, rfl⟩ rfl ?_
    refine y_icmp_eq (t := 56) (n := 41) ⟨dX12_oldest_38, rfl, rfl⟩ (fun (hc : (gI M 78 x3.toNatClampNeg) = x1) => ?_) (fun (hc : ¬ ((gI M 78 x3.toNatClampNeg) = x1)) => ?_)
    · replace hf := i_t hc hf
      refine y_iinc (i := 3) (n := 59) (b := (x3 + 1)) (L2 := [some (.ref 66), some (.int x1), some (.int x2), some (.int (x3 + 1))]) ⟨dX12_oldest_56, rfl⟩ rfl (by rw [ki_1]) (by decide) rfl rfl ?_
      refine y_goto (t := 23) ⟨dX12_oldest_59, rfl, rfl⟩ ?_
      cases hf
      exact y_wk ⟨Or.inr rfl, Or.inr rfl, Or.inr rfl, Or.inr rfl, trivial⟩ hk
    · replace hf := i_f hc hf
      refine y_aload_n (i := 0) (n := 42) ⟨dX12_oldest_41, rfl⟩ rfl ?_
      refine y_iload_n (i := 3) (n := 43) ⟨dX12_oldest_42, rfl⟩ rfl ?_
      obtain ⟨v2, hv3, hf⟩ := b_s hf
      refine c_mo_ageOf x3 M (n := 46) ⟨dX12_oldest_43, rfl⟩ klX12_238 hv3 (by decide) (Nat.le_of_ble_eq_true rfl) rfl rfl ?_
      refine y_iload_n (i := 2) (n := 47) ⟨dX12_oldest_46, rfl⟩ rfl ?_
      refine y_icmp_le (t := 56) (n := 50) ⟨dX12_oldest_47, rfl, rfl⟩ (fun (hc : v2 ≤ x2) => ?_) (fun (hc : ¬ (v2 ≤ x2)) => ?_)
      · replace hf := i_t hc hf
        refine y_iinc (i := 3) (n := 59) (b := (x3 + 1)) (L2 := [some (.ref 66), some (.int x1), some (.int x2), some (.int (x3 + 1))]) ⟨dX12_oldest_56, rfl⟩ rfl (by rw [ki_1]) (by decide) rfl rfl ?_
        refine y_goto (t := 23) ⟨dX12_oldest_59, rfl, rfl⟩ ?_
        cases hf
        exact y_wk ⟨Or.inr rfl, Or.inr rfl, Or.inr rfl, Or.inr rfl, trivial⟩ hk
      · replace hf := i_f hc hf
        refine y_aload_n (i := 0) (n := 51) ⟨dX12_oldest_50, rfl⟩ rfl ?_
        refine y_iload_n (i := 3) (n := 52) ⟨dX12_oldest_51, rfl⟩ rfl ?_
        obtain ⟨v4, hv5, hf⟩ := b_s hf
        refine c_mo_ageOf x3 M (n := 55) ⟨dX12_oldest_52, rfl⟩ klX12_238 hv5 (by decide) (Nat.le_of_ble_eq_true rfl) rfl rfl ?_
        refine y_istore_n (i := 2) (n := 56) (L2 := [some (.ref 66), some (.int x1), some (.int v4), some (.int x3)]) ⟨dX12_oldest_55, rfl⟩ (by decide) rfl rfl ?_
        refine y_iinc (i := 3) (n := 59) (b := (x3 + 1)) (L2 := [some (.ref 66), some (.int x1), some (.int v4), some (.int (x3 + 1))]) ⟨dX12_oldest_56, rfl⟩ rfl (by rw [ki_1]) (by decide) rfl rfl ?_
        refine y_goto (t := 23) ⟨dX12_oldest_59, rfl, rfl⟩ ?_
        cases hf
        exact y_wk ⟨Or.inr rfl, Or.inr rfl, Or.inr rfl, Or.inr rfl, trivial⟩ hk
theorem wl_mo_oldest_23 (x1 : Int32) (x2 : Int32) (x3 : Int32) (M : dM) {Q : mz_P} {x : (Int32 × dM)} (hf : l_mo_oldest_23 x1 x2 x3 M = some x) (hk : K_mo_oldest_23 Q x1 M (.inr x)) : mW mX12_oldest 2 Q 23 [some (.ref 66), some (.int x1), some (.int x2), some (.int x3)] [] M :=
  lpc_wp (Wh := fun s => mW mX12_oldest 2 Q 23 [some (.ref 66), some (.int x1), some (.int s.1), some (.int s.2)] [] M) (K := K_mo_oldest_23 Q x1 M) (fun _ h => h) (fun s o hb hk => w_b_mo_oldest_23_23 x1 s.1 s.2 M hb hk) hf hk
theorem w_t_mo_oldest_21 (x1 : Int32) (x2 : Int32) (M : dM) {Q : mz_P} {o : (Int32 × dM)} (hf : t_mo_oldest_21 x1 x2 M = some o) (hk : mR Q (some (.int o.1)) o.2) : mW mX12_oldest 2 Q 21 [some (.ref 66), some (.int x1), some (.int x2), none] [] M := by
  unfold t_mo_oldest_21 at hf
  refine y_iconst (n := 22) (v := 0) ⟨dX12_oldest_21, rfl⟩ ki_0 ?_
  refine y_istore_n (i := 3) (n := 23) (L2 := [some (.ref 66), some (.int x1), some (.int x2), some (.int 0)]) ⟨dX12_oldest_22, rfl⟩ (by decide) rfl rfl ?_
  obtain ⟨r8, hl7, hf⟩ := b_s hf
  cases hf
  exact y_wk ⟨Or.inr rfl, Or.inr rfl, Or.inr rfl, Or.inr rfl, trivial⟩ (wl_mo_oldest_23 x1 x2 0 M hl7 hk)
theorem ok_mo_oldest (a1 : Int32) (M : dM) {o : (Int32 × dM)} (hf : f_mo_oldest a1 M = some o) : mO mX12_oldest 2 [.ref 66, .int a1] M (some (.int o.1)) o.2 := by
  refine y_ok (by decide +kernel) (by decide) (L0 := [some (.ref 66), some (.int a1), none, none]) rfl ?_
  have hk := mR_mQ (some (.int o.1)) o.2
  generalize mQ _ _ = Q at hk ⊢
  unfold f_mo_oldest at hf
  refine y_aload_n (i := 0) (n := 1) ⟨dX12_oldest_0, rfl⟩ rfl ?_
  refine y_iconst (n := 2) (v := 0) ⟨dX12_oldest_1, rfl⟩ ki_0 ?_
  refine y_putI (n := 5) ⟨dX12_oldest_2, rfl⟩ kfX12_214 l_66 (by decide +kernel) rfl ?_
  refine y_iconst (n := 6) (v := (-1)) ⟨dX12_oldest_5, rfl⟩ ki_m1 ?_
  refine y_istore_n (i := 2) (n := 7) (L2 := [some (.ref 66), some (.int a1), some (.int (-1)), none]) ⟨dX12_oldest_6, rfl⟩ (by decide) rfl rfl ?_
  refine y_iload_n (i := 1) (n := 8) ⟨dX12_oldest_7, rfl⟩ rfl ?_
  refine y_iconst (n := 9) (v := (-1)) ⟨dX12_oldest_8, rfl⟩ ki_m1 ?_
  refine y_icmp_eq (t := 21) (n := 12) ⟨dX12_oldest_9, rfl, rfl⟩ (fun (hc : a1 = (-1)) => ?_) (fun (hc : ¬ (a1 = (-1))) => ?_)
  · replace hf := i_t hc hf
    exact y_wk ⟨Or.inr rfl, Or.inr rfl, Or.inr rfl, Or.inr rfl, trivial⟩ (w_t_mo_oldest_21 a1 (-1) (sI M 66 0 0) hf hk)
  · replace hf := i_f hc hf
    refine y_iload_n (i := 1) (n := 13) ⟨dX12_oldest_12, rfl⟩ rfl ?_
    refine c_mo_isHand a1 (sI M 66 0 0) (n := 16) ⟨dX12_oldest_13, rfl⟩ klX12_225 rfl (by decide) (Nat.le_of_ble_eq_true rfl) rfl rfl ?_
    refine y_if_ne (t := 21) (n := 19) ⟨dX12_oldest_16, rfl, rfl⟩ (fun h0 => ?_) (fun h0 => ?_)
    · have hc := bI_1 h0
      replace hf := i_t hc hf
      exact y_wk ⟨Or.inr rfl, Or.inr rfl, Or.inr rfl, Or.inr rfl, trivial⟩ (w_t_mo_oldest_21 a1 (-1) (sI M 66 0 0) hf hk)
    · have hc := bI_0 h0
      replace hf := i_f hc hf
      refine y_iconst (n := 20) (v := (-1)) ⟨dX12_oldest_19, rfl⟩ ki_m1 ?_
      cases hf
      exact y_ireturn (n := 21) ⟨dX12_oldest_20, rfl⟩ rfl rfl hk
theorem c_mo_oldest (a1 : Int32) (M : dM) {o : (Int32 × dM)} {y : mz_M} {d : Nat} {Q : mz_P} {pc n i : Nat} {L : List (Option Value)} {st : List Value} (h : mz_d y.2.1 pc n 3 (.invokevirtual i)) (hl : mz_ml y.1.cls i yX12_oldest) (hf : f_mo_oldest a1 M = some o) (hd : 2 + 1 ≤ d) (hsm : (st.map (fun v => v.category)).sum ≤ 8) (hLr : mz_rL 133 L = true) (hSr : mz_rS 133 st = true) (kk : mW y d Q n L (.int o.1 :: st) o.2) : mW y d Q pc L (.int a1 :: .ref 66 :: st) M :=
  y_callV kmX12_oldest kvX12_oldest l_66 (by decide +kernel) (by decide +kernel) h hl (ok_mo_oldest a1 M hf) (vs := [.int a1]) rfl rfl hd hsm hLr hSr kk
noncomputable def f_mo_falls (a1 : Int32) (a2 : Int32) (a3 : Int32) (a4 : Int32) (a5 : Int32) (M : dM) : Option (Bool × dM) :=
  (f_mo_standsWithout ((((1 : Int64) <<< (a3.toInt64 &&& 63)) ||| ((1 : Int64) <<< (a4.toInt64 &&& 63))) ||| ((1 : Int64) <<< (a5.toInt64 &&& 63))) M).bind fun v1 =>
  if ((v1 >>> (a1 &&& 31)) &&& 1) = 1 then
    some (false, M)
  else
    some (true, (sI (sI (sI (sI M 66 73 a2) 111 0 a3) 111 1 a4) 111 2 a5))
theorem ok_mo_falls (a1 : Int32) (a2 : Int32) (a3 : Int32) (a4 : Int32) (a5 : Int32) (M : dM) {o : (Bool × dM)} (hf : f_mo_falls a1 a2 a3 a4 a5 M = some o) : mO mX12_falls 2 [.ref 66, .int a1, .int a2, .int a3, .int a4, .int a5] M (some (.int (bI o.1))) o.2 := by
  refine y_ok (by decide +kernel) (by decide) (L0 := [some (.ref 66), some (.int a1), some (.int a2), some (.int a3), some (.int a4), some (.int a5), none, none]) rfl ?_
  have hk := mR_mQ (some (.int (bI o.1))) o.2
  generalize mQ _ _ = Q at hk ⊢
  unfold f_mo_falls at hf
  refine y_lconst (n := 1) (v := 1) ⟨dX12_falls_0, rfl⟩ kl_1 ?_
  refine y_iload_n (i := 3) (n := 2) ⟨dX12_falls_1, rfl⟩ rfl ?_
  refine y_lshl (n := 3) ⟨dX12_falls_2, rfl⟩ ?_
  refine y_lconst (n := 4) (v := 1) ⟨dX12_falls_3, rfl⟩ kl_1 ?_
  refine y_iload (i := 4) (n := 6) ⟨dX12_falls_4, rfl⟩ rfl ?_
  refine y_lshl (n := 7) ⟨dX12_falls_6, rfl⟩ ?_
  refine y_lor (n := 8) ⟨dX12_falls_7, rfl⟩ ?_
  refine y_lconst (n := 9) (v := 1) ⟨dX12_falls_8, rfl⟩ kl_1 ?_
  refine y_iload (i := 5) (n := 11) ⟨dX12_falls_9, rfl⟩ rfl ?_
  refine y_lshl (n := 12) ⟨dX12_falls_11, rfl⟩ ?_
  refine y_lor (n := 13) ⟨dX12_falls_12, rfl⟩ ?_
  refine y_lstore (i := 6) (n := 15) (L2 := [some (.ref 66), some (.int a1), some (.int a2), some (.int a3), some (.int a4), some (.int a5), some (.long ((((1 : Int64) <<< (a3.toInt64 &&& 63)) ||| ((1 : Int64) <<< (a4.toInt64 &&& 63))) ||| ((1 : Int64) <<< (a5.toInt64 &&& 63)))), none]) ⟨dX12_falls_13, rfl⟩ (by decide) rfl rfl ?_
  refine y_aload_n (i := 0) (n := 16) ⟨dX12_falls_15, rfl⟩ rfl ?_
  refine y_lload (i := 6) (n := 18) ⟨dX12_falls_16, rfl⟩ rfl ?_
  obtain ⟨v1, hv2, hf⟩ := b_s hf
  refine c_mo_standsWithout ((((1 : Int64) <<< (a3.toInt64 &&& 63)) ||| ((1 : Int64) <<< (a4.toInt64 &&& 63))) ||| ((1 : Int64) <<< (a5.toInt64 &&& 63))) M (n := 21) ⟨dX12_falls_18, rfl⟩ klX12_515 hv2 (by decide) (Nat.le_of_ble_eq_true rfl) rfl rfl ?_
  refine y_iload_n (i := 1) (n := 22) ⟨dX12_falls_21, rfl⟩ rfl ?_
  refine y_ishr (n := 23) ⟨dX12_falls_22, rfl⟩ ?_
  refine y_iconst (n := 24) (v := 1) ⟨dX12_falls_23, rfl⟩ ki_1 ?_
  refine y_iand (n := 25) ⟨dX12_falls_24, rfl⟩ ?_
  refine y_iconst (n := 26) (v := 1) ⟨dX12_falls_25, rfl⟩ ki_1 ?_
  refine y_icmp_ne (t := 31) (n := 29) ⟨dX12_falls_26, rfl, rfl⟩ (fun (hc : ¬ (((v1 >>> (a1 &&& 31)) &&& 1) = 1)) => ?_) (fun (hc : ((v1 >>> (a1 &&& 31)) &&& 1) = 1) => ?_)
  · replace hf := i_f hc hf
    refine y_aload_n (i := 0) (n := 32) ⟨dX12_falls_31, rfl⟩ rfl ?_
    refine y_iload_n (i := 2) (n := 33) ⟨dX12_falls_32, rfl⟩ rfl ?_
    refine y_putI (n := 36) ⟨dX12_falls_33, rfl⟩ kfX12_519 l_66 (by decide +kernel) rfl ?_
    refine y_aload_n (i := 0) (n := 37) ⟨dX12_falls_36, rfl⟩ rfl ?_
    refine y_getR (n := 40) ⟨dX12_falls_37, rfl⟩ kfX12_144 l_66 rfl r_66_74 ?_
    refine y_iconst (n := 41) (v := 0) ⟨dX12_falls_40, rfl⟩ ki_0 ?_
    refine y_iload_n (i := 3) (n := 42) ⟨dX12_falls_41, rfl⟩ rfl ?_
    refine y_iastore (n := 43) ⟨dX12_falls_42, rfl⟩ l_111 (by unfold vp_in; decide) ?_
    refine y_aload_n (i := 0) (n := 44) ⟨dX12_falls_43, rfl⟩ rfl ?_
    refine y_getR (n := 47) ⟨dX12_falls_44, rfl⟩ kfX12_144 l_66 rfl r_66_74 ?_
    refine y_iconst (n := 48) (v := 1) ⟨dX12_falls_47, rfl⟩ ki_1 ?_
    refine y_iload (i := 4) (n := 50) ⟨dX12_falls_48, rfl⟩ rfl ?_
    refine y_iastore (n := 51) ⟨dX12_falls_50, rfl⟩ l_111 (by unfold vp_in; decide) ?_
    refine y_aload_n (i := 0) (n := 52) ⟨dX12_falls_51, rfl⟩ rfl ?_
    refine y_getR (n := 55) ⟨dX12_falls_52, rfl⟩ kfX12_144 l_66 rfl r_66_74 ?_
    refine y_iconst (n := 56) (v := 2) ⟨dX12_falls_55, rfl⟩ ki_2 ?_
    refine y_iload (i := 5) (n := 58) ⟨dX12_falls_56, rfl⟩ rfl ?_
    refine y_iastore (n := 59) ⟨dX12_falls_58, rfl⟩ l_111 (by unfold vp_in; decide) ?_
    refine y_iconst (n := 60) (v := 1) ⟨dX12_falls_59, rfl⟩ ki_1 ?_
    cases hf
    exact y_ireturn (n := 61) ⟨dX12_falls_60, rfl⟩ rfl rfl hk
  · replace hf := i_t hc hf
    refine y_iconst (n := 30) (v := 0) ⟨dX12_falls_29, rfl⟩ ki_0 ?_
    cases hf
    exact y_ireturn (n := 31) ⟨dX12_falls_30, rfl⟩ rfl rfl hk
theorem c_mo_falls (a1 : Int32) (a2 : Int32) (a3 : Int32) (a4 : Int32) (a5 : Int32) (M : dM) {o : (Bool × dM)} {y : mz_M} {d : Nat} {Q : mz_P} {pc n i : Nat} {L : List (Option Value)} {st : List Value} (h : mz_d y.2.1 pc n 3 (.invokevirtual i)) (hl : mz_ml y.1.cls i yX12_falls) (hf : f_mo_falls a1 a2 a3 a4 a5 M = some o) (hd : 2 + 1 ≤ d) (hsm : (st.map (fun v => v.category)).sum ≤ 8) (hLr : mz_rL 133 L = true) (hSr : mz_rS 133 st = true) (kk : mW y d Q n L (.int (bI o.1) :: st) o.2) : mW y d Q pc L (.int a5 :: .int a4 :: .int a3 :: .int a2 :: .int a1 :: .ref 66 :: st) M :=
  y_callV kmX12_falls kvX12_falls l_66 (by decide +kernel) (by decide +kernel) h hl (ok_mo_falls a1 a2 a3 a4 a5 M hf) (vs := [.int a1, .int a2, .int a3, .int a4, .int a5]) rfl rfl hd hsm hLr hSr kk
def K_mo_cuts_7 (Q : mz_P) (x1 : Int32) (M : dM) : ((Int32 × dM) ⊕ (dM ⊕ dM)) → Prop
  | .inl s => mW mX12_cuts 3 Q 7 [some (.ref 66), some (.int x1), some (.int s.1), none, none] [] s.2
  | .inr (.inl t) => mW mX12_cuts 3 Q 34 [some (.ref 66), some (.int x1), none, none, none] [] t
  | .inr (.inr r) => mR Q none r
noncomputable def b_mo_cuts_7_7 (x1 : Int32) (x2 : Int32) (M : dM) : Option ((Int32 × dM) ⊕ (dM ⊕ dM)) :=
  if (gI M 66 9) ≤ x2 then
    some (.inr (.inl M))
  else
    (f_mo_falls x1 1 x2 x2 x2 M).bind fun q1 =>
    if q1.1 = true then
      some (.inr (.inr q1.2))
    else
      some (.inl ((x2 + 1), q1.2))
noncomputable def l_mo_cuts_7 (x1 : Int32) (x2 : Int32) (M : dM) : Option (dM ⊕ dM) := lpc (fun s => b_mo_cuts_7_7 x1 s.1 s.2) (x2, M)
def K_mo_cuts_36 (Q : mz_P) (x1 : Int32) (M : dM) : ((Int32 × dM) ⊕ (dM ⊕ dM)) → Prop
  | .inl s => mW mX12_cuts 3 Q 36 [some (.ref 66), some (.int x1), some (.int s.1), none, none] [] s.2
  | .inr (.inl t) => mW mX12_cuts 3 Q 81 [some (.ref 66), some (.int x1), none, none, none] [] t
  | .inr (.inr r) => mR Q none r
def K_mo_cuts_48 (Q : mz_P) (x1 : Int32) (x2 : Int32) (M : dM) : ((Int32 × dM) ⊕ (dM ⊕ dM)) → Prop
  | .inl s => mW mX12_cuts 3 Q 48 [some (.ref 66), some (.int x1), some (.int x2), some (.int s.1), none] [] s.2
  | .inr (.inl t) => mW mX12_cuts 3 Q 75 [some (.ref 66), some (.int x1), some (.int x2), none, none] [] t
  | .inr (.inr r) => mR Q none r
noncomputable def b_mo_cuts_48_48 (x1 : Int32) (x2 : Int32) (x3 : Int32) (M : dM) : Option ((Int32 × dM) ⊕ (dM ⊕ dM)) :=
  if (gI M 66 9) ≤ x3 then
    some (.inr (.inl M))
  else
    (f_mo_falls x1 2 x2 x3 x3 M).bind fun q6 =>
    if q6.1 = true then
      some (.inr (.inr q6.2))
    else
      some (.inl ((x3 + 1), q6.2))
noncomputable def l_mo_cuts_48 (x1 : Int32) (x2 : Int32) (x3 : Int32) (M : dM) : Option (dM ⊕ dM) := lpc (fun s => b_mo_cuts_48_48 x1 x2 s.1 s.2) (x3, M)
noncomputable def b_mo_cuts_36_36 (x1 : Int32) (x2 : Int32) (M : dM) : Option ((Int32 × dM) ⊕ (dM ⊕ dM)) :=
  if (gI M 66 9) ≤ x2 then
    some (.inr (.inl M))
  else
    (l_mo_cuts_48 x1 x2 (x2 + 1) M).bind (Sum.elim (fun t8 =>
        some (.inl ((x2 + 1), t8))
      ) (fun r10 => some (.inr (.inr r10))))
noncomputable def l_mo_cuts_36 (x1 : Int32) (x2 : Int32) (M : dM) : Option (dM ⊕ dM) := lpc (fun s => b_mo_cuts_36_36 x1 s.1 s.2) (x2, M)
def K_mo_cuts_83 (Q : mz_P) (x1 : Int32) (M : dM) : ((Int32 × dM) ⊕ dM) → Prop
  | .inl s => mW mX12_cuts 3 Q 83 [some (.ref 66), some (.int x1), some (.int s.1), none, none] [] s.2
  | .inr r => mR Q none r
def K_mo_cuts_95 (Q : mz_P) (x1 : Int32) (x2 : Int32) (M : dM) : ((Int32 × dM) ⊕ (dM ⊕ dM)) → Prop
  | .inl s => mW mX12_cuts 3 Q 95 [some (.ref 66), some (.int x1), some (.int x2), some (.int s.1), none] [] s.2
  | .inr (.inl t) => mW mX12_cuts 3 Q 143 [some (.ref 66), some (.int x1), some (.int x2), none, none] [] t
  | .inr (.inr r) => mR Q none r
def K_mo_cuts_108 (Q : mz_P) (x1 : Int32) (x2 : Int32) (x3 : Int32) (M : dM) : ((Int32 × dM) ⊕ (dM ⊕ dM)) → Prop
  | .inl s => mW mX12_cuts 3 Q 108 [some (.ref 66), some (.int x1), some (.int x2), some (.int x3), some (.int s.1)] [] s.2
  | .inr (.inl t) => mW mX12_cuts 3 Q 137 [some (.ref 66), some (.int x1), some (.int x2), some (.int x3), none] [] t
  | .inr (.inr r) => mR Q none r
noncomputable def b_mo_cuts_108_108 (x1 : Int32) (x2 : Int32) (x3 : Int32) (x4 : Int32) (M : dM) : Option ((Int32 × dM) ⊕ (dM ⊕ dM)) :=
  if (gI M 66 9) ≤ x4 then
    some (.inr (.inl M))
  else
    (f_mo_falls x1 3 x2 x3 x4 M).bind fun q15 =>
    if q15.1 = true then
      some (.inr (.inr q15.2))
    else
      some (.inl ((x4 + 1), q15.2))
noncomputable def l_mo_cuts_108 (x1 : Int32) (x2 : Int32) (x3 : Int32) (x4 : Int32) (M : dM) : Option (dM ⊕ dM) := lpc (fun s => b_mo_cuts_108_108 x1 x2 x3 s.1 s.2) (x4, M)
noncomputable def b_mo_cuts_95_95 (x1 : Int32) (x2 : Int32) (x3 : Int32) (M : dM) : Option ((Int32 × dM) ⊕ (dM ⊕ dM)) :=
  if (gI M 66 9) ≤ x3 then
    some (.inr (.inl M))
  else
    (l_mo_cuts_108 x1 x2 x3 (x3 + 1) M).bind (Sum.elim (fun t17 =>
        some (.inl ((x3 + 1), t17))
      ) (fun r19 => some (.inr (.inr r19))))
noncomputable def l_mo_cuts_95 (x1 : Int32) (x2 : Int32) (x3 : Int32) (M : dM) : Option (dM ⊕ dM) := lpc (fun s => b_mo_cuts_95_95 x1 x2 s.1 s.2) (x3, M)
noncomputable def b_mo_cuts_83_83 (x1 : Int32) (x2 : Int32) (M : dM) : Option ((Int32 × dM) ⊕ dM) :=
  if (gI M 66 9) ≤ x2 then
    some (.inr M)
  else
    (l_mo_cuts_95 x1 x2 (x2 + 1) M).bind (Sum.elim (fun t21 =>
        some (.inl ((x2 + 1), t21))
      ) (fun r23 => some (.inr r23)))
noncomputable def l_mo_cuts_83 (x1 : Int32) (x2 : Int32) (M : dM) : Option dM := lpc (fun s => b_mo_cuts_83_83 x1 s.1 s.2) (x2, M)
noncomputable def f_mo_cuts (a1 : Int32) (M : dM) : Option dM :=
  (l_mo_cuts_7 a1 0 (sI M 66 73 0)).bind (Sum.elim (fun t3 =>
      (l_mo_cuts_36 a1 0 t3).bind (Sum.elim (fun t12 =>
          (l_mo_cuts_83 a1 0 t12).bind fun r27 => some r27
        ) (fun r14 => some r14))
    ) (fun r5 => some r5))
theorem w_b_mo_cuts_7_7 (x1 : Int32) (x2 : Int32) (M : dM) {Q : mz_P} {o : ((Int32 × dM) ⊕ (dM ⊕ dM))} (hf : b_mo_cuts_7_7 x1 x2 M = some o) (hk : K_mo_cuts_7 Q x1 M o) : mW mX12_cuts 3 Q 7 [some (.ref 66), some (.int x1), some (.int x2), none, none] [] M := by
  unfold b_mo_cuts_7_7 at hf
  refine y_iload_n (i := 2) (n := 8) ⟨dX12_cuts_7, rfl⟩ rfl ?_
  refine y_aload_n (i := 0) (n := 9) ⟨dX12_cuts_8, rfl⟩ rfl ?_
  refine y_getI (n := 12) ⟨dX12_cuts_9, rfl⟩ kfX12_235 l_66 rfl ?_
  refine y_icmp_ge (t := 34) (n := 15) ⟨dX12_cuts_12, rfl, rfl⟩ (fun (hc : (gI M 66 9) ≤ x2) => ?_) (fun (hc : ¬ ((gI M 66 9) ≤ x2)) => ?_)
  · replace hf := i_t hc hf
    cases hf
    exact y_wk ⟨Or.inr rfl, Or.inr rfl, Or.inl rfl, Or.inr rfl, Or.inr rfl, trivial⟩ hk
  · replace hf := i_f hc hf
    refine y_aload_n (i := 0) (n := 16) ⟨dX12_cuts_15, rfl⟩ rfl ?_
    refine y_iload_n (i := 1) (n := 17) ⟨dX12_cuts_16, rfl⟩ rfl ?_
    refine y_iconst (n := 18) (v := 1) ⟨dX12_cuts_17, rfl⟩ ki_1 ?_
    refine y_iload_n (i := 2) (n := 19) ⟨dX12_cuts_18, rfl⟩ rfl ?_
    refine y_iload_n (i := 2) (n := 20) ⟨dX12_cuts_19, rfl⟩ rfl ?_
    refine y_iload_n (i := 2) (n := 21) ⟨dX12_cuts_20, rfl⟩ rfl ?_
    obtain ⟨q1, hv2, hf⟩ := b_s hf
    refine c_mo_falls x1 1 x2 x2 x2 M (n := 24) ⟨dX12_cuts_21, rfl⟩ klX12_522 hv2 (by decide) (Nat.le_of_ble_eq_true rfl) rfl rfl ?_
    refine y_if_eq (t := 28) (n := 27) ⟨dX12_cuts_24, rfl, rfl⟩ (fun h0 => ?_) (fun h0 => ?_)
    · have hc := bI_0 h0
      replace hf := i_f hc hf
      refine y_iinc (i := 2) (n := 31) (b := (x2 + 1)) (L2 := [some (.ref 66), some (.int x1), some (.int (x2 + 1)), none, none]) ⟨dX12_cuts_28, rfl⟩ rfl (by rw [ki_1]) (by decide) rfl rfl ?_
      refine y_goto (t := 7) ⟨dX12_cuts_31, rfl, rfl⟩ ?_
      cases hf
      exact y_wk ⟨Or.inr rfl, Or.inr rfl, Or.inr rfl, Or.inr rfl, Or.inr rfl, trivial⟩ hk
    · have hc := bI_1 h0
      replace hf := i_t hc hf
      cases hf
      exact y_return (n := 28) ⟨dX12_cuts_27, rfl⟩ rfl hk
theorem wl_mo_cuts_7 (x1 : Int32) (x2 : Int32) (M : dM) {Q : mz_P} {x : (dM ⊕ dM)} (hf : l_mo_cuts_7 x1 x2 M = some x) (hk : K_mo_cuts_7 Q x1 M (.inr x)) : mW mX12_cuts 3 Q 7 [some (.ref 66), some (.int x1), some (.int x2), none, none] [] M :=
  lpc_wp (Wh := fun s => mW mX12_cuts 3 Q 7 [some (.ref 66), some (.int x1), some (.int s.1), none, none] [] s.2) (K := K_mo_cuts_7 Q x1 M) (fun _ h => h) (fun s o hb hk => w_b_mo_cuts_7_7 x1 s.1 s.2 hb hk) hf hk
theorem w_b_mo_cuts_48_48 (x1 : Int32) (x2 : Int32) (x3 : Int32) (M : dM) {Q : mz_P} {o : ((Int32 × dM) ⊕ (dM ⊕ dM))} (hf : b_mo_cuts_48_48 x1 x2 x3 M = some o) (hk : K_mo_cuts_48 Q x1 x2 M o) : mW mX12_cuts 3 Q 48 [some (.ref 66), some (.int x1), some (.int x2), some (.int x3), none] [] M := by
  unfold b_mo_cuts_48_48 at hf
  refine y_iload_n (i := 3) (n := 49) ⟨dX12_cuts_48, rfl⟩ rfl ?_
  refine y_aload_n (i := 0) (n := 50) ⟨dX12_cuts_49, rfl⟩ rfl ?_
  refine y_getI (n := 53) ⟨dX12_cuts_50, rfl⟩ kfX12_235 l_66 rfl ?_
  refine y_icmp_ge (t := 75) (n := 56) ⟨dX12_cuts_53, rfl, rfl⟩ (fun (hc : (gI M 66 9) ≤ x3) => ?_) (fun (hc : ¬ ((gI M 66 9) ≤ x3)) => ?_)
  · replace hf := i_t hc hf
    cases hf
    exact y_wk ⟨Or.inr rfl, Or.inr rfl, Or.inr rfl, Or.inl rfl, Or.inr rfl, trivial⟩ hk
  · replace hf := i_f hc hf
    refine y_aload_n (i := 0) (n := 57) ⟨dX12_cuts_56, rfl⟩ rfl ?_
    refine y_iload_n (i := 1) (n := 58) ⟨dX12_cuts_57, rfl⟩ rfl ?_
    refine y_iconst (n := 59) (v := 2) ⟨dX12_cuts_58, rfl⟩ ki_2 ?_
    refine y_iload_n (i := 2) (n := 60) ⟨dX12_cuts_59, rfl⟩ rfl ?_
    refine y_iload_n (i := 3) (n := 61) ⟨dX12_cuts_60, rfl⟩ rfl ?_
    refine y_iload_n (i := 3) (n := 62) ⟨dX12_cuts_61, rfl⟩ rfl ?_
    obtain ⟨q6, hv7, hf⟩ := b_s hf
    refine c_mo_falls x1 2 x2 x3 x3 M (n := 65) ⟨dX12_cuts_62, rfl⟩ klX12_522 hv7 (by decide) (Nat.le_of_ble_eq_true rfl) rfl rfl ?_
    refine y_if_eq (t := 69) (n := 68) ⟨dX12_cuts_65, rfl, rfl⟩ (fun h0 => ?_) (fun h0 => ?_)
    · have hc := bI_0 h0
      replace hf := i_f hc hf
      refine y_iinc (i := 3) (n := 72) (b := (x3 + 1)) (L2 := [some (.ref 66), some (.int x1), some (.int x2), some (.int (x3 + 1)), none]) ⟨dX12_cuts_69, rfl⟩ rfl (by rw [ki_1]) (by decide) rfl rfl ?_
      refine y_goto (t := 48) ⟨dX12_cuts_72, rfl, rfl⟩ ?_
      cases hf
      exact y_wk ⟨Or.inr rfl, Or.inr rfl, Or.inr rfl, Or.inr rfl, Or.inr rfl, trivial⟩ hk
    · have hc := bI_1 h0
      replace hf := i_t hc hf
      cases hf
      exact y_return (n := 69) ⟨dX12_cuts_68, rfl⟩ rfl hk
theorem wl_mo_cuts_48 (x1 : Int32) (x2 : Int32) (x3 : Int32) (M : dM) {Q : mz_P} {x : (dM ⊕ dM)} (hf : l_mo_cuts_48 x1 x2 x3 M = some x) (hk : K_mo_cuts_48 Q x1 x2 M (.inr x)) : mW mX12_cuts 3 Q 48 [some (.ref 66), some (.int x1), some (.int x2), some (.int x3), none] [] M :=
  lpc_wp (Wh := fun s => mW mX12_cuts 3 Q 48 [some (.ref 66), some (.int x1), some (.int x2), some (.int s.1), none] [] s.2) (K := K_mo_cuts_48 Q x1 x2 M) (fun _ h => h) (fun s o hb hk => w_b_mo_cuts_48_48 x1 x2 s.1 s.2 hb hk) hf hk
theorem w_b_mo_cuts_36_36 (x1 : Int32) (x2 : Int32) (M : dM) {Q : mz_P} {o : ((Int32 × dM) ⊕ (dM ⊕ dM))} (hf : b_mo_cuts_36_36 x1 x2 M = some o) (hk : K_mo_cuts_36 Q x1 M o) : mW mX12_cuts 3 Q 36 [some (.ref 66), some (.int x1), some (.int x2), none, none] [] M := by
  unfold b_mo_cuts_36_36 at hf
  refine y_iload_n (i := 2) (n := 37) ⟨dX12_cuts_36, rfl⟩ rfl ?_
  refine y_aload_n (i := 0) (n := 38) ⟨dX12_cuts_37, rfl⟩ rfl ?_
  refine y_getI (n := 41) ⟨dX12_cuts_38, rfl⟩ kfX12_235 l_66 rfl ?_
  refine y_icmp_ge (t := 81) (n := 44) ⟨dX12_cuts_41, rfl, rfl⟩ (fun (hc : (gI M 66 9) ≤ x2) => ?_) (fun (hc : ¬ ((gI M 66 9) ≤ x2)) => ?_)
  · replace hf := i_t hc hf
    cases hf
    exact y_wk ⟨Or.inr rfl, Or.inr rfl, Or.inl rfl, Or.inr rfl, Or.inr rfl, trivial⟩ hk
  · replace hf := i_f hc hf
    refine y_iload_n (i := 2) (n := 45) ⟨dX12_cuts_44, rfl⟩ rfl ?_
    refine y_iconst (n := 46) (v := 1) ⟨dX12_cuts_45, rfl⟩ ki_1 ?_
    refine y_iadd (n := 47) ⟨dX12_cuts_46, rfl⟩ ?_
    refine y_istore_n (i := 3) (n := 48) (L2 := [some (.ref 66), some (.int x1), some (.int x2), some (.int (x2 + 1)), none]) ⟨dX12_cuts_47, rfl⟩ (by decide) rfl rfl ?_
    obtain ⟨z11, hl9, hf⟩ := b_s hf
    refine y_wk ⟨Or.inr rfl, Or.inr rfl, Or.inr rfl, Or.inr rfl, Or.inr rfl, trivial⟩ (wl_mo_cuts_48 x1 x2 (x2 + 1) M hl9 ?_)
    rcases z11 with t8 | r10
    · show mW mX12_cuts 3 Q 75 [some (.ref 66), some (.int x1), some (.int x2), none, none] [] t8
      refine y_iinc (i := 2) (n := 78) (b := (x2 + 1)) (L2 := [some (.ref 66), some (.int x1), some (.int (x2 + 1)), none, none]) ⟨dX12_cuts_75, rfl⟩ rfl (by rw [ki_1]) (by decide) rfl rfl ?_
      refine y_goto (t := 36) ⟨dX12_cuts_78, rfl, rfl⟩ ?_
      cases hf
      exact y_wk ⟨Or.inr rfl, Or.inr rfl, Or.inr rfl, Or.inr rfl, Or.inr rfl, trivial⟩ hk
    · cases hf
      exact hk
theorem wl_mo_cuts_36 (x1 : Int32) (x2 : Int32) (M : dM) {Q : mz_P} {x : (dM ⊕ dM)} (hf : l_mo_cuts_36 x1 x2 M = some x) (hk : K_mo_cuts_36 Q x1 M (.inr x)) : mW mX12_cuts 3 Q 36 [some (.ref 66), some (.int x1), some (.int x2), none, none] [] M :=
  lpc_wp (Wh := fun s => mW mX12_cuts 3 Q 36 [some (.ref 66), some (.int x1), some (.int s.1), none, none] [] s.2) (K := K_mo_cuts_36 Q x1 M) (fun _ h => h) (fun s o hb hk => w_b_mo_cuts_36_36 x1 s.1 s.2 hb hk) hf hk
theorem w_b_mo_cuts_108_108 (x1 : Int32) (x2 : Int32) (x3 : Int32) (x4 : Int32) (M : dM) {Q : mz_P} {o : ((Int32 × dM) ⊕ (dM ⊕ dM))} (hf : b_mo_cuts_108_108 x1 x2 x3 x4 M = some o) (hk : K_mo_cuts_108 Q x1 x2 x3 M o) : mW mX12_cuts 3 Q 108 [some (.ref 66), some (.int x1), some (.int x2), some (.int x3), some (.int x4)] [] M := by
  unfold b_mo_cuts_108_108 at hf
  refine y_iload (i := 4) (n := 110) ⟨dX12_cuts_108, rfl⟩ rfl ?_
  refine y_aload_n (i := 0) (n := 111) ⟨dX12_cuts_110, rfl⟩ rfl ?_
  refine y_getI (n := 114) ⟨dX12_cuts_111, rfl⟩ kfX12_235 l_66 rfl ?_
  refine y_icmp_ge (t := 137) (n := 117) ⟨dX12_cuts_114, rfl, rfl⟩ (fun (hc : (gI M 66 9) ≤ x4) => ?_) (fun (hc : ¬ ((gI M 66 9) ≤ x4)) => ?_)
  · replace hf := i_t hc hf
    cases hf
    exact y_wk ⟨Or.inr rfl, Or.inr rfl, Or.inr rfl, Or.inr rfl, Or.inl rfl, trivial⟩ hk
  · replace hf := i_f hc hf
    refine y_aload_n (i := 0) (n := 118) ⟨dX12_cuts_117, rfl⟩ rfl ?_
    refine y_iload_n (i := 1) (n := 119) ⟨dX12_cuts_118, rfl⟩ rfl ?_
    refine y_iconst (n := 120) (v := 3) ⟨dX12_cuts_119, rfl⟩ ki_3 ?_
    refine y_iload_n (i := 2) (n := 121) ⟨dX12_cuts_120, rfl⟩ rfl ?_
    refine y_iload_n (i := 3) (n := 122) ⟨dX12_cuts_121, rfl⟩ rfl ?_
    refine y_iload (i := 4) (n := 124) ⟨dX12_cuts_122, rfl⟩ rfl ?_
    obtain ⟨q15, hv16, hf⟩ := b_s hf
    refine c_mo_falls x1 3 x2 x3 x4 M (n := 127) ⟨dX12_cuts_124, rfl⟩ klX12_522 hv16 (by decide) (Nat.le_of_ble_eq_true rfl) rfl rfl ?_
    refine y_if_eq (t := 131) (n := 130) ⟨dX12_cuts_127, rfl, rfl⟩ (fun h0 => ?_) (fun h0 => ?_)
    · have hc := bI_0 h0
      replace hf := i_f hc hf
      refine y_iinc (i := 4) (n := 134) (b := (x4 + 1)) (L2 := [some (.ref 66), some (.int x1), some (.int x2), some (.int x3), some (.int (x4 + 1))]) ⟨dX12_cuts_131, rfl⟩ rfl (by rw [ki_1]) (by decide) rfl rfl ?_
      refine y_goto (t := 108) ⟨dX12_cuts_134, rfl, rfl⟩ ?_
      cases hf
      exact y_wk ⟨Or.inr rfl, Or.inr rfl, Or.inr rfl, Or.inr rfl, Or.inr rfl, trivial⟩ hk
    · have hc := bI_1 h0
      replace hf := i_t hc hf
      cases hf
      exact y_return (n := 131) ⟨dX12_cuts_130, rfl⟩ rfl hk
theorem wl_mo_cuts_108 (x1 : Int32) (x2 : Int32) (x3 : Int32) (x4 : Int32) (M : dM) {Q : mz_P} {x : (dM ⊕ dM)} (hf : l_mo_cuts_108 x1 x2 x3 x4 M = some x) (hk : K_mo_cuts_108 Q x1 x2 x3 M (.inr x)) : mW mX12_cuts 3 Q 108 [some (.ref 66), some (.int x1), some (.int x2), some (.int x3), some (.int x4)] [] M :=
  lpc_wp (Wh := fun s => mW mX12_cuts 3 Q 108 [some (.ref 66), some (.int x1), some (.int x2), some (.int x3), some (.int s.1)] [] s.2) (K := K_mo_cuts_108 Q x1 x2 x3 M) (fun _ h => h) (fun s o hb hk => w_b_mo_cuts_108_108 x1 x2 x3 s.1 s.2 hb hk) hf hk
theorem w_b_mo_cuts_95_95 (x1 : Int32) (x2 : Int32) (x3 : Int32) (M : dM) {Q : mz_P} {o : ((Int32 × dM) ⊕ (dM ⊕ dM))} (hf : b_mo_cuts_95_95 x1 x2 x3 M = some o) (hk : K_mo_cuts_95 Q x1 x2 M o) : mW mX12_cuts 3 Q 95 [some (.ref 66), some (.int x1), some (.int x2), some (.int x3), none] [] M := by
  unfold b_mo_cuts_95_95 at hf
  refine y_iload_n (i := 3) (n := 96) ⟨dX12_cuts_95, rfl⟩ rfl ?_
  refine y_aload_n (i := 0) (n := 97) ⟨dX12_cuts_96, rfl⟩ rfl ?_
  refine y_getI (n := 100) ⟨dX12_cuts_97, rfl⟩ kfX12_235 l_66 rfl ?_
  refine y_icmp_ge (t := 143) (n := 103) ⟨dX12_cuts_100, rfl, rfl⟩ (fun (hc : (gI M 66 9) ≤ x3) => ?_) (fun (hc : ¬ ((gI M 66 9) ≤ x3)) => ?_)
  · replace hf := i_t hc hf
    cases hf
    exact y_wk ⟨Or.inr rfl, Or.inr rfl, Or.inr rfl, Or.inl rfl, Or.inr rfl, trivial⟩ hk
  · replace hf := i_f hc hf
    refine y_iload_n (i := 3) (n := 104) ⟨dX12_cuts_103, rfl⟩ rfl ?_
    refine y_iconst (n := 105) (v := 1) ⟨dX12_cuts_104, rfl⟩ ki_1 ?_
    refine y_iadd (n := 106) ⟨dX12_cuts_105, rfl⟩ ?_
    refine y_istore (i := 4) (n := 108) (L2 := [some (.ref 66), some (.int x1), some (.int x2), some (.int x3), some (.int (x3 + 1))]) ⟨dX12_cuts_106, rfl⟩ (by decide) rfl rfl ?_
    obtain ⟨z20, hl18, hf⟩ := b_s hf
    refine y_wk ⟨Or.inr rfl, Or.inr rfl, Or.inr rfl, Or.inr rfl, Or.inr rfl, trivial⟩ (wl_mo_cuts_108 x1 x2 x3 (x3 + 1) M hl18 ?_)
    rcases z20 with t17 | r19
    · show mW mX12_cuts 3 Q 137 [some (.ref 66), some (.int x1), some (.int x2), some (.int x3), none] [] t17
      refine y_iinc (i := 3) (n := 140) (b := (x3 + 1)) (L2 := [some (.ref 66), some (.int x1), some (.int x2), some (.int (x3 + 1)), none]) ⟨dX12_cuts_137, rfl⟩ rfl (by rw [ki_1]) (by decide) rfl rfl ?_
      refine y_goto (t := 95) ⟨dX12_cuts_140, rfl, rfl⟩ ?_
      cases hf
      exact y_wk ⟨Or.inr rfl, Or.inr rfl, Or.inr rfl, Or.inr rfl, Or.inr rfl, trivial⟩ hk
    · cases hf
      exact hk
theorem wl_mo_cuts_95 (x1 : Int32) (x2 : Int32) (x3 : Int32) (M : dM) {Q : mz_P} {x : (dM ⊕ dM)} (hf : l_mo_cuts_95 x1 x2 x3 M = some x) (hk : K_mo_cuts_95 Q x1 x2 M (.inr x)) : mW mX12_cuts 3 Q 95 [some (.ref 66), some (.int x1), some (.int x2), some (.int x3), none] [] M :=
  lpc_wp (Wh := fun s => mW mX12_cuts 3 Q 95 [some (.ref 66), some (.int x1), some (.int x2), some (.int s.1), none] [] s.2) (K := K_mo_cuts_95 Q x1 x2 M) (fun _ h => h) (fun s o hb hk => w_b_mo_cuts_95_95 x1 x2 s.1 s.2 hb hk) hf hk
theorem w_b_mo_cuts_83_83 (x1 : Int32) (x2 : Int32) (M : dM) {Q : mz_P} {o : ((Int32 × dM) ⊕ dM)} (hf : b_mo_cuts_83_83 x1 x2 M = some o) (hk : K_mo_cuts_83 Q x1 M o) : mW mX12_cuts 3 Q 83 [some (.ref 66), some (.int x1), some (.int x2), none, none] [] M := by
  unfold b_mo_cuts_83_83 at hf
  refine y_iload_n (i := 2) (n := 84) ⟨dX12_cuts_83, rfl⟩ rfl ?_
  refine y_aload_n (i := 0) (n := 85) ⟨dX12_cuts_84, rfl⟩ rfl ?_
  refine y_getI (n := 88) ⟨dX12_cuts_85, rfl⟩ kfX12_235 l_66 rfl ?_
  refine y_icmp_ge (t := 149) (n := 91) ⟨dX12_cuts_88, rfl, rfl⟩ (fun (hc : (gI M 66 9) ≤ x2) => ?_) (fun (hc : ¬ ((gI M 66 9) ≤ x2)) => ?_)
  · replace hf := i_t hc hf
    cases hf
    exact y_return (n := 150) ⟨dX12_cuts_149, rfl⟩ rfl hk
  · replace hf := i_f hc hf
    refine y_iload_n (i := 2) (n := 92) ⟨dX12_cuts_91, rfl⟩ rfl ?_
    refine y_iconst (n := 93) (v := 1) ⟨dX12_cuts_92, rfl⟩ ki_1 ?_
    refine y_iadd (n := 94) ⟨dX12_cuts_93, rfl⟩ ?_
    refine y_istore_n (i := 3) (n := 95) (L2 := [some (.ref 66), some (.int x1), some (.int x2), some (.int (x2 + 1)), none]) ⟨dX12_cuts_94, rfl⟩ (by decide) rfl rfl ?_
    obtain ⟨z24, hl22, hf⟩ := b_s hf
    refine y_wk ⟨Or.inr rfl, Or.inr rfl, Or.inr rfl, Or.inr rfl, Or.inr rfl, trivial⟩ (wl_mo_cuts_95 x1 x2 (x2 + 1) M hl22 ?_)
    rcases z24 with t21 | r23
    · show mW mX12_cuts 3 Q 143 [some (.ref 66), some (.int x1), some (.int x2), none, none] [] t21
      refine y_iinc (i := 2) (n := 146) (b := (x2 + 1)) (L2 := [some (.ref 66), some (.int x1), some (.int (x2 + 1)), none, none]) ⟨dX12_cuts_143, rfl⟩ rfl (by rw [ki_1]) (by decide) rfl rfl ?_
      refine y_goto (t := 83) ⟨dX12_cuts_146, rfl, rfl⟩ ?_
      cases hf
      exact y_wk ⟨Or.inr rfl, Or.inr rfl, Or.inr rfl, Or.inr rfl, Or.inr rfl, trivial⟩ hk
    · cases hf
      exact hk
theorem wl_mo_cuts_83 (x1 : Int32) (x2 : Int32) (M : dM) {Q : mz_P} {x : dM} (hf : l_mo_cuts_83 x1 x2 M = some x) (hk : K_mo_cuts_83 Q x1 M (.inr x)) : mW mX12_cuts 3 Q 83 [some (.ref 66), some (.int x1), some (.int x2), none, none] [] M :=
  lpc_wp (Wh := fun s => mW mX12_cuts 3 Q 83 [some (.ref 66), some (.int x1), some (.int s.1), none, none] [] s.2) (K := K_mo_cuts_83 Q x1 M) (fun _ h => h) (fun s o hb hk => w_b_mo_cuts_83_83 x1 s.1 s.2 hb hk) hf hk
theorem ok_mo_cuts (a1 : Int32) (M : dM) {o : dM} (hf : f_mo_cuts a1 M = some o) : mO mX12_cuts 3 [.ref 66, .int a1] M none o := by
  refine y_ok (by decide +kernel) (by decide) (L0 := [some (.ref 66), some (.int a1), none, none, none]) rfl ?_
  have hk := mR_mQ none o
  generalize mQ _ _ = Q at hk ⊢
  unfold f_mo_cuts at hf
  refine y_aload_n (i := 0) (n := 1) ⟨dX12_cuts_0, rfl⟩ rfl ?_
  refine y_iconst (n := 2) (v := 0) ⟨dX12_cuts_1, rfl⟩ ki_0 ?_
  refine y_putI (n := 5) ⟨dX12_cuts_2, rfl⟩ kfX12_519 l_66 (by decide +kernel) rfl ?_
  refine y_iconst (n := 6) (v := 0) ⟨dX12_cuts_5, rfl⟩ ki_0 ?_
  refine y_istore_n (i := 2) (n := 7) (L2 := [some (.ref 66), some (.int a1), some (.int 0), none, none]) ⟨dX12_cuts_6, rfl⟩ (by decide) rfl rfl ?_
  obtain ⟨z29, hl4, hf⟩ := b_s hf
  refine y_wk ⟨Or.inr rfl, Or.inr rfl, Or.inr rfl, Or.inr rfl, Or.inr rfl, trivial⟩ (wl_mo_cuts_7 a1 0 (sI M 66 73 0) hl4 ?_)
  rcases z29 with t3 | r5
  · show mW mX12_cuts 3 Q 34 [some (.ref 66), some (.int a1), none, none, none] [] t3
    refine y_iconst (n := 35) (v := 0) ⟨dX12_cuts_34, rfl⟩ ki_0 ?_
    refine y_istore_n (i := 2) (n := 36) (L2 := [some (.ref 66), some (.int a1), some (.int 0), none, none]) ⟨dX12_cuts_35, rfl⟩ (by decide) rfl rfl ?_
    obtain ⟨z28, hl13, hf⟩ := b_s hf
    refine y_wk ⟨Or.inr rfl, Or.inr rfl, Or.inr rfl, Or.inr rfl, Or.inr rfl, trivial⟩ (wl_mo_cuts_36 a1 0 t3 hl13 ?_)
    rcases z28 with t12 | r14
    · show mW mX12_cuts 3 Q 81 [some (.ref 66), some (.int a1), none, none, none] [] t12
      refine y_iconst (n := 82) (v := 0) ⟨dX12_cuts_81, rfl⟩ ki_0 ?_
      refine y_istore_n (i := 2) (n := 83) (L2 := [some (.ref 66), some (.int a1), some (.int 0), none, none]) ⟨dX12_cuts_82, rfl⟩ (by decide) rfl rfl ?_
      obtain ⟨r27, hl26, hf⟩ := b_s hf
      cases hf
      exact y_wk ⟨Or.inr rfl, Or.inr rfl, Or.inr rfl, Or.inr rfl, Or.inr rfl, trivial⟩ (wl_mo_cuts_83 a1 0 t12 hl26 hk)
    · cases hf
      exact hk
  · cases hf
    exact hk
theorem c_mo_cuts (a1 : Int32) (M : dM) {o : dM} {y : mz_M} {d : Nat} {Q : mz_P} {pc n i : Nat} {L : List (Option Value)} {st : List Value} (h : mz_d y.2.1 pc n 3 (.invokevirtual i)) (hl : mz_ml y.1.cls i yX12_cuts) (hf : f_mo_cuts a1 M = some o) (hd : 3 + 1 ≤ d) (hsm : (st.map (fun v => v.category)).sum ≤ 8) (hLr : mz_rL 133 L = true) (hSr : mz_rS 133 st = true) (kk : mW y d Q n L st o) : mW y d Q pc L (.int a1 :: .ref 66 :: st) M :=
  y_callV kmX12_cuts kvX12_cuts l_66 (by decide +kernel) (by decide +kernel) h hl (ok_mo_cuts a1 M hf) (vs := [.int a1]) rfl rfl hd hsm hLr hSr kk
noncomputable def f_mo_cut (a1 : Int32) (a2 : Int32) (M : dM) : Option (Int32 × dM) :=
  if (f_mo_within a1 0 11) = true then
    if (f_mo_within a2 0 3) = true then
      (f_mo_standsWithout 0 (sI M 66 0 0)).bind fun v1 =>
      if ((v1 >>> (a1 &&& 31)) &&& 1) = 0 then
        some ((-1), (sI M 66 0 0))
      else
        (f_mo_cuts a1 (sI M 66 0 0)).bind fun q3 =>
        if (gI q3 66 73) = 0 then
          some ((-1), q3)
        else
          if a2 ≤ (gI q3 66 73) then
            if a2 = 0 then
              some ((gI q3 66 73), q3)
            else
              gd (vp_in (a2 - 1) 3) <|
              some ((gI q3 111 (a2 - 1).toNatClampNeg), q3)
          else
            some ((-1), q3)
    else
      some ((-1), (sI M 66 0 0))
  else
    some ((-1), (sI M 66 0 0))
theorem ok_mo_cut (a1 : Int32) (a2 : Int32) (M : dM) {o : (Int32 × dM)} (hf : f_mo_cut a1 a2 M = some o) : mO mX12_cut 4 [.ref 66, .int a1, .int a2] M (some (.int o.1)) o.2 := by
  refine y_ok (by decide +kernel) (by decide) (L0 := [some (.ref 66), some (.int a1), some (.int a2)]) rfl ?_
  have hk := mR_mQ (some (.int o.1)) o.2
  generalize mQ _ _ = Q at hk ⊢
  unfold f_mo_cut at hf
  refine y_aload_n (i := 0) (n := 1) ⟨dX12_cut_0, rfl⟩ rfl ?_
  refine y_iconst (n := 2) (v := 0) ⟨dX12_cut_1, rfl⟩ ki_0 ?_
  refine y_putI (n := 5) ⟨dX12_cut_2, rfl⟩ kfX12_214 l_66 (by decide +kernel) rfl ?_
  refine y_iload_n (i := 1) (n := 6) ⟨dX12_cut_5, rfl⟩ rfl ?_
  refine y_iconst (n := 7) (v := 0) ⟨dX12_cut_6, rfl⟩ ki_0 ?_
  refine y_bipush (n := 9) (v := 11) ⟨dX12_cut_7, rfl⟩ kb_11 ?_
  refine c_mo_within a1 0 11 (sI M 66 0 0) (n := 12) ⟨dX12_cut_9, rfl⟩ klX12_221 rfl (by decide) (Nat.le_of_ble_eq_true rfl) rfl rfl ?_
  refine y_if_eq (t := 36) (n := 15) ⟨dX12_cut_12, rfl, rfl⟩ (fun h0 => ?_) (fun h0 => ?_)
  · have hc := bI_0 h0
    replace hf := i_f hc hf
    refine y_iconst (n := 37) (v := (-1)) ⟨dX12_cut_36, rfl⟩ ki_m1 ?_
    cases hf
    exact y_ireturn (n := 38) ⟨dX12_cut_37, rfl⟩ rfl rfl hk
  · have hc := bI_1 h0
    replace hf := i_t hc hf
    refine y_iload_n (i := 2) (n := 16) ⟨dX12_cut_15, rfl⟩ rfl ?_
    refine y_iconst (n := 17) (v := 0) ⟨dX12_cut_16, rfl⟩ ki_0 ?_
    refine y_iconst (n := 18) (v := 3) ⟨dX12_cut_17, rfl⟩ ki_3 ?_
    refine c_mo_within a2 0 3 (sI M 66 0 0) (n := 21) ⟨dX12_cut_18, rfl⟩ klX12_221 rfl (by decide) (Nat.le_of_ble_eq_true rfl) rfl rfl ?_
    refine y_if_eq (t := 36) (n := 24) ⟨dX12_cut_21, rfl, rfl⟩ (fun h0 => ?_) (fun h0 => ?_)
    · have hc := bI_0 h0
      replace hf := i_f hc hf
      refine y_iconst (n := 37) (v := (-1)) ⟨dX12_cut_36, rfl⟩ ki_m1 ?_
      cases hf
      exact y_ireturn (n := 38) ⟨dX12_cut_37, rfl⟩ rfl rfl hk
    · have hc := bI_1 h0
      replace hf := i_t hc hf
      refine y_aload_n (i := 0) (n := 25) ⟨dX12_cut_24, rfl⟩ rfl ?_
      refine y_lconst (n := 26) (v := 0) ⟨dX12_cut_25, rfl⟩ kl_0 ?_
      obtain ⟨v1, hv2, hf⟩ := b_s hf
      refine c_mo_standsWithout 0 (sI M 66 0 0) (n := 29) ⟨dX12_cut_26, rfl⟩ klX12_515 hv2 (by decide) (Nat.le_of_ble_eq_true rfl) rfl rfl ?_
      refine y_iload_n (i := 1) (n := 30) ⟨dX12_cut_29, rfl⟩ rfl ?_
      refine y_ishr (n := 31) ⟨dX12_cut_30, rfl⟩ ?_
      refine y_iconst (n := 32) (v := 1) ⟨dX12_cut_31, rfl⟩ ki_1 ?_
      refine y_iand (n := 33) ⟨dX12_cut_32, rfl⟩ ?_
      refine y_if_ne (t := 38) (n := 36) ⟨dX12_cut_33, rfl, rfl⟩ (fun (hc : ¬ (((v1 >>> (a1 &&& 31)) &&& 1) = 0)) => ?_) (fun (hc : ((v1 >>> (a1 &&& 31)) &&& 1) = 0) => ?_)
      · replace hf := i_f hc hf
        refine y_aload_n (i := 0) (n := 39) ⟨dX12_cut_38, rfl⟩ rfl ?_
        refine y_iload_n (i := 1) (n := 40) ⟨dX12_cut_39, rfl⟩ rfl ?_
        obtain ⟨q3, hv4, hf⟩ := b_s hf
        refine c_mo_cuts a1 (sI M 66 0 0) (n := 43) ⟨dX12_cut_40, rfl⟩ klX12_526 hv4 (by decide) (Nat.le_of_ble_eq_true rfl) rfl rfl ?_
        refine y_aload_n (i := 0) (n := 44) ⟨dX12_cut_43, rfl⟩ rfl ?_
        refine y_getI (n := 47) ⟨dX12_cut_44, rfl⟩ kfX12_519 l_66 rfl ?_
        refine y_if_eq (t := 58) (n := 50) ⟨dX12_cut_47, rfl, rfl⟩ (fun (hc : (gI q3 66 73) = 0) => ?_) (fun (hc : ¬ ((gI q3 66 73) = 0)) => ?_)
        · replace hf := i_t hc hf
          refine y_iconst (n := 59) (v := (-1)) ⟨dX12_cut_58, rfl⟩ ki_m1 ?_
          cases hf
          exact y_ireturn (n := 60) ⟨dX12_cut_59, rfl⟩ rfl rfl hk
        · replace hf := i_f hc hf
          refine y_iload_n (i := 2) (n := 51) ⟨dX12_cut_50, rfl⟩ rfl ?_
          refine y_aload_n (i := 0) (n := 52) ⟨dX12_cut_51, rfl⟩ rfl ?_
          refine y_getI (n := 55) ⟨dX12_cut_52, rfl⟩ kfX12_519 l_66 rfl ?_
          refine y_icmp_le (t := 60) (n := 58) ⟨dX12_cut_55, rfl, rfl⟩ (fun (hc : a2 ≤ (gI q3 66 73)) => ?_) (fun (hc : ¬ (a2 ≤ (gI q3 66 73))) => ?_)
          · replace hf := i_t hc hf
            refine y_iload_n (i := 2) (n := 61) ⟨dX12_cut_60, rfl⟩ rfl ?_
            refine y_if_ne (t := 71) (n := 64) ⟨dX12_cut_61, rfl, rfl⟩ (fun (hc : ¬ (a2 = 0)) => ?_) (fun (hc : a2 = 0) => ?_)
            · replace hf := i_f hc hf
              refine y_aload_n (i := 0) (n := 72) ⟨dX12_cut_71, rfl⟩ rfl ?_
              refine y_getR (n := 75) ⟨dX12_cut_72, rfl⟩ kfX12_144 l_66 rfl r_66_74 ?_
              refine y_iload_n (i := 2) (n := 76) ⟨dX12_cut_75, rfl⟩ rfl ?_
              refine y_iconst (n := 77) (v := 1) ⟨dX12_cut_76, rfl⟩ ki_1 ?_
              refine y_isub (n := 78) ⟨dX12_cut_77, rfl⟩ ?_
              obtain ⟨hg5, hf⟩ := g_s hf
              refine y_iaload (n := 79) ⟨dX12_cut_78, rfl⟩ l_111 hg5 ?_
              cases hf
              exact y_ireturn (n := 80) ⟨dX12_cut_79, rfl⟩ rfl rfl hk
            · replace hf := i_t hc hf
              refine y_aload_n (i := 0) (n := 65) ⟨dX12_cut_64, rfl⟩ rfl ?_
              refine y_getI (n := 68) ⟨dX12_cut_65, rfl⟩ kfX12_519 l_66 rfl ?_
              refine y_goto (t := 79) ⟨dX12_cut_68, rfl, rfl⟩ ?_
              cases hf
              exact y_ireturn (n := 80) ⟨dX12_cut_79, rfl⟩ rfl rfl hk
          · replace hf := i_f hc hf
            refine y_iconst (n := 59) (v := (-1)) ⟨dX12_cut_58, rfl⟩ ki_m1 ?_
            cases hf
            exact y_ireturn (n := 60) ⟨dX12_cut_59, rfl⟩ rfl rfl hk
      · replace hf := i_t hc hf
        refine y_iconst (n := 37) (v := (-1)) ⟨dX12_cut_36, rfl⟩ ki_m1 ?_
        cases hf
        exact y_ireturn (n := 38) ⟨dX12_cut_37, rfl⟩ rfl rfl hk
theorem c_mo_cut (a1 : Int32) (a2 : Int32) (M : dM) {o : (Int32 × dM)} {y : mz_M} {d : Nat} {Q : mz_P} {pc n i : Nat} {L : List (Option Value)} {st : List Value} (h : mz_d y.2.1 pc n 3 (.invokevirtual i)) (hl : mz_ml y.1.cls i yX12_cut) (hf : f_mo_cut a1 a2 M = some o) (hd : 4 + 1 ≤ d) (hsm : (st.map (fun v => v.category)).sum ≤ 8) (hLr : mz_rL 133 L = true) (hSr : mz_rS 133 st = true) (kk : mW y d Q n L (.int o.1 :: st) o.2) : mW y d Q pc L (.int a2 :: .int a1 :: .ref 66 :: st) M :=
  y_callV kmX12_cut kvX12_cut l_66 (by decide +kernel) (by decide +kernel) h hl (ok_mo_cut a1 a2 M hf) (vs := [.int a1, .int a2]) rfl rfl hd hsm hLr hSr kk
noncomputable def f_mo_doubted (a1 : Int32) (M : dM) : Option (Int32 × dM) :=
  if (f_mo_isFind a1 (sI M 66 0 0)) = true then
    (f_mo_knows (sI M 66 0 0)).bind fun q1 =>
    if (((gJ q1 66 63) >>> (a1.toInt64 &&& 63)) &&& 1) = 1 then
      some (1, q1)
    else
      some (0, q1)
  else
    some ((-1), (sI M 66 0 0))
theorem ok_mo_doubted (a1 : Int32) (M : dM) {o : (Int32 × dM)} (hf : f_mo_doubted a1 M = some o) : mO mX12_doubted 7 [.ref 66, .int a1] M (some (.int o.1)) o.2 := by
  refine y_ok (by decide +kernel) (by decide) (L0 := [some (.ref 66), some (.int a1)]) rfl ?_
  have hk := mR_mQ (some (.int o.1)) o.2
  generalize mQ _ _ = Q at hk ⊢
  unfold f_mo_doubted at hf
  refine y_aload_n (i := 0) (n := 1) ⟨dX12_doubted_0, rfl⟩ rfl ?_
  refine y_iconst (n := 2) (v := 0) ⟨dX12_doubted_1, rfl⟩ ki_0 ?_
  refine y_putI (n := 5) ⟨dX12_doubted_2, rfl⟩ kfX12_214 l_66 (by decide +kernel) rfl ?_
  refine y_aload_n (i := 0) (n := 6) ⟨dX12_doubted_5, rfl⟩ rfl ?_
  refine y_iload_n (i := 1) (n := 7) ⟨dX12_doubted_6, rfl⟩ rfl ?_
  refine c_mo_isFind a1 (sI M 66 0 0) (n := 10) ⟨dX12_doubted_7, rfl⟩ klX12_249 rfl (by decide) (Nat.le_of_ble_eq_true rfl) rfl rfl ?_
  refine y_if_ne (t := 15) (n := 13) ⟨dX12_doubted_10, rfl, rfl⟩ (fun h0 => ?_) (fun h0 => ?_)
  · have hc := bI_1 h0
    replace hf := i_t hc hf
    refine y_aload_n (i := 0) (n := 16) ⟨dX12_doubted_15, rfl⟩ rfl ?_
    obtain ⟨q1, hv2, hf⟩ := b_s hf
    refine c_mo_knows (sI M 66 0 0) (n := 19) ⟨dX12_doubted_16, rfl⟩ klX12_505 hv2 (by decide) (Nat.le_of_ble_eq_true rfl) rfl rfl ?_
    refine y_aload_n (i := 0) (n := 20) ⟨dX12_doubted_19, rfl⟩ rfl ?_
    refine y_getJ (n := 23) ⟨dX12_doubted_20, rfl⟩ kfX12_502 l_66 rfl ?_
    refine y_iload_n (i := 1) (n := 24) ⟨dX12_doubted_23, rfl⟩ rfl ?_
    refine y_lshr (n := 25) ⟨dX12_doubted_24, rfl⟩ ?_
    refine y_lconst (n := 26) (v := 1) ⟨dX12_doubted_25, rfl⟩ kl_1 ?_
    refine y_land (n := 27) ⟨dX12_doubted_26, rfl⟩ ?_
    refine y_lconst (n := 28) (v := 1) ⟨dX12_doubted_27, rfl⟩ kl_1 ?_
    refine y_lcmp (n := 29) ⟨dX12_doubted_28, rfl⟩ ?_
    refine y_if_ne (t := 36) (n := 32) ⟨dX12_doubted_29, rfl, rfl⟩ (fun h0 => ?_) (fun h0 => ?_)
    · have hc : ¬ ((((gJ q1 66 63) >>> (a1.toInt64 &&& 63)) &&& 1) = 1) := fun e => h0 ((lc_eq _ _).mpr e)
      replace hf := i_f hc hf
      refine y_iconst (n := 37) (v := 0) ⟨dX12_doubted_36, rfl⟩ ki_0 ?_
      cases hf
      exact y_ireturn (n := 38) ⟨dX12_doubted_37, rfl⟩ rfl rfl hk
    · have hc : (((gJ q1 66 63) >>> (a1.toInt64 &&& 63)) &&& 1) = 1 := (lc_eq _ _).mp h0
      replace hf := i_t hc hf
      refine y_iconst (n := 33) (v := 1) ⟨dX12_doubted_32, rfl⟩ ki_1 ?_
      refine y_goto (t := 37) ⟨dX12_doubted_33, rfl, rfl⟩ ?_
      cases hf
      exact y_ireturn (n := 38) ⟨dX12_doubted_37, rfl⟩ rfl rfl hk
  · have hc := bI_0 h0
    replace hf := i_f hc hf
    refine y_iconst (n := 14) (v := (-1)) ⟨dX12_doubted_13, rfl⟩ ki_m1 ?_
    cases hf
    exact y_ireturn (n := 15) ⟨dX12_doubted_14, rfl⟩ rfl rfl hk
theorem c_mo_doubted (a1 : Int32) (M : dM) {o : (Int32 × dM)} {y : mz_M} {d : Nat} {Q : mz_P} {pc n i : Nat} {L : List (Option Value)} {st : List Value} (h : mz_d y.2.1 pc n 3 (.invokevirtual i)) (hl : mz_ml y.1.cls i yX12_doubted) (hf : f_mo_doubted a1 M = some o) (hd : 7 + 1 ≤ d) (hsm : (st.map (fun v => v.category)).sum ≤ 8) (hLr : mz_rL 133 L = true) (hSr : mz_rS 133 st = true) (kk : mW y d Q n L (.int o.1 :: st) o.2) : mW y d Q pc L (.int a1 :: .ref 66 :: st) M :=
  y_callV kmX12_doubted kvX12_doubted l_66 (by decide +kernel) (by decide +kernel) h hl (ok_mo_doubted a1 M hf) (vs := [.int a1]) rfl rfl hd hsm hLr hSr kk
noncomputable def f_mo_settledBy (a1 : Int64) (a2 : Int64) (M : dM) : Option Int32 :=
  (f_mo_standsWithout (a1 ||| a2) M).bind fun v1 =>
  (f_mo_standsWithout a2 M).bind fun v3 =>
  some (v1 ||| ((v3 ^^^ (-1)) &&& 4095))
theorem ok_mo_settledBy (a1 : Int64) (a2 : Int64) (M : dM) {o : Int32} (hf : f_mo_settledBy a1 a2 M = some o) : mO mX12_settledBy 2 [.ref 66, .long a1, .long a2] M (some (.int o)) M := by
  refine y_ok (by decide +kernel) (by decide) (L0 := [some (.ref 66), some (.long a1), none, some (.long a2), none]) rfl ?_
  have hk := mR_mQ (some (.int o)) M
  generalize mQ _ _ = Q at hk ⊢
  unfold f_mo_settledBy at hf
  refine y_aload_n (i := 0) (n := 1) ⟨dX12_settledBy_0, rfl⟩ rfl ?_
  refine y_lload_n (i := 1) (n := 2) ⟨dX12_settledBy_1, rfl⟩ rfl ?_
  refine y_lload_n (i := 3) (n := 3) ⟨dX12_settledBy_2, rfl⟩ rfl ?_
  refine y_lor (n := 4) ⟨dX12_settledBy_3, rfl⟩ ?_
  obtain ⟨v1, hv2, hf⟩ := b_s hf
  refine c_mo_standsWithout (a1 ||| a2) M (n := 7) ⟨dX12_settledBy_4, rfl⟩ klX12_515 hv2 (by decide) (Nat.le_of_ble_eq_true rfl) rfl rfl ?_
  refine y_aload_n (i := 0) (n := 8) ⟨dX12_settledBy_7, rfl⟩ rfl ?_
  refine y_lload_n (i := 3) (n := 9) ⟨dX12_settledBy_8, rfl⟩ rfl ?_
  obtain ⟨v3, hv4, hf⟩ := b_s hf
  refine c_mo_standsWithout a2 M (n := 12) ⟨dX12_settledBy_9, rfl⟩ klX12_515 hv4 (by decide) (Nat.le_of_ble_eq_true rfl) rfl rfl ?_
  refine y_iconst (n := 13) (v := (-1)) ⟨dX12_settledBy_12, rfl⟩ ki_m1 ?_
  refine y_ixor (n := 14) ⟨dX12_settledBy_13, rfl⟩ ?_
  refine y_sipush (n := 17) (v := 4095) ⟨dX12_settledBy_14, rfl⟩ ks_4095 ?_
  refine y_iand (n := 18) ⟨dX12_settledBy_17, rfl⟩ ?_
  refine y_ior (n := 19) ⟨dX12_settledBy_18, rfl⟩ ?_
  cases hf
  exact y_ireturn (n := 20) ⟨dX12_settledBy_19, rfl⟩ rfl rfl hk
theorem c_mo_settledBy (a1 : Int64) (a2 : Int64) (M : dM) {o : Int32} {y : mz_M} {d : Nat} {Q : mz_P} {pc n i : Nat} {L : List (Option Value)} {st : List Value} (h : mz_d y.2.1 pc n 3 (.invokevirtual i)) (hl : mz_ml y.1.cls i yX12_settledBy) (hf : f_mo_settledBy a1 a2 M = some o) (hd : 2 + 1 ≤ d) (hsm : (st.map (fun v => v.category)).sum ≤ 8) (hLr : mz_rL 133 L = true) (hSr : mz_rS 133 st = true) (kk : mW y d Q n L (.int o :: st) M) : mW y d Q pc L (.long a2 :: .long a1 :: .ref 66 :: st) M :=
  y_callV kmX12_settledBy kvX12_settledBy l_66 (by decide +kernel) (by decide +kernel) h hl (ok_mo_settledBy a1 a2 M hf) (vs := [.long a1, .long a2]) rfl rfl hd hsm hLr hSr kk
noncomputable def f_mo_settled (M : dM) : Option (Int32 × dM) :=
  (f_mo_knows (sI M 66 0 0)).bind fun q1 =>
  (f_mo_settledBy (gJ q1 66 63) 0 q1).bind fun v3 =>
  some (v3, q1)
theorem ok_mo_settled  (M : dM) {o : (Int32 × dM)} (hf : f_mo_settled M = some o) : mO mX12_settled 7 [.ref 66] M (some (.int o.1)) o.2 := by
  refine y_ok (by decide +kernel) (by decide) (L0 := [some (.ref 66)]) rfl ?_
  have hk := mR_mQ (some (.int o.1)) o.2
  generalize mQ _ _ = Q at hk ⊢
  unfold f_mo_settled at hf
  refine y_aload_n (i := 0) (n := 1) ⟨dX12_settled_0, rfl⟩ rfl ?_
  refine y_iconst (n := 2) (v := 0) ⟨dX12_settled_1, rfl⟩ ki_0 ?_
  refine y_putI (n := 5) ⟨dX12_settled_2, rfl⟩ kfX12_214 l_66 (by decide +kernel) rfl ?_
  refine y_aload_n (i := 0) (n := 6) ⟨dX12_settled_5, rfl⟩ rfl ?_
  obtain ⟨q1, hv2, hf⟩ := b_s hf
  refine c_mo_knows (sI M 66 0 0) (n := 9) ⟨dX12_settled_6, rfl⟩ klX12_505 hv2 (by decide) (Nat.le_of_ble_eq_true rfl) rfl rfl ?_
  refine y_aload_n (i := 0) (n := 10) ⟨dX12_settled_9, rfl⟩ rfl ?_
  refine y_aload_n (i := 0) (n := 11) ⟨dX12_settled_10, rfl⟩ rfl ?_
  refine y_getJ (n := 14) ⟨dX12_settled_11, rfl⟩ kfX12_502 l_66 rfl ?_
  refine y_lconst (n := 15) (v := 0) ⟨dX12_settled_14, rfl⟩ kl_0 ?_
  obtain ⟨v3, hv4, hf⟩ := b_s hf
  refine c_mo_settledBy (gJ q1 66 63) 0 q1 (n := 18) ⟨dX12_settled_15, rfl⟩ klX12_529 hv4 (by decide) (Nat.le_of_ble_eq_true rfl) rfl rfl ?_
  cases hf
  exact y_ireturn (n := 19) ⟨dX12_settled_18, rfl⟩ rfl rfl hk
theorem c_mo_settled  (M : dM) {o : (Int32 × dM)} {y : mz_M} {d : Nat} {Q : mz_P} {pc n i : Nat} {L : List (Option Value)} {st : List Value} (h : mz_d y.2.1 pc n 3 (.invokevirtual i)) (hl : mz_ml y.1.cls i yX12_settled) (hf : f_mo_settled M = some o) (hd : 7 + 1 ≤ d) (hsm : (st.map (fun v => v.category)).sum ≤ 8) (hLr : mz_rL 133 L = true) (hSr : mz_rS 133 st = true) (kk : mW y d Q n L (.int o.1 :: st) o.2) : mW y d Q pc L (.ref 66 :: st) M :=
  y_callV kmX12_settled kvX12_settled l_66 (by decide +kernel) (by decide +kernel) h hl (ok_mo_settled  M hf) (vs := []) rfl rfl hd hsm hLr hSr kk
def K_mo_goodOf_10 (Q : mz_P) (x1 : Int32) (x2 : Int32) (M : dM) : ((Int64 × Int32 × dM) ⊕ ((Int64 × dM) ⊕ (Int32 × dM))) → Prop
  | .inl s => mW mX12_goodOf 3 Q 10 [some (.ref 66), some (.int x1), some (.int x2), some (.long s.1), none, some (.int s.2.1), none, none, none, none] [] s.2.2
  | .inr (.inl t) => mW mX12_goodOf 3 Q 103 [some (.ref 66), none, none, some (.long t.1), none, none, none, none, none, none] [] t.2
  | .inr (.inr r) => mR Q (some (.int r.1)) r.2
noncomputable def b_mo_goodOf_10_58 (x1 : Int32) (x2 : Int32) (x3 : Int64) (x5 : Int32) (M : dM) : Option ((Int64 × Int32 × dM) ⊕ ((Int64 × dM) ⊕ (Int32 × dM))) :=
  if (gI M 66 76) = 10 then
    some (.inr (.inr ((-1), M)))
  else
    gd (vp_in (gI M 66 76) 10) <|
    some (.inl ((x3 ||| ((1 : Int64) <<< (x5.toInt64 &&& 63))), (x5 + 1), (sI (sI M 112 (gI M 66 76).toNatClampNeg x5) 66 76 ((gI (sI M 112 (gI M 66 76).toNatClampNeg x5) 66 76) + 1))))
noncomputable def b_mo_goodOf_10_10 (x1 : Int32) (x2 : Int32) (x3 : Int64) (x5 : Int32) (M : dM) : Option ((Int64 × Int32 × dM) ⊕ ((Int64 × dM) ⊕ (Int32 × dM))) :=
  if (gI M 66 9) ≤ x5 then
    some (.inr (.inl (x3, M)))
  else
    if (((gJ M 66 63) >>> (x5.toInt64 &&& 63)) &&& 1) = 0 then
      some (.inl (x3, (x5 + 1), M))
    else
      gd (vp_in x5 40) <|
      if (gI M 74 x5.toNatClampNeg) = x1 then
        b_mo_goodOf_10_58 x1 x2 x3 x5 M
      else
        if (gI M 74 x5.toNatClampNeg) = x2 then
          b_mo_goodOf_10_58 x1 x2 x3 x5 M
        else
          some (.inl (x3, (x5 + 1), M))
noncomputable def l_mo_goodOf_10 (x1 : Int32) (x2 : Int32) (x3 : Int64) (x5 : Int32) (M : dM) : Option ((Int64 × dM) ⊕ (Int32 × dM)) := lpc (fun s => b_mo_goodOf_10_10 x1 x2 s.1 s.2.1 s.2.2) (x3, x5, M)
def K_mo_goodOf_111 (Q : mz_P) (x3 : Int64) (M : dM) : ((Int32 × Int32) ⊕ (Int32 × dM)) → Prop
  | .inl s => mW mX12_goodOf 3 Q 111 [some (.ref 66), none, none, some (.long x3), none, some (.int s.1), some (.int s.2), none, none, none] [] M
  | .inr r => mR Q (some (.int r.1)) r.2
def K_mo_goodOf_128 (Q : mz_P) (x3 : Int64) (x5 : Int32) (x6 : Int32) (M : dM) : ((Int64 × Int32) ⊕ Int64) → Prop
  | .inl s => mW mX12_goodOf 3 Q 128 [some (.ref 66), none, none, some (.long x3), none, some (.int x5), some (.int x6), some (.long s.1), none, some (.int s.2)] [] M
  | .inr t => mW mX12_goodOf 3 Q 168 [some (.ref 66), none, none, some (.long x3), none, some (.int x5), some (.int x6), some (.long t), none, none] [] M
noncomputable def b_mo_goodOf_128_128 (x3 : Int64) (x5 : Int32) (x6 : Int32) (x7 : Int64) (x9 : Int32) (M : dM) : Option ((Int64 × Int32) ⊕ Int64) :=
  if (gI M 66 76) ≤ x9 then
    some (.inr x7)
  else
    if ((x6 >>> (x9 &&& 31)) &&& 1) = 1 then
      gd (vp_in x9 10) <|
      some (.inl ((x7 ||| ((1 : Int64) <<< ((gI M 112 x9.toNatClampNeg).toInt64 &&& 63))), (x9 + 1)))
    else
      some (.inl (x7, (x9 + 1)))
noncomputable def l_mo_goodOf_128 (x3 : Int64) (x5 : Int32) (x6 : Int32) (x7 : Int64) (x9 : Int32) (M : dM) : Option Int64 := lpc (fun s => b_mo_goodOf_128_128 x3 x5 x6 s.1 s.2 M) (x7, x9)
noncomputable def b_mo_goodOf_111_111 (x3 : Int64) (x5 : Int32) (x6 : Int32) (M : dM) : Option ((Int32 × Int32) ⊕ (Int32 × dM)) :=
  if ((1 : Int32) <<< ((gI M 66 76) &&& 31)) ≤ x6 then
    (f_mo_bits x5).bind fun v6 =>
    some (.inr (v6, M))
  else
    (l_mo_goodOf_128 x3 x5 x6 0 0 M).bind fun t9 =>
      (f_mo_settledBy ((gJ M 66 63) &&& (x3 ^^^ (-1))) t9 M).bind fun v12 =>
      some (.inl ((x5 &&& v12), (x6 + 1)))
noncomputable def l_mo_goodOf_111 (x3 : Int64) (x5 : Int32) (x6 : Int32) (M : dM) : Option (Int32 × dM) := lpc (fun s => b_mo_goodOf_111_111 x3 s.1 s.2 M) (x5, x6)
noncomputable def f_mo_goodOf (a1 : Int32) (a2 : Int32) (M : dM) : Option (Int32 × dM) :=
  (l_mo_goodOf_10 a1 a2 0 0 (sI M 66 76 0)).bind (Sum.elim (fun t3 =>
      (l_mo_goodOf_111 t3.1 4095 0 t3.2).bind fun r16 => some r16
    ) (fun r5 => some r5))
theorem w_b_mo_goodOf_10_58 (x1 : Int32) (x2 : Int32) (x3 : Int64) (x5 : Int32) (M : dM) {Q : mz_P} {o : ((Int64 × Int32 × dM) ⊕ ((Int64 × dM) ⊕ (Int32 × dM)))} (hf : b_mo_goodOf_10_58 x1 x2 x3 x5 M = some o) (hk : K_mo_goodOf_10 Q x1 x2 M o) : mW mX12_goodOf 3 Q 58 [some (.ref 66), some (.int x1), some (.int x2), some (.long x3), none, some (.int x5), none, none, none, none] [] M := by
  unfold b_mo_goodOf_10_58 at hf
  refine y_aload_n (i := 0) (n := 59) ⟨dX12_goodOf_58, rfl⟩ rfl ?_
  refine y_getI (n := 62) ⟨dX12_goodOf_59, rfl⟩ kfX12_533 l_66 rfl ?_
  refine y_bipush (n := 64) (v := 10) ⟨dX12_goodOf_62, rfl⟩ kb_10 ?_
  refine y_icmp_ne (t := 69) (n := 67) ⟨dX12_goodOf_64, rfl, rfl⟩ (fun (hc : ¬ ((gI M 66 76) = 10)) => ?_) (fun (hc : (gI M 66 76) = 10) => ?_)
  · replace hf := i_f hc hf
    refine y_aload_n (i := 0) (n := 70) ⟨dX12_goodOf_69, rfl⟩ rfl ?_
    refine y_getR (n := 73) ⟨dX12_goodOf_70, rfl⟩ kfX12_147 l_66 rfl r_66_75 ?_
    refine y_aload_n (i := 0) (n := 74) ⟨dX12_goodOf_73, rfl⟩ rfl ?_
    refine y_getI (n := 77) ⟨dX12_goodOf_74, rfl⟩ kfX12_533 l_66 rfl ?_
    refine y_iload (i := 5) (n := 79) ⟨dX12_goodOf_77, rfl⟩ rfl ?_
    obtain ⟨hg2, hf⟩ := g_s hf
    refine y_iastore (n := 80) ⟨dX12_goodOf_79, rfl⟩ l_112 hg2 ?_
    refine y_aload_n (i := 0) (n := 81) ⟨dX12_goodOf_80, rfl⟩ rfl ?_
    refine y_dup_r (n := 82) ⟨dX12_goodOf_81, rfl⟩ ?_
    refine y_getI (n := 85) ⟨dX12_goodOf_82, rfl⟩ kfX12_533 l_66 rfl ?_
    refine y_iconst (n := 86) (v := 1) ⟨dX12_goodOf_85, rfl⟩ ki_1 ?_
    refine y_iadd (n := 87) ⟨dX12_goodOf_86, rfl⟩ ?_
    refine y_putI (n := 90) ⟨dX12_goodOf_87, rfl⟩ kfX12_533 l_66 (by decide +kernel) rfl ?_
    refine y_lload_n (i := 3) (n := 91) ⟨dX12_goodOf_90, rfl⟩ rfl ?_
    refine y_lconst (n := 92) (v := 1) ⟨dX12_goodOf_91, rfl⟩ kl_1 ?_
    refine y_iload (i := 5) (n := 94) ⟨dX12_goodOf_92, rfl⟩ rfl ?_
    refine y_lshl (n := 95) ⟨dX12_goodOf_94, rfl⟩ ?_
    refine y_lor (n := 96) ⟨dX12_goodOf_95, rfl⟩ ?_
    refine y_lstore_n (i := 3) (n := 97) (L2 := [some (.ref 66), some (.int x1), some (.int x2), some (.long (x3 ||| ((1 : Int64) <<< (x5.toInt64 &&& 63)))), none, some (.int x5), none, none, none, none]) ⟨dX12_goodOf_96, rfl⟩ (by decide) rfl rfl ?_
    refine y_iinc (i := 5) (n := 100) (b := (x5 + 1)) (L2 := [some (.ref 66), some (.int x1), some (.int x2), some (.long (x3 ||| ((1 : Int64) <<< (x5.toInt64 &&& 63)))), none, some (.int (x5 + 1)), none, none, none, none]) ⟨dX12_goodOf_97, rfl⟩ rfl (by rw [ki_1]) (by decide) rfl rfl ?_
    refine y_goto (t := 10) ⟨dX12_goodOf_100, rfl, rfl⟩ ?_
    cases hf
    exact y_wk ⟨Or.inr rfl, Or.inr rfl, Or.inr rfl, Or.inr rfl, Or.inr rfl, Or.inr rfl, Or.inr rfl, Or.inr rfl, Or.inr rfl, Or.inr rfl, trivial⟩ hk
  · replace hf := i_t hc hf
    refine y_iconst (n := 68) (v := (-1)) ⟨dX12_goodOf_67, rfl⟩ ki_m1 ?_
    cases hf
    exact y_ireturn (n := 69) ⟨dX12_goodOf_68, rfl⟩ rfl rfl hk
theorem w_b_mo_goodOf_10_10 (x1 : Int32) (x2 : Int32) (x3 : Int64) (x5 : Int32) (M : dM) {Q : mz_P} {o : ((Int64 × Int32 × dM) ⊕ ((Int64 × dM) ⊕ (Int32 × dM)))} (hf : b_mo_goodOf_10_10 x1 x2 x3 x5 M = some o) (hk : K_mo_goodOf_10 Q x1 x2 M o) : mW mX12_goodOf 3 Q 10 [some (.ref 66), some (.int x1), some (.int x2), some (.long x3), none, some (.int x5), none, none, none, none] [] M := by
  unfold b_mo_goodOf_10_10 at hf
  refine y_iload (i := 5) (n := 12) ⟨dX12_goodOf_10, rfl⟩ rfl ?_
  refine y_aload_n (i := 0) (n := 13) ⟨dX12_goodOf_12, rfl⟩ rfl ?_
  refine y_getI (n := 16) ⟨dX12_goodOf_13, rfl⟩ kfX12_235 l_66 rfl ?_
  refine y_icmp_ge (t := 103) (n := 19) ⟨dX12_goodOf_16, rfl, rfl⟩ (fun (hc : (gI M 66 9) ≤ x5) => ?_) (fun (hc : ¬ ((gI M 66 9) ≤ x5)) => ?_)
  · replace hf := i_t hc hf
    cases hf
    exact y_wk ⟨Or.inr rfl, Or.inl rfl, Or.inl rfl, Or.inr rfl, Or.inr rfl, Or.inl rfl, Or.inr rfl, Or.inr rfl, Or.inr rfl, Or.inr rfl, trivial⟩ hk
  · replace hf := i_f hc hf
    refine y_aload_n (i := 0) (n := 20) ⟨dX12_goodOf_19, rfl⟩ rfl ?_
    refine y_getJ (n := 23) ⟨dX12_goodOf_20, rfl⟩ kfX12_502 l_66 rfl ?_
    refine y_iload (i := 5) (n := 25) ⟨dX12_goodOf_23, rfl⟩ rfl ?_
    refine y_lshr (n := 26) ⟨dX12_goodOf_25, rfl⟩ ?_
    refine y_lconst (n := 27) (v := 1) ⟨dX12_goodOf_26, rfl⟩ kl_1 ?_
    refine y_land (n := 28) ⟨dX12_goodOf_27, rfl⟩ ?_
    refine y_lconst (n := 29) (v := 0) ⟨dX12_goodOf_28, rfl⟩ kl_0 ?_
    refine y_lcmp (n := 30) ⟨dX12_goodOf_29, rfl⟩ ?_
    refine y_if_eq (t := 97) (n := 33) ⟨dX12_goodOf_30, rfl, rfl⟩ (fun h0 => ?_) (fun h0 => ?_)
    · have hc : (((gJ M 66 63) >>> (x5.toInt64 &&& 63)) &&& 1) = 0 := (lc_eq _ _).mp h0
      replace hf := i_t hc hf
      refine y_iinc (i := 5) (n := 100) (b := (x5 + 1)) (L2 := [some (.ref 66), some (.int x1), some (.int x2), some (.long x3), none, some (.int (x5 + 1)), none, none, none, none]) ⟨dX12_goodOf_97, rfl⟩ rfl (by rw [ki_1]) (by decide) rfl rfl ?_
      refine y_goto (t := 10) ⟨dX12_goodOf_100, rfl, rfl⟩ ?_
      cases hf
      exact y_wk ⟨Or.inr rfl, Or.inr rfl, Or.inr rfl, Or.inr rfl, Or.inr rfl, Or.inr rfl, Or.inr rfl, Or.inr rfl, Or.inr rfl, Or.inr rfl, trivial⟩ hk
    · have hc : ¬ ((((gJ M 66 63) >>> (x5.toInt64 &&& 63)) &&& 1) = 0) := fun e => h0 ((lc_eq _ _).mpr e)
      replace hf := i_f hc hf
      refine y_aload_n (i := 0) (n := 34) ⟨dX12_goodOf_33, rfl⟩ rfl ?_
      refine y_getR (n := 37) ⟨dX12_goodOf_34, rfl⟩ kfX12_31 l_66 rfl r_66_10 ?_
      refine y_iload (i := 5) (n := 39) ⟨dX12_goodOf_37, rfl⟩ rfl ?_
      obtain ⟨hg1, hf⟩ := g_s hf
      refine y_iaload (n := 40) ⟨dX12_goodOf_39, rfl⟩ l_74 hg1 ?_
      refine y_iload_n (i := 1) (n := 41) ⟨dX12_goodOf_40, rfl⟩ rfl ?_
      refine y_icmp_eq (t := 58) (n := 44) ⟨dX12_goodOf_41, rfl, rfl⟩ (fun (hc : (gI M 74 x5.toNatClampNeg) = x1) => ?_) (fun (hc : ¬ ((gI M 74 x5.toNatClampNeg) = x1)) => ?_)
      · replace hf := i_t hc hf
        exact y_wk ⟨Or.inr rfl, Or.inr rfl, Or.inr rfl, Or.inr rfl, Or.inr rfl, Or.inr rfl, Or.inr rfl, Or.inr rfl, Or.inr rfl, Or.inr rfl, trivial⟩ (w_b_mo_goodOf_10_58 x1 x2 x3 x5 M hf hk)
      · replace hf := i_f hc hf
        refine y_aload_n (i := 0) (n := 45) ⟨dX12_goodOf_44, rfl⟩ rfl ?_
        refine y_getR (n := 48) ⟨dX12_goodOf_45, rfl⟩ kfX12_31 l_66 rfl r_66_10 ?_
        refine y_iload (i := 5) (n := 50) ⟨dX12_goodOf_48, rfl⟩ rfl ?_
        refine y_iaload (n := 51) ⟨dX12_goodOf_50, rfl⟩ l_74 hg1 ?_
        refine y_iload_n (i := 2) (n := 52) ⟨dX12_goodOf_51, rfl⟩ rfl ?_
        refine y_icmp_eq (t := 58) (n := 55) ⟨dX12_goodOf_52, rfl, rfl⟩ (fun (hc : (gI M 74 x5.toNatClampNeg) = x2) => ?_) (fun (hc : ¬ ((gI M 74 x5.toNatClampNeg) = x2)) => ?_)
        · replace hf := i_t hc hf
          exact y_wk ⟨Or.inr rfl, Or.inr rfl, Or.inr rfl, Or.inr rfl, Or.inr rfl, Or.inr rfl, Or.inr rfl, Or.inr rfl, Or.inr rfl, Or.inr rfl, trivial⟩ (w_b_mo_goodOf_10_58 x1 x2 x3 x5 M hf hk)
        · replace hf := i_f hc hf
          refine y_goto (t := 97) ⟨dX12_goodOf_55, rfl, rfl⟩ ?_
          refine y_iinc (i := 5) (n := 100) (b := (x5 + 1)) (L2 := [some (.ref 66), some (.int x1), some (.int x2), some (.long x3), none, some (.int (x5 + 1)), none, none, none, none]) ⟨dX12_goodOf_97, rfl⟩ rfl (by rw [ki_1]) (by decide) rfl rfl ?_
          refine y_goto (t := 10) ⟨dX12_goodOf_100, rfl, rfl⟩ ?_
          cases hf
          exact y_wk ⟨Or.inr rfl, Or.inr rfl, Or.inr rfl, Or.inr rfl, Or.inr rfl, Or.inr rfl, Or.inr rfl, Or.inr rfl, Or.inr rfl, Or.inr rfl, trivial⟩ hk
theorem wl_mo_goodOf_10 (x1 : Int32) (x2 : Int32) (x3 : Int64) (x5 : Int32) (M : dM) {Q : mz_P} {x : ((Int64 × dM) ⊕ (Int32 × dM))} (hf : l_mo_goodOf_10 x1 x2 x3 x5 M = some x) (hk : K_mo_goodOf_10 Q x1 x2 M (.inr x)) : mW mX12_goodOf 3 Q 10 [some (.ref 66), some (.int x1), some (.int x2), some (.long x3), none, some (.int x5), none, none, none, none] [] M :=
  lpc_wp (Wh := fun s => mW mX12_goodOf 3 Q 10 [some (.ref 66), some (.int x1), some (.int x2), some (.long s.1), none, some (.int s.2.1), none, none, none, none] [] s.2.2) (K := K_mo_goodOf_10 Q x1 x2 M) (fun _ h => h) (fun s o hb hk => w_b_mo_goodOf_10_10 x1 x2 s.1 s.2.1 s.2.2 hb hk) hf hk
theorem w_b_mo_goodOf_128_128 (x3 : Int64) (x5 : Int32) (x6 : Int32) (x7 : Int64) (x9 : Int32) (M : dM) {Q : mz_P} {o : ((Int64 × Int32) ⊕ Int64)} (hf : b_mo_goodOf_128_128 x3 x5 x6 x7 x9 M = some o) (hk : K_mo_goodOf_128 Q x3 x5 x6 M o) : mW mX12_goodOf 3 Q 128 [some (.ref 66), none, none, some (.long x3), none, some (.int x5), some (.int x6), some (.long x7), none, some (.int x9)] [] M := by
  unfold b_mo_goodOf_128_128 at hf
  refine y_iload (i := 9) (n := 130) ⟨dX12_goodOf_128, rfl⟩ rfl ?_
  refine y_aload_n (i := 0) (n := 131) ⟨dX12_goodOf_130, rfl⟩ rfl ?_
  refine y_getI (n := 134) ⟨dX12_goodOf_131, rfl⟩ kfX12_533 l_66 rfl ?_
  refine y_icmp_ge (t := 168) (n := 137) ⟨dX12_goodOf_134, rfl, rfl⟩ (fun (hc : (gI M 66 76) ≤ x9) => ?_) (fun (hc : ¬ ((gI M 66 76) ≤ x9)) => ?_)
  · replace hf := i_t hc hf
    cases hf
    exact y_wk ⟨Or.inr rfl, Or.inr rfl, Or.inr rfl, Or.inr rfl, Or.inr rfl, Or.inr rfl, Or.inr rfl, Or.inr rfl, Or.inr rfl, Or.inl rfl, trivial⟩ hk
  · replace hf := i_f hc hf
    refine y_iload (i := 6) (n := 139) ⟨dX12_goodOf_137, rfl⟩ rfl ?_
    refine y_iload (i := 9) (n := 141) ⟨dX12_goodOf_139, rfl⟩ rfl ?_
    refine y_ishr (n := 142) ⟨dX12_goodOf_141, rfl⟩ ?_
    refine y_iconst (n := 143) (v := 1) ⟨dX12_goodOf_142, rfl⟩ ki_1 ?_
    refine y_iand (n := 144) ⟨dX12_goodOf_143, rfl⟩ ?_
    refine y_iconst (n := 145) (v := 1) ⟨dX12_goodOf_144, rfl⟩ ki_1 ?_
    refine y_icmp_ne (t := 162) (n := 148) ⟨dX12_goodOf_145, rfl, rfl⟩ (fun (hc : ¬ (((x6 >>> (x9 &&& 31)) &&& 1) = 1)) => ?_) (fun (hc : ((x6 >>> (x9 &&& 31)) &&& 1) = 1) => ?_)
    · replace hf := i_f hc hf
      refine y_iinc (i := 9) (n := 165) (b := (x9 + 1)) (L2 := [some (.ref 66), none, none, some (.long x3), none, some (.int x5), some (.int x6), some (.long x7), none, some (.int (x9 + 1))]) ⟨dX12_goodOf_162, rfl⟩ rfl (by rw [ki_1]) (by decide) rfl rfl ?_
      refine y_goto (t := 128) ⟨dX12_goodOf_165, rfl, rfl⟩ ?_
      cases hf
      exact y_wk ⟨Or.inr rfl, Or.inr rfl, Or.inr rfl, Or.inr rfl, Or.inr rfl, Or.inr rfl, Or.inr rfl, Or.inr rfl, Or.inr rfl, Or.inr rfl, trivial⟩ hk
    · replace hf := i_t hc hf
      refine y_lload (i := 7) (n := 150) ⟨dX12_goodOf_148, rfl⟩ rfl ?_
      refine y_lconst (n := 151) (v := 1) ⟨dX12_goodOf_150, rfl⟩ kl_1 ?_
      refine y_aload_n (i := 0) (n := 152) ⟨dX12_goodOf_151, rfl⟩ rfl ?_
      refine y_getR (n := 155) ⟨dX12_goodOf_152, rfl⟩ kfX12_147 l_66 rfl r_66_75 ?_
      refine y_iload (i := 9) (n := 157) ⟨dX12_goodOf_155, rfl⟩ rfl ?_
      obtain ⟨hg8, hf⟩ := g_s hf
      refine y_iaload (n := 158) ⟨dX12_goodOf_157, rfl⟩ l_112 hg8 ?_
      refine y_lshl (n := 159) ⟨dX12_goodOf_158, rfl⟩ ?_
      refine y_lor (n := 160) ⟨dX12_goodOf_159, rfl⟩ ?_
      refine y_lstore (i := 7) (n := 162) (L2 := [some (.ref 66), none, none, some (.long x3), none, some (.int x5), some (.int x6), some (.long (x7 ||| ((1 : Int64) <<< ((gI M 112 x9.toNatClampNeg).toInt64 &&& 63)))), none, some (.int x9)]) ⟨dX12_goodOf_160, rfl⟩ (by decide) rfl rfl ?_
      refine y_iinc (i := 9) (n := 165) (b := (x9 + 1)) (L2 := [some (.ref 66), none, none, some (.long x3), none, some (.int x5), some (.int x6), some (.long (x7 ||| ((1 : Int64) <<< ((gI M 112 x9.toNatClampNeg).toInt64 &&& 63)))), none, some (.int (x9 + 1))]) ⟨dX12_goodOf_162, rfl⟩ rfl (by rw [ki_1]) (by decide) rfl rfl ?_
      refine y_goto (t := 128) ⟨dX12_goodOf_165, rfl, rfl⟩ ?_
      cases hf
      exact y_wk ⟨Or.inr rfl, Or.inr rfl, Or.inr rfl, Or.inr rfl, Or.inr rfl, Or.inr rfl, Or.inr rfl, Or.inr rfl, Or.inr rfl, Or.inr rfl, trivial⟩ hk
theorem wl_mo_goodOf_128 (x3 : Int64) (x5 : Int32) (x6 : Int32) (x7 : Int64) (x9 : Int32) (M : dM) {Q : mz_P} {x : Int64} (hf : l_mo_goodOf_128 x3 x5 x6 x7 x9 M = some x) (hk : K_mo_goodOf_128 Q x3 x5 x6 M (.inr x)) : mW mX12_goodOf 3 Q 128 [some (.ref 66), none, none, some (.long x3), none, some (.int x5), some (.int x6), some (.long x7), none, some (.int x9)] [] M :=
  lpc_wp (Wh := fun s => mW mX12_goodOf 3 Q 128 [some (.ref 66), none, none, some (.long x3), none, some (.int x5), some (.int x6), some (.long s.1), none, some (.int s.2)] [] M) (K := K_mo_goodOf_128 Q x3 x5 x6 M) (fun _ h => h) (fun s o hb hk => w_b_mo_goodOf_128_128 x3 x5 x6 s.1 s.2 M hb hk) hf hk
theorem w_b_mo_goodOf_111_111 (x3 : Int64) (x5 : Int32) (x6 : Int32) (M : dM) {Q : mz_P} {o : ((Int32 × Int32) ⊕ (Int32 × dM))} (hf : b_mo_goodOf_111_111 x3 x5 x6 M = some o) (hk : K_mo_goodOf_111 Q x3 M o) : mW mX12_goodOf 3 Q 111 [some (.ref 66), none, none, some (.long x3), none, some (.int x5), some (.int x6), none, none, none] [] M := by
  unfold b_mo_goodOf_111_111 at hf
  refine y_iload (i := 6) (n := 113) ⟨dX12_goodOf_111, rfl⟩ rfl ?_
  refine y_iconst (n := 114) (v := 1) ⟨dX12_goodOf_113, rfl⟩ ki_1 ?_
  refine y_aload_n (i := 0) (n := 115) ⟨dX12_goodOf_114, rfl⟩ rfl ?_
  refine y_getI (n := 118) ⟨dX12_goodOf_115, rfl⟩ kfX12_533 l_66 rfl ?_
  refine y_ishl (n := 119) ⟨dX12_goodOf_118, rfl⟩ ?_
  refine y_icmp_ge (t := 195) (n := 122) ⟨dX12_goodOf_119, rfl, rfl⟩ (fun (hc : ((1 : Int32) <<< ((gI M 66 76) &&& 31)) ≤ x6) => ?_) (fun (hc : ¬ (((1 : Int32) <<< ((gI M 66 76) &&& 31)) ≤ x6)) => ?_)
  · replace hf := i_t hc hf
    refine y_iload (i := 5) (n := 197) ⟨dX12_goodOf_195, rfl⟩ rfl ?_
    obtain ⟨v6, hv7, hf⟩ := b_s hf
    refine c_mo_bits x5 M (n := 200) ⟨dX12_goodOf_197, rfl⟩ klX12_242 hv7 (by decide) (Nat.le_of_ble_eq_true rfl) rfl rfl ?_
    cases hf
    exact y_ireturn (n := 201) ⟨dX12_goodOf_200, rfl⟩ rfl rfl hk
  · replace hf := i_f hc hf
    refine y_lconst (n := 123) (v := 0) ⟨dX12_goodOf_122, rfl⟩ kl_0 ?_
    refine y_lstore (i := 7) (n := 125) (L2 := [some (.ref 66), none, none, some (.long x3), none, some (.int x5), some (.int x6), some (.long 0), none, none]) ⟨dX12_goodOf_123, rfl⟩ (by decide) rfl rfl ?_
    refine y_iconst (n := 126) (v := 0) ⟨dX12_goodOf_125, rfl⟩ ki_0 ?_
    refine y_istore (i := 9) (n := 128) (L2 := [some (.ref 66), none, none, some (.long x3), none, some (.int x5), some (.int x6), some (.long 0), none, some (.int 0)]) ⟨dX12_goodOf_126, rfl⟩ (by decide) rfl rfl ?_
    obtain ⟨t9, hl10, hf⟩ := b_s hf
    refine y_wk ⟨Or.inr rfl, Or.inr rfl, Or.inr rfl, Or.inr rfl, Or.inr rfl, Or.inr rfl, Or.inr rfl, Or.inr rfl, Or.inr rfl, Or.inr rfl, trivial⟩ (wl_mo_goodOf_128 x3 x5 x6 0 0 M hl10 ?_)
    show mW mX12_goodOf 3 Q 168 [some (.ref 66), none, none, some (.long x3), none, some (.int x5), some (.int x6), some (.long t9), none, none] [] M
    refine y_iload (i := 5) (n := 170) ⟨dX12_goodOf_168, rfl⟩ rfl ?_
    refine y_aload_n (i := 0) (n := 171) ⟨dX12_goodOf_170, rfl⟩ rfl ?_
    refine y_aload_n (i := 0) (n := 172) ⟨dX12_goodOf_171, rfl⟩ rfl ?_
    refine y_getJ (n := 175) ⟨dX12_goodOf_172, rfl⟩ kfX12_502 l_66 rfl ?_
    refine y_lload_n (i := 3) (n := 176) ⟨dX12_goodOf_175, rfl⟩ rfl ?_
    refine y_ldc2 (n := 179) ⟨dX12_goodOf_176, rfl⟩ kcX12_460 ?_
    refine y_lxor (n := 180) ⟨dX12_goodOf_179, rfl⟩ ?_
    refine y_land (n := 181) ⟨dX12_goodOf_180, rfl⟩ ?_
    refine y_lload (i := 7) (n := 183) ⟨dX12_goodOf_181, rfl⟩ rfl ?_
    obtain ⟨v12, hv13, hf⟩ := b_s hf
    refine c_mo_settledBy ((gJ M 66 63) &&& (x3 ^^^ (-1))) t9 M (n := 186) ⟨dX12_goodOf_183, rfl⟩ klX12_529 hv13 (by decide) (Nat.le_of_ble_eq_true rfl) rfl rfl ?_
    refine y_iand (n := 187) ⟨dX12_goodOf_186, rfl⟩ ?_
    refine y_istore (i := 5) (n := 189) (L2 := [some (.ref 66), none, none, some (.long x3), none, some (.int (x5 &&& v12)), some (.int x6), some (.long t9), none, none]) ⟨dX12_goodOf_187, rfl⟩ (by decide) rfl rfl ?_
    refine y_iinc (i := 6) (n := 192) (b := (x6 + 1)) (L2 := [some (.ref 66), none, none, some (.long x3), none, some (.int (x5 &&& v12)), some (.int (x6 + 1)), some (.long t9), none, none]) ⟨dX12_goodOf_189, rfl⟩ rfl (by rw [ki_1]) (by decide) rfl rfl ?_
    refine y_goto (t := 111) ⟨dX12_goodOf_192, rfl, rfl⟩ ?_
    cases hf
    exact y_wk ⟨Or.inr rfl, Or.inr rfl, Or.inr rfl, Or.inr rfl, Or.inr rfl, Or.inr rfl, Or.inr rfl, Or.inl rfl, Or.inr rfl, Or.inr rfl, trivial⟩ hk
theorem wl_mo_goodOf_111 (x3 : Int64) (x5 : Int32) (x6 : Int32) (M : dM) {Q : mz_P} {x : (Int32 × dM)} (hf : l_mo_goodOf_111 x3 x5 x6 M = some x) (hk : K_mo_goodOf_111 Q x3 M (.inr x)) : mW mX12_goodOf 3 Q 111 [some (.ref 66), none, none, some (.long x3), none, some (.int x5), some (.int x6), none, none, none] [] M :=
  lpc_wp (Wh := fun s => mW mX12_goodOf 3 Q 111 [some (.ref 66), none, none, some (.long x3), none, some (.int s.1), some (.int s.2), none, none, none] [] M) (K := K_mo_goodOf_111 Q x3 M) (fun _ h => h) (fun s o hb hk => w_b_mo_goodOf_111_111 x3 s.1 s.2 M hb hk) hf hk
theorem ok_mo_goodOf (a1 : Int32) (a2 : Int32) (M : dM) {o : (Int32 × dM)} (hf : f_mo_goodOf a1 a2 M = some o) : mO mX12_goodOf 3 [.ref 66, .int a1, .int a2] M (some (.int o.1)) o.2 := by
  refine y_ok (by decide +kernel) (by decide) (L0 := [some (.ref 66), some (.int a1), some (.int a2), none, none, none, none, none, none, none]) rfl ?_
  have hk := mR_mQ (some (.int o.1)) o.2
  generalize mQ _ _ = Q at hk ⊢
  unfold f_mo_goodOf at hf
  refine y_aload_n (i := 0) (n := 1) ⟨dX12_goodOf_0, rfl⟩ rfl ?_
  refine y_iconst (n := 2) (v := 0) ⟨dX12_goodOf_1, rfl⟩ ki_0 ?_
  refine y_putI (n := 5) ⟨dX12_goodOf_2, rfl⟩ kfX12_533 l_66 (by decide +kernel) rfl ?_
  refine y_lconst (n := 6) (v := 0) ⟨dX12_goodOf_5, rfl⟩ kl_0 ?_
  refine y_lstore_n (i := 3) (n := 7) (L2 := [some (.ref 66), some (.int a1), some (.int a2), some (.long 0), none, none, none, none, none, none]) ⟨dX12_goodOf_6, rfl⟩ (by decide) rfl rfl ?_
  refine y_iconst (n := 8) (v := 0) ⟨dX12_goodOf_7, rfl⟩ ki_0 ?_
  refine y_istore (i := 5) (n := 10) (L2 := [some (.ref 66), some (.int a1), some (.int a2), some (.long 0), none, some (.int 0), none, none, none, none]) ⟨dX12_goodOf_8, rfl⟩ (by decide) rfl rfl ?_
  obtain ⟨z17, hl4, hf⟩ := b_s hf
  refine y_wk ⟨Or.inr rfl, Or.inr rfl, Or.inr rfl, Or.inr rfl, Or.inr rfl, Or.inr rfl, Or.inr rfl, Or.inr rfl, Or.inr rfl, Or.inr rfl, trivial⟩ (wl_mo_goodOf_10 a1 a2 0 0 (sI M 66 76 0) hl4 ?_)
  rcases z17 with t3 | r5
  · show mW mX12_goodOf 3 Q 103 [some (.ref 66), none, none, some (.long t3.1), none, none, none, none, none, none] [] t3.2
    refine y_sipush (n := 106) (v := 4095) ⟨dX12_goodOf_103, rfl⟩ ks_4095 ?_
    refine y_istore (i := 5) (n := 108) (L2 := [some (.ref 66), some (.int a1), some (.int a2), some (.long t3.1), none, some (.int 4095), none, none, none, none]) ⟨dX12_goodOf_106, rfl⟩ (by decide) rfl rfl ?_
    refine y_iconst (n := 109) (v := 0) ⟨dX12_goodOf_108, rfl⟩ ki_0 ?_
    refine y_istore (i := 6) (n := 111) (L2 := [some (.ref 66), some (.int a1), some (.int a2), some (.long t3.1), none, some (.int 4095), some (.int 0), none, none, none]) ⟨dX12_goodOf_109, rfl⟩ (by decide) rfl rfl ?_
    obtain ⟨r16, hl15, hf⟩ := b_s hf
    cases hf
    exact y_wk ⟨Or.inr rfl, Or.inl rfl, Or.inl rfl, Or.inr rfl, Or.inr rfl, Or.inr rfl, Or.inr rfl, Or.inr rfl, Or.inr rfl, Or.inr rfl, trivial⟩ (wl_mo_goodOf_111 t3.1 4095 0 t3.2 hl15 hk)
  · cases hf
    exact hk
theorem c_mo_goodOf (a1 : Int32) (a2 : Int32) (M : dM) {o : (Int32 × dM)} {y : mz_M} {d : Nat} {Q : mz_P} {pc n i : Nat} {L : List (Option Value)} {st : List Value} (h : mz_d y.2.1 pc n 3 (.invokevirtual i)) (hl : mz_ml y.1.cls i yX12_goodOf) (hf : f_mo_goodOf a1 a2 M = some o) (hd : 3 + 1 ≤ d) (hsm : (st.map (fun v => v.category)).sum ≤ 8) (hLr : mz_rL 133 L = true) (hSr : mz_rS 133 st = true) (kk : mW y d Q n L (.int o.1 :: st) o.2) : mW y d Q pc L (.int a2 :: .int a1 :: .ref 66 :: st) M :=
  y_callV kmX12_goodOf kvX12_goodOf l_66 (by decide +kernel) (by decide +kernel) h hl (ok_mo_goodOf a1 a2 M hf) (vs := [.int a1, .int a2]) rfl rfl hd hsm hLr hSr kk
noncomputable def t_mo_again_47 (y1 : Int32) (y2 : Int32) (M : dM) : Option (Int32 × dM) :=
  (f_mo_goodOf y1 y2 M).bind fun q3 =>
  some (q3.1, q3.2)
noncomputable def t_mo_again_24 (x1 : Int32) (x2 : Int32) (M : dM) : Option (Int32 × dM) :=
  if x1 = x2 then
    some ((-1), M)
  else
    (f_mo_knows M).bind fun q1 =>
    if x2 = (-1) then
      t_mo_again_47 x1 x1 q1
    else
      t_mo_again_47 x1 x2 q1
noncomputable def f_mo_again (a1 : Int32) (a2 : Int32) (M : dM) : Option (Int32 × dM) :=
  if (f_mo_isSite a1) = true then
    if a2 = (-1) then
      t_mo_again_24 a1 a2 (sI M 66 0 0)
    else
      if (f_mo_isSite a2) = true then
        t_mo_again_24 a1 a2 (sI M 66 0 0)
      else
        some ((-1), (sI M 66 0 0))
  else
    some ((-1), (sI M 66 0 0))
theorem w_t_mo_again_47 (y1 : Int32) (y2 : Int32) (M : dM) {Q : mz_P} {o : (Int32 × dM)} (hf : t_mo_again_47 y1 y2 M = some o) (hk : mR Q (some (.int o.1)) o.2) : mW mX12_again 7 Q 47 [none, none, none] [.ref 66, .int y1, .int y2] M := by
  unfold t_mo_again_47 at hf
  obtain ⟨q3, hv4, hf⟩ := b_s hf
  refine c_mo_goodOf y1 y2 M (n := 50) ⟨dX12_again_47, rfl⟩ klX12_536 hv4 (by decide) (Nat.le_of_ble_eq_true rfl) rfl rfl ?_
  cases hf
  exact y_ireturn (n := 51) ⟨dX12_again_50, rfl⟩ rfl rfl hk
theorem w_t_mo_again_24 (x1 : Int32) (x2 : Int32) (M : dM) {Q : mz_P} {o : (Int32 × dM)} (hf : t_mo_again_24 x1 x2 M = some o) (hk : mR Q (some (.int o.1)) o.2) : mW mX12_again 7 Q 24 [some (.ref 66), some (.int x1), some (.int x2)] [] M := by
  unfold t_mo_again_24 at hf
  refine y_iload_n (i := 1) (n := 25) ⟨dX12_again_24, rfl⟩ rfl ?_
  refine y_iload_n (i := 2) (n := 26) ⟨dX12_again_25, rfl⟩ rfl ?_
  refine y_icmp_ne (t := 31) (n := 29) ⟨dX12_again_26, rfl, rfl⟩ (fun (hc : ¬ (x1 = x2)) => ?_) (fun (hc : x1 = x2) => ?_)
  · replace hf := i_f hc hf
    refine y_aload_n (i := 0) (n := 32) ⟨dX12_again_31, rfl⟩ rfl ?_
    obtain ⟨q1, hv2, hf⟩ := b_s hf
    refine c_mo_knows M (n := 35) ⟨dX12_again_32, rfl⟩ klX12_505 hv2 (by decide) (Nat.le_of_ble_eq_true rfl) rfl rfl ?_
    refine y_aload_n (i := 0) (n := 36) ⟨dX12_again_35, rfl⟩ rfl ?_
    refine y_iload_n (i := 1) (n := 37) ⟨dX12_again_36, rfl⟩ rfl ?_
    refine y_iload_n (i := 2) (n := 38) ⟨dX12_again_37, rfl⟩ rfl ?_
    refine y_iconst (n := 39) (v := (-1)) ⟨dX12_again_38, rfl⟩ ki_m1 ?_
    refine y_icmp_ne (t := 46) (n := 42) ⟨dX12_again_39, rfl, rfl⟩ (fun (hc : ¬ (x2 = (-1))) => ?_) (fun (hc : x2 = (-1)) => ?_)
    · replace hf := i_f hc hf
      refine y_iload_n (i := 2) (n := 47) ⟨dX12_again_46, rfl⟩ rfl ?_
      exact y_wk ⟨Or.inl rfl, Or.inl rfl, Or.inl rfl, trivial⟩ (w_t_mo_again_47 x1 x2 q1 hf hk)
    · replace hf := i_t hc hf
      refine y_iload_n (i := 1) (n := 43) ⟨dX12_again_42, rfl⟩ rfl ?_
      refine y_goto (t := 47) ⟨dX12_again_43, rfl, rfl⟩ ?_
      exact y_wk ⟨Or.inl rfl, Or.inl rfl, Or.inl rfl, trivial⟩ (w_t_mo_again_47 x1 x1 q1 hf hk)
  · replace hf := i_t hc hf
    refine y_iconst (n := 30) (v := (-1)) ⟨dX12_again_29, rfl⟩ ki_m1 ?_
    cases hf
    exact y_ireturn (n := 31) ⟨dX12_again_30, rfl⟩ rfl rfl hk
theorem ok_mo_again (a1 : Int32) (a2 : Int32) (M : dM) {o : (Int32 × dM)} (hf : f_mo_again a1 a2 M = some o) : mO mX12_again 7 [.ref 66, .int a1, .int a2] M (some (.int o.1)) o.2 := by
  refine y_ok (by decide +kernel) (by decide) (L0 := [some (.ref 66), some (.int a1), some (.int a2)]) rfl ?_
  have hk := mR_mQ (some (.int o.1)) o.2
  generalize mQ _ _ = Q at hk ⊢
  unfold f_mo_again at hf
  refine y_aload_n (i := 0) (n := 1) ⟨dX12_again_0, rfl⟩ rfl ?_
  refine y_iconst (n := 2) (v := 0) ⟨dX12_again_1, rfl⟩ ki_0 ?_
  refine y_putI (n := 5) ⟨dX12_again_2, rfl⟩ kfX12_214 l_66 (by decide +kernel) rfl ?_
  refine y_iload_n (i := 1) (n := 6) ⟨dX12_again_5, rfl⟩ rfl ?_
  refine c_mo_isSite a1 (sI M 66 0 0) (n := 9) ⟨dX12_again_6, rfl⟩ klX12_217 rfl (by decide) (Nat.le_of_ble_eq_true rfl) rfl rfl ?_
  refine y_if_eq (t := 29) (n := 12) ⟨dX12_again_9, rfl, rfl⟩ (fun h0 => ?_) (fun h0 => ?_)
  · have hc := bI_0 h0
    replace hf := i_f hc hf
    refine y_iconst (n := 30) (v := (-1)) ⟨dX12_again_29, rfl⟩ ki_m1 ?_
    cases hf
    exact y_ireturn (n := 31) ⟨dX12_again_30, rfl⟩ rfl rfl hk
  · have hc := bI_1 h0
    replace hf := i_t hc hf
    refine y_iload_n (i := 2) (n := 13) ⟨dX12_again_12, rfl⟩ rfl ?_
    refine y_iconst (n := 14) (v := (-1)) ⟨dX12_again_13, rfl⟩ ki_m1 ?_
    refine y_icmp_eq (t := 24) (n := 17) ⟨dX12_again_14, rfl, rfl⟩ (fun (hc : a2 = (-1)) => ?_) (fun (hc : ¬ (a2 = (-1))) => ?_)
    · replace hf := i_t hc hf
      exact y_wk ⟨Or.inr rfl, Or.inr rfl, Or.inr rfl, trivial⟩ (w_t_mo_again_24 a1 a2 (sI M 66 0 0) hf hk)
    · replace hf := i_f hc hf
      refine y_iload_n (i := 2) (n := 18) ⟨dX12_again_17, rfl⟩ rfl ?_
      refine c_mo_isSite a2 (sI M 66 0 0) (n := 21) ⟨dX12_again_18, rfl⟩ klX12_217 rfl (by decide) (Nat.le_of_ble_eq_true rfl) rfl rfl ?_
      refine y_if_eq (t := 29) (n := 24) ⟨dX12_again_21, rfl, rfl⟩ (fun h0 => ?_) (fun h0 => ?_)
      · have hc := bI_0 h0
        replace hf := i_f hc hf
        refine y_iconst (n := 30) (v := (-1)) ⟨dX12_again_29, rfl⟩ ki_m1 ?_
        cases hf
        exact y_ireturn (n := 31) ⟨dX12_again_30, rfl⟩ rfl rfl hk
      · have hc := bI_1 h0
        replace hf := i_t hc hf
        exact y_wk ⟨Or.inr rfl, Or.inr rfl, Or.inr rfl, trivial⟩ (w_t_mo_again_24 a1 a2 (sI M 66 0 0) hf hk)
theorem c_mo_again (a1 : Int32) (a2 : Int32) (M : dM) {o : (Int32 × dM)} {y : mz_M} {d : Nat} {Q : mz_P} {pc n i : Nat} {L : List (Option Value)} {st : List Value} (h : mz_d y.2.1 pc n 3 (.invokevirtual i)) (hl : mz_ml y.1.cls i yX12_again) (hf : f_mo_again a1 a2 M = some o) (hd : 7 + 1 ≤ d) (hsm : (st.map (fun v => v.category)).sum ≤ 8) (hLr : mz_rL 133 L = true) (hSr : mz_rS 133 st = true) (kk : mW y d Q n L (.int o.1 :: st) o.2) : mW y d Q pc L (.int a2 :: .int a1 :: .ref 66 :: st) M :=
  y_callV kmX12_again kvX12_again l_66 (by decide +kernel) (by decide +kernel) h hl (ok_mo_again a1 a2 M hf) (vs := [.int a1, .int a2]) rfl rfl hd hsm hLr hSr kk
def K_mo_where_40 (Q : mz_P) (x1 : Int32) (x2 : Int32) (M : dM) : ((Int32 × Int32 × Int32 × Int32 × dM) ⊕ (Int32 × Int32 × Int32 × dM)) → Prop
  | .inl s => mW mX12_where 7 Q 40 [some (.ref 66), some (.int x1), some (.int x2), some (.int s.1), some (.int s.2.1), some (.int s.2.2.1), some (.int s.2.2.2.1), none, none] [] s.2.2.2.2
  | .inr t => mW mX12_where 7 Q 128 [none, none, some (.int x2), some (.int t.1), some (.int t.2.1), some (.int t.2.2.1), none, none, none] [] t.2.2.2
def K_mo_where_51 (Q : mz_P) (x1 : Int32) (x2 : Int32) (x6 : Int32) (M : dM) : ((Int32 × Int32 × Int32 × Int32 × dM) ⊕ (Int32 × Int32 × Int32 × dM)) → Prop
  | .inl s => mW mX12_where 7 Q 51 [some (.ref 66), some (.int x1), some (.int x2), some (.int s.1), some (.int s.2.1), some (.int s.2.2.1), some (.int x6), some (.int s.2.2.2.1), none] [] s.2.2.2.2
  | .inr t => mW mX12_where 7 Q 122 [some (.ref 66), some (.int x1), some (.int x2), some (.int t.1), some (.int t.2.1), some (.int t.2.2.1), some (.int x6), none, none] [] t.2.2.2
noncomputable def b_mo_where_51_80 (x1 : Int32) (x2 : Int32) (x3 : Int32) (x4 : Int32) (x5 : Int32) (x6 : Int32) (x7 : Int32) (y0 : Int32) (y1 : Int32) (M : dM) : Option ((Int32 × Int32 × Int32 × Int32 × dM) ⊕ (Int32 × Int32 × Int32 × dM)) :=
  if y0 = y1 then
    (f_mo_goodOf x6 x7 M).bind fun q3 =>
    if x3 < q3.1 then
      some (.inl (q3.1, x6, x7, (x7 + 1), q3.2))
    else
      some (.inl (x3, x4, x5, (x7 + 1), q3.2))
  else
    some (.inl (x3, x4, x5, (x7 + 1), M))
noncomputable def b_mo_where_51_70 (x1 : Int32) (x2 : Int32) (x3 : Int32) (x4 : Int32) (x5 : Int32) (x6 : Int32) (x7 : Int32) (y0 : Int32) (M : dM) : Option ((Int32 × Int32 × Int32 × Int32 × dM) ⊕ (Int32 × Int32 × Int32 × dM)) :=
  if x1 = 1 then
    b_mo_where_51_80 x1 x2 x3 x4 x5 x6 x7 y0 1 M
  else
    b_mo_where_51_80 x1 x2 x3 x4 x5 x6 x7 y0 0 M
noncomputable def b_mo_where_51_51 (x1 : Int32) (x2 : Int32) (x3 : Int32) (x4 : Int32) (x5 : Int32) (x6 : Int32) (x7 : Int32) (M : dM) : Option ((Int32 × Int32 × Int32 × Int32 × dM) ⊕ (Int32 × Int32 × Int32 × dM)) :=
  if 8 ≤ x7 then
    some (.inr (x3, x4, x5, M))
  else
    if x6 = x7 then
      b_mo_where_51_70 x1 x2 x3 x4 x5 x6 x7 1 M
    else
      b_mo_where_51_70 x1 x2 x3 x4 x5 x6 x7 0 M
noncomputable def l_mo_where_51 (x1 : Int32) (x2 : Int32) (x3 : Int32) (x4 : Int32) (x5 : Int32) (x6 : Int32) (x7 : Int32) (M : dM) : Option (Int32 × Int32 × Int32 × dM) := lpc (fun s => b_mo_where_51_51 x1 x2 s.1 s.2.1 s.2.2.1 x6 s.2.2.2.1 s.2.2.2.2) (x3, x4, x5, x7, M)
noncomputable def b_mo_where_40_40 (x1 : Int32) (x2 : Int32) (x3 : Int32) (x4 : Int32) (x5 : Int32) (x6 : Int32) (M : dM) : Option ((Int32 × Int32 × Int32 × Int32 × dM) ⊕ (Int32 × Int32 × Int32 × dM)) :=
  if 8 ≤ x6 then
    some (.inr (x3, x4, x5, M))
  else
    (l_mo_where_51 x1 x2 x3 x4 x5 x6 x6 M).bind fun t5 =>
      some (.inl (t5.1, t5.2.1, t5.2.2.1, (x6 + 1), t5.2.2.2))
noncomputable def l_mo_where_40 (x1 : Int32) (x2 : Int32) (x3 : Int32) (x4 : Int32) (x5 : Int32) (x6 : Int32) (M : dM) : Option (Int32 × Int32 × Int32 × dM) := lpc (fun s => b_mo_where_40_40 x1 x2 s.1 s.2.1 s.2.2.1 s.2.2.2.1 s.2.2.2.2) (x3, x4, x5, x6, M)
noncomputable def f_mo_where (a1 : Int32) (a2 : Int32) (M : dM) : Option (Int32 × dM) :=
  if (f_mo_within a1 1 2) = true then
    if (f_mo_within a2 0 a1) = true then
      (f_mo_knows (sI M 66 0 0)).bind fun q1 =>
      (l_mo_where_40 a1 a2 (-1) (-1) (-1) 0 q1).bind fun t8 =>
        if a2 = 0 then
          some (t8.1, t8.2.2.2)
        else
          if a2 = 1 then
            some (t8.2.1, t8.2.2.2)
          else
            some (t8.2.2.1, t8.2.2.2)
    else
      some ((-1), (sI M 66 0 0))
  else
    some ((-1), (sI M 66 0 0))
theorem w_b_mo_where_51_80 (x1 : Int32) (x2 : Int32) (x3 : Int32) (x4 : Int32) (x5 : Int32) (x6 : Int32) (x7 : Int32) (y0 : Int32) (y1 : Int32) (M : dM) {Q : mz_P} {o : ((Int32 × Int32 × Int32 × Int32 × dM) ⊕ (Int32 × Int32 × Int32 × dM))} (hf : b_mo_where_51_80 x1 x2 x3 x4 x5 x6 x7 y0 y1 M = some o) (hk : K_mo_where_51 Q x1 x2 x6 M o) : mW mX12_where 7 Q 80 [some (.ref 66), some (.int x1), some (.int x2), some (.int x3), some (.int x4), some (.int x5), some (.int x6), some (.int x7), none] [.int y0, .int y1] M := by
  unfold b_mo_where_51_80 at hf
  refine y_icmp_eq (t := 86) (n := 83) ⟨dX12_where_80, rfl, rfl⟩ (fun (hc : y0 = y1) => ?_) (fun (hc : ¬ (y0 = y1)) => ?_)
  · replace hf := i_t hc hf
    refine y_aload_n (i := 0) (n := 87) ⟨dX12_where_86, rfl⟩ rfl ?_
    refine y_iload (i := 6) (n := 89) ⟨dX12_where_87, rfl⟩ rfl ?_
    refine y_iload (i := 7) (n := 91) ⟨dX12_where_89, rfl⟩ rfl ?_
    obtain ⟨q3, hv4, hf⟩ := b_s hf
    refine c_mo_goodOf x6 x7 M (n := 94) ⟨dX12_where_91, rfl⟩ klX12_536 hv4 (by decide) (Nat.le_of_ble_eq_true rfl) rfl rfl ?_
    refine y_istore (i := 8) (n := 96) (L2 := [some (.ref 66), some (.int x1), some (.int x2), some (.int x3), some (.int x4), some (.int x5), some (.int x6), some (.int x7), some (.int q3.1)]) ⟨dX12_where_94, rfl⟩ (by decide) rfl rfl ?_
    refine y_iload (i := 8) (n := 98) ⟨dX12_where_96, rfl⟩ rfl ?_
    refine y_iload_n (i := 3) (n := 99) ⟨dX12_where_98, rfl⟩ rfl ?_
    refine y_icmp_gt (t := 105) (n := 102) ⟨dX12_where_99, rfl, rfl⟩ (fun (hc : x3 < q3.1) => ?_) (fun (hc : ¬ (x3 < q3.1)) => ?_)
    · replace hf := i_t hc hf
      refine y_iload (i := 8) (n := 107) ⟨dX12_where_105, rfl⟩ rfl ?_
      refine y_istore_n (i := 3) (n := 108) (L2 := [some (.ref 66), some (.int x1), some (.int x2), some (.int q3.1), some (.int x4), some (.int x5), some (.int x6), some (.int x7), some (.int q3.1)]) ⟨dX12_where_107, rfl⟩ (by decide) rfl rfl ?_
      refine y_iload (i := 6) (n := 110) ⟨dX12_where_108, rfl⟩ rfl ?_
      refine y_istore (i := 4) (n := 112) (L2 := [some (.ref 66), some (.int x1), some (.int x2), some (.int q3.1), some (.int x6), some (.int x5), some (.int x6), some (.int x7), some (.int q3.1)]) ⟨dX12_where_110, rfl⟩ (by decide) rfl rfl ?_
      refine y_iload (i := 7) (n := 114) ⟨dX12_where_112, rfl⟩ rfl ?_
      refine y_istore (i := 5) (n := 116) (L2 := [some (.ref 66), some (.int x1), some (.int x2), some (.int q3.1), some (.int x6), some (.int x7), some (.int x6), some (.int x7), some (.int q3.1)]) ⟨dX12_where_114, rfl⟩ (by decide) rfl rfl ?_
      refine y_iinc (i := 7) (n := 119) (b := (x7 + 1)) (L2 := [some (.ref 66), some (.int x1), some (.int x2), some (.int q3.1), some (.int x6), some (.int x7), some (.int x6), some (.int (x7 + 1)), some (.int q3.1)]) ⟨dX12_where_116, rfl⟩ rfl (by rw [ki_1]) (by decide) rfl rfl ?_
      refine y_goto (t := 51) ⟨dX12_where_119, rfl, rfl⟩ ?_
      cases hf
      exact y_wk ⟨Or.inr rfl, Or.inr rfl, Or.inr rfl, Or.inr rfl, Or.inr rfl, Or.inr rfl, Or.inr rfl, Or.inr rfl, Or.inl rfl, trivial⟩ hk
    · replace hf := i_f hc hf
      refine y_goto (t := 116) ⟨dX12_where_102, rfl, rfl⟩ ?_
      refine y_iinc (i := 7) (n := 119) (b := (x7 + 1)) (L2 := [some (.ref 66), some (.int x1), some (.int x2), some (.int x3), some (.int x4), some (.int x5), some (.int x6), some (.int (x7 + 1)), some (.int q3.1)]) ⟨dX12_where_116, rfl⟩ rfl (by rw [ki_1]) (by decide) rfl rfl ?_
      refine y_goto (t := 51) ⟨dX12_where_119, rfl, rfl⟩ ?_
      cases hf
      exact y_wk ⟨Or.inr rfl, Or.inr rfl, Or.inr rfl, Or.inr rfl, Or.inr rfl, Or.inr rfl, Or.inr rfl, Or.inr rfl, Or.inl rfl, trivial⟩ hk
  · replace hf := i_f hc hf
    refine y_goto (t := 116) ⟨dX12_where_83, rfl, rfl⟩ ?_
    refine y_iinc (i := 7) (n := 119) (b := (x7 + 1)) (L2 := [some (.ref 66), some (.int x1), some (.int x2), some (.int x3), some (.int x4), some (.int x5), some (.int x6), some (.int (x7 + 1)), none]) ⟨dX12_where_116, rfl⟩ rfl (by rw [ki_1]) (by decide) rfl rfl ?_
    refine y_goto (t := 51) ⟨dX12_where_119, rfl, rfl⟩ ?_
    cases hf
    exact y_wk ⟨Or.inr rfl, Or.inr rfl, Or.inr rfl, Or.inr rfl, Or.inr rfl, Or.inr rfl, Or.inr rfl, Or.inr rfl, Or.inr rfl, trivial⟩ hk
theorem w_b_mo_where_51_70 (x1 : Int32) (x2 : Int32) (x3 : Int32) (x4 : Int32) (x5 : Int32) (x6 : Int32) (x7 : Int32) (y0 : Int32) (M : dM) {Q : mz_P} {o : ((Int32 × Int32 × Int32 × Int32 × dM) ⊕ (Int32 × Int32 × Int32 × dM))} (hf : b_mo_where_51_70 x1 x2 x3 x4 x5 x6 x7 y0 M = some o) (hk : K_mo_where_51 Q x1 x2 x6 M o) : mW mX12_where 7 Q 70 [some (.ref 66), some (.int x1), some (.int x2), some (.int x3), some (.int x4), some (.int x5), some (.int x6), some (.int x7), none] [.int y0] M := by
  unfold b_mo_where_51_70 at hf
  refine y_iload_n (i := 1) (n := 71) ⟨dX12_where_70, rfl⟩ rfl ?_
  refine y_iconst (n := 72) (v := 1) ⟨dX12_where_71, rfl⟩ ki_1 ?_
  refine y_icmp_ne (t := 79) (n := 75) ⟨dX12_where_72, rfl, rfl⟩ (fun (hc : ¬ (x1 = 1)) => ?_) (fun (hc : x1 = 1) => ?_)
  · replace hf := i_f hc hf
    refine y_iconst (n := 80) (v := 0) ⟨dX12_where_79, rfl⟩ ki_0 ?_
    exact y_wk ⟨Or.inr rfl, Or.inr rfl, Or.inr rfl, Or.inr rfl, Or.inr rfl, Or.inr rfl, Or.inr rfl, Or.inr rfl, Or.inr rfl, trivial⟩ (w_b_mo_where_51_80 x1 x2 x3 x4 x5 x6 x7 y0 0 M hf hk)
  · replace hf := i_t hc hf
    refine y_iconst (n := 76) (v := 1) ⟨dX12_where_75, rfl⟩ ki_1 ?_
    refine y_goto (t := 80) ⟨dX12_where_76, rfl, rfl⟩ ?_
    exact y_wk ⟨Or.inr rfl, Or.inr rfl, Or.inr rfl, Or.inr rfl, Or.inr rfl, Or.inr rfl, Or.inr rfl, Or.inr rfl, Or.inr rfl, trivial⟩ (w_b_mo_where_51_80 x1 x2 x3 x4 x5 x6 x7 y0 1 M hf hk)
theorem w_b_mo_where_51_51 (x1 : Int32) (x2 : Int32) (x3 : Int32) (x4 : Int32) (x5 : Int32) (x6 : Int32) (x7 : Int32) (M : dM) {Q : mz_P} {o : ((Int32 × Int32 × Int32 × Int32 × dM) ⊕ (Int32 × Int32 × Int32 × dM))} (hf : b_mo_where_51_51 x1 x2 x3 x4 x5 x6 x7 M = some o) (hk : K_mo_where_51 Q x1 x2 x6 M o) : mW mX12_where 7 Q 51 [some (.ref 66), some (.int x1), some (.int x2), some (.int x3), some (.int x4), some (.int x5), some (.int x6), some (.int x7), none] [] M := by
  unfold b_mo_where_51_51 at hf
  refine y_iload (i := 7) (n := 53) ⟨dX12_where_51, rfl⟩ rfl ?_
  refine y_bipush (n := 55) (v := 8) ⟨dX12_where_53, rfl⟩ kb_8 ?_
  refine y_icmp_ge (t := 122) (n := 58) ⟨dX12_where_55, rfl, rfl⟩ (fun (hc : 8 ≤ x7) => ?_) (fun (hc : ¬ (8 ≤ x7)) => ?_)
  · replace hf := i_t hc hf
    cases hf
    exact y_wk ⟨Or.inr rfl, Or.inr rfl, Or.inr rfl, Or.inr rfl, Or.inr rfl, Or.inr rfl, Or.inr rfl, Or.inl rfl, Or.inr rfl, trivial⟩ hk
  · replace hf := i_f hc hf
    refine y_iload (i := 6) (n := 60) ⟨dX12_where_58, rfl⟩ rfl ?_
    refine y_iload (i := 7) (n := 62) ⟨dX12_where_60, rfl⟩ rfl ?_
    refine y_icmp_ne (t := 69) (n := 65) ⟨dX12_where_62, rfl, rfl⟩ (fun (hc : ¬ (x6 = x7)) => ?_) (fun (hc : x6 = x7) => ?_)
    · replace hf := i_f hc hf
      refine y_iconst (n := 70) (v := 0) ⟨dX12_where_69, rfl⟩ ki_0 ?_
      exact y_wk ⟨Or.inr rfl, Or.inr rfl, Or.inr rfl, Or.inr rfl, Or.inr rfl, Or.inr rfl, Or.inr rfl, Or.inr rfl, Or.inr rfl, trivial⟩ (w_b_mo_where_51_70 x1 x2 x3 x4 x5 x6 x7 0 M hf hk)
    · replace hf := i_t hc hf
      refine y_iconst (n := 66) (v := 1) ⟨dX12_where_65, rfl⟩ ki_1 ?_
      refine y_goto (t := 70) ⟨dX12_where_66, rfl, rfl⟩ ?_
      exact y_wk ⟨Or.inr rfl, Or.inr rfl, Or.inr rfl, Or.inr rfl, Or.inr rfl, Or.inr rfl, Or.inr rfl, Or.inr rfl, Or.inr rfl, trivial⟩ (w_b_mo_where_51_70 x1 x2 x3 x4 x5 x6 x7 1 M hf hk)
theorem wl_mo_where_51 (x1 : Int32) (x2 : Int32) (x3 : Int32) (x4 : Int32) (x5 : Int32) (x6 : Int32) (x7 : Int32) (M : dM) {Q : mz_P} {x : (Int32 × Int32 × Int32 × dM)} (hf : l_mo_where_51 x1 x2 x3 x4 x5 x6 x7 M = some x) (hk : K_mo_where_51 Q x1 x2 x6 M (.inr x)) : mW mX12_where 7 Q 51 [some (.ref 66), some (.int x1), some (.int x2), some (.int x3), some (.int x4), some (.int x5), some (.int x6), some (.int x7), none] [] M :=
  lpc_wp (Wh := fun s => mW mX12_where 7 Q 51 [some (.ref 66), some (.int x1), some (.int x2), some (.int s.1), some (.int s.2.1), some (.int s.2.2.1), some (.int x6), some (.int s.2.2.2.1), none] [] s.2.2.2.2) (K := K_mo_where_51 Q x1 x2 x6 M) (fun _ h => h) (fun s o hb hk => w_b_mo_where_51_51 x1 x2 s.1 s.2.1 s.2.2.1 x6 s.2.2.2.1 s.2.2.2.2 hb hk) hf hk
theorem w_b_mo_where_40_40 (x1 : Int32) (x2 : Int32) (x3 : Int32) (x4 : Int32) (x5 : Int32) (x6 : Int32) (M : dM) {Q : mz_P} {o : ((Int32 × Int32 × Int32 × Int32 × dM) ⊕ (Int32 × Int32 × Int32 × dM))} (hf : b_mo_where_40_40 x1 x2 x3 x4 x5 x6 M = some o) (hk : K_mo_where_40 Q x1 x2 M o) : mW mX12_where 7 Q 40 [some (.ref 66), some (.int x1), some (.int x2), some (.int x3), some (.int x4), some (.int x5), some (.int x6), none, none] [] M := by
  unfold b_mo_where_40_40 at hf
  refine y_iload (i := 6) (n := 42) ⟨dX12_where_40, rfl⟩ rfl ?_
  refine y_bipush (n := 44) (v := 8) ⟨dX12_where_42, rfl⟩ kb_8 ?_
  refine y_icmp_ge (t := 128) (n := 47) ⟨dX12_where_44, rfl, rfl⟩ (fun (hc : 8 ≤ x6) => ?_) (fun (hc : ¬ (8 ≤ x6)) => ?_)
  · replace hf := i_t hc hf
    cases hf
    exact y_wk ⟨Or.inl rfl, Or.inl rfl, Or.inr rfl, Or.inr rfl, Or.inr rfl, Or.inr rfl, Or.inl rfl, Or.inr rfl, Or.inr rfl, trivial⟩ hk
  · replace hf := i_f hc hf
    refine y_iload (i := 6) (n := 49) ⟨dX12_where_47, rfl⟩ rfl ?_
    refine y_istore (i := 7) (n := 51) (L2 := [some (.ref 66), some (.int x1), some (.int x2), some (.int x3), some (.int x4), some (.int x5), some (.int x6), some (.int x6), none]) ⟨dX12_where_49, rfl⟩ (by decide) rfl rfl ?_
    obtain ⟨t5, hl6, hf⟩ := b_s hf
    refine y_wk ⟨Or.inr rfl, Or.inr rfl, Or.inr rfl, Or.inr rfl, Or.inr rfl, Or.inr rfl, Or.inr rfl, Or.inr rfl, Or.inr rfl, trivial⟩ (wl_mo_where_51 x1 x2 x3 x4 x5 x6 x6 M hl6 ?_)
    show mW mX12_where 7 Q 122 [some (.ref 66), some (.int x1), some (.int x2), some (.int t5.1), some (.int t5.2.1), some (.int t5.2.2.1), some (.int x6), none, none] [] t5.2.2.2
    refine y_iinc (i := 6) (n := 125) (b := (x6 + 1)) (L2 := [some (.ref 66), some (.int x1), some (.int x2), some (.int t5.1), some (.int t5.2.1), some (.int t5.2.2.1), some (.int (x6 + 1)), none, none]) ⟨dX12_where_122, rfl⟩ rfl (by rw [ki_1]) (by decide) rfl rfl ?_
    refine y_goto (t := 40) ⟨dX12_where_125, rfl, rfl⟩ ?_
    cases hf
    exact y_wk ⟨Or.inr rfl, Or.inr rfl, Or.inr rfl, Or.inr rfl, Or.inr rfl, Or.inr rfl, Or.inr rfl, Or.inr rfl, Or.inr rfl, trivial⟩ hk
theorem wl_mo_where_40 (x1 : Int32) (x2 : Int32) (x3 : Int32) (x4 : Int32) (x5 : Int32) (x6 : Int32) (M : dM) {Q : mz_P} {x : (Int32 × Int32 × Int32 × dM)} (hf : l_mo_where_40 x1 x2 x3 x4 x5 x6 M = some x) (hk : K_mo_where_40 Q x1 x2 M (.inr x)) : mW mX12_where 7 Q 40 [some (.ref 66), some (.int x1), some (.int x2), some (.int x3), some (.int x4), some (.int x5), some (.int x6), none, none] [] M :=
  lpc_wp (Wh := fun s => mW mX12_where 7 Q 40 [some (.ref 66), some (.int x1), some (.int x2), some (.int s.1), some (.int s.2.1), some (.int s.2.2.1), some (.int s.2.2.2.1), none, none] [] s.2.2.2.2) (K := K_mo_where_40 Q x1 x2 M) (fun _ h => h) (fun s o hb hk => w_b_mo_where_40_40 x1 x2 s.1 s.2.1 s.2.2.1 s.2.2.2.1 s.2.2.2.2 hb hk) hf hk
theorem ok_mo_where (a1 : Int32) (a2 : Int32) (M : dM) {o : (Int32 × dM)} (hf : f_mo_where a1 a2 M = some o) : mO mX12_where 7 [.ref 66, .int a1, .int a2] M (some (.int o.1)) o.2 := by
  refine y_ok (by decide +kernel) (by decide) (L0 := [some (.ref 66), some (.int a1), some (.int a2), none, none, none, none, none, none]) rfl ?_
  have hk := mR_mQ (some (.int o.1)) o.2
  generalize mQ _ _ = Q at hk ⊢
  unfold f_mo_where at hf
  refine y_aload_n (i := 0) (n := 1) ⟨dX12_where_0, rfl⟩ rfl ?_
  refine y_iconst (n := 2) (v := 0) ⟨dX12_where_1, rfl⟩ ki_0 ?_
  refine y_putI (n := 5) ⟨dX12_where_2, rfl⟩ kfX12_214 l_66 (by decide +kernel) rfl ?_
  refine y_iload_n (i := 1) (n := 6) ⟨dX12_where_5, rfl⟩ rfl ?_
  refine y_iconst (n := 7) (v := 1) ⟨dX12_where_6, rfl⟩ ki_1 ?_
  refine y_iconst (n := 8) (v := 2) ⟨dX12_where_7, rfl⟩ ki_2 ?_
  refine c_mo_within a1 1 2 (sI M 66 0 0) (n := 11) ⟨dX12_where_8, rfl⟩ klX12_221 rfl (by decide) (Nat.le_of_ble_eq_true rfl) rfl rfl ?_
  refine y_if_eq (t := 23) (n := 14) ⟨dX12_where_11, rfl, rfl⟩ (fun h0 => ?_) (fun h0 => ?_)
  · have hc := bI_0 h0
    replace hf := i_f hc hf
    refine y_iconst (n := 24) (v := (-1)) ⟨dX12_where_23, rfl⟩ ki_m1 ?_
    cases hf
    exact y_ireturn (n := 25) ⟨dX12_where_24, rfl⟩ rfl rfl hk
  · have hc := bI_1 h0
    replace hf := i_t hc hf
    refine y_iload_n (i := 2) (n := 15) ⟨dX12_where_14, rfl⟩ rfl ?_
    refine y_iconst (n := 16) (v := 0) ⟨dX12_where_15, rfl⟩ ki_0 ?_
    refine y_iload_n (i := 1) (n := 17) ⟨dX12_where_16, rfl⟩ rfl ?_
    refine c_mo_within a2 0 a1 (sI M 66 0 0) (n := 20) ⟨dX12_where_17, rfl⟩ klX12_221 rfl (by decide) (Nat.le_of_ble_eq_true rfl) rfl rfl ?_
    refine y_if_ne (t := 25) (n := 23) ⟨dX12_where_20, rfl, rfl⟩ (fun h0 => ?_) (fun h0 => ?_)
    · have hc := bI_1 h0
      replace hf := i_t hc hf
      refine y_aload_n (i := 0) (n := 26) ⟨dX12_where_25, rfl⟩ rfl ?_
      obtain ⟨q1, hv2, hf⟩ := b_s hf
      refine c_mo_knows (sI M 66 0 0) (n := 29) ⟨dX12_where_26, rfl⟩ klX12_505 hv2 (by decide) (Nat.le_of_ble_eq_true rfl) rfl rfl ?_
      refine y_iconst (n := 30) (v := (-1)) ⟨dX12_where_29, rfl⟩ ki_m1 ?_
      refine y_istore_n (i := 3) (n := 31) (L2 := [some (.ref 66), some (.int a1), some (.int a2), some (.int (-1)), none, none, none, none, none]) ⟨dX12_where_30, rfl⟩ (by decide) rfl rfl ?_
      refine y_iconst (n := 32) (v := (-1)) ⟨dX12_where_31, rfl⟩ ki_m1 ?_
      refine y_istore (i := 4) (n := 34) (L2 := [some (.ref 66), some (.int a1), some (.int a2), some (.int (-1)), some (.int (-1)), none, none, none, none]) ⟨dX12_where_32, rfl⟩ (by decide) rfl rfl ?_
      refine y_iconst (n := 35) (v := (-1)) ⟨dX12_where_34, rfl⟩ ki_m1 ?_
      refine y_istore (i := 5) (n := 37) (L2 := [some (.ref 66), some (.int a1), some (.int a2), some (.int (-1)), some (.int (-1)), some (.int (-1)), none, none, none]) ⟨dX12_where_35, rfl⟩ (by decide) rfl rfl ?_
      refine y_iconst (n := 38) (v := 0) ⟨dX12_where_37, rfl⟩ ki_0 ?_
      refine y_istore (i := 6) (n := 40) (L2 := [some (.ref 66), some (.int a1), some (.int a2), some (.int (-1)), some (.int (-1)), some (.int (-1)), some (.int 0), none, none]) ⟨dX12_where_38, rfl⟩ (by decide) rfl rfl ?_
      obtain ⟨t8, hl9, hf⟩ := b_s hf
      refine y_wk ⟨Or.inr rfl, Or.inr rfl, Or.inr rfl, Or.inr rfl, Or.inr rfl, Or.inr rfl, Or.inr rfl, Or.inr rfl, Or.inr rfl, trivial⟩ (wl_mo_where_40 a1 a2 (-1) (-1) (-1) 0 q1 hl9 ?_)
      show mW mX12_where 7 Q 128 [none, none, some (.int a2), some (.int t8.1), some (.int t8.2.1), some (.int t8.2.2.1), none, none, none] [] t8.2.2.2
      refine y_iload_n (i := 2) (n := 129) ⟨dX12_where_128, rfl⟩ rfl ?_
      refine y_if_ne (t := 136) (n := 132) ⟨dX12_where_129, rfl, rfl⟩ (fun (hc : ¬ (a2 = 0)) => ?_) (fun (hc : a2 = 0) => ?_)
      · replace hf := i_f hc hf
        refine y_iload_n (i := 2) (n := 137) ⟨dX12_where_136, rfl⟩ rfl ?_
        refine y_iconst (n := 138) (v := 1) ⟨dX12_where_137, rfl⟩ ki_1 ?_
        refine y_icmp_ne (t := 146) (n := 141) ⟨dX12_where_138, rfl, rfl⟩ (fun (hc : ¬ (a2 = 1)) => ?_) (fun (hc : a2 = 1) => ?_)
        · replace hf := i_f hc hf
          refine y_iload (i := 5) (n := 148) ⟨dX12_where_146, rfl⟩ rfl ?_
          cases hf
          exact y_ireturn (n := 149) ⟨dX12_where_148, rfl⟩ rfl rfl hk
        · replace hf := i_t hc hf
          refine y_iload (i := 4) (n := 143) ⟨dX12_where_141, rfl⟩ rfl ?_
          refine y_goto (t := 148) ⟨dX12_where_143, rfl, rfl⟩ ?_
          cases hf
          exact y_ireturn (n := 149) ⟨dX12_where_148, rfl⟩ rfl rfl hk
      · replace hf := i_t hc hf
        refine y_iload_n (i := 3) (n := 133) ⟨dX12_where_132, rfl⟩ rfl ?_
        refine y_goto (t := 148) ⟨dX12_where_133, rfl, rfl⟩ ?_
        cases hf
        exact y_ireturn (n := 149) ⟨dX12_where_148, rfl⟩ rfl rfl hk
    · have hc := bI_0 h0
      replace hf := i_f hc hf
      refine y_iconst (n := 24) (v := (-1)) ⟨dX12_where_23, rfl⟩ ki_m1 ?_
      cases hf
      exact y_ireturn (n := 25) ⟨dX12_where_24, rfl⟩ rfl rfl hk
theorem c_mo_where (a1 : Int32) (a2 : Int32) (M : dM) {o : (Int32 × dM)} {y : mz_M} {d : Nat} {Q : mz_P} {pc n i : Nat} {L : List (Option Value)} {st : List Value} (h : mz_d y.2.1 pc n 3 (.invokevirtual i)) (hl : mz_ml y.1.cls i yX12_where) (hf : f_mo_where a1 a2 M = some o) (hd : 7 + 1 ≤ d) (hsm : (st.map (fun v => v.category)).sum ≤ 8) (hLr : mz_rL 133 L = true) (hSr : mz_rS 133 st = true) (kk : mW y d Q n L (.int o.1 :: st) o.2) : mW y d Q pc L (.int a2 :: .int a1 :: .ref 66 :: st) M :=
  y_callV kmX12_where kvX12_where l_66 (by decide +kernel) (by decide +kernel) h hl (ok_mo_where a1 a2 M hf) (vs := [.int a1, .int a2]) rfl rfl hd hsm hLr hSr kk
def K_mo_ruled_4 (Q : mz_P)  (M : dM) : ((Int32 × Int32) ⊕ Int32) → Prop
  | .inl s => mW mX12_ruled 1 Q 4 [some (.ref 66), some (.int s.1), some (.int s.2)] [] M
  | .inr r => mR Q (some (.int r)) M
noncomputable def b_mo_ruled_4_4 (x1 : Int32) (x2 : Int32) (M : dM) : Option ((Int32 × Int32) ⊕ Int32) :=
  if 8 ≤ x2 then
    some (.inr x1)
  else
    gd (vp_in (12 + x2) 21) <|
    if (gI M 82 (12 + x2).toNatClampNeg) = 0 then
      some (.inl ((x1 ||| 0), (x2 + 1)))
    else
      some (.inl ((x1 ||| ((1 : Int32) <<< (x2 &&& 31))), (x2 + 1)))
noncomputable def l_mo_ruled_4 (x1 : Int32) (x2 : Int32) (M : dM) : Option Int32 := lpc (fun s => b_mo_ruled_4_4 s.1 s.2 M) (x1, x2)
noncomputable def f_mo_ruled (M : dM) : Option Int32 :=
  (l_mo_ruled_4 0 0 M).bind fun r4 => some r4
theorem w_b_mo_ruled_4_4 (x1 : Int32) (x2 : Int32) (M : dM) {Q : mz_P} {o : ((Int32 × Int32) ⊕ Int32)} (hf : b_mo_ruled_4_4 x1 x2 M = some o) (hk : K_mo_ruled_4 Q  M o) : mW mX12_ruled 1 Q 4 [some (.ref 66), some (.int x1), some (.int x2)] [] M := by
  unfold b_mo_ruled_4_4 at hf
  refine y_iload_n (i := 2) (n := 5) ⟨dX12_ruled_4, rfl⟩ rfl ?_
  refine y_bipush (n := 7) (v := 8) ⟨dX12_ruled_5, rfl⟩ kb_8 ?_
  refine y_icmp_ge (t := 38) (n := 10) ⟨dX12_ruled_7, rfl, rfl⟩ (fun (hc : 8 ≤ x2) => ?_) (fun (hc : ¬ (8 ≤ x2)) => ?_)
  · replace hf := i_t hc hf
    refine y_iload_n (i := 1) (n := 39) ⟨dX12_ruled_38, rfl⟩ rfl ?_
    cases hf
    exact y_ireturn (n := 40) ⟨dX12_ruled_39, rfl⟩ rfl rfl hk
  · replace hf := i_f hc hf
    refine y_iload_n (i := 1) (n := 11) ⟨dX12_ruled_10, rfl⟩ rfl ?_
    refine y_aload_n (i := 0) (n := 12) ⟨dX12_ruled_11, rfl⟩ rfl ?_
    refine y_getR (n := 15) ⟨dX12_ruled_12, rfl⟩ kfX12_55 l_66 rfl r_66_26 ?_
    refine y_bipush (n := 17) (v := 12) ⟨dX12_ruled_15, rfl⟩ kb_12 ?_
    refine y_iload_n (i := 2) (n := 18) ⟨dX12_ruled_17, rfl⟩ rfl ?_
    refine y_iadd (n := 19) ⟨dX12_ruled_18, rfl⟩ ?_
    obtain ⟨hg1, hf⟩ := g_s hf
    refine y_baload (n := 20) ⟨dX12_ruled_19, rfl⟩ l_82 hg1 ?_
    refine y_if_eq (t := 29) (n := 23) ⟨dX12_ruled_20, rfl, rfl⟩ (fun (hc : (gI M 82 (12 + x2).toNatClampNeg) = 0) => ?_) (fun (hc : ¬ ((gI M 82 (12 + x2).toNatClampNeg) = 0)) => ?_)
    · replace hf := i_t hc hf
      refine y_iconst (n := 30) (v := 0) ⟨dX12_ruled_29, rfl⟩ ki_0 ?_
      refine y_ior (n := 31) ⟨dX12_ruled_30, rfl⟩ ?_
      refine y_istore_n (i := 1) (n := 32) (L2 := [some (.ref 66), some (.int (x1 ||| 0)), some (.int x2)]) ⟨dX12_ruled_31, rfl⟩ (by decide) rfl rfl ?_
      refine y_iinc (i := 2) (n := 35) (b := (x2 + 1)) (L2 := [some (.ref 66), some (.int (x1 ||| 0)), some (.int (x2 + 1))]) ⟨dX12_ruled_32, rfl⟩ rfl (by rw [ki_1]) (by decide) rfl rfl ?_
      refine y_goto (t := 4) ⟨dX12_ruled_35, rfl, rfl⟩ ?_
      cases hf
      exact y_wk ⟨Or.inr rfl, Or.inr rfl, Or.inr rfl, trivial⟩ hk
    · replace hf := i_f hc hf
      refine y_iconst (n := 24) (v := 1) ⟨dX12_ruled_23, rfl⟩ ki_1 ?_
      refine y_iload_n (i := 2) (n := 25) ⟨dX12_ruled_24, rfl⟩ rfl ?_
      refine y_ishl (n := 26) ⟨dX12_ruled_25, rfl⟩ ?_
      refine y_goto (t := 30) ⟨dX12_ruled_26, rfl, rfl⟩ ?_
      refine y_ior (n := 31) ⟨dX12_ruled_30, rfl⟩ ?_
      refine y_istore_n (i := 1) (n := 32) (L2 := [some (.ref 66), some (.int (x1 ||| ((1 : Int32) <<< (x2 &&& 31)))), some (.int x2)]) ⟨dX12_ruled_31, rfl⟩ (by decide) rfl rfl ?_
      refine y_iinc (i := 2) (n := 35) (b := (x2 + 1)) (L2 := [some (.ref 66), some (.int (x1 ||| ((1 : Int32) <<< (x2 &&& 31)))), some (.int (x2 + 1))]) ⟨dX12_ruled_32, rfl⟩ rfl (by rw [ki_1]) (by decide) rfl rfl ?_
      refine y_goto (t := 4) ⟨dX12_ruled_35, rfl, rfl⟩ ?_
      cases hf
      exact y_wk ⟨Or.inr rfl, Or.inr rfl, Or.inr rfl, trivial⟩ hk
theorem wl_mo_ruled_4 (x1 : Int32) (x2 : Int32) (M : dM) {Q : mz_P} {x : Int32} (hf : l_mo_ruled_4 x1 x2 M = some x) (hk : K_mo_ruled_4 Q  M (.inr x)) : mW mX12_ruled 1 Q 4 [some (.ref 66), some (.int x1), some (.int x2)] [] M :=
  lpc_wp (Wh := fun s => mW mX12_ruled 1 Q 4 [some (.ref 66), some (.int s.1), some (.int s.2)] [] M) (K := K_mo_ruled_4 Q  M) (fun _ h => h) (fun s o hb hk => w_b_mo_ruled_4_4 s.1 s.2 M hb hk) hf hk
theorem ok_mo_ruled  (M : dM) {o : Int32} (hf : f_mo_ruled M = some o) : mO mX12_ruled 1 [.ref 66] M (some (.int o)) M := by
  refine y_ok (by decide +kernel) (by decide) (L0 := [some (.ref 66), none, none]) rfl ?_
  have hk := mR_mQ (some (.int o)) M
  generalize mQ _ _ = Q at hk ⊢
  unfold f_mo_ruled at hf
  refine y_iconst (n := 1) (v := 0) ⟨dX12_ruled_0, rfl⟩ ki_0 ?_
  refine y_istore_n (i := 1) (n := 2) (L2 := [some (.ref 66), some (.int 0), none]) ⟨dX12_ruled_1, rfl⟩ (by decide) rfl rfl ?_
  refine y_iconst (n := 3) (v := 0) ⟨dX12_ruled_2, rfl⟩ ki_0 ?_
  refine y_istore_n (i := 2) (n := 4) (L2 := [some (.ref 66), some (.int 0), some (.int 0)]) ⟨dX12_ruled_3, rfl⟩ (by decide) rfl rfl ?_
  obtain ⟨r4, hl3, hf⟩ := b_s hf
  cases hf
  exact y_wk ⟨Or.inr rfl, Or.inr rfl, Or.inr rfl, trivial⟩ (wl_mo_ruled_4 0 0 M hl3 hk)
theorem c_mo_ruled  (M : dM) {o : Int32} {y : mz_M} {d : Nat} {Q : mz_P} {pc n i : Nat} {L : List (Option Value)} {st : List Value} (h : mz_d y.2.1 pc n 3 (.invokevirtual i)) (hl : mz_ml y.1.cls i yX12_ruled) (hf : f_mo_ruled M = some o) (hd : 1 + 1 ≤ d) (hsm : (st.map (fun v => v.category)).sum ≤ 8) (hLr : mz_rL 133 L = true) (hSr : mz_rS 133 st = true) (kk : mW y d Q n L (.int o :: st) M) : mW y d Q pc L (.ref 66 :: st) M :=
  y_callV kmX12_ruled kvX12_ruled l_66 (by decide +kernel) (by decide +kernel) h hl (ok_mo_ruled  M hf) (vs := []) rfl rfl hd hsm hLr hSr kk
def K_mo_stopsAll_2 (Q : mz_P) (x1 : Int32) (M : dM) : ((Int32 × dM) ⊕ (Bool × dM)) → Prop
  | .inl s => mW mX12_stopsAll 5 Q 2 [some (.ref 66), some (.int x1), some (.int s.1), none, none] [] s.2
  | .inr r => mR Q (some (.int (bI r.1))) r.2
def K_mo_stopsAll_40 (Q : mz_P) (x1 : Int32) (x2 : Int32) (M : dM) : ((Int32 × Int32 × dM) ⊕ (Int32 × dM)) → Prop
  | .inl s => mW mX12_stopsAll 5 Q 40 [some (.ref 66), some (.int x1), some (.int x2), some (.int s.1), some (.int s.2.1)] [] s.2.2
  | .inr t => mW mX12_stopsAll 5 Q 83 [some (.ref 66), some (.int x1), some (.int x2), some (.int t.1), none] [] t.2
noncomputable def b_mo_stopsAll_40_71 (x1 : Int32) (x2 : Int32) (x4 : Int32) (M : dM) : Option ((Int32 × Int32 × dM) ⊕ (Int32 × dM)) :=
  some (.inl (1, (x4 + 1), M))
noncomputable def b_mo_stopsAll_40_40 (x1 : Int32) (x2 : Int32) (x3 : Int32) (x4 : Int32) (M : dM) : Option ((Int32 × Int32 × dM) ⊕ (Int32 × dM)) :=
  if 8 ≤ x4 then
    some (.inr (x3, M))
  else
    if x3 = 0 then
      if ((x1 >>> (x4 &&& 31)) &&& 1) = 1 then
        (f_mo_isStopped x4 x2 M).bind fun q2 =>
        if q2.1 = true then
          b_mo_stopsAll_40_71 x1 x2 x4 q2.2
        else
          some (.inl (0, (x4 + 1), q2.2))
      else
        some (.inl (0, (x4 + 1), M))
    else
      b_mo_stopsAll_40_71 x1 x2 x4 M
noncomputable def l_mo_stopsAll_40 (x1 : Int32) (x2 : Int32) (x3 : Int32) (x4 : Int32) (M : dM) : Option (Int32 × dM) := lpc (fun s => b_mo_stopsAll_40_40 x1 x2 s.1 s.2.1 s.2.2) (x3, x4, M)
noncomputable def b_mo_stopsAll_2_2 (x1 : Int32) (x2 : Int32) (M : dM) : Option ((Int32 × dM) ⊕ (Bool × dM)) :=
  if (gI M 66 9) ≤ x2 then
    some (.inr (true, M))
  else
    if (((gJ M 66 63) >>> (x2.toInt64 &&& 63)) &&& 1) = 0 then
      some (.inl ((x2 + 1), M))
    else
      gd (vp_in x2 40) <|
      if (gI M 105 x2.toNatClampNeg) = 0 then
        some (.inl ((x2 + 1), M))
      else
        (l_mo_stopsAll_40 x1 x2 0 0 M).bind fun t4 =>
          if t4.1 = 0 then
            some (.inr (false, t4.2))
          else
            some (.inl ((x2 + 1), t4.2))
noncomputable def l_mo_stopsAll_2 (x1 : Int32) (x2 : Int32) (M : dM) : Option (Bool × dM) := lpc (fun s => b_mo_stopsAll_2_2 x1 s.1 s.2) (x2, M)
noncomputable def f_mo_stopsAll (a1 : Int32) (M : dM) : Option (Bool × dM) :=
  (l_mo_stopsAll_2 a1 0 M).bind fun r9 => some r9
theorem w_b_mo_stopsAll_40_71 (x1 : Int32) (x2 : Int32) (x4 : Int32) (M : dM) {Q : mz_P} {o : ((Int32 × Int32 × dM) ⊕ (Int32 × dM))} (hf : b_mo_stopsAll_40_71 x1 x2 x4 M = some o) (hk : K_mo_stopsAll_40 Q x1 x2 M o) : mW mX12_stopsAll 5 Q 71 [some (.ref 66), some (.int x1), some (.int x2), none, some (.int x4)] [] M := by
  unfold b_mo_stopsAll_40_71 at hf
  refine y_iconst (n := 72) (v := 1) ⟨dX12_stopsAll_71, rfl⟩ ki_1 ?_
  refine y_goto (t := 76) ⟨dX12_stopsAll_72, rfl, rfl⟩ ?_
  refine y_istore_n (i := 3) (n := 77) (L2 := [some (.ref 66), some (.int x1), some (.int x2), some (.int 1), some (.int x4)]) ⟨dX12_stopsAll_76, rfl⟩ (by decide) rfl rfl ?_
  refine y_iinc (i := 4) (n := 80) (b := (x4 + 1)) (L2 := [some (.ref 66), some (.int x1), some (.int x2), some (.int 1), some (.int (x4 + 1))]) ⟨dX12_stopsAll_77, rfl⟩ rfl (by rw [ki_1]) (by decide) rfl rfl ?_
  refine y_goto (t := 40) ⟨dX12_stopsAll_80, rfl, rfl⟩ ?_
  cases hf
  exact y_wk ⟨Or.inr rfl, Or.inr rfl, Or.inr rfl, Or.inr rfl, Or.inr rfl, trivial⟩ hk
theorem w_b_mo_stopsAll_40_40 (x1 : Int32) (x2 : Int32) (x3 : Int32) (x4 : Int32) (M : dM) {Q : mz_P} {o : ((Int32 × Int32 × dM) ⊕ (Int32 × dM))} (hf : b_mo_stopsAll_40_40 x1 x2 x3 x4 M = some o) (hk : K_mo_stopsAll_40 Q x1 x2 M o) : mW mX12_stopsAll 5 Q 40 [some (.ref 66), some (.int x1), some (.int x2), some (.int x3), some (.int x4)] [] M := by
  unfold b_mo_stopsAll_40_40 at hf
  refine y_iload (i := 4) (n := 42) ⟨dX12_stopsAll_40, rfl⟩ rfl ?_
  refine y_bipush (n := 44) (v := 8) ⟨dX12_stopsAll_42, rfl⟩ kb_8 ?_
  refine y_icmp_ge (t := 83) (n := 47) ⟨dX12_stopsAll_44, rfl, rfl⟩ (fun (hc : 8 ≤ x4) => ?_) (fun (hc : ¬ (8 ≤ x4)) => ?_)
  · replace hf := i_t hc hf
    cases hf
    exact y_wk ⟨Or.inr rfl, Or.inr rfl, Or.inr rfl, Or.inr rfl, Or.inl rfl, trivial⟩ hk
  · replace hf := i_f hc hf
    refine y_iload_n (i := 3) (n := 48) ⟨dX12_stopsAll_47, rfl⟩ rfl ?_
    refine y_if_ne (t := 71) (n := 51) ⟨dX12_stopsAll_48, rfl, rfl⟩ (fun (hc : ¬ (x3 = 0)) => ?_) (fun (hc : x3 = 0) => ?_)
    · replace hf := i_f hc hf
      exact y_wk ⟨Or.inr rfl, Or.inr rfl, Or.inr rfl, Or.inl rfl, Or.inr rfl, trivial⟩ (w_b_mo_stopsAll_40_71 x1 x2 x4 M hf hk)
    · replace hf := i_t hc hf
      refine y_iload_n (i := 1) (n := 52) ⟨dX12_stopsAll_51, rfl⟩ rfl ?_
      refine y_iload (i := 4) (n := 54) ⟨dX12_stopsAll_52, rfl⟩ rfl ?_
      refine y_ishr (n := 55) ⟨dX12_stopsAll_54, rfl⟩ ?_
      refine y_iconst (n := 56) (v := 1) ⟨dX12_stopsAll_55, rfl⟩ ki_1 ?_
      refine y_iand (n := 57) ⟨dX12_stopsAll_56, rfl⟩ ?_
      refine y_iconst (n := 58) (v := 1) ⟨dX12_stopsAll_57, rfl⟩ ki_1 ?_
      refine y_icmp_ne (t := 75) (n := 61) ⟨dX12_stopsAll_58, rfl, rfl⟩ (fun (hc : ¬ (((x1 >>> (x4 &&& 31)) &&& 1) = 1)) => ?_) (fun (hc : ((x1 >>> (x4 &&& 31)) &&& 1) = 1) => ?_)
      · replace hf := i_f hc hf
        refine y_iconst (n := 76) (v := 0) ⟨dX12_stopsAll_75, rfl⟩ ki_0 ?_
        refine y_istore_n (i := 3) (n := 77) (L2 := [some (.ref 66), some (.int x1), some (.int x2), some (.int 0), some (.int x4)]) ⟨dX12_stopsAll_76, rfl⟩ (by decide) rfl rfl ?_
        refine y_iinc (i := 4) (n := 80) (b := (x4 + 1)) (L2 := [some (.ref 66), some (.int x1), some (.int x2), some (.int 0), some (.int (x4 + 1))]) ⟨dX12_stopsAll_77, rfl⟩ rfl (by rw [ki_1]) (by decide) rfl rfl ?_
        refine y_goto (t := 40) ⟨dX12_stopsAll_80, rfl, rfl⟩ ?_
        cases hf
        exact y_wk ⟨Or.inr rfl, Or.inr rfl, Or.inr rfl, Or.inr rfl, Or.inr rfl, trivial⟩ hk
      · replace hf := i_t hc hf
        refine y_aload_n (i := 0) (n := 62) ⟨dX12_stopsAll_61, rfl⟩ rfl ?_
        refine y_iload (i := 4) (n := 64) ⟨dX12_stopsAll_62, rfl⟩ rfl ?_
        refine y_iload_n (i := 2) (n := 65) ⟨dX12_stopsAll_64, rfl⟩ rfl ?_
        obtain ⟨q2, hv3, hf⟩ := b_s hf
        refine c_mo_isStopped x4 x2 M (n := 68) ⟨dX12_stopsAll_65, rfl⟩ klX12_441 hv3 (by decide) (Nat.le_of_ble_eq_true rfl) rfl rfl ?_
        refine y_if_eq (t := 75) (n := 71) ⟨dX12_stopsAll_68, rfl, rfl⟩ (fun h0 => ?_) (fun h0 => ?_)
        · have hc := bI_0 h0
          replace hf := i_f hc hf
          refine y_iconst (n := 76) (v := 0) ⟨dX12_stopsAll_75, rfl⟩ ki_0 ?_
          refine y_istore_n (i := 3) (n := 77) (L2 := [some (.ref 66), some (.int x1), some (.int x2), some (.int 0), some (.int x4)]) ⟨dX12_stopsAll_76, rfl⟩ (by decide) rfl rfl ?_
          refine y_iinc (i := 4) (n := 80) (b := (x4 + 1)) (L2 := [some (.ref 66), some (.int x1), some (.int x2), some (.int 0), some (.int (x4 + 1))]) ⟨dX12_stopsAll_77, rfl⟩ rfl (by rw [ki_1]) (by decide) rfl rfl ?_
          refine y_goto (t := 40) ⟨dX12_stopsAll_80, rfl, rfl⟩ ?_
          cases hf
          exact y_wk ⟨Or.inr rfl, Or.inr rfl, Or.inr rfl, Or.inr rfl, Or.inr rfl, trivial⟩ hk
        · have hc := bI_1 h0
          replace hf := i_t hc hf
          exact y_wk ⟨Or.inr rfl, Or.inr rfl, Or.inr rfl, Or.inl rfl, Or.inr rfl, trivial⟩ (w_b_mo_stopsAll_40_71 x1 x2 x4 q2.2 hf hk)
theorem wl_mo_stopsAll_40 (x1 : Int32) (x2 : Int32) (x3 : Int32) (x4 : Int32) (M : dM) {Q : mz_P} {x : (Int32 × dM)} (hf : l_mo_stopsAll_40 x1 x2 x3 x4 M = some x) (hk : K_mo_stopsAll_40 Q x1 x2 M (.inr x)) : mW mX12_stopsAll 5 Q 40 [some (.ref 66), some (.int x1), some (.int x2), some (.int x3), some (.int x4)] [] M :=
  lpc_wp (Wh := fun s => mW mX12_stopsAll 5 Q 40 [some (.ref 66), some (.int x1), some (.int x2), some (.int s.1), some (.int s.2.1)] [] s.2.2) (K := K_mo_stopsAll_40 Q x1 x2 M) (fun _ h => h) (fun s o hb hk => w_b_mo_stopsAll_40_40 x1 x2 s.1 s.2.1 s.2.2 hb hk) hf hk
theorem w_b_mo_stopsAll_2_2 (x1 : Int32) (x2 : Int32) (M : dM) {Q : mz_P} {o : ((Int32 × dM) ⊕ (Bool × dM))} (hf : b_mo_stopsAll_2_2 x1 x2 M = some o) (hk : K_mo_stopsAll_2 Q x1 M o) : mW mX12_stopsAll 5 Q 2 [some (.ref 66), some (.int x1), some (.int x2), none, none] [] M := by
  unfold b_mo_stopsAll_2_2 at hf
  refine y_iload_n (i := 2) (n := 3) ⟨dX12_stopsAll_2, rfl⟩ rfl ?_
  refine y_aload_n (i := 0) (n := 4) ⟨dX12_stopsAll_3, rfl⟩ rfl ?_
  refine y_getI (n := 7) ⟨dX12_stopsAll_4, rfl⟩ kfX12_235 l_66 rfl ?_
  refine y_icmp_ge (t := 95) (n := 10) ⟨dX12_stopsAll_7, rfl, rfl⟩ (fun (hc : (gI M 66 9) ≤ x2) => ?_) (fun (hc : ¬ ((gI M 66 9) ≤ x2)) => ?_)
  · replace hf := i_t hc hf
    refine y_iconst (n := 96) (v := 1) ⟨dX12_stopsAll_95, rfl⟩ ki_1 ?_
    cases hf
    exact y_ireturn (n := 97) ⟨dX12_stopsAll_96, rfl⟩ rfl rfl hk
  · replace hf := i_f hc hf
    refine y_aload_n (i := 0) (n := 11) ⟨dX12_stopsAll_10, rfl⟩ rfl ?_
    refine y_getJ (n := 14) ⟨dX12_stopsAll_11, rfl⟩ kfX12_502 l_66 rfl ?_
    refine y_iload_n (i := 2) (n := 15) ⟨dX12_stopsAll_14, rfl⟩ rfl ?_
    refine y_lshr (n := 16) ⟨dX12_stopsAll_15, rfl⟩ ?_
    refine y_lconst (n := 17) (v := 1) ⟨dX12_stopsAll_16, rfl⟩ kl_1 ?_
    refine y_land (n := 18) ⟨dX12_stopsAll_17, rfl⟩ ?_
    refine y_lconst (n := 19) (v := 0) ⟨dX12_stopsAll_18, rfl⟩ kl_0 ?_
    refine y_lcmp (n := 20) ⟨dX12_stopsAll_19, rfl⟩ ?_
    refine y_if_eq (t := 89) (n := 23) ⟨dX12_stopsAll_20, rfl, rfl⟩ (fun h0 => ?_) (fun h0 => ?_)
    · have hc : (((gJ M 66 63) >>> (x2.toInt64 &&& 63)) &&& 1) = 0 := (lc_eq _ _).mp h0
      replace hf := i_t hc hf
      refine y_iinc (i := 2) (n := 92) (b := (x2 + 1)) (L2 := [some (.ref 66), some (.int x1), some (.int (x2 + 1)), none, none]) ⟨dX12_stopsAll_89, rfl⟩ rfl (by rw [ki_1]) (by decide) rfl rfl ?_
      refine y_goto (t := 2) ⟨dX12_stopsAll_92, rfl, rfl⟩ ?_
      cases hf
      exact y_wk ⟨Or.inr rfl, Or.inr rfl, Or.inr rfl, Or.inr rfl, Or.inr rfl, trivial⟩ hk
    · have hc : ¬ ((((gJ M 66 63) >>> (x2.toInt64 &&& 63)) &&& 1) = 0) := fun e => h0 ((lc_eq _ _).mpr e)
      replace hf := i_f hc hf
      refine y_aload_n (i := 0) (n := 24) ⟨dX12_stopsAll_23, rfl⟩ rfl ?_
      refine y_getR (n := 27) ⟨dX12_stopsAll_24, rfl⟩ kfX12_125 l_66 rfl r_66_60 ?_
      refine y_iload_n (i := 2) (n := 28) ⟨dX12_stopsAll_27, rfl⟩ rfl ?_
      obtain ⟨hg1, hf⟩ := g_s hf
      refine y_iaload (n := 29) ⟨dX12_stopsAll_28, rfl⟩ l_105 hg1 ?_
      refine y_if_ne (t := 35) (n := 32) ⟨dX12_stopsAll_29, rfl, rfl⟩ (fun (hc : ¬ ((gI M 105 x2.toNatClampNeg) = 0)) => ?_) (fun (hc : (gI M 105 x2.toNatClampNeg) = 0) => ?_)
      · replace hf := i_f hc hf
        refine y_iconst (n := 36) (v := 0) ⟨dX12_stopsAll_35, rfl⟩ ki_0 ?_
        refine y_istore_n (i := 3) (n := 37) (L2 := [some (.ref 66), some (.int x1), some (.int x2), some (.int 0), none]) ⟨dX12_stopsAll_36, rfl⟩ (by decide) rfl rfl ?_
        refine y_iconst (n := 38) (v := 0) ⟨dX12_stopsAll_37, rfl⟩ ki_0 ?_
        refine y_istore (i := 4) (n := 40) (L2 := [some (.ref 66), some (.int x1), some (.int x2), some (.int 0), some (.int 0)]) ⟨dX12_stopsAll_38, rfl⟩ (by decide) rfl rfl ?_
        obtain ⟨t4, hl5, hf⟩ := b_s hf
        refine y_wk ⟨Or.inr rfl, Or.inr rfl, Or.inr rfl, Or.inr rfl, Or.inr rfl, trivial⟩ (wl_mo_stopsAll_40 x1 x2 0 0 M hl5 ?_)
        show mW mX12_stopsAll 5 Q 83 [some (.ref 66), some (.int x1), some (.int x2), some (.int t4.1), none] [] t4.2
        refine y_iload_n (i := 3) (n := 84) ⟨dX12_stopsAll_83, rfl⟩ rfl ?_
        refine y_if_ne (t := 89) (n := 87) ⟨dX12_stopsAll_84, rfl, rfl⟩ (fun (hc : ¬ (t4.1 = 0)) => ?_) (fun (hc : t4.1 = 0) => ?_)
        · replace hf := i_f hc hf
          refine y_iinc (i := 2) (n := 92) (b := (x2 + 1)) (L2 := [some (.ref 66), some (.int x1), some (.int (x2 + 1)), some (.int t4.1), none]) ⟨dX12_stopsAll_89, rfl⟩ rfl (by rw [ki_1]) (by decide) rfl rfl ?_
          refine y_goto (t := 2) ⟨dX12_stopsAll_92, rfl, rfl⟩ ?_
          cases hf
          exact y_wk ⟨Or.inr rfl, Or.inr rfl, Or.inr rfl, Or.inl rfl, Or.inr rfl, trivial⟩ hk
        · replace hf := i_t hc hf
          refine y_iconst (n := 88) (v := 0) ⟨dX12_stopsAll_87, rfl⟩ ki_0 ?_
          cases hf
          exact y_ireturn (n := 89) ⟨dX12_stopsAll_88, rfl⟩ rfl rfl hk
      · replace hf := i_t hc hf
        refine y_goto (t := 89) ⟨dX12_stopsAll_32, rfl, rfl⟩ ?_
        refine y_iinc (i := 2) (n := 92) (b := (x2 + 1)) (L2 := [some (.ref 66), some (.int x1), some (.int (x2 + 1)), none, none]) ⟨dX12_stopsAll_89, rfl⟩ rfl (by rw [ki_1]) (by decide) rfl rfl ?_
        refine y_goto (t := 2) ⟨dX12_stopsAll_92, rfl, rfl⟩ ?_
        cases hf
        exact y_wk ⟨Or.inr rfl, Or.inr rfl, Or.inr rfl, Or.inr rfl, Or.inr rfl, trivial⟩ hk
theorem wl_mo_stopsAll_2 (x1 : Int32) (x2 : Int32) (M : dM) {Q : mz_P} {x : (Bool × dM)} (hf : l_mo_stopsAll_2 x1 x2 M = some x) (hk : K_mo_stopsAll_2 Q x1 M (.inr x)) : mW mX12_stopsAll 5 Q 2 [some (.ref 66), some (.int x1), some (.int x2), none, none] [] M :=
  lpc_wp (Wh := fun s => mW mX12_stopsAll 5 Q 2 [some (.ref 66), some (.int x1), some (.int s.1), none, none] [] s.2) (K := K_mo_stopsAll_2 Q x1 M) (fun _ h => h) (fun s o hb hk => w_b_mo_stopsAll_2_2 x1 s.1 s.2 hb hk) hf hk
theorem ok_mo_stopsAll (a1 : Int32) (M : dM) {o : (Bool × dM)} (hf : f_mo_stopsAll a1 M = some o) : mO mX12_stopsAll 5 [.ref 66, .int a1] M (some (.int (bI o.1))) o.2 := by
  refine y_ok (by decide +kernel) (by decide) (L0 := [some (.ref 66), some (.int a1), none, none, none]) rfl ?_
  have hk := mR_mQ (some (.int (bI o.1))) o.2
  generalize mQ _ _ = Q at hk ⊢
  unfold f_mo_stopsAll at hf
  refine y_iconst (n := 1) (v := 0) ⟨dX12_stopsAll_0, rfl⟩ ki_0 ?_
  refine y_istore_n (i := 2) (n := 2) (L2 := [some (.ref 66), some (.int a1), some (.int 0), none, none]) ⟨dX12_stopsAll_1, rfl⟩ (by decide) rfl rfl ?_
  obtain ⟨r9, hl8, hf⟩ := b_s hf
  cases hf
  exact y_wk ⟨Or.inr rfl, Or.inr rfl, Or.inr rfl, Or.inr rfl, Or.inr rfl, trivial⟩ (wl_mo_stopsAll_2 a1 0 M hl8 hk)
theorem c_mo_stopsAll (a1 : Int32) (M : dM) {o : (Bool × dM)} {y : mz_M} {d : Nat} {Q : mz_P} {pc n i : Nat} {L : List (Option Value)} {st : List Value} (h : mz_d y.2.1 pc n 3 (.invokevirtual i)) (hl : mz_ml y.1.cls i yX12_stopsAll) (hf : f_mo_stopsAll a1 M = some o) (hd : 5 + 1 ≤ d) (hsm : (st.map (fun v => v.category)).sum ≤ 8) (hLr : mz_rL 133 L = true) (hSr : mz_rS 133 st = true) (kk : mW y d Q n L (.int (bI o.1) :: st) o.2) : mW y d Q pc L (.int a1 :: .ref 66 :: st) M :=
  y_callV kmX12_stopsAll kvX12_stopsAll l_66 (by decide +kernel) (by decide +kernel) h hl (ok_mo_stopsAll a1 M hf) (vs := [.int a1]) rfl rfl hd hsm hLr hSr kk
def K_mo_rules_24 (Q : mz_P) (x1 : Int32) (M : dM) : ((Int32 × Int32 × dM) ⊕ (Int32 × dM)) → Prop
  | .inl s => mW mX12_rules 7 Q 24 [some (.ref 66), some (.int x1), some (.int s.1), some (.int s.2.1)] [] s.2.2
  | .inr t => mW mX12_rules 7 Q 73 [none, some (.int x1), some (.int t.1), none] [] t.2
noncomputable def b_mo_rules_24_57 (x1 : Int32) (x2 : Int32) (x3 : Int32) (M : dM) : Option ((Int32 × Int32 × dM) ⊕ (Int32 × dM)) :=
  (f_mo_stopsAll x3 M).bind fun q5 =>
  if q5.1 = true then
    some (.inl (x3, (x3 + 1), q5.2))
  else
    some (.inl (x2, (x3 + 1), q5.2))
noncomputable def b_mo_rules_24_24 (x1 : Int32) (x2 : Int32) (x3 : Int32) (M : dM) : Option ((Int32 × Int32 × dM) ⊕ (Int32 × dM)) :=
  if 256 ≤ x3 then
    some (.inr (x2, M))
  else
    (f_mo_ruled M).bind fun v3 =>
    if (x3 &&& (v3 ^^^ (-1))) = 0 then
      if x2 < 0 then
        b_mo_rules_24_57 x1 x2 x3 M
      else
        (f_mo_bits x3).bind fun v7 =>
        (f_mo_bits x2).bind fun v9 =>
        if v9 ≤ v7 then
          some (.inl (x2, (x3 + 1), M))
        else
          b_mo_rules_24_57 x1 x2 x3 M
    else
      some (.inl (x2, (x3 + 1), M))
noncomputable def l_mo_rules_24 (x1 : Int32) (x2 : Int32) (x3 : Int32) (M : dM) : Option (Int32 × dM) := lpc (fun s => b_mo_rules_24_24 x1 s.1 s.2.1 s.2.2) (x2, x3, M)
noncomputable def f_mo_rules (a1 : Int32) (M : dM) : Option (Int32 × dM) :=
  if (f_mo_within a1 0 1) = true then
    (f_mo_knows (sI M 66 0 0)).bind fun q1 =>
    (l_mo_rules_24 a1 (-1) 0 q1).bind fun t11 =>
      if 0 ≤ t11.1 then
        if a1 = 0 then
          (f_mo_bits t11.1).bind fun v14 =>
          some (v14, t11.2)
        else
          some (t11.1, t11.2)
      else
        some ((-1), t11.2)
  else
    some ((-1), (sI M 66 0 0))
theorem w_b_mo_rules_24_57 (x1 : Int32) (x2 : Int32) (x3 : Int32) (M : dM) {Q : mz_P} {o : ((Int32 × Int32 × dM) ⊕ (Int32 × dM))} (hf : b_mo_rules_24_57 x1 x2 x3 M = some o) (hk : K_mo_rules_24 Q x1 M o) : mW mX12_rules 7 Q 57 [some (.ref 66), some (.int x1), some (.int x2), some (.int x3)] [] M := by
  unfold b_mo_rules_24_57 at hf
  refine y_aload_n (i := 0) (n := 58) ⟨dX12_rules_57, rfl⟩ rfl ?_
  refine y_iload_n (i := 3) (n := 59) ⟨dX12_rules_58, rfl⟩ rfl ?_
  obtain ⟨q5, hv6, hf⟩ := b_s hf
  refine c_mo_stopsAll x3 M (n := 62) ⟨dX12_rules_59, rfl⟩ klX12_542 hv6 (by decide) (Nat.le_of_ble_eq_true rfl) rfl rfl ?_
  refine y_if_eq (t := 67) (n := 65) ⟨dX12_rules_62, rfl, rfl⟩ (fun h0 => ?_) (fun h0 => ?_)
  · have hc := bI_0 h0
    replace hf := i_f hc hf
    refine y_iinc (i := 3) (n := 70) (b := (x3 + 1)) (L2 := [some (.ref 66), some (.int x1), some (.int x2), some (.int (x3 + 1))]) ⟨dX12_rules_67, rfl⟩ rfl (by rw [ki_1]) (by decide) rfl rfl ?_
    refine y_goto (t := 24) ⟨dX12_rules_70, rfl, rfl⟩ ?_
    cases hf
    exact y_wk ⟨Or.inr rfl, Or.inr rfl, Or.inr rfl, Or.inr rfl, trivial⟩ hk
  · have hc := bI_1 h0
    replace hf := i_t hc hf
    refine y_iload_n (i := 3) (n := 66) ⟨dX12_rules_65, rfl⟩ rfl ?_
    refine y_istore_n (i := 2) (n := 67) (L2 := [some (.ref 66), some (.int x1), some (.int x3), some (.int x3)]) ⟨dX12_rules_66, rfl⟩ (by decide) rfl rfl ?_
    refine y_iinc (i := 3) (n := 70) (b := (x3 + 1)) (L2 := [some (.ref 66), some (.int x1), some (.int x3), some (.int (x3 + 1))]) ⟨dX12_rules_67, rfl⟩ rfl (by rw [ki_1]) (by decide) rfl rfl ?_
    refine y_goto (t := 24) ⟨dX12_rules_70, rfl, rfl⟩ ?_
    cases hf
    exact y_wk ⟨Or.inr rfl, Or.inr rfl, Or.inr rfl, Or.inr rfl, trivial⟩ hk
theorem w_b_mo_rules_24_24 (x1 : Int32) (x2 : Int32) (x3 : Int32) (M : dM) {Q : mz_P} {o : ((Int32 × Int32 × dM) ⊕ (Int32 × dM))} (hf : b_mo_rules_24_24 x1 x2 x3 M = some o) (hk : K_mo_rules_24 Q x1 M o) : mW mX12_rules 7 Q 24 [some (.ref 66), some (.int x1), some (.int x2), some (.int x3)] [] M := by
  unfold b_mo_rules_24_24 at hf
  refine y_iload_n (i := 3) (n := 25) ⟨dX12_rules_24, rfl⟩ rfl ?_
  refine y_sipush (n := 28) (v := 256) ⟨dX12_rules_25, rfl⟩ ks_256 ?_
  refine y_icmp_ge (t := 73) (n := 31) ⟨dX12_rules_28, rfl, rfl⟩ (fun (hc : 256 ≤ x3) => ?_) (fun (hc : ¬ (256 ≤ x3)) => ?_)
  · replace hf := i_t hc hf
    cases hf
    exact y_wk ⟨Or.inl rfl, Or.inr rfl, Or.inr rfl, Or.inl rfl, trivial⟩ hk
  · replace hf := i_f hc hf
    refine y_iload_n (i := 3) (n := 32) ⟨dX12_rules_31, rfl⟩ rfl ?_
    refine y_aload_n (i := 0) (n := 33) ⟨dX12_rules_32, rfl⟩ rfl ?_
    obtain ⟨v3, hv4, hf⟩ := b_s hf
    refine c_mo_ruled M (n := 36) ⟨dX12_rules_33, rfl⟩ klX12_539 hv4 (by decide) (Nat.le_of_ble_eq_true rfl) rfl rfl ?_
    refine y_iconst (n := 37) (v := (-1)) ⟨dX12_rules_36, rfl⟩ ki_m1 ?_
    refine y_ixor (n := 38) ⟨dX12_rules_37, rfl⟩ ?_
    refine y_iand (n := 39) ⟨dX12_rules_38, rfl⟩ ?_
    refine y_if_ne (t := 67) (n := 42) ⟨dX12_rules_39, rfl, rfl⟩ (fun (hc : ¬ ((x3 &&& (v3 ^^^ (-1))) = 0)) => ?_) (fun (hc : (x3 &&& (v3 ^^^ (-1))) = 0) => ?_)
    · replace hf := i_f hc hf
      refine y_iinc (i := 3) (n := 70) (b := (x3 + 1)) (L2 := [some (.ref 66), some (.int x1), some (.int x2), some (.int (x3 + 1))]) ⟨dX12_rules_67, rfl⟩ rfl (by rw [ki_1]) (by decide) rfl rfl ?_
      refine y_goto (t := 24) ⟨dX12_rules_70, rfl, rfl⟩ ?_
      cases hf
      exact y_wk ⟨Or.inr rfl, Or.inr rfl, Or.inr rfl, Or.inr rfl, trivial⟩ hk
    · replace hf := i_t hc hf
      refine y_iload_n (i := 2) (n := 43) ⟨dX12_rules_42, rfl⟩ rfl ?_
      refine y_if_lt (t := 57) (n := 46) ⟨dX12_rules_43, rfl, rfl⟩ (fun (hc : x2 < 0) => ?_) (fun (hc : ¬ (x2 < 0)) => ?_)
      · replace hf := i_t hc hf
        exact y_wk ⟨Or.inr rfl, Or.inr rfl, Or.inr rfl, Or.inr rfl, trivial⟩ (w_b_mo_rules_24_57 x1 x2 x3 M hf hk)
      · replace hf := i_f hc hf
        refine y_iload_n (i := 3) (n := 47) ⟨dX12_rules_46, rfl⟩ rfl ?_
        obtain ⟨v7, hv8, hf⟩ := b_s hf
        refine c_mo_bits x3 M (n := 50) ⟨dX12_rules_47, rfl⟩ klX12_242 hv8 (by decide) (Nat.le_of_ble_eq_true rfl) rfl rfl ?_
        refine y_iload_n (i := 2) (n := 51) ⟨dX12_rules_50, rfl⟩ rfl ?_
        obtain ⟨v9, hv10, hf⟩ := b_s hf
        refine c_mo_bits x2 M (n := 54) ⟨dX12_rules_51, rfl⟩ klX12_242 hv10 (by decide) (Nat.le_of_ble_eq_true rfl) rfl rfl ?_
        refine y_icmp_ge (t := 67) (n := 57) ⟨dX12_rules_54, rfl, rfl⟩ (fun (hc : v9 ≤ v7) => ?_) (fun (hc : ¬ (v9 ≤ v7)) => ?_)
        · replace hf := i_t hc hf
          refine y_iinc (i := 3) (n := 70) (b := (x3 + 1)) (L2 := [some (.ref 66), some (.int x1), some (.int x2), some (.int (x3 + 1))]) ⟨dX12_rules_67, rfl⟩ rfl (by rw [ki_1]) (by decide) rfl rfl ?_
          refine y_goto (t := 24) ⟨dX12_rules_70, rfl, rfl⟩ ?_
          cases hf
          exact y_wk ⟨Or.inr rfl, Or.inr rfl, Or.inr rfl, Or.inr rfl, trivial⟩ hk
        · replace hf := i_f hc hf
          exact y_wk ⟨Or.inr rfl, Or.inr rfl, Or.inr rfl, Or.inr rfl, trivial⟩ (w_b_mo_rules_24_57 x1 x2 x3 M hf hk)
theorem wl_mo_rules_24 (x1 : Int32) (x2 : Int32) (x3 : Int32) (M : dM) {Q : mz_P} {x : (Int32 × dM)} (hf : l_mo_rules_24 x1 x2 x3 M = some x) (hk : K_mo_rules_24 Q x1 M (.inr x)) : mW mX12_rules 7 Q 24 [some (.ref 66), some (.int x1), some (.int x2), some (.int x3)] [] M :=
  lpc_wp (Wh := fun s => mW mX12_rules 7 Q 24 [some (.ref 66), some (.int x1), some (.int s.1), some (.int s.2.1)] [] s.2.2) (K := K_mo_rules_24 Q x1 M) (fun _ h => h) (fun s o hb hk => w_b_mo_rules_24_24 x1 s.1 s.2.1 s.2.2 hb hk) hf hk
theorem ok_mo_rules (a1 : Int32) (M : dM) {o : (Int32 × dM)} (hf : f_mo_rules a1 M = some o) : mO mX12_rules 7 [.ref 66, .int a1] M (some (.int o.1)) o.2 := by
  refine y_ok (by decide +kernel) (by decide) (L0 := [some (.ref 66), some (.int a1), none, none]) rfl ?_
  have hk := mR_mQ (some (.int o.1)) o.2
  generalize mQ _ _ = Q at hk ⊢
  unfold f_mo_rules at hf
  refine y_aload_n (i := 0) (n := 1) ⟨dX12_rules_0, rfl⟩ rfl ?_
  refine y_iconst (n := 2) (v := 0) ⟨dX12_rules_1, rfl⟩ ki_0 ?_
  refine y_putI (n := 5) ⟨dX12_rules_2, rfl⟩ kfX12_214 l_66 (by decide +kernel) rfl ?_
  refine y_iload_n (i := 1) (n := 6) ⟨dX12_rules_5, rfl⟩ rfl ?_
  refine y_iconst (n := 7) (v := 0) ⟨dX12_rules_6, rfl⟩ ki_0 ?_
  refine y_iconst (n := 8) (v := 1) ⟨dX12_rules_7, rfl⟩ ki_1 ?_
  refine c_mo_within a1 0 1 (sI M 66 0 0) (n := 11) ⟨dX12_rules_8, rfl⟩ klX12_221 rfl (by decide) (Nat.le_of_ble_eq_true rfl) rfl rfl ?_
  refine y_if_ne (t := 16) (n := 14) ⟨dX12_rules_11, rfl, rfl⟩ (fun h0 => ?_) (fun h0 => ?_)
  · have hc := bI_1 h0
    replace hf := i_t hc hf
    refine y_aload_n (i := 0) (n := 17) ⟨dX12_rules_16, rfl⟩ rfl ?_
    obtain ⟨q1, hv2, hf⟩ := b_s hf
    refine c_mo_knows (sI M 66 0 0) (n := 20) ⟨dX12_rules_17, rfl⟩ klX12_505 hv2 (by decide) (Nat.le_of_ble_eq_true rfl) rfl rfl ?_
    refine y_iconst (n := 21) (v := (-1)) ⟨dX12_rules_20, rfl⟩ ki_m1 ?_
    refine y_istore_n (i := 2) (n := 22) (L2 := [some (.ref 66), some (.int a1), some (.int (-1)), none]) ⟨dX12_rules_21, rfl⟩ (by decide) rfl rfl ?_
    refine y_iconst (n := 23) (v := 0) ⟨dX12_rules_22, rfl⟩ ki_0 ?_
    refine y_istore_n (i := 3) (n := 24) (L2 := [some (.ref 66), some (.int a1), some (.int (-1)), some (.int 0)]) ⟨dX12_rules_23, rfl⟩ (by decide) rfl rfl ?_
    obtain ⟨t11, hl12, hf⟩ := b_s hf
    refine y_wk ⟨Or.inr rfl, Or.inr rfl, Or.inr rfl, Or.inr rfl, trivial⟩ (wl_mo_rules_24 a1 (-1) 0 q1 hl12 ?_)
    show mW mX12_rules 7 Q 73 [none, some (.int a1), some (.int t11.1), none] [] t11.2
    refine y_iload_n (i := 2) (n := 74) ⟨dX12_rules_73, rfl⟩ rfl ?_
    refine y_if_ge (t := 81) (n := 77) ⟨dX12_rules_74, rfl, rfl⟩ (fun (hc : 0 ≤ t11.1) => ?_) (fun (hc : ¬ (0 ≤ t11.1)) => ?_)
    · replace hf := i_t hc hf
      refine y_iload_n (i := 1) (n := 82) ⟨dX12_rules_81, rfl⟩ rfl ?_
      refine y_if_ne (t := 92) (n := 85) ⟨dX12_rules_82, rfl, rfl⟩ (fun (hc : ¬ (a1 = 0)) => ?_) (fun (hc : a1 = 0) => ?_)
      · replace hf := i_f hc hf
        refine y_iload_n (i := 2) (n := 93) ⟨dX12_rules_92, rfl⟩ rfl ?_
        cases hf
        exact y_ireturn (n := 94) ⟨dX12_rules_93, rfl⟩ rfl rfl hk
      · replace hf := i_t hc hf
        refine y_iload_n (i := 2) (n := 86) ⟨dX12_rules_85, rfl⟩ rfl ?_
        obtain ⟨v14, hv15, hf⟩ := b_s hf
        refine c_mo_bits t11.1 t11.2 (n := 89) ⟨dX12_rules_86, rfl⟩ klX12_242 hv15 (by decide) (Nat.le_of_ble_eq_true rfl) rfl rfl ?_
        refine y_goto (t := 93) ⟨dX12_rules_89, rfl, rfl⟩ ?_
        cases hf
        exact y_ireturn (n := 94) ⟨dX12_rules_93, rfl⟩ rfl rfl hk
    · replace hf := i_f hc hf
      refine y_iconst (n := 78) (v := (-1)) ⟨dX12_rules_77, rfl⟩ ki_m1 ?_
      refine y_goto (t := 93) ⟨dX12_rules_78, rfl, rfl⟩ ?_
      cases hf
      exact y_ireturn (n := 94) ⟨dX12_rules_93, rfl⟩ rfl rfl hk
  · have hc := bI_0 h0
    replace hf := i_f hc hf
    refine y_iconst (n := 15) (v := (-1)) ⟨dX12_rules_14, rfl⟩ ki_m1 ?_
    cases hf
    exact y_ireturn (n := 16) ⟨dX12_rules_15, rfl⟩ rfl rfl hk
theorem c_mo_rules (a1 : Int32) (M : dM) {o : (Int32 × dM)} {y : mz_M} {d : Nat} {Q : mz_P} {pc n i : Nat} {L : List (Option Value)} {st : List Value} (h : mz_d y.2.1 pc n 3 (.invokevirtual i)) (hl : mz_ml y.1.cls i yX12_rules) (hf : f_mo_rules a1 M = some o) (hd : 7 + 1 ≤ d) (hsm : (st.map (fun v => v.category)).sum ≤ 8) (hLr : mz_rL 133 L = true) (hSr : mz_rS 133 st = true) (kk : mW y d Q n L (.int o.1 :: st) o.2) : mW y d Q pc L (.int a1 :: .ref 66 :: st) M :=
  y_callV kmX12_rules kvX12_rules l_66 (by decide +kernel) (by decide +kernel) h hl (ok_mo_rules a1 M hf) (vs := [.int a1]) rfl rfl hd hsm hLr hSr kk
noncomputable def f_mo_paper (a1 : Int32) (M : dM) : Option (Bool × dM) :=
  if (f_mo_within a1 0 999) = true then
    if (gI (sI M 66 0 0) 66 77) = 40 then
      some (false, (sI M 66 0 0))
    else
      gd (vp_in (gI (sI M 66 0 0) 66 77) 40) <|
      some (true, (sI (sI (sI M 66 0 0) 113 (gI (sI M 66 0 0) 66 77).toNatClampNeg a1) 66 77 ((gI (sI (sI M 66 0 0) 113 (gI (sI M 66 0 0) 66 77).toNatClampNeg a1) 66 77) + 1)))
  else
    some (false, (sI M 66 0 0))
theorem ok_mo_paper (a1 : Int32) (M : dM) {o : (Bool × dM)} (hf : f_mo_paper a1 M = some o) : mO mX12_paper 2 [.ref 66, .int a1] M (some (.int (bI o.1))) o.2 := by
  refine y_ok (by decide +kernel) (by decide) (L0 := [some (.ref 66), some (.int a1)]) rfl ?_
  have hk := mR_mQ (some (.int (bI o.1))) o.2
  generalize mQ _ _ = Q at hk ⊢
  unfold f_mo_paper at hf
  refine y_aload_n (i := 0) (n := 1) ⟨dX12_paper_0, rfl⟩ rfl ?_
  refine y_iconst (n := 2) (v := 0) ⟨dX12_paper_1, rfl⟩ ki_0 ?_
  refine y_putI (n := 5) ⟨dX12_paper_2, rfl⟩ kfX12_214 l_66 (by decide +kernel) rfl ?_
  refine y_iload_n (i := 1) (n := 6) ⟨dX12_paper_5, rfl⟩ rfl ?_
  refine y_iconst (n := 7) (v := 0) ⟨dX12_paper_6, rfl⟩ ki_0 ?_
  refine y_sipush (n := 10) (v := 999) ⟨dX12_paper_7, rfl⟩ ks_999 ?_
  refine c_mo_within a1 0 999 (sI M 66 0 0) (n := 13) ⟨dX12_paper_10, rfl⟩ klX12_221 rfl (by decide) (Nat.le_of_ble_eq_true rfl) rfl rfl ?_
  refine y_if_eq (t := 25) (n := 16) ⟨dX12_paper_13, rfl, rfl⟩ (fun h0 => ?_) (fun h0 => ?_)
  · have hc := bI_0 h0
    replace hf := i_f hc hf
    refine y_iconst (n := 26) (v := 0) ⟨dX12_paper_25, rfl⟩ ki_0 ?_
    cases hf
    exact y_ireturn (n := 27) ⟨dX12_paper_26, rfl⟩ rfl rfl hk
  · have hc := bI_1 h0
    replace hf := i_t hc hf
    refine y_aload_n (i := 0) (n := 17) ⟨dX12_paper_16, rfl⟩ rfl ?_
    refine y_getI (n := 20) ⟨dX12_paper_17, rfl⟩ kfX12_545 l_66 rfl ?_
    refine y_bipush (n := 22) (v := 40) ⟨dX12_paper_20, rfl⟩ kb_40 ?_
    refine y_icmp_ne (t := 27) (n := 25) ⟨dX12_paper_22, rfl, rfl⟩ (fun (hc : ¬ ((gI (sI M 66 0 0) 66 77) = 40)) => ?_) (fun (hc : (gI (sI M 66 0 0) 66 77) = 40) => ?_)
    · replace hf := i_f hc hf
      refine y_aload_n (i := 0) (n := 28) ⟨dX12_paper_27, rfl⟩ rfl ?_
      refine y_getR (n := 31) ⟨dX12_paper_28, rfl⟩ kfX12_150 l_66 rfl r_66_78 ?_
      refine y_aload_n (i := 0) (n := 32) ⟨dX12_paper_31, rfl⟩ rfl ?_
      refine y_getI (n := 35) ⟨dX12_paper_32, rfl⟩ kfX12_545 l_66 rfl ?_
      refine y_iload_n (i := 1) (n := 36) ⟨dX12_paper_35, rfl⟩ rfl ?_
      obtain ⟨hg1, hf⟩ := g_s hf
      refine y_iastore (n := 37) ⟨dX12_paper_36, rfl⟩ l_113 hg1 ?_
      refine y_aload_n (i := 0) (n := 38) ⟨dX12_paper_37, rfl⟩ rfl ?_
      refine y_dup_r (n := 39) ⟨dX12_paper_38, rfl⟩ ?_
      refine y_getI (n := 42) ⟨dX12_paper_39, rfl⟩ kfX12_545 l_66 rfl ?_
      refine y_iconst (n := 43) (v := 1) ⟨dX12_paper_42, rfl⟩ ki_1 ?_
      refine y_iadd (n := 44) ⟨dX12_paper_43, rfl⟩ ?_
      refine y_putI (n := 47) ⟨dX12_paper_44, rfl⟩ kfX12_545 l_66 (by decide +kernel) rfl ?_
      refine y_iconst (n := 48) (v := 1) ⟨dX12_paper_47, rfl⟩ ki_1 ?_
      cases hf
      exact y_ireturn (n := 49) ⟨dX12_paper_48, rfl⟩ rfl rfl hk
    · replace hf := i_t hc hf
      refine y_iconst (n := 26) (v := 0) ⟨dX12_paper_25, rfl⟩ ki_0 ?_
      cases hf
      exact y_ireturn (n := 27) ⟨dX12_paper_26, rfl⟩ rfl rfl hk
theorem c_mo_paper (a1 : Int32) (M : dM) {o : (Bool × dM)} {y : mz_M} {d : Nat} {Q : mz_P} {pc n i : Nat} {L : List (Option Value)} {st : List Value} (h : mz_d y.2.1 pc n 3 (.invokevirtual i)) (hl : mz_ml y.1.cls i yX12_paper) (hf : f_mo_paper a1 M = some o) (hd : 2 + 1 ≤ d) (hsm : (st.map (fun v => v.category)).sum ≤ 8) (hLr : mz_rL 133 L = true) (hSr : mz_rS 133 st = true) (kk : mW y d Q n L (.int (bI o.1) :: st) o.2) : mW y d Q pc L (.int a1 :: .ref 66 :: st) M :=
  y_callV kmX12_paper kvX12_paper l_66 (by decide +kernel) (by decide +kernel) h hl (ok_mo_paper a1 M hf) (vs := [.int a1]) rfl rfl hd hsm hLr hSr kk
def K_mo_laysDay_2 (Q : mz_P) (x1 : Int32) (M : dM) : ((Int32 × dM) ⊕ dM) → Prop
  | .inl s => mW mX12_laysDay 2 Q 2 [some (.ref 66), some (.int x1), some (.int s.1), none, none] [] s.2
  | .inr t => mW mX12_laysDay 2 Q 21 [some (.ref 66), some (.int x1), none, none, none] [] t
noncomputable def b_mo_laysDay_2_2 (x1 : Int32) (x2 : Int32) (M : dM) : Option ((Int32 × dM) ⊕ dM) :=
  if 9 ≤ x2 then
    some (.inr M)
  else
    gd (vp_in x2 20) <|
    some (.inl ((x2 + 1), (sI M 100 x2.toNatClampNeg 0)))
noncomputable def l_mo_laysDay_2 (x1 : Int32) (x2 : Int32) (M : dM) : Option dM := lpc (fun s => b_mo_laysDay_2_2 x1 s.1 s.2) (x2, M)
def K_mo_laysDay_30 (Q : mz_P) (x1 : Int32) (M : dM) : ((Int32 × dM) ⊕ dM) → Prop
  | .inl s => mW mX12_laysDay 2 Q 30 [some (.ref 66), some (.int x1), some (.int s.1), none, none] [] s.2
  | .inr t => mW mX12_laysDay 2 Q 256 [some (.ref 66), some (.int x1), none, none, none] [] t
def K_mo_laysDay_56 (Q : mz_P) (x1 : Int32) (x2 : Int32) (M : dM) : ((Int32 × Int32 × dM) ⊕ (Int32 × dM)) → Prop
  | .inl s => mW mX12_laysDay 2 Q 56 [some (.ref 66), some (.int x1), some (.int x2), some (.int s.1), some (.int s.2.1)] [] s.2.2
  | .inr t => mW mX12_laysDay 2 Q 139 [some (.ref 66), some (.int x1), some (.int x2), some (.int t.1), none] [] t.2
noncomputable def b_mo_laysDay_56_131 (x1 : Int32) (x2 : Int32) (x3 : Int32) (x4 : Int32) (y1 : Int32) (y2 : Int32) (y3 : Int32) (M : dM) : Option ((Int32 × Int32 × dM) ⊕ (Int32 × dM)) :=
  gd (vp_in y1 20) <|
  some (.inl (x3, (x4 + 1), (sI M 100 y1.toNatClampNeg (y2 + y3))))
noncomputable def b_mo_laysDay_56_130 (x1 : Int32) (x2 : Int32) (x3 : Int32) (x4 : Int32) (y1 : Int32) (y2 : Int32) (M : dM) : Option ((Int32 × Int32 × dM) ⊕ (Int32 × dM)) :=
  b_mo_laysDay_56_131 x1 x2 x3 x4 y1 y2 0 M
noncomputable def b_mo_laysDay_56_101 (x1 : Int32) (x2 : Int32) (x4 : Int32) (y0 : Int32) (y1 : Int32) (M : dM) : Option ((Int32 × Int32 × dM) ⊕ (Int32 × dM)) :=
  if x2 ≤ x4 then
    b_mo_laysDay_56_130 x1 x2 (y0 + y1) x4 5 (gI M 100 5) M
  else
    (f_mo_isTwin x2 x4 M).bind fun v9 =>
    if v9 = true then
      b_mo_laysDay_56_131 x1 x2 (y0 + y1) x4 5 (gI M 100 5) 1 M
    else
      b_mo_laysDay_56_130 x1 x2 (y0 + y1) x4 5 (gI M 100 5) M
noncomputable def b_mo_laysDay_56_56 (x1 : Int32) (x2 : Int32) (x3 : Int32) (x4 : Int32) (M : dM) : Option ((Int32 × Int32 × dM) ⊕ (Int32 × dM)) :=
  if (gI M 66 9) ≤ x4 then
    some (.inr (x3, M))
  else
    gd (vp_in x4 40) <|
    if (gI M 76 x4.toNatClampNeg) ≤ x1 then
      gd (vp_in x2 40) <|
      if (gI M 78 x4.toNatClampNeg) = (gI M 78 x2.toNatClampNeg) then
        b_mo_laysDay_56_101 x1 x2 x4 x3 1 M
      else
        b_mo_laysDay_56_101 x1 x2 x4 x3 0 M
    else
      some (.inl (x3, (x4 + 1), M))
noncomputable def l_mo_laysDay_56 (x1 : Int32) (x2 : Int32) (x3 : Int32) (x4 : Int32) (M : dM) : Option (Int32 × dM) := lpc (fun s => b_mo_laysDay_56_56 x1 x2 s.1 s.2.1 s.2.2) (x3, x4, M)
noncomputable def b_mo_laysDay_30_248 (x1 : Int32) (x2 : Int32) (y1 : Int32) (y2 : Int32) (y3 : Int32) (M : dM) : Option ((Int32 × dM) ⊕ dM) :=
  gd (vp_in y1 20) <|
  some (.inl ((x2 + 1), (sI M 100 y1.toNatClampNeg (y2 + y3))))
noncomputable def b_mo_laysDay_30_225 (x1 : Int32) (x2 : Int32) (y1 : Int32) (y2 : Int32) (M : dM) : Option ((Int32 × dM) ⊕ dM) :=
  gd (vp_in y1 20) <|
  gd (vp_in x2 40) <|
  if (gI (sI M 100 y1.toNatClampNeg y2) 114 x2.toNatClampNeg) ≤ 0 then
    b_mo_laysDay_30_248 x1 x2 7 (gI (sI M 100 y1.toNatClampNeg y2) 100 7) 0 (sI M 100 y1.toNatClampNeg y2)
  else
    b_mo_laysDay_30_248 x1 x2 7 (gI (sI M 100 y1.toNatClampNeg y2) 100 7) 1 (sI M 100 y1.toNatClampNeg y2)
noncomputable def b_mo_laysDay_30_195 (x1 : Int32) (x2 : Int32) (x3 : Int32) (y1 : Int32) (y2 : Int32) (y3 : Int32) (M : dM) : Option ((Int32 × dM) ⊕ dM) :=
  gd (vp_in y1 20) <|
  if x3 ≤ (gI (sI M 100 y1.toNatClampNeg (y2 + y3)) 100 6) then
    b_mo_laysDay_30_225 x1 x2 6 (gI (sI M 100 y1.toNatClampNeg (y2 + y3)) 100 6) (sI M 100 y1.toNatClampNeg (y2 + y3))
  else
    b_mo_laysDay_30_225 x1 x2 6 x3 (sI M 100 y1.toNatClampNeg (y2 + y3))
noncomputable def b_mo_laysDay_30_171 (x1 : Int32) (x2 : Int32) (x3 : Int32) (y1 : Int32) (y2 : Int32) (y3 : Int32) (M : dM) : Option ((Int32 × dM) ⊕ dM) :=
  gd (vp_in y1 20) <|
  gd (vp_in x2 40) <|
  if (gI (sI M 100 y1.toNatClampNeg (y2 + y3)) 104 x2.toNatClampNeg) = 1 then
    b_mo_laysDay_30_195 x1 x2 x3 4 (gI (sI M 100 y1.toNatClampNeg (y2 + y3)) 100 4) 1 (sI M 100 y1.toNatClampNeg (y2 + y3))
  else
    b_mo_laysDay_30_195 x1 x2 x3 4 (gI (sI M 100 y1.toNatClampNeg (y2 + y3)) 100 4) 0 (sI M 100 y1.toNatClampNeg (y2 + y3))
noncomputable def b_mo_laysDay_30_30 (x1 : Int32) (x2 : Int32) (M : dM) : Option ((Int32 × dM) ⊕ dM) :=
  if (gI M 66 9) ≤ x2 then
    some (.inr M)
  else
    gd (vp_in x2 40) <|
    if (gI M 76 x2.toNatClampNeg) ≤ x1 then
      (l_mo_laysDay_56 x1 x2 0 0 M).bind fun t11 =>
        if (gI (sI t11.2 100 2 ((gI t11.2 100 2) + 1)) 104 x2.toNatClampNeg) = 2 then
          b_mo_laysDay_30_171 x1 x2 t11.1 3 (gI (sI t11.2 100 2 ((gI t11.2 100 2) + 1)) 100 3) 1 (sI t11.2 100 2 ((gI t11.2 100 2) + 1))
        else
          b_mo_laysDay_30_171 x1 x2 t11.1 3 (gI (sI t11.2 100 2 ((gI t11.2 100 2) + 1)) 100 3) 0 (sI t11.2 100 2 ((gI t11.2 100 2) + 1))
    else
      some (.inl ((x2 + 1), M))
noncomputable def l_mo_laysDay_30 (x1 : Int32) (x2 : Int32) (M : dM) : Option dM := lpc (fun s => b_mo_laysDay_30_30 x1 s.1 s.2) (x2, M)
def K_mo_laysDay_258 (Q : mz_P) (x1 : Int32) (M : dM) : ((Int32 × dM) ⊕ dM) → Prop
  | .inl s => mW mX12_laysDay 2 Q 258 [some (.ref 66), some (.int x1), some (.int s.1), none, none] [] s.2
  | .inr r => mR Q none r
noncomputable def b_mo_laysDay_258_289 (x1 : Int32) (x2 : Int32) (y1 : Int32) (y2 : Int32) (y3 : Int32) (M : dM) : Option ((Int32 × dM) ⊕ dM) :=
  gd (vp_in y1 20) <|
  some (.inl ((x2 + 1), (sI M 100 y1.toNatClampNeg (y2 + y3))))
noncomputable def b_mo_laysDay_258_258 (x1 : Int32) (x2 : Int32) (M : dM) : Option ((Int32 × dM) ⊕ dM) :=
  if (gI M 66 77) ≤ x2 then
    some (.inr M)
  else
    gd (vp_in x2 40) <|
    if x1 < (gI M 113 x2.toNatClampNeg) then
      b_mo_laysDay_258_289 x1 x2 8 (gI M 100 8) 0 M
    else
      b_mo_laysDay_258_289 x1 x2 8 (gI M 100 8) 1 M
noncomputable def l_mo_laysDay_258 (x1 : Int32) (x2 : Int32) (M : dM) : Option dM := lpc (fun s => b_mo_laysDay_258_258 x1 s.1 s.2) (x2, M)
noncomputable def f_mo_laysDay (a1 : Int32) (M : dM) : Option dM :=
  (l_mo_laysDay_2 a1 1 M).bind fun t2 =>
    (l_mo_laysDay_30 a1 0 (sI t2 100 1 a1)).bind fun t20 =>
      (l_mo_laysDay_258 a1 0 t20).bind fun r27 => some r27
theorem w_b_mo_laysDay_2_2 (x1 : Int32) (x2 : Int32) (M : dM) {Q : mz_P} {o : ((Int32 × dM) ⊕ dM)} (hf : b_mo_laysDay_2_2 x1 x2 M = some o) (hk : K_mo_laysDay_2 Q x1 M o) : mW mX12_laysDay 2 Q 2 [some (.ref 66), some (.int x1), some (.int x2), none, none] [] M := by
  unfold b_mo_laysDay_2_2 at hf
  refine y_iload_n (i := 2) (n := 3) ⟨dX12_laysDay_2, rfl⟩ rfl ?_
  refine y_bipush (n := 5) (v := 9) ⟨dX12_laysDay_3, rfl⟩ kb_9 ?_
  refine y_icmp_ge (t := 21) (n := 8) ⟨dX12_laysDay_5, rfl, rfl⟩ (fun (hc : 9 ≤ x2) => ?_) (fun (hc : ¬ (9 ≤ x2)) => ?_)
  · replace hf := i_t hc hf
    cases hf
    exact y_wk ⟨Or.inr rfl, Or.inr rfl, Or.inl rfl, Or.inr rfl, Or.inr rfl, trivial⟩ hk
  · replace hf := i_f hc hf
    refine y_aload_n (i := 0) (n := 9) ⟨dX12_laysDay_8, rfl⟩ rfl ?_
    refine y_getR (n := 12) ⟨dX12_laysDay_9, rfl⟩ kfX12_110 l_66 rfl r_66_50 ?_
    refine y_iload_n (i := 2) (n := 13) ⟨dX12_laysDay_12, rfl⟩ rfl ?_
    refine y_iconst (n := 14) (v := 0) ⟨dX12_laysDay_13, rfl⟩ ki_0 ?_
    obtain ⟨hg1, hf⟩ := g_s hf
    refine y_iastore (n := 15) ⟨dX12_laysDay_14, rfl⟩ l_100 hg1 ?_
    refine y_iinc (i := 2) (n := 18) (b := (x2 + 1)) (L2 := [some (.ref 66), some (.int x1), some (.int (x2 + 1)), none, none]) ⟨dX12_laysDay_15, rfl⟩ rfl (by rw [ki_1]) (by decide) rfl rfl ?_
    refine y_goto (t := 2) ⟨dX12_laysDay_18, rfl, rfl⟩ ?_
    cases hf
    exact y_wk ⟨Or.inr rfl, Or.inr rfl, Or.inr rfl, Or.inr rfl, Or.inr rfl, trivial⟩ hk
theorem wl_mo_laysDay_2 (x1 : Int32) (x2 : Int32) (M : dM) {Q : mz_P} {x : dM} (hf : l_mo_laysDay_2 x1 x2 M = some x) (hk : K_mo_laysDay_2 Q x1 M (.inr x)) : mW mX12_laysDay 2 Q 2 [some (.ref 66), some (.int x1), some (.int x2), none, none] [] M :=
  lpc_wp (Wh := fun s => mW mX12_laysDay 2 Q 2 [some (.ref 66), some (.int x1), some (.int s.1), none, none] [] s.2) (K := K_mo_laysDay_2 Q x1 M) (fun _ h => h) (fun s o hb hk => w_b_mo_laysDay_2_2 x1 s.1 s.2 hb hk) hf hk
theorem w_b_mo_laysDay_56_131 (x1 : Int32) (x2 : Int32) (x3 : Int32) (x4 : Int32) (y1 : Int32) (y2 : Int32) (y3 : Int32) (M : dM) {Q : mz_P} {o : ((Int32 × Int32 × dM) ⊕ (Int32 × dM))} (hf : b_mo_laysDay_56_131 x1 x2 x3 x4 y1 y2 y3 M = some o) (hk : K_mo_laysDay_56 Q x1 x2 M o) : mW mX12_laysDay 2 Q 131 [some (.ref 66), some (.int x1), some (.int x2), some (.int x3), some (.int x4)] [.ref 100, .int y1, .int y2, .int y3] M := by
  unfold b_mo_laysDay_56_131 at hf
  refine y_iadd (n := 132) ⟨dX12_laysDay_131, rfl⟩ ?_
  obtain ⟨hg8, hf⟩ := g_s hf
  refine y_iastore (n := 133) ⟨dX12_laysDay_132, rfl⟩ l_100 hg8 ?_
  refine y_iinc (i := 4) (n := 136) (b := (x4 + 1)) (L2 := [some (.ref 66), some (.int x1), some (.int x2), some (.int x3), some (.int (x4 + 1))]) ⟨dX12_laysDay_133, rfl⟩ rfl (by rw [ki_1]) (by decide) rfl rfl ?_
  refine y_goto (t := 56) ⟨dX12_laysDay_136, rfl, rfl⟩ ?_
  cases hf
  exact y_wk ⟨Or.inr rfl, Or.inr rfl, Or.inr rfl, Or.inr rfl, Or.inr rfl, trivial⟩ hk
theorem w_b_mo_laysDay_56_130 (x1 : Int32) (x2 : Int32) (x3 : Int32) (x4 : Int32) (y1 : Int32) (y2 : Int32) (M : dM) {Q : mz_P} {o : ((Int32 × Int32 × dM) ⊕ (Int32 × dM))} (hf : b_mo_laysDay_56_130 x1 x2 x3 x4 y1 y2 M = some o) (hk : K_mo_laysDay_56 Q x1 x2 M o) : mW mX12_laysDay 2 Q 130 [some (.ref 66), some (.int x1), some (.int x2), some (.int x3), some (.int x4)] [.ref 100, .int y1, .int y2] M := by
  unfold b_mo_laysDay_56_130 at hf
  refine y_iconst (n := 131) (v := 0) ⟨dX12_laysDay_130, rfl⟩ ki_0 ?_
  exact y_wk ⟨Or.inr rfl, Or.inr rfl, Or.inr rfl, Or.inr rfl, Or.inr rfl, trivial⟩ (w_b_mo_laysDay_56_131 x1 x2 x3 x4 y1 y2 0 M hf hk)
theorem w_b_mo_laysDay_56_101 (x1 : Int32) (x2 : Int32) (x4 : Int32) (y0 : Int32) (y1 : Int32) (M : dM) {Q : mz_P} {o : ((Int32 × Int32 × dM) ⊕ (Int32 × dM))} (hf : b_mo_laysDay_56_101 x1 x2 x4 y0 y1 M = some o) (hk : K_mo_laysDay_56 Q x1 x2 M o) : mW mX12_laysDay 2 Q 101 [some (.ref 66), some (.int x1), some (.int x2), none, some (.int x4)] [.int y0, .int y1] M := by
  unfold b_mo_laysDay_56_101 at hf
  refine y_iadd (n := 102) ⟨dX12_laysDay_101, rfl⟩ ?_
  refine y_istore_n (i := 3) (n := 103) (L2 := [some (.ref 66), some (.int x1), some (.int x2), some (.int (y0 + y1)), some (.int x4)]) ⟨dX12_laysDay_102, rfl⟩ (by decide) rfl rfl ?_
  refine y_aload_n (i := 0) (n := 104) ⟨dX12_laysDay_103, rfl⟩ rfl ?_
  refine y_getR (n := 107) ⟨dX12_laysDay_104, rfl⟩ kfX12_110 l_66 rfl r_66_50 ?_
  refine y_iconst (n := 108) (v := 5) ⟨dX12_laysDay_107, rfl⟩ ki_5 ?_
  refine y_dup2 (n := 109) ⟨dX12_laysDay_108, rfl⟩ ?_
  refine y_iaload (n := 110) ⟨dX12_laysDay_109, rfl⟩ l_100 (by unfold vp_in; decide) ?_
  refine y_iload (i := 4) (n := 112) ⟨dX12_laysDay_110, rfl⟩ rfl ?_
  refine y_iload_n (i := 2) (n := 113) ⟨dX12_laysDay_112, rfl⟩ rfl ?_
  refine y_icmp_ge (t := 130) (n := 116) ⟨dX12_laysDay_113, rfl, rfl⟩ (fun (hc : x2 ≤ x4) => ?_) (fun (hc : ¬ (x2 ≤ x4)) => ?_)
  · replace hf := i_t hc hf
    exact y_wk ⟨Or.inr rfl, Or.inr rfl, Or.inr rfl, Or.inr rfl, Or.inr rfl, trivial⟩ (w_b_mo_laysDay_56_130 x1 x2 (y0 + y1) x4 5 (gI M 100 5) M hf hk)
  · replace hf := i_f hc hf
    refine y_aload_n (i := 0) (n := 117) ⟨dX12_laysDay_116, rfl⟩ rfl ?_
    refine y_iload_n (i := 2) (n := 118) ⟨dX12_laysDay_117, rfl⟩ rfl ?_
    refine y_iload (i := 4) (n := 120) ⟨dX12_laysDay_118, rfl⟩ rfl ?_
    obtain ⟨v9, hv10, hf⟩ := b_s hf
    refine c_mo_isTwin x2 x4 M (n := 123) ⟨dX12_laysDay_120, rfl⟩ klX12_245 hv10 (by decide) (Nat.le_of_ble_eq_true rfl) rfl rfl ?_
    refine y_if_eq (t := 130) (n := 126) ⟨dX12_laysDay_123, rfl, rfl⟩ (fun h0 => ?_) (fun h0 => ?_)
    · have hc := bI_0 h0
      replace hf := i_f hc hf
      exact y_wk ⟨Or.inr rfl, Or.inr rfl, Or.inr rfl, Or.inr rfl, Or.inr rfl, trivial⟩ (w_b_mo_laysDay_56_130 x1 x2 (y0 + y1) x4 5 (gI M 100 5) M hf hk)
    · have hc := bI_1 h0
      replace hf := i_t hc hf
      refine y_iconst (n := 127) (v := 1) ⟨dX12_laysDay_126, rfl⟩ ki_1 ?_
      refine y_goto (t := 131) ⟨dX12_laysDay_127, rfl, rfl⟩ ?_
      exact y_wk ⟨Or.inr rfl, Or.inr rfl, Or.inr rfl, Or.inr rfl, Or.inr rfl, trivial⟩ (w_b_mo_laysDay_56_131 x1 x2 (y0 + y1) x4 5 (gI M 100 5) 1 M hf hk)
theorem w_b_mo_laysDay_56_56 (x1 : Int32) (x2 : Int32) (x3 : Int32) (x4 : Int32) (M : dM) {Q : mz_P} {o : ((Int32 × Int32 × dM) ⊕ (Int32 × dM))} (hf : b_mo_laysDay_56_56 x1 x2 x3 x4 M = some o) (hk : K_mo_laysDay_56 Q x1 x2 M o) : mW mX12_laysDay 2 Q 56 [some (.ref 66), some (.int x1), some (.int x2), some (.int x3), some (.int x4)] [] M := by
  unfold b_mo_laysDay_56_56 at hf
  refine y_iload (i := 4) (n := 58) ⟨dX12_laysDay_56, rfl⟩ rfl ?_
  refine y_aload_n (i := 0) (n := 59) ⟨dX12_laysDay_58, rfl⟩ rfl ?_
  refine y_getI (n := 62) ⟨dX12_laysDay_59, rfl⟩ kfX12_235 l_66 rfl ?_
  refine y_icmp_ge (t := 139) (n := 65) ⟨dX12_laysDay_62, rfl, rfl⟩ (fun (hc : (gI M 66 9) ≤ x4) => ?_) (fun (hc : ¬ ((gI M 66 9) ≤ x4)) => ?_)
  · replace hf := i_t hc hf
    cases hf
    exact y_wk ⟨Or.inr rfl, Or.inr rfl, Or.inr rfl, Or.inr rfl, Or.inl rfl, trivial⟩ hk
  · replace hf := i_f hc hf
    refine y_aload_n (i := 0) (n := 66) ⟨dX12_laysDay_65, rfl⟩ rfl ?_
    refine y_getR (n := 69) ⟨dX12_laysDay_66, rfl⟩ kfX12_37 l_66 rfl r_66_12 ?_
    refine y_iload (i := 4) (n := 71) ⟨dX12_laysDay_69, rfl⟩ rfl ?_
    obtain ⟨hg6, hf⟩ := g_s hf
    refine y_iaload (n := 72) ⟨dX12_laysDay_71, rfl⟩ l_76 hg6 ?_
    refine y_iload_n (i := 1) (n := 73) ⟨dX12_laysDay_72, rfl⟩ rfl ?_
    refine y_icmp_le (t := 79) (n := 76) ⟨dX12_laysDay_73, rfl, rfl⟩ (fun (hc : (gI M 76 x4.toNatClampNeg) ≤ x1) => ?_) (fun (hc : ¬ ((gI M 76 x4.toNatClampNeg) ≤ x1)) => ?_)
    · replace hf := i_t hc hf
      refine y_iload_n (i := 3) (n := 80) ⟨dX12_laysDay_79, rfl⟩ rfl ?_
      refine y_aload_n (i := 0) (n := 81) ⟨dX12_laysDay_80, rfl⟩ rfl ?_
      refine y_getR (n := 84) ⟨dX12_laysDay_81, rfl⟩ kfX12_43 l_66 rfl r_66_14 ?_
      refine y_iload (i := 4) (n := 86) ⟨dX12_laysDay_84, rfl⟩ rfl ?_
      refine y_iaload (n := 87) ⟨dX12_laysDay_86, rfl⟩ l_78 hg6 ?_
      refine y_aload_n (i := 0) (n := 88) ⟨dX12_laysDay_87, rfl⟩ rfl ?_
      refine y_getR (n := 91) ⟨dX12_laysDay_88, rfl⟩ kfX12_43 l_66 rfl r_66_14 ?_
      refine y_iload_n (i := 2) (n := 92) ⟨dX12_laysDay_91, rfl⟩ rfl ?_
      obtain ⟨hg7, hf⟩ := g_s hf
      refine y_iaload (n := 93) ⟨dX12_laysDay_92, rfl⟩ l_78 hg7 ?_
      refine y_icmp_ne (t := 100) (n := 96) ⟨dX12_laysDay_93, rfl, rfl⟩ (fun (hc : ¬ ((gI M 78 x4.toNatClampNeg) = (gI M 78 x2.toNatClampNeg))) => ?_) (fun (hc : (gI M 78 x4.toNatClampNeg) = (gI M 78 x2.toNatClampNeg)) => ?_)
      · replace hf := i_f hc hf
        refine y_iconst (n := 101) (v := 0) ⟨dX12_laysDay_100, rfl⟩ ki_0 ?_
        exact y_wk ⟨Or.inr rfl, Or.inr rfl, Or.inr rfl, Or.inl rfl, Or.inr rfl, trivial⟩ (w_b_mo_laysDay_56_101 x1 x2 x4 x3 0 M hf hk)
      · replace hf := i_t hc hf
        refine y_iconst (n := 97) (v := 1) ⟨dX12_laysDay_96, rfl⟩ ki_1 ?_
        refine y_goto (t := 101) ⟨dX12_laysDay_97, rfl, rfl⟩ ?_
        exact y_wk ⟨Or.inr rfl, Or.inr rfl, Or.inr rfl, Or.inl rfl, Or.inr rfl, trivial⟩ (w_b_mo_laysDay_56_101 x1 x2 x4 x3 1 M hf hk)
    · replace hf := i_f hc hf
      refine y_goto (t := 133) ⟨dX12_laysDay_76, rfl, rfl⟩ ?_
      refine y_iinc (i := 4) (n := 136) (b := (x4 + 1)) (L2 := [some (.ref 66), some (.int x1), some (.int x2), some (.int x3), some (.int (x4 + 1))]) ⟨dX12_laysDay_133, rfl⟩ rfl (by rw [ki_1]) (by decide) rfl rfl ?_
      refine y_goto (t := 56) ⟨dX12_laysDay_136, rfl, rfl⟩ ?_
      cases hf
      exact y_wk ⟨Or.inr rfl, Or.inr rfl, Or.inr rfl, Or.inr rfl, Or.inr rfl, trivial⟩ hk
theorem wl_mo_laysDay_56 (x1 : Int32) (x2 : Int32) (x3 : Int32) (x4 : Int32) (M : dM) {Q : mz_P} {x : (Int32 × dM)} (hf : l_mo_laysDay_56 x1 x2 x3 x4 M = some x) (hk : K_mo_laysDay_56 Q x1 x2 M (.inr x)) : mW mX12_laysDay 2 Q 56 [some (.ref 66), some (.int x1), some (.int x2), some (.int x3), some (.int x4)] [] M :=
  lpc_wp (Wh := fun s => mW mX12_laysDay 2 Q 56 [some (.ref 66), some (.int x1), some (.int x2), some (.int s.1), some (.int s.2.1)] [] s.2.2) (K := K_mo_laysDay_56 Q x1 x2 M) (fun _ h => h) (fun s o hb hk => w_b_mo_laysDay_56_56 x1 x2 s.1 s.2.1 s.2.2 hb hk) hf hk
theorem w_b_mo_laysDay_30_248 (x1 : Int32) (x2 : Int32) (y1 : Int32) (y2 : Int32) (y3 : Int32) (M : dM) {Q : mz_P} {o : ((Int32 × dM) ⊕ dM)} (hf : b_mo_laysDay_30_248 x1 x2 y1 y2 y3 M = some o) (hk : K_mo_laysDay_30 Q x1 M o) : mW mX12_laysDay 2 Q 248 [some (.ref 66), some (.int x1), some (.int x2), none, none] [.ref 100, .int y1, .int y2, .int y3] M := by
  unfold b_mo_laysDay_30_248 at hf
  refine y_iadd (n := 249) ⟨dX12_laysDay_248, rfl⟩ ?_
  obtain ⟨hg19, hf⟩ := g_s hf
  refine y_iastore (n := 250) ⟨dX12_laysDay_249, rfl⟩ l_100 hg19 ?_
  refine y_iinc (i := 2) (n := 253) (b := (x2 + 1)) (L2 := [some (.ref 66), some (.int x1), some (.int (x2 + 1)), none, none]) ⟨dX12_laysDay_250, rfl⟩ rfl (by rw [ki_1]) (by decide) rfl rfl ?_
  refine y_goto (t := 30) ⟨dX12_laysDay_253, rfl, rfl⟩ ?_
  cases hf
  exact y_wk ⟨Or.inr rfl, Or.inr rfl, Or.inr rfl, Or.inr rfl, Or.inr rfl, trivial⟩ hk
theorem w_b_mo_laysDay_30_225 (x1 : Int32) (x2 : Int32) (y1 : Int32) (y2 : Int32) (M : dM) {Q : mz_P} {o : ((Int32 × dM) ⊕ dM)} (hf : b_mo_laysDay_30_225 x1 x2 y1 y2 M = some o) (hk : K_mo_laysDay_30 Q x1 M o) : mW mX12_laysDay 2 Q 225 [some (.ref 66), some (.int x1), some (.int x2), none, none] [.ref 100, .int y1, .int y2] M := by
  unfold b_mo_laysDay_30_225 at hf
  obtain ⟨hg17, hf⟩ := g_s hf
  refine y_iastore (n := 226) ⟨dX12_laysDay_225, rfl⟩ l_100 hg17 ?_
  refine y_aload_n (i := 0) (n := 227) ⟨dX12_laysDay_226, rfl⟩ rfl ?_
  refine y_getR (n := 230) ⟨dX12_laysDay_227, rfl⟩ kfX12_110 l_66 rfl r_66_50 ?_
  refine y_bipush (n := 232) (v := 7) ⟨dX12_laysDay_230, rfl⟩ kb_7 ?_
  refine y_dup2 (n := 233) ⟨dX12_laysDay_232, rfl⟩ ?_
  refine y_iaload (n := 234) ⟨dX12_laysDay_233, rfl⟩ l_100 (by unfold vp_in; decide) ?_
  refine y_aload_n (i := 0) (n := 235) ⟨dX12_laysDay_234, rfl⟩ rfl ?_
  refine y_getR (n := 238) ⟨dX12_laysDay_235, rfl⟩ kfX12_153 l_66 rfl r_66_79 ?_
  refine y_iload_n (i := 2) (n := 239) ⟨dX12_laysDay_238, rfl⟩ rfl ?_
  obtain ⟨hg18, hf⟩ := g_s hf
  refine y_iaload (n := 240) ⟨dX12_laysDay_239, rfl⟩ l_114 hg18 ?_
  refine y_if_le (t := 247) (n := 243) ⟨dX12_laysDay_240, rfl, rfl⟩ (fun (hc : (gI (sI M 100 y1.toNatClampNeg y2) 114 x2.toNatClampNeg) ≤ 0) => ?_) (fun (hc : ¬ ((gI (sI M 100 y1.toNatClampNeg y2) 114 x2.toNatClampNeg) ≤ 0)) => ?_)
  · replace hf := i_t hc hf
    refine y_iconst (n := 248) (v := 0) ⟨dX12_laysDay_247, rfl⟩ ki_0 ?_
    exact y_wk ⟨Or.inr rfl, Or.inr rfl, Or.inr rfl, Or.inr rfl, Or.inr rfl, trivial⟩ (w_b_mo_laysDay_30_248 x1 x2 7 (gI (sI M 100 y1.toNatClampNeg y2) 100 7) 0 (sI M 100 y1.toNatClampNeg y2) hf hk)
  · replace hf := i_f hc hf
    refine y_iconst (n := 244) (v := 1) ⟨dX12_laysDay_243, rfl⟩ ki_1 ?_
    refine y_goto (t := 248) ⟨dX12_laysDay_244, rfl, rfl⟩ ?_
    exact y_wk ⟨Or.inr rfl, Or.inr rfl, Or.inr rfl, Or.inr rfl, Or.inr rfl, trivial⟩ (w_b_mo_laysDay_30_248 x1 x2 7 (gI (sI M 100 y1.toNatClampNeg y2) 100 7) 1 (sI M 100 y1.toNatClampNeg y2) hf hk)
theorem w_b_mo_laysDay_30_195 (x1 : Int32) (x2 : Int32) (x3 : Int32) (y1 : Int32) (y2 : Int32) (y3 : Int32) (M : dM) {Q : mz_P} {o : ((Int32 × dM) ⊕ dM)} (hf : b_mo_laysDay_30_195 x1 x2 x3 y1 y2 y3 M = some o) (hk : K_mo_laysDay_30 Q x1 M o) : mW mX12_laysDay 2 Q 195 [some (.ref 66), some (.int x1), some (.int x2), some (.int x3), none] [.ref 100, .int y1, .int y2, .int y3] M := by
  unfold b_mo_laysDay_30_195 at hf
  refine y_iadd (n := 196) ⟨dX12_laysDay_195, rfl⟩ ?_
  obtain ⟨hg16, hf⟩ := g_s hf
  refine y_iastore (n := 197) ⟨dX12_laysDay_196, rfl⟩ l_100 hg16 ?_
  refine y_aload_n (i := 0) (n := 198) ⟨dX12_laysDay_197, rfl⟩ rfl ?_
  refine y_getR (n := 201) ⟨dX12_laysDay_198, rfl⟩ kfX12_110 l_66 rfl r_66_50 ?_
  refine y_bipush (n := 203) (v := 6) ⟨dX12_laysDay_201, rfl⟩ kb_6 ?_
  refine y_iload_n (i := 3) (n := 204) ⟨dX12_laysDay_203, rfl⟩ rfl ?_
  refine y_aload_n (i := 0) (n := 205) ⟨dX12_laysDay_204, rfl⟩ rfl ?_
  refine y_getR (n := 208) ⟨dX12_laysDay_205, rfl⟩ kfX12_110 l_66 rfl r_66_50 ?_
  refine y_bipush (n := 210) (v := 6) ⟨dX12_laysDay_208, rfl⟩ kb_6 ?_
  refine y_iaload (n := 211) ⟨dX12_laysDay_210, rfl⟩ l_100 (by unfold vp_in; decide) ?_
  refine y_icmp_le (t := 218) (n := 214) ⟨dX12_laysDay_211, rfl, rfl⟩ (fun (hc : x3 ≤ (gI (sI M 100 y1.toNatClampNeg (y2 + y3)) 100 6)) => ?_) (fun (hc : ¬ (x3 ≤ (gI (sI M 100 y1.toNatClampNeg (y2 + y3)) 100 6))) => ?_)
  · replace hf := i_t hc hf
    refine y_aload_n (i := 0) (n := 219) ⟨dX12_laysDay_218, rfl⟩ rfl ?_
    refine y_getR (n := 222) ⟨dX12_laysDay_219, rfl⟩ kfX12_110 l_66 rfl r_66_50 ?_
    refine y_bipush (n := 224) (v := 6) ⟨dX12_laysDay_222, rfl⟩ kb_6 ?_
    refine y_iaload (n := 225) ⟨dX12_laysDay_224, rfl⟩ l_100 (by unfold vp_in; decide) ?_
    exact y_wk ⟨Or.inr rfl, Or.inr rfl, Or.inr rfl, Or.inl rfl, Or.inr rfl, trivial⟩ (w_b_mo_laysDay_30_225 x1 x2 6 (gI (sI M 100 y1.toNatClampNeg (y2 + y3)) 100 6) (sI M 100 y1.toNatClampNeg (y2 + y3)) hf hk)
  · replace hf := i_f hc hf
    refine y_iload_n (i := 3) (n := 215) ⟨dX12_laysDay_214, rfl⟩ rfl ?_
    refine y_goto (t := 225) ⟨dX12_laysDay_215, rfl, rfl⟩ ?_
    exact y_wk ⟨Or.inr rfl, Or.inr rfl, Or.inr rfl, Or.inl rfl, Or.inr rfl, trivial⟩ (w_b_mo_laysDay_30_225 x1 x2 6 x3 (sI M 100 y1.toNatClampNeg (y2 + y3)) hf hk)
theorem w_b_mo_laysDay_30_171 (x1 : Int32) (x2 : Int32) (x3 : Int32) (y1 : Int32) (y2 : Int32) (y3 : Int32) (M : dM) {Q : mz_P} {o : ((Int32 × dM) ⊕ dM)} (hf : b_mo_laysDay_30_171 x1 x2 x3 y1 y2 y3 M = some o) (hk : K_mo_laysDay_30 Q x1 M o) : mW mX12_laysDay 2 Q 171 [some (.ref 66), some (.int x1), some (.int x2), some (.int x3), none] [.ref 100, .int y1, .int y2, .int y3] M := by
  unfold b_mo_laysDay_30_171 at hf
  refine y_iadd (n := 172) ⟨dX12_laysDay_171, rfl⟩ ?_
  obtain ⟨hg14, hf⟩ := g_s hf
  refine y_iastore (n := 173) ⟨dX12_laysDay_172, rfl⟩ l_100 hg14 ?_
  refine y_aload_n (i := 0) (n := 174) ⟨dX12_laysDay_173, rfl⟩ rfl ?_
  refine y_getR (n := 177) ⟨dX12_laysDay_174, rfl⟩ kfX12_110 l_66 rfl r_66_50 ?_
  refine y_iconst (n := 178) (v := 4) ⟨dX12_laysDay_177, rfl⟩ ki_4 ?_
  refine y_dup2 (n := 179) ⟨dX12_laysDay_178, rfl⟩ ?_
  refine y_iaload (n := 180) ⟨dX12_laysDay_179, rfl⟩ l_100 (by unfold vp_in; decide) ?_
  refine y_aload_n (i := 0) (n := 181) ⟨dX12_laysDay_180, rfl⟩ rfl ?_
  refine y_getR (n := 184) ⟨dX12_laysDay_181, rfl⟩ kfX12_122 l_66 rfl r_66_59 ?_
  refine y_iload_n (i := 2) (n := 185) ⟨dX12_laysDay_184, rfl⟩ rfl ?_
  obtain ⟨hg15, hf⟩ := g_s hf
  refine y_iaload (n := 186) ⟨dX12_laysDay_185, rfl⟩ l_104 hg15 ?_
  refine y_iconst (n := 187) (v := 1) ⟨dX12_laysDay_186, rfl⟩ ki_1 ?_
  refine y_icmp_ne (t := 194) (n := 190) ⟨dX12_laysDay_187, rfl, rfl⟩ (fun (hc : ¬ ((gI (sI M 100 y1.toNatClampNeg (y2 + y3)) 104 x2.toNatClampNeg) = 1)) => ?_) (fun (hc : (gI (sI M 100 y1.toNatClampNeg (y2 + y3)) 104 x2.toNatClampNeg) = 1) => ?_)
  · replace hf := i_f hc hf
    refine y_iconst (n := 195) (v := 0) ⟨dX12_laysDay_194, rfl⟩ ki_0 ?_
    exact y_wk ⟨Or.inr rfl, Or.inr rfl, Or.inr rfl, Or.inr rfl, Or.inr rfl, trivial⟩ (w_b_mo_laysDay_30_195 x1 x2 x3 4 (gI (sI M 100 y1.toNatClampNeg (y2 + y3)) 100 4) 0 (sI M 100 y1.toNatClampNeg (y2 + y3)) hf hk)
  · replace hf := i_t hc hf
    refine y_iconst (n := 191) (v := 1) ⟨dX12_laysDay_190, rfl⟩ ki_1 ?_
    refine y_goto (t := 195) ⟨dX12_laysDay_191, rfl, rfl⟩ ?_
    exact y_wk ⟨Or.inr rfl, Or.inr rfl, Or.inr rfl, Or.inr rfl, Or.inr rfl, trivial⟩ (w_b_mo_laysDay_30_195 x1 x2 x3 4 (gI (sI M 100 y1.toNatClampNeg (y2 + y3)) 100 4) 1 (sI M 100 y1.toNatClampNeg (y2 + y3)) hf hk)
theorem w_b_mo_laysDay_30_30 (x1 : Int32) (x2 : Int32) (M : dM) {Q : mz_P} {o : ((Int32 × dM) ⊕ dM)} (hf : b_mo_laysDay_30_30 x1 x2 M = some o) (hk : K_mo_laysDay_30 Q x1 M o) : mW mX12_laysDay 2 Q 30 [some (.ref 66), some (.int x1), some (.int x2), none, none] [] M := by
  unfold b_mo_laysDay_30_30 at hf
  refine y_iload_n (i := 2) (n := 31) ⟨dX12_laysDay_30, rfl⟩ rfl ?_
  refine y_aload_n (i := 0) (n := 32) ⟨dX12_laysDay_31, rfl⟩ rfl ?_
  refine y_getI (n := 35) ⟨dX12_laysDay_32, rfl⟩ kfX12_235 l_66 rfl ?_
  refine y_icmp_ge (t := 256) (n := 38) ⟨dX12_laysDay_35, rfl, rfl⟩ (fun (hc : (gI M 66 9) ≤ x2) => ?_) (fun (hc : ¬ ((gI M 66 9) ≤ x2)) => ?_)
  · replace hf := i_t hc hf
    cases hf
    exact y_wk ⟨Or.inr rfl, Or.inr rfl, Or.inl rfl, Or.inr rfl, Or.inr rfl, trivial⟩ hk
  · replace hf := i_f hc hf
    refine y_aload_n (i := 0) (n := 39) ⟨dX12_laysDay_38, rfl⟩ rfl ?_
    refine y_getR (n := 42) ⟨dX12_laysDay_39, rfl⟩ kfX12_37 l_66 rfl r_66_12 ?_
    refine y_iload_n (i := 2) (n := 43) ⟨dX12_laysDay_42, rfl⟩ rfl ?_
    obtain ⟨hg5, hf⟩ := g_s hf
    refine y_iaload (n := 44) ⟨dX12_laysDay_43, rfl⟩ l_76 hg5 ?_
    refine y_iload_n (i := 1) (n := 45) ⟨dX12_laysDay_44, rfl⟩ rfl ?_
    refine y_icmp_le (t := 51) (n := 48) ⟨dX12_laysDay_45, rfl, rfl⟩ (fun (hc : (gI M 76 x2.toNatClampNeg) ≤ x1) => ?_) (fun (hc : ¬ ((gI M 76 x2.toNatClampNeg) ≤ x1)) => ?_)
    · replace hf := i_t hc hf
      refine y_iconst (n := 52) (v := 0) ⟨dX12_laysDay_51, rfl⟩ ki_0 ?_
      refine y_istore_n (i := 3) (n := 53) (L2 := [some (.ref 66), some (.int x1), some (.int x2), some (.int 0), none]) ⟨dX12_laysDay_52, rfl⟩ (by decide) rfl rfl ?_
      refine y_iconst (n := 54) (v := 0) ⟨dX12_laysDay_53, rfl⟩ ki_0 ?_
      refine y_istore (i := 4) (n := 56) (L2 := [some (.ref 66), some (.int x1), some (.int x2), some (.int 0), some (.int 0)]) ⟨dX12_laysDay_54, rfl⟩ (by decide) rfl rfl ?_
      obtain ⟨t11, hl12, hf⟩ := b_s hf
      refine y_wk ⟨Or.inr rfl, Or.inr rfl, Or.inr rfl, Or.inr rfl, Or.inr rfl, trivial⟩ (wl_mo_laysDay_56 x1 x2 0 0 M hl12 ?_)
      show mW mX12_laysDay 2 Q 139 [some (.ref 66), some (.int x1), some (.int x2), some (.int t11.1), none] [] t11.2
      refine y_aload_n (i := 0) (n := 140) ⟨dX12_laysDay_139, rfl⟩ rfl ?_
      refine y_getR (n := 143) ⟨dX12_laysDay_140, rfl⟩ kfX12_110 l_66 rfl r_66_50 ?_
      refine y_iconst (n := 144) (v := 2) ⟨dX12_laysDay_143, rfl⟩ ki_2 ?_
      refine y_dup2 (n := 145) ⟨dX12_laysDay_144, rfl⟩ ?_
      refine y_iaload (n := 146) ⟨dX12_laysDay_145, rfl⟩ l_100 (by unfold vp_in; decide) ?_
      refine y_iconst (n := 147) (v := 1) ⟨dX12_laysDay_146, rfl⟩ ki_1 ?_
      refine y_iadd (n := 148) ⟨dX12_laysDay_147, rfl⟩ ?_
      refine y_iastore (n := 149) ⟨dX12_laysDay_148, rfl⟩ l_100 (by unfold vp_in; decide) ?_
      refine y_aload_n (i := 0) (n := 150) ⟨dX12_laysDay_149, rfl⟩ rfl ?_
      refine y_getR (n := 153) ⟨dX12_laysDay_150, rfl⟩ kfX12_110 l_66 rfl r_66_50 ?_
      refine y_iconst (n := 154) (v := 3) ⟨dX12_laysDay_153, rfl⟩ ki_3 ?_
      refine y_dup2 (n := 155) ⟨dX12_laysDay_154, rfl⟩ ?_
      refine y_iaload (n := 156) ⟨dX12_laysDay_155, rfl⟩ l_100 (by unfold vp_in; decide) ?_
      refine y_aload_n (i := 0) (n := 157) ⟨dX12_laysDay_156, rfl⟩ rfl ?_
      refine y_getR (n := 160) ⟨dX12_laysDay_157, rfl⟩ kfX12_122 l_66 rfl r_66_59 ?_
      refine y_iload_n (i := 2) (n := 161) ⟨dX12_laysDay_160, rfl⟩ rfl ?_
      refine y_iaload (n := 162) ⟨dX12_laysDay_161, rfl⟩ l_104 hg5 ?_
      refine y_iconst (n := 163) (v := 2) ⟨dX12_laysDay_162, rfl⟩ ki_2 ?_
      refine y_icmp_ne (t := 170) (n := 166) ⟨dX12_laysDay_163, rfl, rfl⟩ (fun (hc : ¬ ((gI (sI t11.2 100 2 ((gI t11.2 100 2) + 1)) 104 x2.toNatClampNeg) = 2)) => ?_) (fun (hc : (gI (sI t11.2 100 2 ((gI t11.2 100 2) + 1)) 104 x2.toNatClampNeg) = 2) => ?_)
      · replace hf := i_f hc hf
        refine y_iconst (n := 171) (v := 0) ⟨dX12_laysDay_170, rfl⟩ ki_0 ?_
        exact y_wk ⟨Or.inr rfl, Or.inr rfl, Or.inr rfl, Or.inr rfl, Or.inr rfl, trivial⟩ (w_b_mo_laysDay_30_171 x1 x2 t11.1 3 (gI (sI t11.2 100 2 ((gI t11.2 100 2) + 1)) 100 3) 0 (sI t11.2 100 2 ((gI t11.2 100 2) + 1)) hf hk)
      · replace hf := i_t hc hf
        refine y_iconst (n := 167) (v := 1) ⟨dX12_laysDay_166, rfl⟩ ki_1 ?_
        refine y_goto (t := 171) ⟨dX12_laysDay_167, rfl, rfl⟩ ?_
        exact y_wk ⟨Or.inr rfl, Or.inr rfl, Or.inr rfl, Or.inr rfl, Or.inr rfl, trivial⟩ (w_b_mo_laysDay_30_171 x1 x2 t11.1 3 (gI (sI t11.2 100 2 ((gI t11.2 100 2) + 1)) 100 3) 1 (sI t11.2 100 2 ((gI t11.2 100 2) + 1)) hf hk)
    · replace hf := i_f hc hf
      refine y_goto (t := 250) ⟨dX12_laysDay_48, rfl, rfl⟩ ?_
      refine y_iinc (i := 2) (n := 253) (b := (x2 + 1)) (L2 := [some (.ref 66), some (.int x1), some (.int (x2 + 1)), none, none]) ⟨dX12_laysDay_250, rfl⟩ rfl (by rw [ki_1]) (by decide) rfl rfl ?_
      refine y_goto (t := 30) ⟨dX12_laysDay_253, rfl, rfl⟩ ?_
      cases hf
      exact y_wk ⟨Or.inr rfl, Or.inr rfl, Or.inr rfl, Or.inr rfl, Or.inr rfl, trivial⟩ hk
theorem wl_mo_laysDay_30 (x1 : Int32) (x2 : Int32) (M : dM) {Q : mz_P} {x : dM} (hf : l_mo_laysDay_30 x1 x2 M = some x) (hk : K_mo_laysDay_30 Q x1 M (.inr x)) : mW mX12_laysDay 2 Q 30 [some (.ref 66), some (.int x1), some (.int x2), none, none] [] M :=
  lpc_wp (Wh := fun s => mW mX12_laysDay 2 Q 30 [some (.ref 66), some (.int x1), some (.int s.1), none, none] [] s.2) (K := K_mo_laysDay_30 Q x1 M) (fun _ h => h) (fun s o hb hk => w_b_mo_laysDay_30_30 x1 s.1 s.2 hb hk) hf hk
theorem w_b_mo_laysDay_258_289 (x1 : Int32) (x2 : Int32) (y1 : Int32) (y2 : Int32) (y3 : Int32) (M : dM) {Q : mz_P} {o : ((Int32 × dM) ⊕ dM)} (hf : b_mo_laysDay_258_289 x1 x2 y1 y2 y3 M = some o) (hk : K_mo_laysDay_258 Q x1 M o) : mW mX12_laysDay 2 Q 289 [some (.ref 66), some (.int x1), some (.int x2), none, none] [.ref 100, .int y1, .int y2, .int y3] M := by
  unfold b_mo_laysDay_258_289 at hf
  refine y_iadd (n := 290) ⟨dX12_laysDay_289, rfl⟩ ?_
  obtain ⟨hg24, hf⟩ := g_s hf
  refine y_iastore (n := 291) ⟨dX12_laysDay_290, rfl⟩ l_100 hg24 ?_
  refine y_iinc (i := 2) (n := 294) (b := (x2 + 1)) (L2 := [some (.ref 66), some (.int x1), some (.int (x2 + 1)), none, none]) ⟨dX12_laysDay_291, rfl⟩ rfl (by rw [ki_1]) (by decide) rfl rfl ?_
  refine y_goto (t := 258) ⟨dX12_laysDay_294, rfl, rfl⟩ ?_
  cases hf
  exact y_wk ⟨Or.inr rfl, Or.inr rfl, Or.inr rfl, Or.inr rfl, Or.inr rfl, trivial⟩ hk
theorem w_b_mo_laysDay_258_258 (x1 : Int32) (x2 : Int32) (M : dM) {Q : mz_P} {o : ((Int32 × dM) ⊕ dM)} (hf : b_mo_laysDay_258_258 x1 x2 M = some o) (hk : K_mo_laysDay_258 Q x1 M o) : mW mX12_laysDay 2 Q 258 [some (.ref 66), some (.int x1), some (.int x2), none, none] [] M := by
  unfold b_mo_laysDay_258_258 at hf
  refine y_iload_n (i := 2) (n := 259) ⟨dX12_laysDay_258, rfl⟩ rfl ?_
  refine y_aload_n (i := 0) (n := 260) ⟨dX12_laysDay_259, rfl⟩ rfl ?_
  refine y_getI (n := 263) ⟨dX12_laysDay_260, rfl⟩ kfX12_545 l_66 rfl ?_
  refine y_icmp_ge (t := 297) (n := 266) ⟨dX12_laysDay_263, rfl, rfl⟩ (fun (hc : (gI M 66 77) ≤ x2) => ?_) (fun (hc : ¬ ((gI M 66 77) ≤ x2)) => ?_)
  · replace hf := i_t hc hf
    cases hf
    exact y_return (n := 298) ⟨dX12_laysDay_297, rfl⟩ rfl hk
  · replace hf := i_f hc hf
    refine y_aload_n (i := 0) (n := 267) ⟨dX12_laysDay_266, rfl⟩ rfl ?_
    refine y_getR (n := 270) ⟨dX12_laysDay_267, rfl⟩ kfX12_110 l_66 rfl r_66_50 ?_
    refine y_bipush (n := 272) (v := 8) ⟨dX12_laysDay_270, rfl⟩ kb_8 ?_
    refine y_dup2 (n := 273) ⟨dX12_laysDay_272, rfl⟩ ?_
    refine y_iaload (n := 274) ⟨dX12_laysDay_273, rfl⟩ l_100 (by unfold vp_in; decide) ?_
    refine y_aload_n (i := 0) (n := 275) ⟨dX12_laysDay_274, rfl⟩ rfl ?_
    refine y_getR (n := 278) ⟨dX12_laysDay_275, rfl⟩ kfX12_150 l_66 rfl r_66_78 ?_
    refine y_iload_n (i := 2) (n := 279) ⟨dX12_laysDay_278, rfl⟩ rfl ?_
    obtain ⟨hg23, hf⟩ := g_s hf
    refine y_iaload (n := 280) ⟨dX12_laysDay_279, rfl⟩ l_113 hg23 ?_
    refine y_iload_n (i := 1) (n := 281) ⟨dX12_laysDay_280, rfl⟩ rfl ?_
    refine y_icmp_gt (t := 288) (n := 284) ⟨dX12_laysDay_281, rfl, rfl⟩ (fun (hc : x1 < (gI M 113 x2.toNatClampNeg)) => ?_) (fun (hc : ¬ (x1 < (gI M 113 x2.toNatClampNeg))) => ?_)
    · replace hf := i_t hc hf
      refine y_iconst (n := 289) (v := 0) ⟨dX12_laysDay_288, rfl⟩ ki_0 ?_
      exact y_wk ⟨Or.inr rfl, Or.inr rfl, Or.inr rfl, Or.inr rfl, Or.inr rfl, trivial⟩ (w_b_mo_laysDay_258_289 x1 x2 8 (gI M 100 8) 0 M hf hk)
    · replace hf := i_f hc hf
      refine y_iconst (n := 285) (v := 1) ⟨dX12_laysDay_284, rfl⟩ ki_1 ?_
      refine y_goto (t := 289) ⟨dX12_laysDay_285, rfl, rfl⟩ ?_
      exact y_wk ⟨Or.inr rfl, Or.inr rfl, Or.inr rfl, Or.inr rfl, Or.inr rfl, trivial⟩ (w_b_mo_laysDay_258_289 x1 x2 8 (gI M 100 8) 1 M hf hk)
theorem wl_mo_laysDay_258 (x1 : Int32) (x2 : Int32) (M : dM) {Q : mz_P} {x : dM} (hf : l_mo_laysDay_258 x1 x2 M = some x) (hk : K_mo_laysDay_258 Q x1 M (.inr x)) : mW mX12_laysDay 2 Q 258 [some (.ref 66), some (.int x1), some (.int x2), none, none] [] M :=
  lpc_wp (Wh := fun s => mW mX12_laysDay 2 Q 258 [some (.ref 66), some (.int x1), some (.int s.1), none, none] [] s.2) (K := K_mo_laysDay_258 Q x1 M) (fun _ h => h) (fun s o hb hk => w_b_mo_laysDay_258_258 x1 s.1 s.2 hb hk) hf hk
theorem ok_mo_laysDay (a1 : Int32) (M : dM) {o : dM} (hf : f_mo_laysDay a1 M = some o) : mO mX12_laysDay 2 [.ref 66, .int a1] M none o := by
  refine y_ok (by decide +kernel) (by decide) (L0 := [some (.ref 66), some (.int a1), none, none, none]) rfl ?_
  have hk := mR_mQ none o
  generalize mQ _ _ = Q at hk ⊢
  unfold f_mo_laysDay at hf
  refine y_iconst (n := 1) (v := 1) ⟨dX12_laysDay_0, rfl⟩ ki_1 ?_
  refine y_istore_n (i := 2) (n := 2) (L2 := [some (.ref 66), some (.int a1), some (.int 1), none, none]) ⟨dX12_laysDay_1, rfl⟩ (by decide) rfl rfl ?_
  obtain ⟨t2, hl3, hf⟩ := b_s hf
  refine y_wk ⟨Or.inr rfl, Or.inr rfl, Or.inr rfl, Or.inr rfl, Or.inr rfl, trivial⟩ (wl_mo_laysDay_2 a1 1 M hl3 ?_)
  show mW mX12_laysDay 2 Q 21 [some (.ref 66), some (.int a1), none, none, none] [] t2
  refine y_aload_n (i := 0) (n := 22) ⟨dX12_laysDay_21, rfl⟩ rfl ?_
  refine y_getR (n := 25) ⟨dX12_laysDay_22, rfl⟩ kfX12_110 l_66 rfl r_66_50 ?_
  refine y_iconst (n := 26) (v := 1) ⟨dX12_laysDay_25, rfl⟩ ki_1 ?_
  refine y_iload_n (i := 1) (n := 27) ⟨dX12_laysDay_26, rfl⟩ rfl ?_
  refine y_iastore (n := 28) ⟨dX12_laysDay_27, rfl⟩ l_100 (by unfold vp_in; decide) ?_
  refine y_iconst (n := 29) (v := 0) ⟨dX12_laysDay_28, rfl⟩ ki_0 ?_
  refine y_istore_n (i := 2) (n := 30) (L2 := [some (.ref 66), some (.int a1), some (.int 0), none, none]) ⟨dX12_laysDay_29, rfl⟩ (by decide) rfl rfl ?_
  obtain ⟨t20, hl21, hf⟩ := b_s hf
  refine y_wk ⟨Or.inr rfl, Or.inr rfl, Or.inr rfl, Or.inr rfl, Or.inr rfl, trivial⟩ (wl_mo_laysDay_30 a1 0 (sI t2 100 1 a1) hl21 ?_)
  show mW mX12_laysDay 2 Q 256 [some (.ref 66), some (.int a1), none, none, none] [] t20
  refine y_iconst (n := 257) (v := 0) ⟨dX12_laysDay_256, rfl⟩ ki_0 ?_
  refine y_istore_n (i := 2) (n := 258) (L2 := [some (.ref 66), some (.int a1), some (.int 0), none, none]) ⟨dX12_laysDay_257, rfl⟩ (by decide) rfl rfl ?_
  obtain ⟨r27, hl26, hf⟩ := b_s hf
  cases hf
  exact y_wk ⟨Or.inr rfl, Or.inr rfl, Or.inr rfl, Or.inr rfl, Or.inr rfl, trivial⟩ (wl_mo_laysDay_258 a1 0 t20 hl26 hk)
theorem c_mo_laysDay (a1 : Int32) (M : dM) {o : dM} {y : mz_M} {d : Nat} {Q : mz_P} {pc n i : Nat} {L : List (Option Value)} {st : List Value} (h : mz_d y.2.1 pc n 3 (.invokevirtual i)) (hl : mz_ml y.1.cls i yX12_laysDay) (hf : f_mo_laysDay a1 M = some o) (hd : 2 + 1 ≤ d) (hsm : (st.map (fun v => v.category)).sum ≤ 8) (hLr : mz_rL 133 L = true) (hSr : mz_rS 133 st = true) (kk : mW y d Q n L st o) : mW y d Q pc L (.int a1 :: .ref 66 :: st) M :=
  y_callV kmX12_laysDay kvX12_laysDay l_66 (by decide +kernel) (by decide +kernel) h hl (ok_mo_laysDay a1 M hf) (vs := [.int a1]) rfl rfl hd hsm hLr hSr kk
