def K_ch_power_5 (Q : mz_P) (x0 : Int64) (x2 : Int32) (M : dM) : ((Int64 × Int32) ⊕ Int64) → Prop
  | .inl s => mW mX0_power 1 Q 5 [some (.long x0), none, some (.int x2), some (.long s.1), none, some (.int s.2)] [] M
  | .inr r => mR Q (some (.long r)) M
noncomputable def b_ch_power_5_5 (x0 : Int64) (x2 : Int32) (x3 : Int64) (x5 : Int32) : Option ((Int64 × Int32) ⊕ Int64) :=
  if x2 ≤ x5 then
    some (.inr x3)
  else
    some (.inl ((x3 * x0), (x5 + 1)))
noncomputable def l_ch_power_5 (x0 : Int64) (x2 : Int32) (x3 : Int64) (x5 : Int32) : Option Int64 := lpc (fun s => b_ch_power_5_5 x0 x2 s.1 s.2) (x3, x5)
noncomputable def f_ch_power (a1 : Int64) (a2 : Int32) : Option Int64 :=
  (l_ch_power_5 a1 a2 1 0).bind fun r3 => some r3
theorem w_b_ch_power_5_5 (x0 : Int64) (x2 : Int32) (x3 : Int64) (x5 : Int32)  (M : dM) {Q : mz_P} {o : ((Int64 × Int32) ⊕ Int64)} (hf : b_ch_power_5_5 x0 x2 x3 x5 = some o) (hk : K_ch_power_5 Q x0 x2 M o) : mW mX0_power 1 Q 5 [some (.long x0), none, some (.int x2), some (.long x3), none, some (.int x5)] [] M := by
  unfold b_ch_power_5_5 at hf
  refine y_iload (i := 5) (n := 7) ⟨dX0_power_5, rfl⟩ rfl ?_
  refine y_iload_n (i := 2) (n := 8) ⟨dX0_power_7, rfl⟩ rfl ?_
  refine y_icmp_ge (t := 21) (n := 11) ⟨dX0_power_8, rfl, rfl⟩ (fun (hc : x2 ≤ x5) => ?_) (fun (hc : ¬ (x2 ≤ x5)) => ?_)
  · replace hf := i_t hc hf
    refine y_lload_n (i := 3) (n := 22) ⟨dX0_power_21, rfl⟩ rfl ?_
    cases hf
    exact y_lreturn (n := 23) ⟨dX0_power_22, rfl⟩ rfl hk
  · replace hf := i_f hc hf
    refine y_lload_n (i := 3) (n := 12) ⟨dX0_power_11, rfl⟩ rfl ?_
    refine y_lload_n (i := 0) (n := 13) ⟨dX0_power_12, rfl⟩ rfl ?_
    refine y_lmul (n := 14) ⟨dX0_power_13, rfl⟩ ?_
    refine y_lstore_n (i := 3) (n := 15) (L2 := [some (.long x0), none, some (.int x2), some (.long (x3 * x0)), none, some (.int x5)]) ⟨dX0_power_14, rfl⟩ (by decide) rfl rfl ?_
    refine y_iinc (i := 5) (n := 18) (b := (x5 + 1)) (L2 := [some (.long x0), none, some (.int x2), some (.long (x3 * x0)), none, some (.int (x5 + 1))]) ⟨dX0_power_15, rfl⟩ rfl (by rw [ki_1]) (by decide) rfl rfl ?_
    refine y_goto (t := 5) ⟨dX0_power_18, rfl, rfl⟩ ?_
    cases hf
    exact y_wk (L2 := [some (.long x0), none, some (.int x2), some (.long (x3 * x0)), none, some (.int (x5 + 1))]) ⟨Or.inr rfl, Or.inr rfl, Or.inr rfl, Or.inr rfl, Or.inr rfl, Or.inr rfl, trivial⟩ hk
theorem wl_ch_power_5 (x0 : Int64) (x2 : Int32) (x3 : Int64) (x5 : Int32) (M : dM) {Q : mz_P} {x : Int64} (hf : l_ch_power_5 x0 x2 x3 x5 = some x) (hk : K_ch_power_5 Q x0 x2 M (.inr x)) : mW mX0_power 1 Q 5 [some (.long x0), none, some (.int x2), some (.long x3), none, some (.int x5)] [] M :=
  lpc_wp (σ := (Int64 × Int32)) (ξ := Int64) (s := (x3, x5)) (Wh := fun s => mW mX0_power 1 Q 5 [some (.long x0), none, some (.int x2), some (.long s.1), none, some (.int s.2)] [] M) (K := K_ch_power_5 Q x0 x2 M) (fun _ h => h) (fun s o hb hk => w_b_ch_power_5_5 x0 x2 s.1 s.2 M hb hk) hf hk
theorem ok_ch_power (a1 : Int64) (a2 : Int32) (M : dM) {o : Int64} (hf : f_ch_power a1 a2 = some o) : mO mX0_power 1 [.long a1, .int a2] M (some (.long o)) M := by
  refine y_ok (by decide +kernel) (Nat.le_of_ble_eq_true rfl) (L0 := [some (.long a1), none, some (.int a2), none, none, none]) rfl ?_
  have hk := mR_mQ (some (.long o)) M
  generalize mQ _ _ = Q at hk ⊢
  unfold f_ch_power at hf
  refine y_lconst (n := 1) (v := 1) ⟨dX0_power_0, rfl⟩ kl_1 ?_
  refine y_lstore_n (i := 3) (n := 2) (L2 := [some (.long a1), none, some (.int a2), some (.long 1), none, none]) ⟨dX0_power_1, rfl⟩ (by decide) rfl rfl ?_
  refine y_iconst (n := 3) (v := 0) ⟨dX0_power_2, rfl⟩ ki_0 ?_
  refine y_istore (i := 5) (n := 5) (L2 := [some (.long a1), none, some (.int a2), some (.long 1), none, some (.int 0)]) ⟨dX0_power_3, rfl⟩ (by decide) rfl rfl ?_
  obtain ⟨r3, hl2, hf⟩ := b_s hf
  cases hf
  exact y_wk (L2 := [some (.long a1), none, some (.int a2), some (.long 1), none, some (.int 0)]) ⟨Or.inr rfl, Or.inr rfl, Or.inr rfl, Or.inr rfl, Or.inr rfl, Or.inr rfl, trivial⟩ (wl_ch_power_5 a1 a2 1 0 M hl2 hk)
theorem c_ch_power (a1 : Int64) (a2 : Int32) (M : dM) {o : Int64} {y : mz_M} {d : Nat} {Q : mz_P} {pc n i : Nat} {L : List (Option Value)} {st : List Value} (h : mz_d y.2.1 pc n 3 (.invokestatic i)) (hl : mz_ml y.1.cls i yX0_power) (hf : f_ch_power a1 a2 = some o) (hd : 1 + 1 ≤ d) (hsm : (st.map (fun v => v.category)).sum ≤ 8) (hLr : mz_rL 133 L = true) (hSr : mz_rS 133 st = true) (kk : mW y d Q n L (.long o :: st) M) : mW y d Q pc L (.int a2 :: .long a1 :: st) M :=
  y_callS kmX0_power ksX0_power h hl (ok_ch_power a1 a2 M hf) (vs := [.long a1, .int a2]) rfl rfl hd hsm hLr hSr kk
def K_ch_findsSoMany_5 (Q : mz_P) (x0 : Int32) (x1 : Int32) (M : dM) : ((Int64 × Int32) ⊕ Int64) → Prop
  | .inl s => mW mX0_findsSoMany 2 Q 5 [some (.int x0), some (.int x1), none, some (.long s.1), none, some (.int s.2)] [] M
  | .inr r => mR Q (some (.long r)) M
noncomputable def b_ch_findsSoMany_5_5 (x0 : Int32) (x1 : Int32) (x3 : Int64) (x5 : Int32) : Option ((Int64 × Int32) ⊕ Int64) :=
  if x1 < x5 then
    some (.inr x3)
  else
    (f_ch_choose x1 x5).bind fun v1 =>
    (f_ch_power x0.toInt64 x5).bind fun v3 =>
    (f_ch_power ((10 - x0).toInt64) (x1 - x5)).bind fun v5 =>
    some (.inl ((x3 + ((v1 * v3) * v5)), (x5 + 1)))
noncomputable def l_ch_findsSoMany_5 (x0 : Int32) (x1 : Int32) (x3 : Int64) (x5 : Int32) : Option Int64 := lpc (fun s => b_ch_findsSoMany_5_5 x0 x1 s.1 s.2) (x3, x5)
noncomputable def f_ch_findsSoMany (a1 : Int32) (a2 : Int32) (a3 : Int32) : Option Int64 :=
  (l_ch_findsSoMany_5 a1 a2 0 a3).bind fun r9 => some r9
theorem w_b_ch_findsSoMany_5_5 (x0 : Int32) (x1 : Int32) (x3 : Int64) (x5 : Int32)  (M : dM) {Q : mz_P} {o : ((Int64 × Int32) ⊕ Int64)} (hf : b_ch_findsSoMany_5_5 x0 x1 x3 x5 = some o) (hk : K_ch_findsSoMany_5 Q x0 x1 M o) : mW mX0_findsSoMany 2 Q 5 [some (.int x0), some (.int x1), none, some (.long x3), none, some (.int x5)] [] M := by
  unfold b_ch_findsSoMany_5_5 at hf
  refine y_iload (i := 5) (n := 7) ⟨dX0_findsSoMany_5, rfl⟩ rfl ?_
  refine y_iload_n (i := 1) (n := 8) ⟨dX0_findsSoMany_7, rfl⟩ rfl ?_
  refine y_icmp_gt (t := 47) (n := 11) ⟨dX0_findsSoMany_8, rfl, rfl⟩ (fun (hc : x1 < x5) => ?_) (fun (hc : ¬ (x1 < x5)) => ?_)
  · replace hf := i_t hc hf
    refine y_lload_n (i := 3) (n := 48) ⟨dX0_findsSoMany_47, rfl⟩ rfl ?_
    cases hf
    exact y_lreturn (n := 49) ⟨dX0_findsSoMany_48, rfl⟩ rfl hk
  · replace hf := i_f hc hf
    refine y_lload_n (i := 3) (n := 12) ⟨dX0_findsSoMany_11, rfl⟩ rfl ?_
    refine y_iload_n (i := 1) (n := 13) ⟨dX0_findsSoMany_12, rfl⟩ rfl ?_
    refine y_iload (i := 5) (n := 15) ⟨dX0_findsSoMany_13, rfl⟩ rfl ?_
    obtain ⟨v1, hv2, hf⟩ := b_s hf
    refine c_ch_choose x1 x5 M (n := 18) ⟨dX0_findsSoMany_15, rfl⟩ klX0_13 hv2 (by decide) (Nat.le_of_ble_eq_true rfl) rfl rfl ?_
    refine y_iload_n (i := 0) (n := 19) ⟨dX0_findsSoMany_18, rfl⟩ rfl ?_
    refine y_i2l (n := 20) ⟨dX0_findsSoMany_19, rfl⟩ ?_
    refine y_iload (i := 5) (n := 22) ⟨dX0_findsSoMany_20, rfl⟩ rfl ?_
    obtain ⟨v3, hv4, hf⟩ := b_s hf
    refine c_ch_power x0.toInt64 x5 M (n := 25) ⟨dX0_findsSoMany_22, rfl⟩ klX0_19 hv4 (by decide) (Nat.le_of_ble_eq_true rfl) rfl rfl ?_
    refine y_lmul (n := 26) ⟨dX0_findsSoMany_25, rfl⟩ ?_
    refine y_bipush (n := 28) (v := 10) ⟨dX0_findsSoMany_26, rfl⟩ kb_10 ?_
    refine y_iload_n (i := 0) (n := 29) ⟨dX0_findsSoMany_28, rfl⟩ rfl ?_
    refine y_isub (n := 30) ⟨dX0_findsSoMany_29, rfl⟩ ?_
    refine y_i2l (n := 31) ⟨dX0_findsSoMany_30, rfl⟩ ?_
    refine y_iload_n (i := 1) (n := 32) ⟨dX0_findsSoMany_31, rfl⟩ rfl ?_
    refine y_iload (i := 5) (n := 34) ⟨dX0_findsSoMany_32, rfl⟩ rfl ?_
    refine y_isub (n := 35) ⟨dX0_findsSoMany_34, rfl⟩ ?_
    obtain ⟨v5, hv6, hf⟩ := b_s hf
    refine c_ch_power ((10 - x0).toInt64) (x1 - x5) M (n := 38) ⟨dX0_findsSoMany_35, rfl⟩ klX0_19 hv6 (by decide) (Nat.le_of_ble_eq_true rfl) rfl rfl ?_
    refine y_lmul (n := 39) ⟨dX0_findsSoMany_38, rfl⟩ ?_
    refine y_ladd (n := 40) ⟨dX0_findsSoMany_39, rfl⟩ ?_
    refine y_lstore_n (i := 3) (n := 41) (L2 := [some (.int x0), some (.int x1), none, some (.long (x3 + ((v1 * v3) * v5))), none, some (.int x5)]) ⟨dX0_findsSoMany_40, rfl⟩ (by decide) rfl rfl ?_
    refine y_iinc (i := 5) (n := 44) (b := (x5 + 1)) (L2 := [some (.int x0), some (.int x1), none, some (.long (x3 + ((v1 * v3) * v5))), none, some (.int (x5 + 1))]) ⟨dX0_findsSoMany_41, rfl⟩ rfl (by rw [ki_1]) (by decide) rfl rfl ?_
    refine y_goto (t := 5) ⟨dX0_findsSoMany_44, rfl, rfl⟩ ?_
    cases hf
    exact y_wk (L2 := [some (.int x0), some (.int x1), none, some (.long (x3 + ((v1 * v3) * v5))), none, some (.int (x5 + 1))]) ⟨Or.inr rfl, Or.inr rfl, Or.inr rfl, Or.inr rfl, Or.inr rfl, Or.inr rfl, trivial⟩ hk
theorem wl_ch_findsSoMany_5 (x0 : Int32) (x1 : Int32) (x3 : Int64) (x5 : Int32) (M : dM) {Q : mz_P} {x : Int64} (hf : l_ch_findsSoMany_5 x0 x1 x3 x5 = some x) (hk : K_ch_findsSoMany_5 Q x0 x1 M (.inr x)) : mW mX0_findsSoMany 2 Q 5 [some (.int x0), some (.int x1), none, some (.long x3), none, some (.int x5)] [] M :=
  lpc_wp (σ := (Int64 × Int32)) (ξ := Int64) (s := (x3, x5)) (Wh := fun s => mW mX0_findsSoMany 2 Q 5 [some (.int x0), some (.int x1), none, some (.long s.1), none, some (.int s.2)] [] M) (K := K_ch_findsSoMany_5 Q x0 x1 M) (fun _ h => h) (fun s o hb hk => w_b_ch_findsSoMany_5_5 x0 x1 s.1 s.2 M hb hk) hf hk
theorem ok_ch_findsSoMany (a1 : Int32) (a2 : Int32) (a3 : Int32) (M : dM) {o : Int64} (hf : f_ch_findsSoMany a1 a2 a3 = some o) : mO mX0_findsSoMany 2 [.int a1, .int a2, .int a3] M (some (.long o)) M := by
  refine y_ok (by decide +kernel) (Nat.le_of_ble_eq_true rfl) (L0 := [some (.int a1), some (.int a2), some (.int a3), none, none, none]) rfl ?_
  have hk := mR_mQ (some (.long o)) M
  generalize mQ _ _ = Q at hk ⊢
  unfold f_ch_findsSoMany at hf
  refine y_lconst (n := 1) (v := 0) ⟨dX0_findsSoMany_0, rfl⟩ kl_0 ?_
  refine y_lstore_n (i := 3) (n := 2) (L2 := [some (.int a1), some (.int a2), some (.int a3), some (.long 0), none, none]) ⟨dX0_findsSoMany_1, rfl⟩ (by decide) rfl rfl ?_
  refine y_iload_n (i := 2) (n := 3) ⟨dX0_findsSoMany_2, rfl⟩ rfl ?_
  refine y_istore (i := 5) (n := 5) (L2 := [some (.int a1), some (.int a2), some (.int a3), some (.long 0), none, some (.int a3)]) ⟨dX0_findsSoMany_3, rfl⟩ (by decide) rfl rfl ?_
  obtain ⟨r9, hl8, hf⟩ := b_s hf
  cases hf
  exact y_wk (L2 := [some (.int a1), some (.int a2), none, some (.long 0), none, some (.int a3)]) ⟨Or.inr rfl, Or.inr rfl, Or.inl rfl, Or.inr rfl, Or.inr rfl, Or.inr rfl, trivial⟩ (wl_ch_findsSoMany_5 a1 a2 0 a3 M hl8 hk)
theorem c_ch_findsSoMany (a1 : Int32) (a2 : Int32) (a3 : Int32) (M : dM) {o : Int64} {y : mz_M} {d : Nat} {Q : mz_P} {pc n i : Nat} {L : List (Option Value)} {st : List Value} (h : mz_d y.2.1 pc n 3 (.invokestatic i)) (hl : mz_ml y.1.cls i yX0_findsSoMany) (hf : f_ch_findsSoMany a1 a2 a3 = some o) (hd : 2 + 1 ≤ d) (hsm : (st.map (fun v => v.category)).sum ≤ 8) (hLr : mz_rL 133 L = true) (hSr : mz_rS 133 st = true) (kk : mW y d Q n L (.long o :: st) M) : mW y d Q pc L (.int a3 :: .int a2 :: .int a1 :: st) M :=
  y_callS kmX0_findsSoMany ksX0_findsSoMany h hl (ok_ch_findsSoMany a1 a2 a3 M hf) (vs := [.int a1, .int a2, .int a3]) rfl rfl hd hsm hLr hSr kk
noncomputable def f_ax_luck (a1 : Int32) (a2 : Int32) (a3 : Int32) (a4 : Int32) (a5 : Int32) : Option Int64 :=
  if a1 < 1 then
    some (-1)
  else
    if 9 < a1 then
      some (-1)
    else
      if a2 < 1 then
        some (-1)
      else
        if 6 < a2 then
          some (-1)
        else
          if a3 < 0 then
            some (-1)
          else
            if a2 < a3 then
              some (-1)
            else
              if a4 < 1 then
                some (-1)
              else
                if a4 ≤ 3 then
                  if (f_ax_within a5 2) = true then
                    (f_ch_power 10 a2).bind fun v1 =>
                    (f_ch_power v1 a4).bind fun v3 =>
                    (f_ch_power 10 a2).bind fun v5 =>
                    (f_ch_findsSoMany a1 a2 a3).bind fun v7 =>
                    (f_ch_power (v5 - v7) a4).bind fun v9 =>
                    (f_ch_lowest (v3 - v9) v3 a5).bind fun v11 =>
                    some v11
                  else
                    some (-1)
                else
                  some (-1)
theorem ok_ax_luck (a1 : Int32) (a2 : Int32) (a3 : Int32) (a4 : Int32) (a5 : Int32) (M : dM) {o : Int64} (hf : f_ax_luck a1 a2 a3 a4 a5 = some o) : mO mX11_luck 3 [.ref 0, .int a1, .int a2, .int a3, .int a4, .int a5] M (some (.long o)) M := by
  refine y_ok (by decide +kernel) (Nat.le_of_ble_eq_true rfl) (L0 := [some (.ref 0), some (.int a1), some (.int a2), some (.int a3), some (.int a4), some (.int a5), none, none, none, none]) rfl ?_
  have hk := mR_mQ (some (.long o)) M
  generalize mQ _ _ = Q at hk ⊢
  unfold f_ax_luck at hf
  refine y_iload_n (i := 1) (n := 1) ⟨dX11_luck_0, rfl⟩ rfl ?_
  refine y_iconst (n := 2) (v := 1) ⟨dX11_luck_1, rfl⟩ ki_1 ?_
  refine y_icmp_lt (t := 43) (n := 5) ⟨dX11_luck_2, rfl, rfl⟩ (fun (hc : a1 < 1) => ?_) (fun (hc : ¬ (a1 < 1)) => ?_)
  · replace hf := i_t hc hf
    refine y_ldc2 (n := 46) ⟨dX11_luck_43, rfl⟩ kcX11_189 ?_
    cases hf
    exact y_lreturn (n := 47) ⟨dX11_luck_46, rfl⟩ rfl hk
  · replace hf := i_f hc hf
    refine y_iload_n (i := 1) (n := 6) ⟨dX11_luck_5, rfl⟩ rfl ?_
    refine y_bipush (n := 8) (v := 9) ⟨dX11_luck_6, rfl⟩ kb_9 ?_
    refine y_icmp_gt (t := 43) (n := 11) ⟨dX11_luck_8, rfl, rfl⟩ (fun (hc : 9 < a1) => ?_) (fun (hc : ¬ (9 < a1)) => ?_)
    · replace hf := i_t hc hf
      refine y_ldc2 (n := 46) ⟨dX11_luck_43, rfl⟩ kcX11_189 ?_
      cases hf
      exact y_lreturn (n := 47) ⟨dX11_luck_46, rfl⟩ rfl hk
    · replace hf := i_f hc hf
      refine y_iload_n (i := 2) (n := 12) ⟨dX11_luck_11, rfl⟩ rfl ?_
      refine y_iconst (n := 13) (v := 1) ⟨dX11_luck_12, rfl⟩ ki_1 ?_
      refine y_icmp_lt (t := 43) (n := 16) ⟨dX11_luck_13, rfl, rfl⟩ (fun (hc : a2 < 1) => ?_) (fun (hc : ¬ (a2 < 1)) => ?_)
      · replace hf := i_t hc hf
        refine y_ldc2 (n := 46) ⟨dX11_luck_43, rfl⟩ kcX11_189 ?_
        cases hf
        exact y_lreturn (n := 47) ⟨dX11_luck_46, rfl⟩ rfl hk
      · replace hf := i_f hc hf
        refine y_iload_n (i := 2) (n := 17) ⟨dX11_luck_16, rfl⟩ rfl ?_
        refine y_bipush (n := 19) (v := 6) ⟨dX11_luck_17, rfl⟩ kb_6 ?_
        refine y_icmp_gt (t := 43) (n := 22) ⟨dX11_luck_19, rfl, rfl⟩ (fun (hc : 6 < a2) => ?_) (fun (hc : ¬ (6 < a2)) => ?_)
        · replace hf := i_t hc hf
          refine y_ldc2 (n := 46) ⟨dX11_luck_43, rfl⟩ kcX11_189 ?_
          cases hf
          exact y_lreturn (n := 47) ⟨dX11_luck_46, rfl⟩ rfl hk
        · replace hf := i_f hc hf
          refine y_iload_n (i := 3) (n := 23) ⟨dX11_luck_22, rfl⟩ rfl ?_
          refine y_if_lt (t := 43) (n := 26) ⟨dX11_luck_23, rfl, rfl⟩ (fun (hc : a3 < 0) => ?_) (fun (hc : ¬ (a3 < 0)) => ?_)
          · replace hf := i_t hc hf
            refine y_ldc2 (n := 46) ⟨dX11_luck_43, rfl⟩ kcX11_189 ?_
            cases hf
            exact y_lreturn (n := 47) ⟨dX11_luck_46, rfl⟩ rfl hk
          · replace hf := i_f hc hf
            refine y_iload_n (i := 3) (n := 27) ⟨dX11_luck_26, rfl⟩ rfl ?_
            refine y_iload_n (i := 2) (n := 28) ⟨dX11_luck_27, rfl⟩ rfl ?_
            refine y_icmp_gt (t := 43) (n := 31) ⟨dX11_luck_28, rfl, rfl⟩ (fun (hc : a2 < a3) => ?_) (fun (hc : ¬ (a2 < a3)) => ?_)
            · replace hf := i_t hc hf
              refine y_ldc2 (n := 46) ⟨dX11_luck_43, rfl⟩ kcX11_189 ?_
              cases hf
              exact y_lreturn (n := 47) ⟨dX11_luck_46, rfl⟩ rfl hk
            · replace hf := i_f hc hf
              refine y_iload (i := 4) (n := 33) ⟨dX11_luck_31, rfl⟩ rfl ?_
              refine y_iconst (n := 34) (v := 1) ⟨dX11_luck_33, rfl⟩ ki_1 ?_
              refine y_icmp_lt (t := 43) (n := 37) ⟨dX11_luck_34, rfl, rfl⟩ (fun (hc : a4 < 1) => ?_) (fun (hc : ¬ (a4 < 1)) => ?_)
              · replace hf := i_t hc hf
                refine y_ldc2 (n := 46) ⟨dX11_luck_43, rfl⟩ kcX11_189 ?_
                cases hf
                exact y_lreturn (n := 47) ⟨dX11_luck_46, rfl⟩ rfl hk
              · replace hf := i_f hc hf
                refine y_iload (i := 4) (n := 39) ⟨dX11_luck_37, rfl⟩ rfl ?_
                refine y_iconst (n := 40) (v := 3) ⟨dX11_luck_39, rfl⟩ ki_3 ?_
                refine y_icmp_le (t := 47) (n := 43) ⟨dX11_luck_40, rfl, rfl⟩ (fun (hc : a4 ≤ 3) => ?_) (fun (hc : ¬ (a4 ≤ 3)) => ?_)
                · replace hf := i_t hc hf
                  refine y_iload (i := 5) (n := 49) ⟨dX11_luck_47, rfl⟩ rfl ?_
                  refine y_iconst (n := 50) (v := 2) ⟨dX11_luck_49, rfl⟩ ki_2 ?_
                  refine c_ax_within a5 2 M (n := 53) ⟨dX11_luck_50, rfl⟩ klX11_91 rfl (by decide) (Nat.le_of_ble_eq_true rfl) rfl rfl ?_
                  refine y_if_ne (t := 60) (n := 56) ⟨dX11_luck_53, rfl, rfl⟩ (fun h0 => ?_) (fun h0 => ?_)
                  · have hc := bI_1 h0
                    replace hf := i_t hc hf
                    refine y_ldc2 (n := 63) ⟨dX11_luck_60, rfl⟩ kcX11_205 ?_
                    refine y_iload_n (i := 2) (n := 64) ⟨dX11_luck_63, rfl⟩ rfl ?_
                    obtain ⟨v1, hv2, hf⟩ := b_s hf
                    refine c_ch_power 10 a2 M (n := 67) ⟨dX11_luck_64, rfl⟩ klX11_207 hv2 (by decide) (Nat.le_of_ble_eq_true rfl) rfl rfl ?_
                    refine y_iload (i := 4) (n := 69) ⟨dX11_luck_67, rfl⟩ rfl ?_
                    obtain ⟨v3, hv4, hf⟩ := b_s hf
                    refine c_ch_power v1 a4 M (n := 72) ⟨dX11_luck_69, rfl⟩ klX11_207 hv4 (by decide) (Nat.le_of_ble_eq_true rfl) rfl rfl ?_
                    refine y_lstore (i := 6) (n := 74) (L2 := [some (.ref 0), some (.int a1), some (.int a2), some (.int a3), some (.int a4), some (.int a5), some (.long v3), none, none, none]) ⟨dX11_luck_72, rfl⟩ (by decide) rfl rfl ?_
                    refine y_ldc2 (n := 77) ⟨dX11_luck_74, rfl⟩ kcX11_205 ?_
                    refine y_iload_n (i := 2) (n := 78) ⟨dX11_luck_77, rfl⟩ rfl ?_
                    obtain ⟨v5, hv6, hf⟩ := b_s hf
                    refine c_ch_power 10 a2 M (n := 81) ⟨dX11_luck_78, rfl⟩ klX11_207 hv6 (by decide) (Nat.le_of_ble_eq_true rfl) rfl rfl ?_
                    refine y_iload_n (i := 1) (n := 82) ⟨dX11_luck_81, rfl⟩ rfl ?_
                    refine y_iload_n (i := 2) (n := 83) ⟨dX11_luck_82, rfl⟩ rfl ?_
                    refine y_iload_n (i := 3) (n := 84) ⟨dX11_luck_83, rfl⟩ rfl ?_
                    obtain ⟨v7, hv8, hf⟩ := b_s hf
                    refine c_ch_findsSoMany a1 a2 a3 M (n := 87) ⟨dX11_luck_84, rfl⟩ klX11_211 hv8 (by decide) (Nat.le_of_ble_eq_true rfl) rfl rfl ?_
                    refine y_lsub (n := 88) ⟨dX11_luck_87, rfl⟩ ?_
                    refine y_iload (i := 4) (n := 90) ⟨dX11_luck_88, rfl⟩ rfl ?_
                    obtain ⟨v9, hv10, hf⟩ := b_s hf
                    refine c_ch_power (v5 - v7) a4 M (n := 93) ⟨dX11_luck_90, rfl⟩ klX11_207 hv10 (by decide) (Nat.le_of_ble_eq_true rfl) rfl rfl ?_
                    refine y_lstore (i := 8) (n := 95) (L2 := [some (.ref 0), some (.int a1), some (.int a2), some (.int a3), some (.int a4), some (.int a5), some (.long v3), none, some (.long v9), none]) ⟨dX11_luck_93, rfl⟩ (by decide) rfl rfl ?_
                    refine y_lload (i := 6) (n := 97) ⟨dX11_luck_95, rfl⟩ rfl ?_
                    refine y_lload (i := 8) (n := 99) ⟨dX11_luck_97, rfl⟩ rfl ?_
                    refine y_lsub (n := 100) ⟨dX11_luck_99, rfl⟩ ?_
                    refine y_lload (i := 6) (n := 102) ⟨dX11_luck_100, rfl⟩ rfl ?_
                    refine y_iload (i := 5) (n := 104) ⟨dX11_luck_102, rfl⟩ rfl ?_
                    obtain ⟨v11, hv12, hf⟩ := b_s hf
                    refine c_ch_lowest (v3 - v9) v3 a5 M (n := 107) ⟨dX11_luck_104, rfl⟩ klX11_201 hv12 (by decide) (Nat.le_of_ble_eq_true rfl) rfl rfl ?_
                    cases hf
                    exact y_lreturn (n := 108) ⟨dX11_luck_107, rfl⟩ rfl hk
                  · have hc := bI_0 h0
                    replace hf := i_f hc hf
                    refine y_ldc2 (n := 59) ⟨dX11_luck_56, rfl⟩ kcX11_189 ?_
                    cases hf
                    exact y_lreturn (n := 60) ⟨dX11_luck_59, rfl⟩ rfl hk
                · replace hf := i_f hc hf
                  refine y_ldc2 (n := 46) ⟨dX11_luck_43, rfl⟩ kcX11_189 ?_
                  cases hf
                  exact y_lreturn (n := 47) ⟨dX11_luck_46, rfl⟩ rfl hk
theorem c_ax_luck (a1 : Int32) (a2 : Int32) (a3 : Int32) (a4 : Int32) (a5 : Int32) (M : dM) {o : Int64} {y : mz_M} {d : Nat} {Q : mz_P} {pc n i : Nat} {L : List (Option Value)} {st : List Value} (h : mz_d y.2.1 pc n 3 (.invokevirtual i)) (hl : mz_ml y.1.cls i yX11_luck) (hf : f_ax_luck a1 a2 a3 a4 a5 = some o) (hd : 3 + 1 ≤ d) (hsm : (st.map (fun v => v.category)).sum ≤ 8) (hLr : mz_rL 133 L = true) (hSr : mz_rS 133 st = true) (kk : mW y d Q n L (.long o :: st) M) : mW y d Q pc L (.int a5 :: .int a4 :: .int a3 :: .int a2 :: .int a1 :: .ref 0 :: st) M :=
  y_callV kmX11_luck kvX11_luck l_0 (by decide +kernel) (by decide +kernel) h hl (ok_ax_luck a1 a2 a3 a4 a5 M hf) (vs := [.int a1, .int a2, .int a3, .int a4, .int a5]) rfl rfl hd hsm hLr hSr kk
noncomputable def f_ax_can (a1 : Int32) (M : dM) : Option (Int32 × dM) :=
  if (f_ax_within a1 (gI M 12 7)) = true then
    (f_ax_study 2 M).bind fun q1 =>
    gd (vp_in a1 40) <|
    some ((gI q1 46 a1.toNatClampNeg), q1)
  else
    some ((-1), M)
theorem ok_ax_can (a1 : Int32) (M : dM) {o : (Int32 × dM)} (hf : f_ax_can a1 M = some o) : mO mX11_can 6 [.ref 0, .int a1] M (some (.int o.1)) o.2 := by
  refine y_ok (by decide +kernel) (Nat.le_of_ble_eq_true rfl) (L0 := [some (.ref 0), some (.int a1)]) rfl ?_
  have hk := mR_mQ (some (.int o.1)) o.2
  generalize mQ _ _ = Q at hk ⊢
  unfold f_ax_can at hf
  refine y_iload_n (i := 1) (n := 1) ⟨dX11_can_0, rfl⟩ rfl ?_
  refine y_aload_n (i := 0) (n := 2) ⟨dX11_can_1, rfl⟩ rfl ?_
  refine y_getR (n := 5) ⟨dX11_can_2, rfl⟩ kfX11_26 l_0 rfl r_0_2 ?_
  refine y_getI (n := 8) ⟨dX11_can_5, rfl⟩ kfX11_146 l_12 rfl ?_
  refine c_ax_within a1 (gI M 12 7) M (n := 11) ⟨dX11_can_8, rfl⟩ klX11_91 rfl (by decide) (Nat.le_of_ble_eq_true rfl) rfl rfl ?_
  refine y_if_ne (t := 16) (n := 14) ⟨dX11_can_11, rfl, rfl⟩ (fun h0 => ?_) (fun h0 => ?_)
  · have hc := bI_1 h0
    replace hf := i_t hc hf
    refine y_aload_n (i := 0) (n := 17) ⟨dX11_can_16, rfl⟩ rfl ?_
    refine y_iconst (n := 18) (v := 2) ⟨dX11_can_17, rfl⟩ ki_2 ?_
    obtain ⟨q1, hv2, hf⟩ := b_s hf
    refine c_ax_study 2 M (n := 21) ⟨dX11_can_18, rfl⟩ klX11_156 hv2 (by decide) (Nat.le_of_ble_eq_true rfl) rfl rfl ?_
    refine y_aload_n (i := 0) (n := 22) ⟨dX11_can_21, rfl⟩ rfl ?_
    refine y_getR (n := 25) ⟨dX11_can_22, rfl⟩ kfX11_65 l_0 rfl r_0_7 ?_
    refine y_getR (n := 28) ⟨dX11_can_25, rfl⟩ kfX11_215 l_45 rfl r_45_4 ?_
    refine y_iload_n (i := 1) (n := 29) ⟨dX11_can_28, rfl⟩ rfl ?_
    obtain ⟨hg3, hf⟩ := g_s hf
    refine y_iaload (n := 30) ⟨dX11_can_29, rfl⟩ l_46 hg3 ?_
    cases hf
    exact y_ireturn (n := 31) ⟨dX11_can_30, rfl⟩ rfl rfl hk
  · have hc := bI_0 h0
    replace hf := i_f hc hf
    refine y_iconst (n := 15) (v := (-1)) ⟨dX11_can_14, rfl⟩ ki_m1 ?_
    cases hf
    exact y_ireturn (n := 16) ⟨dX11_can_15, rfl⟩ rfl rfl hk
theorem c_ax_can (a1 : Int32) (M : dM) {o : (Int32 × dM)} {y : mz_M} {d : Nat} {Q : mz_P} {pc n i : Nat} {L : List (Option Value)} {st : List Value} (h : mz_d y.2.1 pc n 3 (.invokevirtual i)) (hl : mz_ml y.1.cls i yX11_can) (hf : f_ax_can a1 M = some o) (hd : 6 + 1 ≤ d) (hsm : (st.map (fun v => v.category)).sum ≤ 8) (hLr : mz_rL 133 L = true) (hSr : mz_rS 133 st = true) (kk : mW y d Q n L (.int o.1 :: st) o.2) : mW y d Q pc L (.int a1 :: .ref 0 :: st) M :=
  y_callV kmX11_can kvX11_can l_0 (by decide +kernel) (by decide +kernel) h hl (ok_ax_can a1 M hf) (vs := [.int a1]) rfl rfl hd hsm hLr hSr kk
noncomputable def f_to_tellSeen (a1 : Int32) (a2 : Int32) (a3 : Int32) (M : dM) : Option (Bool × dM) :=
  if (gI M 12 11) < 20 then
    gd (vp_in (gI M 12 11) 20) <|
    gd (vp_in (gI (sI M 20 (gI M 12 11).toNatClampNeg a1) 12 11) 20) <|
    gd (vp_in (gI (sI (sI M 20 (gI M 12 11).toNatClampNeg a1) 21 (gI (sI M 20 (gI M 12 11).toNatClampNeg a1) 12 11).toNatClampNeg a2) 12 11) 20) <|
    some (true, (sI (sI (sI (sI M 20 (gI M 12 11).toNatClampNeg a1) 21 (gI (sI M 20 (gI M 12 11).toNatClampNeg a1) 12 11).toNatClampNeg a2) 22 (gI (sI (sI M 20 (gI M 12 11).toNatClampNeg a1) 21 (gI (sI M 20 (gI M 12 11).toNatClampNeg a1) 12 11).toNatClampNeg a2) 12 11).toNatClampNeg a3) 12 11 ((gI (sI (sI (sI M 20 (gI M 12 11).toNatClampNeg a1) 21 (gI (sI M 20 (gI M 12 11).toNatClampNeg a1) 12 11).toNatClampNeg a2) 22 (gI (sI (sI M 20 (gI M 12 11).toNatClampNeg a1) 21 (gI (sI M 20 (gI M 12 11).toNatClampNeg a1) 12 11).toNatClampNeg a2) 12 11).toNatClampNeg a3) 12 11) + 1)))
  else
    some (false, M)
theorem ok_to_tellSeen (a1 : Int32) (a2 : Int32) (a3 : Int32) (M : dM) {o : (Bool × dM)} (hf : f_to_tellSeen a1 a2 a3 M = some o) : mO mX9_tellSeen 1 [.ref 12, .int a1, .int a2, .int a3] M (some (.int (bI o.1))) o.2 := by
  refine y_ok (by decide +kernel) (Nat.le_of_ble_eq_true rfl) (L0 := [some (.ref 12), some (.int a1), some (.int a2), some (.int a3)]) rfl ?_
  have hk := mR_mQ (some (.int (bI o.1))) o.2
  generalize mQ _ _ = Q at hk ⊢
  unfold f_to_tellSeen at hf
  refine y_aload_n (i := 0) (n := 1) ⟨dX9_tellSeen_0, rfl⟩ rfl ?_
  refine y_getI (n := 4) ⟨dX9_tellSeen_1, rfl⟩ kfX9_49 l_12 rfl ?_
  refine y_bipush (n := 6) (v := 20) ⟨dX9_tellSeen_4, rfl⟩ kb_20 ?_
  refine y_icmp_lt (t := 11) (n := 9) ⟨dX9_tellSeen_6, rfl, rfl⟩ (fun (hc : (gI M 12 11) < 20) => ?_) (fun (hc : ¬ ((gI M 12 11) < 20)) => ?_)
  · replace hf := i_t hc hf
    refine y_aload_n (i := 0) (n := 12) ⟨dX9_tellSeen_11, rfl⟩ rfl ?_
    refine y_getR (n := 15) ⟨dX9_tellSeen_12, rfl⟩ kfX9_33 l_12 rfl r_12_8 ?_
    refine y_aload_n (i := 0) (n := 16) ⟨dX9_tellSeen_15, rfl⟩ rfl ?_
    refine y_getI (n := 19) ⟨dX9_tellSeen_16, rfl⟩ kfX9_49 l_12 rfl ?_
    refine y_iload_n (i := 1) (n := 20) ⟨dX9_tellSeen_19, rfl⟩ rfl ?_
    obtain ⟨hg1, hf⟩ := g_s hf
    refine y_iastore (n := 21) ⟨dX9_tellSeen_20, rfl⟩ l_20 hg1 ?_
    refine y_aload_n (i := 0) (n := 22) ⟨dX9_tellSeen_21, rfl⟩ rfl ?_
    refine y_getR (n := 25) ⟨dX9_tellSeen_22, rfl⟩ kfX9_36 l_12 rfl r_12_9 ?_
    refine y_aload_n (i := 0) (n := 26) ⟨dX9_tellSeen_25, rfl⟩ rfl ?_
    refine y_getI (n := 29) ⟨dX9_tellSeen_26, rfl⟩ kfX9_49 l_12 rfl ?_
    refine y_iload_n (i := 2) (n := 30) ⟨dX9_tellSeen_29, rfl⟩ rfl ?_
    obtain ⟨hg2, hf⟩ := g_s hf
    refine y_iastore (n := 31) ⟨dX9_tellSeen_30, rfl⟩ l_21 hg2 ?_
    refine y_aload_n (i := 0) (n := 32) ⟨dX9_tellSeen_31, rfl⟩ rfl ?_
    refine y_getR (n := 35) ⟨dX9_tellSeen_32, rfl⟩ kfX9_39 l_12 rfl r_12_10 ?_
    refine y_aload_n (i := 0) (n := 36) ⟨dX9_tellSeen_35, rfl⟩ rfl ?_
    refine y_getI (n := 39) ⟨dX9_tellSeen_36, rfl⟩ kfX9_49 l_12 rfl ?_
    refine y_iload_n (i := 3) (n := 40) ⟨dX9_tellSeen_39, rfl⟩ rfl ?_
    obtain ⟨hg3, hf⟩ := g_s hf
    refine y_iastore (n := 41) ⟨dX9_tellSeen_40, rfl⟩ l_22 hg3 ?_
    refine y_aload_n (i := 0) (n := 42) ⟨dX9_tellSeen_41, rfl⟩ rfl ?_
    refine y_dup_r (n := 43) ⟨dX9_tellSeen_42, rfl⟩ ?_
    refine y_getI (n := 46) ⟨dX9_tellSeen_43, rfl⟩ kfX9_49 l_12 rfl ?_
    refine y_iconst (n := 47) (v := 1) ⟨dX9_tellSeen_46, rfl⟩ ki_1 ?_
    refine y_iadd (n := 48) ⟨dX9_tellSeen_47, rfl⟩ ?_
    refine y_putI (n := 51) ⟨dX9_tellSeen_48, rfl⟩ kfX9_49 l_12 (by decide +kernel) rfl ?_
    refine y_iconst (n := 52) (v := 1) ⟨dX9_tellSeen_51, rfl⟩ ki_1 ?_
    cases hf
    exact y_ireturn (n := 53) ⟨dX9_tellSeen_52, rfl⟩ rfl rfl hk
  · replace hf := i_f hc hf
    refine y_iconst (n := 10) (v := 0) ⟨dX9_tellSeen_9, rfl⟩ ki_0 ?_
    cases hf
    exact y_ireturn (n := 11) ⟨dX9_tellSeen_10, rfl⟩ rfl rfl hk
theorem c_to_tellSeen (a1 : Int32) (a2 : Int32) (a3 : Int32) (M : dM) {o : (Bool × dM)} {y : mz_M} {d : Nat} {Q : mz_P} {pc n i : Nat} {L : List (Option Value)} {st : List Value} (h : mz_d y.2.1 pc n 3 (.invokevirtual i)) (hl : mz_ml y.1.cls i yX9_tellSeen) (hf : f_to_tellSeen a1 a2 a3 M = some o) (hd : 1 + 1 ≤ d) (hsm : (st.map (fun v => v.category)).sum ≤ 8) (hLr : mz_rL 133 L = true) (hSr : mz_rS 133 st = true) (kk : mW y d Q n L (.int (bI o.1) :: st) o.2) : mW y d Q pc L (.int a3 :: .int a2 :: .int a1 :: .ref 12 :: st) M :=
  y_callV kmX9_tellSeen kvX9_tellSeen l_12 (by decide +kernel) (by decide +kernel) h hl (ok_to_tellSeen a1 a2 a3 M hf) (vs := [.int a1, .int a2, .int a3]) rfl rfl hd hsm hLr hSr kk
noncomputable def f_ax_seen (a1 : Int32) (a2 : Int32) (a3 : Int32) (M : dM) : Option (Bool × dM) :=
  if (f_ax_within a1 10) = true then
    if (f_ax_within a2 8) = true then
      if (f_ax_within a3 1000) = true then
        (f_to_tellSeen a1 a2 a3 M).bind fun q1 =>
        if q1.1 = true then
          some (true, (f_ax_changed q1.2))
        else
          some (false, q1.2)
      else
        some (false, M)
    else
      some (false, M)
  else
    some (false, M)
theorem ok_ax_seen (a1 : Int32) (a2 : Int32) (a3 : Int32) (M : dM) {o : (Bool × dM)} (hf : f_ax_seen a1 a2 a3 M = some o) : mO mX11_seen 3 [.ref 0, .int a1, .int a2, .int a3] M (some (.int (bI o.1))) o.2 := by
  refine y_ok (by decide +kernel) (Nat.le_of_ble_eq_true rfl) (L0 := [some (.ref 0), some (.int a1), some (.int a2), some (.int a3)]) rfl ?_
  have hk := mR_mQ (some (.int (bI o.1))) o.2
  generalize mQ _ _ = Q at hk ⊢
  unfold f_ax_seen at hf
  refine y_iload_n (i := 1) (n := 1) ⟨dX11_seen_0, rfl⟩ rfl ?_
  refine y_bipush (n := 3) (v := 10) ⟨dX11_seen_1, rfl⟩ kb_10 ?_
  refine c_ax_within a1 10 M (n := 6) ⟨dX11_seen_3, rfl⟩ klX11_91 rfl (by decide) (Nat.le_of_ble_eq_true rfl) rfl rfl ?_
  refine y_if_eq (t := 28) (n := 9) ⟨dX11_seen_6, rfl, rfl⟩ (fun h0 => ?_) (fun h0 => ?_)
  · have hc := bI_0 h0
    replace hf := i_f hc hf
    refine y_iconst (n := 29) (v := 0) ⟨dX11_seen_28, rfl⟩ ki_0 ?_
    cases hf
    exact y_ireturn (n := 30) ⟨dX11_seen_29, rfl⟩ rfl rfl hk
  · have hc := bI_1 h0
    replace hf := i_t hc hf
    refine y_iload_n (i := 2) (n := 10) ⟨dX11_seen_9, rfl⟩ rfl ?_
    refine y_bipush (n := 12) (v := 8) ⟨dX11_seen_10, rfl⟩ kb_8 ?_
    refine c_ax_within a2 8 M (n := 15) ⟨dX11_seen_12, rfl⟩ klX11_91 rfl (by decide) (Nat.le_of_ble_eq_true rfl) rfl rfl ?_
    refine y_if_eq (t := 28) (n := 18) ⟨dX11_seen_15, rfl, rfl⟩ (fun h0 => ?_) (fun h0 => ?_)
    · have hc := bI_0 h0
      replace hf := i_f hc hf
      refine y_iconst (n := 29) (v := 0) ⟨dX11_seen_28, rfl⟩ ki_0 ?_
      cases hf
      exact y_ireturn (n := 30) ⟨dX11_seen_29, rfl⟩ rfl rfl hk
    · have hc := bI_1 h0
      replace hf := i_t hc hf
      refine y_iload_n (i := 3) (n := 19) ⟨dX11_seen_18, rfl⟩ rfl ?_
      refine y_sipush (n := 22) (v := 1000) ⟨dX11_seen_19, rfl⟩ ks_1000 ?_
      refine c_ax_within a3 1000 M (n := 25) ⟨dX11_seen_22, rfl⟩ klX11_91 rfl (by decide) (Nat.le_of_ble_eq_true rfl) rfl rfl ?_
      refine y_if_ne (t := 30) (n := 28) ⟨dX11_seen_25, rfl, rfl⟩ (fun h0 => ?_) (fun h0 => ?_)
      · have hc := bI_1 h0
        replace hf := i_t hc hf
        refine y_aload_n (i := 0) (n := 31) ⟨dX11_seen_30, rfl⟩ rfl ?_
        refine y_getR (n := 34) ⟨dX11_seen_31, rfl⟩ kfX11_26 l_0 rfl r_0_2 ?_
        refine y_iload_n (i := 1) (n := 35) ⟨dX11_seen_34, rfl⟩ rfl ?_
        refine y_iload_n (i := 2) (n := 36) ⟨dX11_seen_35, rfl⟩ rfl ?_
        refine y_iload_n (i := 3) (n := 37) ⟨dX11_seen_36, rfl⟩ rfl ?_
        obtain ⟨q1, hv2, hf⟩ := b_s hf
        refine c_to_tellSeen a1 a2 a3 M (n := 40) ⟨dX11_seen_37, rfl⟩ klX11_218 hv2 (by decide) (Nat.le_of_ble_eq_true rfl) rfl rfl ?_
        refine y_if_ne (t := 45) (n := 43) ⟨dX11_seen_40, rfl, rfl⟩ (fun h0 => ?_) (fun h0 => ?_)
        · have hc := bI_1 h0
          replace hf := i_t hc hf
          refine y_aload_n (i := 0) (n := 46) ⟨dX11_seen_45, rfl⟩ rfl ?_
          refine c_ax_changed q1.2 (n := 49) ⟨dX11_seen_46, rfl⟩ klX11_99 rfl (by decide) (Nat.le_of_ble_eq_true rfl) rfl rfl ?_
          refine y_iconst (n := 50) (v := 1) ⟨dX11_seen_49, rfl⟩ ki_1 ?_
          cases hf
          exact y_ireturn (n := 51) ⟨dX11_seen_50, rfl⟩ rfl rfl hk
        · have hc := bI_0 h0
          replace hf := i_f hc hf
          refine y_iconst (n := 44) (v := 0) ⟨dX11_seen_43, rfl⟩ ki_0 ?_
          cases hf
          exact y_ireturn (n := 45) ⟨dX11_seen_44, rfl⟩ rfl rfl hk
      · have hc := bI_0 h0
        replace hf := i_f hc hf
        refine y_iconst (n := 29) (v := 0) ⟨dX11_seen_28, rfl⟩ ki_0 ?_
        cases hf
        exact y_ireturn (n := 30) ⟨dX11_seen_29, rfl⟩ rfl rfl hk
theorem c_ax_seen (a1 : Int32) (a2 : Int32) (a3 : Int32) (M : dM) {o : (Bool × dM)} {y : mz_M} {d : Nat} {Q : mz_P} {pc n i : Nat} {L : List (Option Value)} {st : List Value} (h : mz_d y.2.1 pc n 3 (.invokevirtual i)) (hl : mz_ml y.1.cls i yX11_seen) (hf : f_ax_seen a1 a2 a3 M = some o) (hd : 3 + 1 ≤ d) (hsm : (st.map (fun v => v.category)).sum ≤ 8) (hLr : mz_rL 133 L = true) (hSr : mz_rS 133 st = true) (kk : mW y d Q n L (.int (bI o.1) :: st) o.2) : mW y d Q pc L (.int a3 :: .int a2 :: .int a1 :: .ref 0 :: st) M :=
  y_callV kmX11_seen kvX11_seen l_0 (by decide +kernel) (by decide +kernel) h hl (ok_ax_seen a1 a2 a3 M hf) (vs := [.int a1, .int a2, .int a3]) rfl rfl hd hsm hLr hSr kk
noncomputable def f_ax_may (a1 : Int32) (M : dM) : Option (Int32 × dM) :=
  if (f_ax_within a1 (gI M 12 7)) = true then
    (f_ax_study 2 M).bind fun q1 =>
    gd (vp_in a1 40) <|
    some ((gI q1 47 a1.toNatClampNeg), q1)
  else
    some ((-1), M)
theorem ok_ax_may (a1 : Int32) (M : dM) {o : (Int32 × dM)} (hf : f_ax_may a1 M = some o) : mO mX11_may 6 [.ref 0, .int a1] M (some (.int o.1)) o.2 := by
  refine y_ok (by decide +kernel) (Nat.le_of_ble_eq_true rfl) (L0 := [some (.ref 0), some (.int a1)]) rfl ?_
  have hk := mR_mQ (some (.int o.1)) o.2
  generalize mQ _ _ = Q at hk ⊢
  unfold f_ax_may at hf
  refine y_iload_n (i := 1) (n := 1) ⟨dX11_may_0, rfl⟩ rfl ?_
  refine y_aload_n (i := 0) (n := 2) ⟨dX11_may_1, rfl⟩ rfl ?_
  refine y_getR (n := 5) ⟨dX11_may_2, rfl⟩ kfX11_26 l_0 rfl r_0_2 ?_
  refine y_getI (n := 8) ⟨dX11_may_5, rfl⟩ kfX11_146 l_12 rfl ?_
  refine c_ax_within a1 (gI M 12 7) M (n := 11) ⟨dX11_may_8, rfl⟩ klX11_91 rfl (by decide) (Nat.le_of_ble_eq_true rfl) rfl rfl ?_
  refine y_if_ne (t := 16) (n := 14) ⟨dX11_may_11, rfl, rfl⟩ (fun h0 => ?_) (fun h0 => ?_)
  · have hc := bI_1 h0
    replace hf := i_t hc hf
    refine y_aload_n (i := 0) (n := 17) ⟨dX11_may_16, rfl⟩ rfl ?_
    refine y_iconst (n := 18) (v := 2) ⟨dX11_may_17, rfl⟩ ki_2 ?_
    obtain ⟨q1, hv2, hf⟩ := b_s hf
    refine c_ax_study 2 M (n := 21) ⟨dX11_may_18, rfl⟩ klX11_156 hv2 (by decide) (Nat.le_of_ble_eq_true rfl) rfl rfl ?_
    refine y_aload_n (i := 0) (n := 22) ⟨dX11_may_21, rfl⟩ rfl ?_
    refine y_getR (n := 25) ⟨dX11_may_22, rfl⟩ kfX11_65 l_0 rfl r_0_7 ?_
    refine y_getR (n := 28) ⟨dX11_may_25, rfl⟩ kfX11_222 l_45 rfl r_45_5 ?_
    refine y_iload_n (i := 1) (n := 29) ⟨dX11_may_28, rfl⟩ rfl ?_
    obtain ⟨hg3, hf⟩ := g_s hf
    refine y_iaload (n := 30) ⟨dX11_may_29, rfl⟩ l_47 hg3 ?_
    cases hf
    exact y_ireturn (n := 31) ⟨dX11_may_30, rfl⟩ rfl rfl hk
  · have hc := bI_0 h0
    replace hf := i_f hc hf
    refine y_iconst (n := 15) (v := (-1)) ⟨dX11_may_14, rfl⟩ ki_m1 ?_
    cases hf
    exact y_ireturn (n := 16) ⟨dX11_may_15, rfl⟩ rfl rfl hk
theorem c_ax_may (a1 : Int32) (M : dM) {o : (Int32 × dM)} {y : mz_M} {d : Nat} {Q : mz_P} {pc n i : Nat} {L : List (Option Value)} {st : List Value} (h : mz_d y.2.1 pc n 3 (.invokevirtual i)) (hl : mz_ml y.1.cls i yX11_may) (hf : f_ax_may a1 M = some o) (hd : 6 + 1 ≤ d) (hsm : (st.map (fun v => v.category)).sum ≤ 8) (hLr : mz_rL 133 L = true) (hSr : mz_rS 133 st = true) (kk : mW y d Q n L (.int o.1 :: st) o.2) : mW y d Q pc L (.int a1 :: .ref 0 :: st) M :=
  y_callV kmX11_may kvX11_may l_0 (by decide +kernel) (by decide +kernel) h hl (ok_ax_may a1 M hf) (vs := [.int a1]) rfl rfl hd hsm hLr hSr kk
noncomputable def f_ax_put (a1 : Int32) (M : dM) : Option (Int32 × dM) :=
  if (f_ax_within a1 (gI M 12 7)) = true then
    (f_ax_study 2 M).bind fun q1 =>
    if (f_ax_hasBit (gJ q1 45 6) a1) = true then
      some (1, q1)
    else
      some (0, q1)
  else
    some ((-1), M)
theorem ok_ax_put (a1 : Int32) (M : dM) {o : (Int32 × dM)} (hf : f_ax_put a1 M = some o) : mO mX11_put 6 [.ref 0, .int a1] M (some (.int o.1)) o.2 := by
  refine y_ok (by decide +kernel) (Nat.le_of_ble_eq_true rfl) (L0 := [some (.ref 0), some (.int a1)]) rfl ?_
  have hk := mR_mQ (some (.int o.1)) o.2
  generalize mQ _ _ = Q at hk ⊢
  unfold f_ax_put at hf
  refine y_iload_n (i := 1) (n := 1) ⟨dX11_put_0, rfl⟩ rfl ?_
  refine y_aload_n (i := 0) (n := 2) ⟨dX11_put_1, rfl⟩ rfl ?_
  refine y_getR (n := 5) ⟨dX11_put_2, rfl⟩ kfX11_26 l_0 rfl r_0_2 ?_
  refine y_getI (n := 8) ⟨dX11_put_5, rfl⟩ kfX11_146 l_12 rfl ?_
  refine c_ax_within a1 (gI M 12 7) M (n := 11) ⟨dX11_put_8, rfl⟩ klX11_91 rfl (by decide) (Nat.le_of_ble_eq_true rfl) rfl rfl ?_
  refine y_if_ne (t := 16) (n := 14) ⟨dX11_put_11, rfl, rfl⟩ (fun h0 => ?_) (fun h0 => ?_)
  · have hc := bI_1 h0
    replace hf := i_t hc hf
    refine y_aload_n (i := 0) (n := 17) ⟨dX11_put_16, rfl⟩ rfl ?_
    refine y_iconst (n := 18) (v := 2) ⟨dX11_put_17, rfl⟩ ki_2 ?_
    obtain ⟨q1, hv2, hf⟩ := b_s hf
    refine c_ax_study 2 M (n := 21) ⟨dX11_put_18, rfl⟩ klX11_156 hv2 (by decide) (Nat.le_of_ble_eq_true rfl) rfl rfl ?_
    refine y_aload_n (i := 0) (n := 22) ⟨dX11_put_21, rfl⟩ rfl ?_
    refine y_getR (n := 25) ⟨dX11_put_22, rfl⟩ kfX11_65 l_0 rfl r_0_7 ?_
    refine y_getJ (n := 28) ⟨dX11_put_25, rfl⟩ kfX11_225 l_45 rfl ?_
    refine y_iload_n (i := 1) (n := 29) ⟨dX11_put_28, rfl⟩ rfl ?_
    refine c_ax_hasBit (gJ q1 45 6) a1 q1 (n := 32) ⟨dX11_put_29, rfl⟩ klX11_120 rfl (by decide) (Nat.le_of_ble_eq_true rfl) rfl rfl ?_
    refine y_if_eq (t := 39) (n := 35) ⟨dX11_put_32, rfl, rfl⟩ (fun h0 => ?_) (fun h0 => ?_)
    · have hc := bI_0 h0
      replace hf := i_f hc hf
      refine y_iconst (n := 40) (v := 0) ⟨dX11_put_39, rfl⟩ ki_0 ?_
      cases hf
      exact y_ireturn (n := 41) ⟨dX11_put_40, rfl⟩ rfl rfl hk
    · have hc := bI_1 h0
      replace hf := i_t hc hf
      refine y_iconst (n := 36) (v := 1) ⟨dX11_put_35, rfl⟩ ki_1 ?_
      refine y_goto (t := 40) ⟨dX11_put_36, rfl, rfl⟩ ?_
      cases hf
      exact y_ireturn (n := 41) ⟨dX11_put_40, rfl⟩ rfl rfl hk
  · have hc := bI_0 h0
    replace hf := i_f hc hf
    refine y_iconst (n := 15) (v := (-1)) ⟨dX11_put_14, rfl⟩ ki_m1 ?_
    cases hf
    exact y_ireturn (n := 16) ⟨dX11_put_15, rfl⟩ rfl rfl hk
theorem c_ax_put (a1 : Int32) (M : dM) {o : (Int32 × dM)} {y : mz_M} {d : Nat} {Q : mz_P} {pc n i : Nat} {L : List (Option Value)} {st : List Value} (h : mz_d y.2.1 pc n 3 (.invokevirtual i)) (hl : mz_ml y.1.cls i yX11_put) (hf : f_ax_put a1 M = some o) (hd : 6 + 1 ≤ d) (hsm : (st.map (fun v => v.category)).sum ≤ 8) (hLr : mz_rL 133 L = true) (hSr : mz_rS 133 st = true) (kk : mW y d Q n L (.int o.1 :: st) o.2) : mW y d Q pc L (.int a1 :: .ref 0 :: st) M :=
  y_callV kmX11_put kvX11_put l_0 (by decide +kernel) (by decide +kernel) h hl (ok_ax_put a1 M hf) (vs := [.int a1]) rfl rfl hd hsm hLr hSr kk
noncomputable def f_sy_answer (a1 : Int32) (M : dM) : Int32 :=
  if a1 = 0 then
    (gI M 45 9)
  else
    if (gI M 45 9) = 0 then
      (-1)
    else
      if a1 = 1 then
        (gI M 45 10)
      else
      if a1 = 2 then
        (gI M 45 11)
      else
      if a1 = 3 then
        (gI M 45 12)
      else
      (gI M 45 13)
theorem ok_sy_answer (a1 : Int32) (M : dM) {o : Int32} (hf : f_sy_answer a1 M = o) : mO mX8_answer 1 [.ref 45, .int a1] M (some (.int o)) M := by
  refine y_ok (by decide +kernel) (Nat.le_of_ble_eq_true rfl) (L0 := [some (.ref 45), some (.int a1)]) rfl ?_
  have hk := mR_mQ (some (.int o)) M
  generalize mQ _ _ = Q at hk ⊢
  unfold f_sy_answer at hf
  refine y_iload_n (i := 1) (n := 1) ⟨dX8_answer_0, rfl⟩ rfl ?_
  refine y_if_ne (t := 9) (n := 4) ⟨dX8_answer_1, rfl, rfl⟩ (fun (hc : ¬ (a1 = 0)) => ?_) (fun (hc : a1 = 0) => ?_)
  · replace hf := i_f hc hf
    refine y_aload_n (i := 0) (n := 10) ⟨dX8_answer_9, rfl⟩ rfl ?_
    refine y_getI (n := 13) ⟨dX8_answer_10, rfl⟩ kfX8_129 l_45 rfl ?_
    refine y_if_ne (t := 18) (n := 16) ⟨dX8_answer_13, rfl, rfl⟩ (fun (hc : ¬ ((gI M 45 9) = 0)) => ?_) (fun (hc : (gI M 45 9) = 0) => ?_)
    · replace hf := i_f hc hf
      refine y_iload_n (i := 1) (n := 19) ⟨dX8_answer_18, rfl⟩ rfl ?_
      by_cases hc0 : a1 = 1
      · replace hf := i_t hc0 hf
        refine y_tabIn (t := 44) (off := 25) dX8_answer_19 (sw_lo hc0 (by decide)) (sw_hi hc0 (by decide)) (sw_at hc0 (by decide)) rfl ?_
        refine y_aload_n (i := 0) (n := 45) ⟨dX8_answer_44, rfl⟩ rfl ?_
        refine y_getI (n := 48) ⟨dX8_answer_45, rfl⟩ kfX8_132 l_45 rfl ?_
        cases hf
        exact y_ireturn (n := 49) ⟨dX8_answer_48, rfl⟩ rfl rfl hk
      replace hf := i_f hc0 hf
      by_cases hc1 : a1 = 2
      · replace hf := i_t hc1 hf
        refine y_tabIn (t := 49) (off := 30) dX8_answer_19 (sw_lo hc1 (by decide)) (sw_hi hc1 (by decide)) (sw_at hc1 (by decide)) rfl ?_
        refine y_aload_n (i := 0) (n := 50) ⟨dX8_answer_49, rfl⟩ rfl ?_
        refine y_getI (n := 53) ⟨dX8_answer_50, rfl⟩ kfX8_135 l_45 rfl ?_
        cases hf
        exact y_ireturn (n := 54) ⟨dX8_answer_53, rfl⟩ rfl rfl hk
      replace hf := i_f hc1 hf
      by_cases hc2 : a1 = 3
      · replace hf := i_t hc2 hf
        refine y_tabIn (t := 54) (off := 35) dX8_answer_19 (sw_lo hc2 (by decide)) (sw_hi hc2 (by decide)) (sw_at hc2 (by decide)) rfl ?_
        refine y_aload_n (i := 0) (n := 55) ⟨dX8_answer_54, rfl⟩ rfl ?_
        refine y_getI (n := 58) ⟨dX8_answer_55, rfl⟩ kfX8_138 l_45 rfl ?_
        cases hf
        exact y_ireturn (n := 59) ⟨dX8_answer_58, rfl⟩ rfl rfl hk
      replace hf := i_f hc2 hf
      refine y_tabOut (t := 59) dX8_answer_19 (sw_out (lo := 1) (cs := [1, 2, 3]) (by decide) (by decide) ⟨hc0, hc1, hc2, trivial⟩) rfl ?_
      refine y_aload_n (i := 0) (n := 60) ⟨dX8_answer_59, rfl⟩ rfl ?_
      refine y_getI (n := 63) ⟨dX8_answer_60, rfl⟩ kfX8_141 l_45 rfl ?_
      cases hf
      exact y_ireturn (n := 64) ⟨dX8_answer_63, rfl⟩ rfl rfl hk
    · replace hf := i_t hc hf
      refine y_iconst (n := 17) (v := (-1)) ⟨dX8_answer_16, rfl⟩ ki_m1 ?_
      cases hf
      exact y_ireturn (n := 18) ⟨dX8_answer_17, rfl⟩ rfl rfl hk
  · replace hf := i_t hc hf
    refine y_aload_n (i := 0) (n := 5) ⟨dX8_answer_4, rfl⟩ rfl ?_
    refine y_getI (n := 8) ⟨dX8_answer_5, rfl⟩ kfX8_129 l_45 rfl ?_
    cases hf
    exact y_ireturn (n := 9) ⟨dX8_answer_8, rfl⟩ rfl rfl hk
theorem c_sy_answer (a1 : Int32) (M : dM) {o : Int32} {y : mz_M} {d : Nat} {Q : mz_P} {pc n i : Nat} {L : List (Option Value)} {st : List Value} (h : mz_d y.2.1 pc n 3 (.invokevirtual i)) (hl : mz_ml y.1.cls i yX8_answer) (hf : f_sy_answer a1 M = o) (hd : 1 + 1 ≤ d) (hsm : (st.map (fun v => v.category)).sum ≤ 8) (hLr : mz_rL 133 L = true) (hSr : mz_rS 133 st = true) (kk : mW y d Q n L (.int o :: st) M) : mW y d Q pc L (.int a1 :: .ref 45 :: st) M :=
  y_callV kmX8_answer kvX8_answer l_45 (by decide +kernel) (by decide +kernel) h hl (ok_sy_answer a1 M hf) (vs := [.int a1]) rfl rfl hd hsm hLr hSr kk
noncomputable def f_ax_stories (a1 : Int32) (M : dM) : Option (Int32 × dM) :=
  if (f_ax_within a1 5) = true then
    (f_ax_study 2 M).bind fun q1 =>
    some ((f_sy_answer a1 q1), q1)
  else
    some ((-1), M)
theorem ok_ax_stories (a1 : Int32) (M : dM) {o : (Int32 × dM)} (hf : f_ax_stories a1 M = some o) : mO mX11_stories 6 [.ref 0, .int a1] M (some (.int o.1)) o.2 := by
  refine y_ok (by decide +kernel) (Nat.le_of_ble_eq_true rfl) (L0 := [some (.ref 0), some (.int a1)]) rfl ?_
  have hk := mR_mQ (some (.int o.1)) o.2
  generalize mQ _ _ = Q at hk ⊢
  unfold f_ax_stories at hf
  refine y_iload_n (i := 1) (n := 1) ⟨dX11_stories_0, rfl⟩ rfl ?_
  refine y_iconst (n := 2) (v := 5) ⟨dX11_stories_1, rfl⟩ ki_5 ?_
  refine c_ax_within a1 5 M (n := 5) ⟨dX11_stories_2, rfl⟩ klX11_91 rfl (by decide) (Nat.le_of_ble_eq_true rfl) rfl rfl ?_
  refine y_if_ne (t := 10) (n := 8) ⟨dX11_stories_5, rfl, rfl⟩ (fun h0 => ?_) (fun h0 => ?_)
  · have hc := bI_1 h0
    replace hf := i_t hc hf
    refine y_aload_n (i := 0) (n := 11) ⟨dX11_stories_10, rfl⟩ rfl ?_
    refine y_iconst (n := 12) (v := 2) ⟨dX11_stories_11, rfl⟩ ki_2 ?_
    obtain ⟨q1, hv2, hf⟩ := b_s hf
    refine c_ax_study 2 M (n := 15) ⟨dX11_stories_12, rfl⟩ klX11_156 hv2 (by decide) (Nat.le_of_ble_eq_true rfl) rfl rfl ?_
    refine y_aload_n (i := 0) (n := 16) ⟨dX11_stories_15, rfl⟩ rfl ?_
    refine y_getR (n := 19) ⟨dX11_stories_16, rfl⟩ kfX11_65 l_0 rfl r_0_7 ?_
    refine y_iload_n (i := 1) (n := 20) ⟨dX11_stories_19, rfl⟩ rfl ?_
    refine c_sy_answer a1 q1 (n := 23) ⟨dX11_stories_20, rfl⟩ klX11_229 rfl (by decide) (Nat.le_of_ble_eq_true rfl) rfl rfl ?_
    cases hf
    exact y_ireturn (n := 24) ⟨dX11_stories_23, rfl⟩ rfl rfl hk
  · have hc := bI_0 h0
    replace hf := i_f hc hf
    refine y_iconst (n := 9) (v := (-1)) ⟨dX11_stories_8, rfl⟩ ki_m1 ?_
    cases hf
    exact y_ireturn (n := 10) ⟨dX11_stories_9, rfl⟩ rfl rfl hk
theorem c_ax_stories (a1 : Int32) (M : dM) {o : (Int32 × dM)} {y : mz_M} {d : Nat} {Q : mz_P} {pc n i : Nat} {L : List (Option Value)} {st : List Value} (h : mz_d y.2.1 pc n 3 (.invokevirtual i)) (hl : mz_ml y.1.cls i yX11_stories) (hf : f_ax_stories a1 M = some o) (hd : 6 + 1 ≤ d) (hsm : (st.map (fun v => v.category)).sum ≤ 8) (hLr : mz_rL 133 L = true) (hSr : mz_rS 133 st = true) (kk : mW y d Q n L (.int o.1 :: st) o.2) : mW y d Q pc L (.int a1 :: .ref 0 :: st) M :=
  y_callV kmX11_stories kvX11_stories l_0 (by decide +kernel) (by decide +kernel) h hl (ok_ax_stories a1 M hf) (vs := [.int a1]) rfl rfl hd hsm hLr hSr kk
noncomputable def f_to_allFinds (M : dM) : Int64 :=
  (((1 : Int64) <<< ((gI M 12 7).toInt64 &&& 63)) - 1)
theorem ok_to_allFinds  (M : dM) {o : Int64} (hf : f_to_allFinds M = o) : mO mX9_allFinds 1 [.ref 12] M (some (.long o)) M := by
  refine y_ok (by decide +kernel) (Nat.le_of_ble_eq_true rfl) (L0 := [some (.ref 12)]) rfl ?_
  have hk := mR_mQ (some (.long o)) M
  generalize mQ _ _ = Q at hk ⊢
  unfold f_to_allFinds at hf
  refine y_lconst (n := 1) (v := 1) ⟨dX9_allFinds_0, rfl⟩ kl_1 ?_
  refine y_aload_n (i := 0) (n := 2) ⟨dX9_allFinds_1, rfl⟩ rfl ?_
  refine y_getI (n := 5) ⟨dX9_allFinds_2, rfl⟩ kfX9_45 l_12 rfl ?_
  refine y_lshl (n := 6) ⟨dX9_allFinds_5, rfl⟩ ?_
  refine y_lconst (n := 7) (v := 1) ⟨dX9_allFinds_6, rfl⟩ kl_1 ?_
  refine y_lsub (n := 8) ⟨dX9_allFinds_7, rfl⟩ ?_
  cases hf
  exact y_lreturn (n := 9) ⟨dX9_allFinds_8, rfl⟩ rfl hk
theorem c_to_allFinds  (M : dM) {o : Int64} {y : mz_M} {d : Nat} {Q : mz_P} {pc n i : Nat} {L : List (Option Value)} {st : List Value} (h : mz_d y.2.1 pc n 3 (.invokevirtual i)) (hl : mz_ml y.1.cls i yX9_allFinds) (hf : f_to_allFinds M = o) (hd : 1 + 1 ≤ d) (hsm : (st.map (fun v => v.category)).sum ≤ 8) (hLr : mz_rL 133 L = true) (hSr : mz_rS 133 st = true) (kk : mW y d Q n L (.long o :: st) M) : mW y d Q pc L (.ref 12 :: st) M :=
  y_callV kmX9_allFinds kvX9_allFinds l_12 (by decide +kernel) (by decide +kernel) h hl (ok_to_allFinds  M hf) (vs := []) rfl rfl hd hsm hLr hSr kk
def K_cl_tellGround_6 (Q : mz_P) (x1 : Int32) (x2 : Int64) (x4 : Int32) (M : dM) : ((Int32 × Int32) ⊕ Int32) → Prop
  | .inl s => mW mX1_tellGround 1 Q 6 [some (.ref 50), some (.int x1), some (.long x2), none, some (.int x4), some (.int s.1), some (.int s.2)] [] M
  | .inr t => mW mX1_tellGround 1 Q 35 [some (.ref 50), some (.int x1), some (.long x2), none, some (.int x4), some (.int t), none] [] M
noncomputable def b_cl_tellGround_6_6 (x1 : Int32) (x2 : Int64) (x4 : Int32) (x5 : Int32) (x6 : Int32) (M : dM) : Option ((Int32 × Int32) ⊕ Int32) :=
  if (gI M 50 4) ≤ x6 then
    some (.inr x5)
  else
    gd (vp_in x6 36) <|
    if (gI M 51 x6.toNatClampNeg) = x1 then
      some (.inl ((x5 + 1), (x6 + 1)))
    else
      some (.inl (x5, (x6 + 1)))
noncomputable def l_cl_tellGround_6 (x1 : Int32) (x2 : Int64) (x4 : Int32) (x5 : Int32) (x6 : Int32) (M : dM) : Option Int32 := lpc (fun s => b_cl_tellGround_6_6 x1 x2 x4 s.1 s.2 M) (x5, x6)
noncomputable def f_cl_tellGround (a1 : Int32) (a2 : Int64) (a3 : Int32) (M : dM) : Option (Bool × dM) :=
  (l_cl_tellGround_6 a1 a2 a3 0 0 M).bind fun t2 =>
    if 3 ≤ t2 then
      some (false, M)
    else
      if (gI M 50 4) < 36 then
        gd (vp_in (gI M 50 4) 36) <|
        gd (vp_in (gI (sI M 51 (gI M 50 4).toNatClampNeg a1) 50 4) 36) <|
        gd (vp_in (gI (sJ (sI M 51 (gI M 50 4).toNatClampNeg a1) 52 (gI (sI M 51 (gI M 50 4).toNatClampNeg a1) 50 4).toNatClampNeg a2) 50 4) 36) <|
        some (true, (sI (sI (sJ (sI M 51 (gI M 50 4).toNatClampNeg a1) 52 (gI (sI M 51 (gI M 50 4).toNatClampNeg a1) 50 4).toNatClampNeg a2) 53 (gI (sJ (sI M 51 (gI M 50 4).toNatClampNeg a1) 52 (gI (sI M 51 (gI M 50 4).toNatClampNeg a1) 50 4).toNatClampNeg a2) 50 4).toNatClampNeg a3) 50 4 ((gI (sI (sJ (sI M 51 (gI M 50 4).toNatClampNeg a1) 52 (gI (sI M 51 (gI M 50 4).toNatClampNeg a1) 50 4).toNatClampNeg a2) 53 (gI (sJ (sI M 51 (gI M 50 4).toNatClampNeg a1) 52 (gI (sI M 51 (gI M 50 4).toNatClampNeg a1) 50 4).toNatClampNeg a2) 50 4).toNatClampNeg a3) 50 4) + 1)))
      else
        some (false, M)
theorem w_b_cl_tellGround_6_6 (x1 : Int32) (x2 : Int64) (x4 : Int32) (x5 : Int32) (x6 : Int32)  (M : dM) {Q : mz_P} {o : ((Int32 × Int32) ⊕ Int32)} (hf : b_cl_tellGround_6_6 x1 x2 x4 x5 x6 M = some o) (hk : K_cl_tellGround_6 Q x1 x2 x4 M o) : mW mX1_tellGround 1 Q 6 [some (.ref 50), some (.int x1), some (.long x2), none, some (.int x4), some (.int x5), some (.int x6)] [] M := by
  unfold b_cl_tellGround_6_6 at hf
  refine y_iload (i := 6) (n := 8) ⟨dX1_tellGround_6, rfl⟩ rfl ?_
  refine y_aload_n (i := 0) (n := 9) ⟨dX1_tellGround_8, rfl⟩ rfl ?_
  refine y_getI (n := 12) ⟨dX1_tellGround_9, rfl⟩ kfX1_39 l_50 rfl ?_
  refine y_icmp_ge (t := 35) (n := 15) ⟨dX1_tellGround_12, rfl, rfl⟩ (fun (hc : (gI M 50 4) ≤ x6) => ?_) (fun (hc : ¬ ((gI M 50 4) ≤ x6)) => ?_)
  · replace hf := i_t hc hf
    cases hf
    exact y_wk (L2 := [some (.ref 50), some (.int x1), some (.long x2), none, some (.int x4), some (.int x5), none]) ⟨Or.inr rfl, Or.inr rfl, Or.inr rfl, Or.inr rfl, Or.inr rfl, Or.inr rfl, Or.inl rfl, trivial⟩ hk
  · replace hf := i_f hc hf
    refine y_aload_n (i := 0) (n := 16) ⟨dX1_tellGround_15, rfl⟩ rfl ?_
    refine y_getR (n := 19) ⟨dX1_tellGround_16, rfl⟩ kfX1_9 l_50 rfl r_50_1 ?_
    refine y_iload (i := 6) (n := 21) ⟨dX1_tellGround_19, rfl⟩ rfl ?_
    obtain ⟨hg1, hf⟩ := g_s hf
    refine y_iaload (n := 22) ⟨dX1_tellGround_21, rfl⟩ l_51 hg1 ?_
    refine y_iload_n (i := 1) (n := 23) ⟨dX1_tellGround_22, rfl⟩ rfl ?_
    refine y_icmp_ne (t := 29) (n := 26) ⟨dX1_tellGround_23, rfl, rfl⟩ (fun (hc : ¬ ((gI M 51 x6.toNatClampNeg) = x1)) => ?_) (fun (hc : (gI M 51 x6.toNatClampNeg) = x1) => ?_)
    · replace hf := i_f hc hf
      refine y_iinc (i := 6) (n := 32) (b := (x6 + 1)) (L2 := [some (.ref 50), some (.int x1), some (.long x2), none, some (.int x4), some (.int x5), some (.int (x6 + 1))]) ⟨dX1_tellGround_29, rfl⟩ rfl (by rw [ki_1]) (by decide) rfl rfl ?_
      refine y_goto (t := 6) ⟨dX1_tellGround_32, rfl, rfl⟩ ?_
      cases hf
      exact y_wk (L2 := [some (.ref 50), some (.int x1), some (.long x2), none, some (.int x4), some (.int x5), some (.int (x6 + 1))]) ⟨Or.inr rfl, Or.inr rfl, Or.inr rfl, Or.inr rfl, Or.inr rfl, Or.inr rfl, Or.inr rfl, trivial⟩ hk
    · replace hf := i_t hc hf
      refine y_iinc (i := 5) (n := 29) (b := (x5 + 1)) (L2 := [some (.ref 50), some (.int x1), some (.long x2), none, some (.int x4), some (.int (x5 + 1)), some (.int x6)]) ⟨dX1_tellGround_26, rfl⟩ rfl (by rw [ki_1]) (by decide) rfl rfl ?_
      refine y_iinc (i := 6) (n := 32) (b := (x6 + 1)) (L2 := [some (.ref 50), some (.int x1), some (.long x2), none, some (.int x4), some (.int (x5 + 1)), some (.int (x6 + 1))]) ⟨dX1_tellGround_29, rfl⟩ rfl (by rw [ki_1]) (by decide) rfl rfl ?_
      refine y_goto (t := 6) ⟨dX1_tellGround_32, rfl, rfl⟩ ?_
      cases hf
      exact y_wk (L2 := [some (.ref 50), some (.int x1), some (.long x2), none, some (.int x4), some (.int (x5 + 1)), some (.int (x6 + 1))]) ⟨Or.inr rfl, Or.inr rfl, Or.inr rfl, Or.inr rfl, Or.inr rfl, Or.inr rfl, Or.inr rfl, trivial⟩ hk
theorem wl_cl_tellGround_6 (x1 : Int32) (x2 : Int64) (x4 : Int32) (x5 : Int32) (x6 : Int32) (M : dM) {Q : mz_P} {x : Int32} (hf : l_cl_tellGround_6 x1 x2 x4 x5 x6 M = some x) (hk : K_cl_tellGround_6 Q x1 x2 x4 M (.inr x)) : mW mX1_tellGround 1 Q 6 [some (.ref 50), some (.int x1), some (.long x2), none, some (.int x4), some (.int x5), some (.int x6)] [] M :=
  lpc_wp (σ := (Int32 × Int32)) (ξ := Int32) (s := (x5, x6)) (Wh := fun s => mW mX1_tellGround 1 Q 6 [some (.ref 50), some (.int x1), some (.long x2), none, some (.int x4), some (.int s.1), some (.int s.2)] [] M) (K := K_cl_tellGround_6 Q x1 x2 x4 M) (fun _ h => h) (fun s o hb hk => w_b_cl_tellGround_6_6 x1 x2 x4 s.1 s.2 M hb hk) hf hk
theorem ok_cl_tellGround (a1 : Int32) (a2 : Int64) (a3 : Int32) (M : dM) {o : (Bool × dM)} (hf : f_cl_tellGround a1 a2 a3 M = some o) : mO mX1_tellGround 1 [.ref 50, .int a1, .long a2, .int a3] M (some (.int (bI o.1))) o.2 := by
  refine y_ok (by decide +kernel) (Nat.le_of_ble_eq_true rfl) (L0 := [some (.ref 50), some (.int a1), some (.long a2), none, some (.int a3), none, none]) rfl ?_
  have hk := mR_mQ (some (.int (bI o.1))) o.2
  generalize mQ _ _ = Q at hk ⊢
  unfold f_cl_tellGround at hf
  refine y_iconst (n := 1) (v := 0) ⟨dX1_tellGround_0, rfl⟩ ki_0 ?_
  refine y_istore (i := 5) (n := 3) (L2 := [some (.ref 50), some (.int a1), some (.long a2), none, some (.int a3), some (.int 0), none]) ⟨dX1_tellGround_1, rfl⟩ (by decide) rfl rfl ?_
  refine y_iconst (n := 4) (v := 0) ⟨dX1_tellGround_3, rfl⟩ ki_0 ?_
  refine y_istore (i := 6) (n := 6) (L2 := [some (.ref 50), some (.int a1), some (.long a2), none, some (.int a3), some (.int 0), some (.int 0)]) ⟨dX1_tellGround_4, rfl⟩ (by decide) rfl rfl ?_
  obtain ⟨t2, hl3, hf⟩ := b_s hf
  refine y_wk (L2 := [some (.ref 50), some (.int a1), some (.long a2), none, some (.int a3), some (.int 0), some (.int 0)]) ⟨Or.inr rfl, Or.inr rfl, Or.inr rfl, Or.inr rfl, Or.inr rfl, Or.inr rfl, Or.inr rfl, trivial⟩ (wl_cl_tellGround_6 a1 a2 a3 0 0 M hl3 ?_)
  show mW mX1_tellGround 1 Q 35 [some (.ref 50), some (.int a1), some (.long a2), none, some (.int a3), some (.int t2), none] [] M
  refine y_iload (i := 5) (n := 37) ⟨dX1_tellGround_35, rfl⟩ rfl ?_
  refine y_iconst (n := 38) (v := 3) ⟨dX1_tellGround_37, rfl⟩ ki_3 ?_
  refine y_icmp_ge (t := 50) (n := 41) ⟨dX1_tellGround_38, rfl, rfl⟩ (fun (hc : 3 ≤ t2) => ?_) (fun (hc : ¬ (3 ≤ t2)) => ?_)
  · replace hf := i_t hc hf
    refine y_iconst (n := 51) (v := 0) ⟨dX1_tellGround_50, rfl⟩ ki_0 ?_
    cases hf
    exact y_ireturn (n := 52) ⟨dX1_tellGround_51, rfl⟩ rfl rfl hk
  · replace hf := i_f hc hf
    refine y_aload_n (i := 0) (n := 42) ⟨dX1_tellGround_41, rfl⟩ rfl ?_
    refine y_getI (n := 45) ⟨dX1_tellGround_42, rfl⟩ kfX1_39 l_50 rfl ?_
    refine y_bipush (n := 47) (v := 36) ⟨dX1_tellGround_45, rfl⟩ kb_36 ?_
    refine y_icmp_lt (t := 52) (n := 50) ⟨dX1_tellGround_47, rfl, rfl⟩ (fun (hc : (gI M 50 4) < 36) => ?_) (fun (hc : ¬ ((gI M 50 4) < 36)) => ?_)
    · replace hf := i_t hc hf
      refine y_aload_n (i := 0) (n := 53) ⟨dX1_tellGround_52, rfl⟩ rfl ?_
      refine y_getR (n := 56) ⟨dX1_tellGround_53, rfl⟩ kfX1_9 l_50 rfl r_50_1 ?_
      refine y_aload_n (i := 0) (n := 57) ⟨dX1_tellGround_56, rfl⟩ rfl ?_
      refine y_getI (n := 60) ⟨dX1_tellGround_57, rfl⟩ kfX1_39 l_50 rfl ?_
      refine y_iload_n (i := 1) (n := 61) ⟨dX1_tellGround_60, rfl⟩ rfl ?_
      obtain ⟨hg5, hf⟩ := g_s hf
      refine y_iastore (n := 62) ⟨dX1_tellGround_61, rfl⟩ l_51 hg5 ?_
      refine y_aload_n (i := 0) (n := 63) ⟨dX1_tellGround_62, rfl⟩ rfl ?_
      refine y_getR (n := 66) ⟨dX1_tellGround_63, rfl⟩ kfX1_15 l_50 rfl r_50_2 ?_
      refine y_aload_n (i := 0) (n := 67) ⟨dX1_tellGround_66, rfl⟩ rfl ?_
      refine y_getI (n := 70) ⟨dX1_tellGround_67, rfl⟩ kfX1_39 l_50 rfl ?_
      refine y_lload_n (i := 2) (n := 71) ⟨dX1_tellGround_70, rfl⟩ rfl ?_
      obtain ⟨hg6, hf⟩ := g_s hf
      refine y_lastore (n := 72) ⟨dX1_tellGround_71, rfl⟩ l_52 hg6 ?_
      refine y_aload_n (i := 0) (n := 73) ⟨dX1_tellGround_72, rfl⟩ rfl ?_
      refine y_getR (n := 76) ⟨dX1_tellGround_73, rfl⟩ kfX1_19 l_50 rfl r_50_3 ?_
      refine y_aload_n (i := 0) (n := 77) ⟨dX1_tellGround_76, rfl⟩ rfl ?_
      refine y_getI (n := 80) ⟨dX1_tellGround_77, rfl⟩ kfX1_39 l_50 rfl ?_
      refine y_iload (i := 4) (n := 82) ⟨dX1_tellGround_80, rfl⟩ rfl ?_
      obtain ⟨hg7, hf⟩ := g_s hf
      refine y_iastore (n := 83) ⟨dX1_tellGround_82, rfl⟩ l_53 hg7 ?_
      refine y_aload_n (i := 0) (n := 84) ⟨dX1_tellGround_83, rfl⟩ rfl ?_
      refine y_dup_r (n := 85) ⟨dX1_tellGround_84, rfl⟩ ?_
      refine y_getI (n := 88) ⟨dX1_tellGround_85, rfl⟩ kfX1_39 l_50 rfl ?_
      refine y_iconst (n := 89) (v := 1) ⟨dX1_tellGround_88, rfl⟩ ki_1 ?_
      refine y_iadd (n := 90) ⟨dX1_tellGround_89, rfl⟩ ?_
      refine y_putI (n := 93) ⟨dX1_tellGround_90, rfl⟩ kfX1_39 l_50 (by decide +kernel) rfl ?_
      refine y_iconst (n := 94) (v := 1) ⟨dX1_tellGround_93, rfl⟩ ki_1 ?_
      cases hf
      exact y_ireturn (n := 95) ⟨dX1_tellGround_94, rfl⟩ rfl rfl hk
    · replace hf := i_f hc hf
      refine y_iconst (n := 51) (v := 0) ⟨dX1_tellGround_50, rfl⟩ ki_0 ?_
      cases hf
      exact y_ireturn (n := 52) ⟨dX1_tellGround_51, rfl⟩ rfl rfl hk
theorem c_cl_tellGround (a1 : Int32) (a2 : Int64) (a3 : Int32) (M : dM) {o : (Bool × dM)} {y : mz_M} {d : Nat} {Q : mz_P} {pc n i : Nat} {L : List (Option Value)} {st : List Value} (h : mz_d y.2.1 pc n 3 (.invokevirtual i)) (hl : mz_ml y.1.cls i yX1_tellGround) (hf : f_cl_tellGround a1 a2 a3 M = some o) (hd : 1 + 1 ≤ d) (hsm : (st.map (fun v => v.category)).sum ≤ 8) (hLr : mz_rL 133 L = true) (hSr : mz_rS 133 st = true) (kk : mW y d Q n L (.int (bI o.1) :: st) o.2) : mW y d Q pc L (.int a3 :: .long a2 :: .int a1 :: .ref 50 :: st) M :=
  y_callV kmX1_tellGround kvX1_tellGround l_50 (by decide +kernel) (by decide +kernel) h hl (ok_cl_tellGround a1 a2 a3 M hf) (vs := [.int a1, .long a2, .int a3]) rfl rfl hd hsm hLr hSr kk
noncomputable def t_ax_ground_53 (x1 : Int32) (x2 : Int64) (x4 : Int32) (M : dM) : Option (Bool × dM) :=
  (f_cl_tellGround x1 x2 x4 M).bind fun q1 =>
  if q1.1 = true then
    some (true, (f_ax_changed q1.2))
  else
    some (false, q1.2)
noncomputable def f_ax_ground (a1 : Int32) (a2 : Int64) (a3 : Int32) (M : dM) : Option (Bool × dM) :=
  if (f_ax_within a1 12) = true then
    if (a2 &&& ((f_to_allFinds M) ^^^ (-1))) = 0 then
      if (f_ax_within a3 4096) = true then
        if a2 = 0 then
          if a3 = 0 then
            some (false, M)
          else
            t_ax_ground_53 a1 a2 a3 M
        else
          t_ax_ground_53 a1 a2 a3 M
      else
        some (false, M)
    else
      some (false, M)
  else
    some (false, M)
theorem w_t_ax_ground_53 (x1 : Int32) (x2 : Int64) (x4 : Int32) (M : dM) {Q : mz_P} {o : (Bool × dM)} (hf : t_ax_ground_53 x1 x2 x4 M = some o) (hk : mR Q (some (.int (bI o.1))) o.2) : mW mX11_ground 3 Q 53 [some (.ref 0), some (.int x1), some (.long x2), none, some (.int x4)] [] M := by
  unfold t_ax_ground_53 at hf
  refine y_aload_n (i := 0) (n := 54) ⟨dX11_ground_53, rfl⟩ rfl ?_
  refine y_getR (n := 57) ⟨dX11_ground_54, rfl⟩ kfX11_74 l_0 rfl r_0_8 ?_
  refine y_iload_n (i := 1) (n := 58) ⟨dX11_ground_57, rfl⟩ rfl ?_
  refine y_lload_n (i := 2) (n := 59) ⟨dX11_ground_58, rfl⟩ rfl ?_
  refine y_iload (i := 4) (n := 61) ⟨dX11_ground_59, rfl⟩ rfl ?_
  obtain ⟨q1, hv2, hf⟩ := b_s hf
  refine c_cl_tellGround x1 x2 x4 M (n := 64) ⟨dX11_ground_61, rfl⟩ klX11_236 hv2 (by decide) (Nat.le_of_ble_eq_true rfl) rfl rfl ?_
  refine y_if_ne (t := 69) (n := 67) ⟨dX11_ground_64, rfl, rfl⟩ (fun h0 => ?_) (fun h0 => ?_)
  · have hc := bI_1 h0
    replace hf := i_t hc hf
    refine y_aload_n (i := 0) (n := 70) ⟨dX11_ground_69, rfl⟩ rfl ?_
    refine c_ax_changed q1.2 (n := 73) ⟨dX11_ground_70, rfl⟩ klX11_99 rfl (by decide) (Nat.le_of_ble_eq_true rfl) rfl rfl ?_
    refine y_iconst (n := 74) (v := 1) ⟨dX11_ground_73, rfl⟩ ki_1 ?_
    cases hf
    exact y_ireturn (n := 75) ⟨dX11_ground_74, rfl⟩ rfl rfl hk
  · have hc := bI_0 h0
    replace hf := i_f hc hf
    refine y_iconst (n := 68) (v := 0) ⟨dX11_ground_67, rfl⟩ ki_0 ?_
    cases hf
    exact y_ireturn (n := 69) ⟨dX11_ground_68, rfl⟩ rfl rfl hk
theorem ok_ax_ground (a1 : Int32) (a2 : Int64) (a3 : Int32) (M : dM) {o : (Bool × dM)} (hf : f_ax_ground a1 a2 a3 M = some o) : mO mX11_ground 3 [.ref 0, .int a1, .long a2, .int a3] M (some (.int (bI o.1))) o.2 := by
  refine y_ok (by decide +kernel) (Nat.le_of_ble_eq_true rfl) (L0 := [some (.ref 0), some (.int a1), some (.long a2), none, some (.int a3)]) rfl ?_
  have hk := mR_mQ (some (.int (bI o.1))) o.2
  generalize mQ _ _ = Q at hk ⊢
  unfold f_ax_ground at hf
  refine y_iload_n (i := 1) (n := 1) ⟨dX11_ground_0, rfl⟩ rfl ?_
  refine y_bipush (n := 3) (v := 12) ⟨dX11_ground_1, rfl⟩ kb_12 ?_
  refine c_ax_within a1 12 M (n := 6) ⟨dX11_ground_3, rfl⟩ klX11_91 rfl (by decide) (Nat.le_of_ble_eq_true rfl) rfl rfl ?_
  refine y_if_eq (t := 27) (n := 9) ⟨dX11_ground_6, rfl, rfl⟩ (fun h0 => ?_) (fun h0 => ?_)
  · have hc := bI_0 h0
    replace hf := i_f hc hf
    refine y_iconst (n := 28) (v := 0) ⟨dX11_ground_27, rfl⟩ ki_0 ?_
    cases hf
    exact y_ireturn (n := 29) ⟨dX11_ground_28, rfl⟩ rfl rfl hk
  · have hc := bI_1 h0
    replace hf := i_t hc hf
    refine y_lload_n (i := 2) (n := 10) ⟨dX11_ground_9, rfl⟩ rfl ?_
    refine y_aload_n (i := 0) (n := 11) ⟨dX11_ground_10, rfl⟩ rfl ?_
    refine y_getR (n := 14) ⟨dX11_ground_11, rfl⟩ kfX11_26 l_0 rfl r_0_2 ?_
    refine c_to_allFinds M (n := 17) ⟨dX11_ground_14, rfl⟩ klX11_232 rfl (by decide) (Nat.le_of_ble_eq_true rfl) rfl rfl ?_
    refine y_ldc2 (n := 20) ⟨dX11_ground_17, rfl⟩ kcX11_189 ?_
    refine y_lxor (n := 21) ⟨dX11_ground_20, rfl⟩ ?_
    refine y_land (n := 22) ⟨dX11_ground_21, rfl⟩ ?_
    refine y_lconst (n := 23) (v := 0) ⟨dX11_ground_22, rfl⟩ kl_0 ?_
    refine y_lcmp (n := 24) ⟨dX11_ground_23, rfl⟩ ?_
    refine y_if_eq (t := 29) (n := 27) ⟨dX11_ground_24, rfl, rfl⟩ (fun h0 => ?_) (fun h0 => ?_)
    · have hc : (a2 &&& ((f_to_allFinds M) ^^^ (-1))) = 0 := (lc_eq _ _).mp h0
      replace hf := i_t hc hf
      refine y_iload (i := 4) (n := 31) ⟨dX11_ground_29, rfl⟩ rfl ?_
      refine y_sipush (n := 34) (v := 4096) ⟨dX11_ground_31, rfl⟩ ks_4096 ?_
      refine c_ax_within a3 4096 M (n := 37) ⟨dX11_ground_34, rfl⟩ klX11_91 rfl (by decide) (Nat.le_of_ble_eq_true rfl) rfl rfl ?_
      refine y_if_eq (t := 51) (n := 40) ⟨dX11_ground_37, rfl, rfl⟩ (fun h0 => ?_) (fun h0 => ?_)
      · have hc := bI_0 h0
        replace hf := i_f hc hf
        refine y_iconst (n := 52) (v := 0) ⟨dX11_ground_51, rfl⟩ ki_0 ?_
        cases hf
        exact y_ireturn (n := 53) ⟨dX11_ground_52, rfl⟩ rfl rfl hk
      · have hc := bI_1 h0
        replace hf := i_t hc hf
        refine y_lload_n (i := 2) (n := 41) ⟨dX11_ground_40, rfl⟩ rfl ?_
        refine y_lconst (n := 42) (v := 0) ⟨dX11_ground_41, rfl⟩ kl_0 ?_
        refine y_lcmp (n := 43) ⟨dX11_ground_42, rfl⟩ ?_
        refine y_if_ne (t := 53) (n := 46) ⟨dX11_ground_43, rfl, rfl⟩ (fun h0 => ?_) (fun h0 => ?_)
        · have hc : ¬ (a2 = 0) := fun e => h0 ((lc_eq _ _).mpr e)
          replace hf := i_f hc hf
          exact y_wk (L2 := [some (.ref 0), some (.int a1), some (.long a2), none, some (.int a3)]) ⟨Or.inr rfl, Or.inr rfl, Or.inr rfl, Or.inr rfl, Or.inr rfl, trivial⟩ (w_t_ax_ground_53 a1 a2 a3 M hf hk)
        · have hc : a2 = 0 := (lc_eq _ _).mp h0
          replace hf := i_t hc hf
          refine y_iload (i := 4) (n := 48) ⟨dX11_ground_46, rfl⟩ rfl ?_
          refine y_if_ne (t := 53) (n := 51) ⟨dX11_ground_48, rfl, rfl⟩ (fun (hc : ¬ (a3 = 0)) => ?_) (fun (hc : a3 = 0) => ?_)
          · replace hf := i_f hc hf
            exact y_wk (L2 := [some (.ref 0), some (.int a1), some (.long a2), none, some (.int a3)]) ⟨Or.inr rfl, Or.inr rfl, Or.inr rfl, Or.inr rfl, Or.inr rfl, trivial⟩ (w_t_ax_ground_53 a1 a2 a3 M hf hk)
          · replace hf := i_t hc hf
            refine y_iconst (n := 52) (v := 0) ⟨dX11_ground_51, rfl⟩ ki_0 ?_
            cases hf
            exact y_ireturn (n := 53) ⟨dX11_ground_52, rfl⟩ rfl rfl hk
    · have hc : ¬ ((a2 &&& ((f_to_allFinds M) ^^^ (-1))) = 0) := fun e => h0 ((lc_eq _ _).mpr e)
      replace hf := i_f hc hf
      refine y_iconst (n := 28) (v := 0) ⟨dX11_ground_27, rfl⟩ ki_0 ?_
      cases hf
      exact y_ireturn (n := 29) ⟨dX11_ground_28, rfl⟩ rfl rfl hk
theorem c_ax_ground (a1 : Int32) (a2 : Int64) (a3 : Int32) (M : dM) {o : (Bool × dM)} {y : mz_M} {d : Nat} {Q : mz_P} {pc n i : Nat} {L : List (Option Value)} {st : List Value} (h : mz_d y.2.1 pc n 3 (.invokevirtual i)) (hl : mz_ml y.1.cls i yX11_ground) (hf : f_ax_ground a1 a2 a3 M = some o) (hd : 3 + 1 ≤ d) (hsm : (st.map (fun v => v.category)).sum ≤ 8) (hLr : mz_rL 133 L = true) (hSr : mz_rS 133 st = true) (kk : mW y d Q n L (.int (bI o.1) :: st) o.2) : mW y d Q pc L (.int a3 :: .long a2 :: .int a1 :: .ref 0 :: st) M :=
  y_callV kmX11_ground kvX11_ground l_0 (by decide +kernel) (by decide +kernel) h hl (ok_ax_ground a1 a2 a3 M hf) (vs := [.int a1, .long a2, .int a3]) rfl rfl hd hsm hLr hSr kk
def K_to_findsWithout_5 (Q : mz_P) (x1 : Int32) (M : dM) : ((Int64 × Int32) ⊕ Int64) → Prop
  | .inl s => mW mX9_findsWithout 1 Q 5 [some (.ref 12), some (.int x1), some (.long s.1), none, some (.int s.2)] [] M
  | .inr r => mR Q (some (.long r)) M
noncomputable def b_to_findsWithout_5_5 (x1 : Int32) (x2 : Int64) (x4 : Int32) (M : dM) : Option ((Int64 × Int32) ⊕ Int64) :=
  if (gI M 12 7) ≤ x4 then
    some (.inr x2)
  else
    gd (vp_in x4 40) <|
    if (gI M 17 x4.toNatClampNeg) = x1 then
      some (.inl (x2, (x4 + 1)))
    else
      some (.inl ((x2 ||| ((1 : Int64) <<< (x4.toInt64 &&& 63))), (x4 + 1)))
noncomputable def l_to_findsWithout_5 (x1 : Int32) (x2 : Int64) (x4 : Int32) (M : dM) : Option Int64 := lpc (fun s => b_to_findsWithout_5_5 x1 s.1 s.2 M) (x2, x4)
noncomputable def f_to_findsWithout (a1 : Int32) (M : dM) : Option Int64 :=
  (l_to_findsWithout_5 a1 0 0 M).bind fun r4 => some r4
theorem w_b_to_findsWithout_5_5 (x1 : Int32) (x2 : Int64) (x4 : Int32)  (M : dM) {Q : mz_P} {o : ((Int64 × Int32) ⊕ Int64)} (hf : b_to_findsWithout_5_5 x1 x2 x4 M = some o) (hk : K_to_findsWithout_5 Q x1 M o) : mW mX9_findsWithout 1 Q 5 [some (.ref 12), some (.int x1), some (.long x2), none, some (.int x4)] [] M := by
  unfold b_to_findsWithout_5_5 at hf
  refine y_iload (i := 4) (n := 7) ⟨dX9_findsWithout_5, rfl⟩ rfl ?_
  refine y_aload_n (i := 0) (n := 8) ⟨dX9_findsWithout_7, rfl⟩ rfl ?_
  refine y_getI (n := 11) ⟨dX9_findsWithout_8, rfl⟩ kfX9_45 l_12 rfl ?_
  refine y_icmp_ge (t := 38) (n := 14) ⟨dX9_findsWithout_11, rfl, rfl⟩ (fun (hc : (gI M 12 7) ≤ x4) => ?_) (fun (hc : ¬ ((gI M 12 7) ≤ x4)) => ?_)
  · replace hf := i_t hc hf
    refine y_lload_n (i := 2) (n := 39) ⟨dX9_findsWithout_38, rfl⟩ rfl ?_
    cases hf
    exact y_lreturn (n := 40) ⟨dX9_findsWithout_39, rfl⟩ rfl hk
  · replace hf := i_f hc hf
    refine y_aload_n (i := 0) (n := 15) ⟨dX9_findsWithout_14, rfl⟩ rfl ?_
    refine y_getR (n := 18) ⟨dX9_findsWithout_15, rfl⟩ kfX9_24 l_12 rfl r_12_4 ?_
    refine y_iload (i := 4) (n := 20) ⟨dX9_findsWithout_18, rfl⟩ rfl ?_
    obtain ⟨hg1, hf⟩ := g_s hf
    refine y_iaload (n := 21) ⟨dX9_findsWithout_20, rfl⟩ l_17 hg1 ?_
    refine y_iload_n (i := 1) (n := 22) ⟨dX9_findsWithout_21, rfl⟩ rfl ?_
    refine y_icmp_eq (t := 32) (n := 25) ⟨dX9_findsWithout_22, rfl, rfl⟩ (fun (hc : (gI M 17 x4.toNatClampNeg) = x1) => ?_) (fun (hc : ¬ ((gI M 17 x4.toNatClampNeg) = x1)) => ?_)
    · replace hf := i_t hc hf
      refine y_iinc (i := 4) (n := 35) (b := (x4 + 1)) (L2 := [some (.ref 12), some (.int x1), some (.long x2), none, some (.int (x4 + 1))]) ⟨dX9_findsWithout_32, rfl⟩ rfl (by rw [ki_1]) (by decide) rfl rfl ?_
      refine y_goto (t := 5) ⟨dX9_findsWithout_35, rfl, rfl⟩ ?_
      cases hf
      exact y_wk (L2 := [some (.ref 12), some (.int x1), some (.long x2), none, some (.int (x4 + 1))]) ⟨Or.inr rfl, Or.inr rfl, Or.inr rfl, Or.inr rfl, Or.inr rfl, trivial⟩ hk
    · replace hf := i_f hc hf
      refine y_lload_n (i := 2) (n := 26) ⟨dX9_findsWithout_25, rfl⟩ rfl ?_
      refine y_lconst (n := 27) (v := 1) ⟨dX9_findsWithout_26, rfl⟩ kl_1 ?_
      refine y_iload (i := 4) (n := 29) ⟨dX9_findsWithout_27, rfl⟩ rfl ?_
      refine y_lshl (n := 30) ⟨dX9_findsWithout_29, rfl⟩ ?_
      refine y_lor (n := 31) ⟨dX9_findsWithout_30, rfl⟩ ?_
      refine y_lstore_n (i := 2) (n := 32) (L2 := [some (.ref 12), some (.int x1), some (.long (x2 ||| ((1 : Int64) <<< (x4.toInt64 &&& 63)))), none, some (.int x4)]) ⟨dX9_findsWithout_31, rfl⟩ (by decide) rfl rfl ?_
      refine y_iinc (i := 4) (n := 35) (b := (x4 + 1)) (L2 := [some (.ref 12), some (.int x1), some (.long (x2 ||| ((1 : Int64) <<< (x4.toInt64 &&& 63)))), none, some (.int (x4 + 1))]) ⟨dX9_findsWithout_32, rfl⟩ rfl (by rw [ki_1]) (by decide) rfl rfl ?_
      refine y_goto (t := 5) ⟨dX9_findsWithout_35, rfl, rfl⟩ ?_
      cases hf
      exact y_wk (L2 := [some (.ref 12), some (.int x1), some (.long (x2 ||| ((1 : Int64) <<< (x4.toInt64 &&& 63)))), none, some (.int (x4 + 1))]) ⟨Or.inr rfl, Or.inr rfl, Or.inr rfl, Or.inr rfl, Or.inr rfl, trivial⟩ hk
theorem wl_to_findsWithout_5 (x1 : Int32) (x2 : Int64) (x4 : Int32) (M : dM) {Q : mz_P} {x : Int64} (hf : l_to_findsWithout_5 x1 x2 x4 M = some x) (hk : K_to_findsWithout_5 Q x1 M (.inr x)) : mW mX9_findsWithout 1 Q 5 [some (.ref 12), some (.int x1), some (.long x2), none, some (.int x4)] [] M :=
  lpc_wp (σ := (Int64 × Int32)) (ξ := Int64) (s := (x2, x4)) (Wh := fun s => mW mX9_findsWithout 1 Q 5 [some (.ref 12), some (.int x1), some (.long s.1), none, some (.int s.2)] [] M) (K := K_to_findsWithout_5 Q x1 M) (fun _ h => h) (fun s o hb hk => w_b_to_findsWithout_5_5 x1 s.1 s.2 M hb hk) hf hk
theorem ok_to_findsWithout (a1 : Int32) (M : dM) {o : Int64} (hf : f_to_findsWithout a1 M = some o) : mO mX9_findsWithout 1 [.ref 12, .int a1] M (some (.long o)) M := by
  refine y_ok (by decide +kernel) (Nat.le_of_ble_eq_true rfl) (L0 := [some (.ref 12), some (.int a1), none, none, none]) rfl ?_
  have hk := mR_mQ (some (.long o)) M
  generalize mQ _ _ = Q at hk ⊢
  unfold f_to_findsWithout at hf
  refine y_lconst (n := 1) (v := 0) ⟨dX9_findsWithout_0, rfl⟩ kl_0 ?_
  refine y_lstore_n (i := 2) (n := 2) (L2 := [some (.ref 12), some (.int a1), some (.long 0), none, none]) ⟨dX9_findsWithout_1, rfl⟩ (by decide) rfl rfl ?_
  refine y_iconst (n := 3) (v := 0) ⟨dX9_findsWithout_2, rfl⟩ ki_0 ?_
  refine y_istore (i := 4) (n := 5) (L2 := [some (.ref 12), some (.int a1), some (.long 0), none, some (.int 0)]) ⟨dX9_findsWithout_3, rfl⟩ (by decide) rfl rfl ?_
  obtain ⟨r4, hl3, hf⟩ := b_s hf
  cases hf
  exact y_wk (L2 := [some (.ref 12), some (.int a1), some (.long 0), none, some (.int 0)]) ⟨Or.inr rfl, Or.inr rfl, Or.inr rfl, Or.inr rfl, Or.inr rfl, trivial⟩ (wl_to_findsWithout_5 a1 0 0 M hl3 hk)
theorem c_to_findsWithout (a1 : Int32) (M : dM) {o : Int64} {y : mz_M} {d : Nat} {Q : mz_P} {pc n i : Nat} {L : List (Option Value)} {st : List Value} (h : mz_d y.2.1 pc n 3 (.invokevirtual i)) (hl : mz_ml y.1.cls i yX9_findsWithout) (hf : f_to_findsWithout a1 M = some o) (hd : 1 + 1 ≤ d) (hsm : (st.map (fun v => v.category)).sum ≤ 8) (hLr : mz_rL 133 L = true) (hSr : mz_rS 133 st = true) (kk : mW y d Q n L (.long o :: st) M) : mW y d Q pc L (.int a1 :: .ref 12 :: st) M :=
  y_callV kmX9_findsWithout kvX9_findsWithout l_12 (by decide +kernel) (by decide +kernel) h hl (ok_to_findsWithout a1 M hf) (vs := [.int a1]) rfl rfl hd hsm hLr hSr kk
def K_cl_standWith_5 (Q : mz_P) (x1 : Int64) (M : dM) : ((Int32 × Int32) ⊕ Int32) → Prop
  | .inl s => mW mX1_standWith 1 Q 5 [some (.ref 50), some (.long x1), none, some (.int s.1), some (.int s.2), none, none] [] M
  | .inr r => mR Q (some (.int r)) M
def K_cl_standWith_18 (Q : mz_P) (x1 : Int64) (x4 : Int32) (x5 : Int32) (M : dM) : ((Int32 × Int32) ⊕ Int32) → Prop
  | .inl s => mW mX1_standWith 1 Q 18 [some (.ref 50), some (.long x1), none, some (.int s.1), some (.int x4), some (.int x5), some (.int s.2)] [] M
  | .inr t => mW mX1_standWith 1 Q 77 [some (.ref 50), some (.long x1), none, some (.int t), some (.int x4), some (.int x5), none] [] M
noncomputable def b_cl_standWith_18_18 (x1 : Int64) (x3 : Int32) (x4 : Int32) (x5 : Int32) (x6 : Int32) (M : dM) : Option ((Int32 × Int32) ⊕ Int32) :=
  if (gI M 50 4) ≤ x6 then
    some (.inr x3)
  else
    gd (vp_in x6 36) <|
    if ((gJ M 52 x6.toNatClampNeg) &&& (x1 ^^^ (-1))) = 0 then
      if ((gI M 53 x6.toNatClampNeg) &&& (x3 ^^^ (-1))) = 0 then
        some (.inl ((x3 ||| ((1 : Int32) <<< ((gI M 51 x6.toNatClampNeg) &&& 31))), (x6 + 1)))
      else
        some (.inl (x3, (x6 + 1)))
    else
      some (.inl (x3, (x6 + 1)))
noncomputable def l_cl_standWith_18 (x1 : Int64) (x3 : Int32) (x4 : Int32) (x5 : Int32) (x6 : Int32) (M : dM) : Option Int32 := lpc (fun s => b_cl_standWith_18_18 x1 s.1 x4 x5 s.2 M) (x3, x6)
noncomputable def b_cl_standWith_5_5 (x1 : Int64) (x3 : Int32) (x4 : Int32) (M : dM) : Option ((Int32 × Int32) ⊕ Int32) :=
  if 12 ≤ x4 then
    some (.inr x3)
  else
    (l_cl_standWith_18 x1 x3 x4 x3 0 M).bind fun t2 =>
      if t2 = x3 then
        some (.inr t2)
      else
        some (.inl (t2, (x4 + 1)))
noncomputable def l_cl_standWith_5 (x1 : Int64) (x3 : Int32) (x4 : Int32) (M : dM) : Option Int32 := lpc (fun s => b_cl_standWith_5_5 x1 s.1 s.2 M) (x3, x4)
noncomputable def f_cl_standWith (a1 : Int64) (M : dM) : Option Int32 :=
  (l_cl_standWith_5 a1 0 0 M).bind fun r7 => some r7
theorem w_b_cl_standWith_18_18 (x1 : Int64) (x3 : Int32) (x4 : Int32) (x5 : Int32) (x6 : Int32)  (M : dM) {Q : mz_P} {o : ((Int32 × Int32) ⊕ Int32)} (hf : b_cl_standWith_18_18 x1 x3 x4 x5 x6 M = some o) (hk : K_cl_standWith_18 Q x1 x4 x5 M o) : mW mX1_standWith 1 Q 18 [some (.ref 50), some (.long x1), none, some (.int x3), some (.int x4), some (.int x5), some (.int x6)] [] M := by
  unfold b_cl_standWith_18_18 at hf
  refine y_iload (i := 6) (n := 20) ⟨dX1_standWith_18, rfl⟩ rfl ?_
  refine y_aload_n (i := 0) (n := 21) ⟨dX1_standWith_20, rfl⟩ rfl ?_
  refine y_getI (n := 24) ⟨dX1_standWith_21, rfl⟩ kfX1_39 l_50 rfl ?_
  refine y_icmp_ge (t := 77) (n := 27) ⟨dX1_standWith_24, rfl, rfl⟩ (fun (hc : (gI M 50 4) ≤ x6) => ?_) (fun (hc : ¬ ((gI M 50 4) ≤ x6)) => ?_)
  · replace hf := i_t hc hf
    cases hf
    exact y_wk (L2 := [some (.ref 50), some (.long x1), none, some (.int x3), some (.int x4), some (.int x5), none]) ⟨Or.inr rfl, Or.inr rfl, Or.inr rfl, Or.inr rfl, Or.inr rfl, Or.inr rfl, Or.inl rfl, trivial⟩ hk
  · replace hf := i_f hc hf
    refine y_aload_n (i := 0) (n := 28) ⟨dX1_standWith_27, rfl⟩ rfl ?_
    refine y_getR (n := 31) ⟨dX1_standWith_28, rfl⟩ kfX1_15 l_50 rfl r_50_2 ?_
    refine y_iload (i := 6) (n := 33) ⟨dX1_standWith_31, rfl⟩ rfl ?_
    obtain ⟨hg1, hf⟩ := g_s hf
    refine y_laload (n := 34) ⟨dX1_standWith_33, rfl⟩ l_52 hg1 ?_
    refine y_lload_n (i := 1) (n := 35) ⟨dX1_standWith_34, rfl⟩ rfl ?_
    refine y_ldc2 (n := 38) ⟨dX1_standWith_35, rfl⟩ kcX1_42 ?_
    refine y_lxor (n := 39) ⟨dX1_standWith_38, rfl⟩ ?_
    refine y_land (n := 40) ⟨dX1_standWith_39, rfl⟩ ?_
    refine y_lconst (n := 41) (v := 0) ⟨dX1_standWith_40, rfl⟩ kl_0 ?_
    refine y_lcmp (n := 42) ⟨dX1_standWith_41, rfl⟩ ?_
    refine y_if_ne (t := 71) (n := 45) ⟨dX1_standWith_42, rfl, rfl⟩ (fun h0 => ?_) (fun h0 => ?_)
    · have hc : ¬ (((gJ M 52 x6.toNatClampNeg) &&& (x1 ^^^ (-1))) = 0) := fun e => h0 ((lc_eq _ _).mpr e)
      replace hf := i_f hc hf
      refine y_iinc (i := 6) (n := 74) (b := (x6 + 1)) (L2 := [some (.ref 50), some (.long x1), none, some (.int x3), some (.int x4), some (.int x5), some (.int (x6 + 1))]) ⟨dX1_standWith_71, rfl⟩ rfl (by rw [ki_1]) (by decide) rfl rfl ?_
      refine y_goto (t := 18) ⟨dX1_standWith_74, rfl, rfl⟩ ?_
      cases hf
      exact y_wk (L2 := [some (.ref 50), some (.long x1), none, some (.int x3), some (.int x4), some (.int x5), some (.int (x6 + 1))]) ⟨Or.inr rfl, Or.inr rfl, Or.inr rfl, Or.inr rfl, Or.inr rfl, Or.inr rfl, Or.inr rfl, trivial⟩ hk
    · have hc : ((gJ M 52 x6.toNatClampNeg) &&& (x1 ^^^ (-1))) = 0 := (lc_eq _ _).mp h0
      replace hf := i_t hc hf
      refine y_aload_n (i := 0) (n := 46) ⟨dX1_standWith_45, rfl⟩ rfl ?_
      refine y_getR (n := 49) ⟨dX1_standWith_46, rfl⟩ kfX1_19 l_50 rfl r_50_3 ?_
      refine y_iload (i := 6) (n := 51) ⟨dX1_standWith_49, rfl⟩ rfl ?_
      refine y_iaload (n := 52) ⟨dX1_standWith_51, rfl⟩ l_53 hg1 ?_
      refine y_iload_n (i := 3) (n := 53) ⟨dX1_standWith_52, rfl⟩ rfl ?_
      refine y_iconst (n := 54) (v := (-1)) ⟨dX1_standWith_53, rfl⟩ ki_m1 ?_
      refine y_ixor (n := 55) ⟨dX1_standWith_54, rfl⟩ ?_
      refine y_iand (n := 56) ⟨dX1_standWith_55, rfl⟩ ?_
      refine y_if_ne (t := 71) (n := 59) ⟨dX1_standWith_56, rfl, rfl⟩ (fun (hc : ¬ (((gI M 53 x6.toNatClampNeg) &&& (x3 ^^^ (-1))) = 0)) => ?_) (fun (hc : ((gI M 53 x6.toNatClampNeg) &&& (x3 ^^^ (-1))) = 0) => ?_)
      · replace hf := i_f hc hf
        refine y_iinc (i := 6) (n := 74) (b := (x6 + 1)) (L2 := [some (.ref 50), some (.long x1), none, some (.int x3), some (.int x4), some (.int x5), some (.int (x6 + 1))]) ⟨dX1_standWith_71, rfl⟩ rfl (by rw [ki_1]) (by decide) rfl rfl ?_
        refine y_goto (t := 18) ⟨dX1_standWith_74, rfl, rfl⟩ ?_
        cases hf
        exact y_wk (L2 := [some (.ref 50), some (.long x1), none, some (.int x3), some (.int x4), some (.int x5), some (.int (x6 + 1))]) ⟨Or.inr rfl, Or.inr rfl, Or.inr rfl, Or.inr rfl, Or.inr rfl, Or.inr rfl, Or.inr rfl, trivial⟩ hk
      · replace hf := i_t hc hf
        refine y_iload_n (i := 3) (n := 60) ⟨dX1_standWith_59, rfl⟩ rfl ?_
        refine y_iconst (n := 61) (v := 1) ⟨dX1_standWith_60, rfl⟩ ki_1 ?_
        refine y_aload_n (i := 0) (n := 62) ⟨dX1_standWith_61, rfl⟩ rfl ?_
        refine y_getR (n := 65) ⟨dX1_standWith_62, rfl⟩ kfX1_9 l_50 rfl r_50_1 ?_
        refine y_iload (i := 6) (n := 67) ⟨dX1_standWith_65, rfl⟩ rfl ?_
        refine y_iaload (n := 68) ⟨dX1_standWith_67, rfl⟩ l_51 hg1 ?_
        refine y_ishl (n := 69) ⟨dX1_standWith_68, rfl⟩ ?_
        refine y_ior (n := 70) ⟨dX1_standWith_69, rfl⟩ ?_
        refine y_istore_n (i := 3) (n := 71) (L2 := [some (.ref 50), some (.long x1), none, some (.int (x3 ||| ((1 : Int32) <<< ((gI M 51 x6.toNatClampNeg) &&& 31)))), some (.int x4), some (.int x5), some (.int x6)]) ⟨dX1_standWith_70, rfl⟩ (by decide) rfl rfl ?_
        refine y_iinc (i := 6) (n := 74) (b := (x6 + 1)) (L2 := [some (.ref 50), some (.long x1), none, some (.int (x3 ||| ((1 : Int32) <<< ((gI M 51 x6.toNatClampNeg) &&& 31)))), some (.int x4), some (.int x5), some (.int (x6 + 1))]) ⟨dX1_standWith_71, rfl⟩ rfl (by rw [ki_1]) (by decide) rfl rfl ?_
        refine y_goto (t := 18) ⟨dX1_standWith_74, rfl, rfl⟩ ?_
        cases hf
        exact y_wk (L2 := [some (.ref 50), some (.long x1), none, some (.int (x3 ||| ((1 : Int32) <<< ((gI M 51 x6.toNatClampNeg) &&& 31)))), some (.int x4), some (.int x5), some (.int (x6 + 1))]) ⟨Or.inr rfl, Or.inr rfl, Or.inr rfl, Or.inr rfl, Or.inr rfl, Or.inr rfl, Or.inr rfl, trivial⟩ hk
theorem wl_cl_standWith_18 (x1 : Int64) (x3 : Int32) (x4 : Int32) (x5 : Int32) (x6 : Int32) (M : dM) {Q : mz_P} {x : Int32} (hf : l_cl_standWith_18 x1 x3 x4 x5 x6 M = some x) (hk : K_cl_standWith_18 Q x1 x4 x5 M (.inr x)) : mW mX1_standWith 1 Q 18 [some (.ref 50), some (.long x1), none, some (.int x3), some (.int x4), some (.int x5), some (.int x6)] [] M :=
  lpc_wp (σ := (Int32 × Int32)) (ξ := Int32) (s := (x3, x6)) (Wh := fun s => mW mX1_standWith 1 Q 18 [some (.ref 50), some (.long x1), none, some (.int s.1), some (.int x4), some (.int x5), some (.int s.2)] [] M) (K := K_cl_standWith_18 Q x1 x4 x5 M) (fun _ h => h) (fun s o hb hk => w_b_cl_standWith_18_18 x1 s.1 x4 x5 s.2 M hb hk) hf hk
theorem w_b_cl_standWith_5_5 (x1 : Int64) (x3 : Int32) (x4 : Int32)  (M : dM) {Q : mz_P} {o : ((Int32 × Int32) ⊕ Int32)} (hf : b_cl_standWith_5_5 x1 x3 x4 M = some o) (hk : K_cl_standWith_5 Q x1 M o) : mW mX1_standWith 1 Q 5 [some (.ref 50), some (.long x1), none, some (.int x3), some (.int x4), none, none] [] M := by
  unfold b_cl_standWith_5_5 at hf
  refine y_iload (i := 4) (n := 7) ⟨dX1_standWith_5, rfl⟩ rfl ?_
  refine y_bipush (n := 9) (v := 12) ⟨dX1_standWith_7, rfl⟩ kb_12 ?_
  refine y_icmp_ge (t := 92) (n := 12) ⟨dX1_standWith_9, rfl, rfl⟩ (fun (hc : 12 ≤ x4) => ?_) (fun (hc : ¬ (12 ≤ x4)) => ?_)
  · replace hf := i_t hc hf
    refine y_iload_n (i := 3) (n := 93) ⟨dX1_standWith_92, rfl⟩ rfl ?_
    cases hf
    exact y_ireturn (n := 94) ⟨dX1_standWith_93, rfl⟩ rfl rfl hk
  · replace hf := i_f hc hf
    refine y_iload_n (i := 3) (n := 13) ⟨dX1_standWith_12, rfl⟩ rfl ?_
    refine y_istore (i := 5) (n := 15) (L2 := [some (.ref 50), some (.long x1), none, some (.int x3), some (.int x4), some (.int x3), none]) ⟨dX1_standWith_13, rfl⟩ (by decide) rfl rfl ?_
    refine y_iconst (n := 16) (v := 0) ⟨dX1_standWith_15, rfl⟩ ki_0 ?_
    refine y_istore (i := 6) (n := 18) (L2 := [some (.ref 50), some (.long x1), none, some (.int x3), some (.int x4), some (.int x3), some (.int 0)]) ⟨dX1_standWith_16, rfl⟩ (by decide) rfl rfl ?_
    obtain ⟨t2, hl3, hf⟩ := b_s hf
    refine y_wk (L2 := [some (.ref 50), some (.long x1), none, some (.int x3), some (.int x4), some (.int x3), some (.int 0)]) ⟨Or.inr rfl, Or.inr rfl, Or.inr rfl, Or.inr rfl, Or.inr rfl, Or.inr rfl, Or.inr rfl, trivial⟩ (wl_cl_standWith_18 x1 x3 x4 x3 0 M hl3 ?_)
    show mW mX1_standWith 1 Q 77 [some (.ref 50), some (.long x1), none, some (.int t2), some (.int x4), some (.int x3), none] [] M
    refine y_iload_n (i := 3) (n := 78) ⟨dX1_standWith_77, rfl⟩ rfl ?_
    refine y_iload (i := 5) (n := 80) ⟨dX1_standWith_78, rfl⟩ rfl ?_
    refine y_icmp_ne (t := 86) (n := 83) ⟨dX1_standWith_80, rfl, rfl⟩ (fun (hc : ¬ (t2 = x3)) => ?_) (fun (hc : t2 = x3) => ?_)
    · replace hf := i_f hc hf
      refine y_iinc (i := 4) (n := 89) (b := (x4 + 1)) (L2 := [some (.ref 50), some (.long x1), none, some (.int t2), some (.int (x4 + 1)), some (.int x3), none]) ⟨dX1_standWith_86, rfl⟩ rfl (by rw [ki_1]) (by decide) rfl rfl ?_
      refine y_goto (t := 5) ⟨dX1_standWith_89, rfl, rfl⟩ ?_
      cases hf
      exact y_wk (L2 := [some (.ref 50), some (.long x1), none, some (.int t2), some (.int (x4 + 1)), none, none]) ⟨Or.inr rfl, Or.inr rfl, Or.inr rfl, Or.inr rfl, Or.inr rfl, Or.inl rfl, Or.inr rfl, trivial⟩ hk
    · replace hf := i_t hc hf
      refine y_goto (t := 92) ⟨dX1_standWith_83, rfl, rfl⟩ ?_
      refine y_iload_n (i := 3) (n := 93) ⟨dX1_standWith_92, rfl⟩ rfl ?_
      cases hf
      exact y_ireturn (n := 94) ⟨dX1_standWith_93, rfl⟩ rfl rfl hk
theorem wl_cl_standWith_5 (x1 : Int64) (x3 : Int32) (x4 : Int32) (M : dM) {Q : mz_P} {x : Int32} (hf : l_cl_standWith_5 x1 x3 x4 M = some x) (hk : K_cl_standWith_5 Q x1 M (.inr x)) : mW mX1_standWith 1 Q 5 [some (.ref 50), some (.long x1), none, some (.int x3), some (.int x4), none, none] [] M :=
  lpc_wp (σ := (Int32 × Int32)) (ξ := Int32) (s := (x3, x4)) (Wh := fun s => mW mX1_standWith 1 Q 5 [some (.ref 50), some (.long x1), none, some (.int s.1), some (.int s.2), none, none] [] M) (K := K_cl_standWith_5 Q x1 M) (fun _ h => h) (fun s o hb hk => w_b_cl_standWith_5_5 x1 s.1 s.2 M hb hk) hf hk
theorem ok_cl_standWith (a1 : Int64) (M : dM) {o : Int32} (hf : f_cl_standWith a1 M = some o) : mO mX1_standWith 1 [.ref 50, .long a1] M (some (.int o)) M := by
  refine y_ok (by decide +kernel) (Nat.le_of_ble_eq_true rfl) (L0 := [some (.ref 50), some (.long a1), none, none, none, none, none]) rfl ?_
  have hk := mR_mQ (some (.int o)) M
  generalize mQ _ _ = Q at hk ⊢
  unfold f_cl_standWith at hf
  refine y_iconst (n := 1) (v := 0) ⟨dX1_standWith_0, rfl⟩ ki_0 ?_
  refine y_istore_n (i := 3) (n := 2) (L2 := [some (.ref 50), some (.long a1), none, some (.int 0), none, none, none]) ⟨dX1_standWith_1, rfl⟩ (by decide) rfl rfl ?_
  refine y_iconst (n := 3) (v := 0) ⟨dX1_standWith_2, rfl⟩ ki_0 ?_
  refine y_istore (i := 4) (n := 5) (L2 := [some (.ref 50), some (.long a1), none, some (.int 0), some (.int 0), none, none]) ⟨dX1_standWith_3, rfl⟩ (by decide) rfl rfl ?_
  obtain ⟨r7, hl6, hf⟩ := b_s hf
  cases hf
  exact y_wk (L2 := [some (.ref 50), some (.long a1), none, some (.int 0), some (.int 0), none, none]) ⟨Or.inr rfl, Or.inr rfl, Or.inr rfl, Or.inr rfl, Or.inr rfl, Or.inr rfl, Or.inr rfl, trivial⟩ (wl_cl_standWith_5 a1 0 0 M hl6 hk)
theorem c_cl_standWith (a1 : Int64) (M : dM) {o : Int32} {y : mz_M} {d : Nat} {Q : mz_P} {pc n i : Nat} {L : List (Option Value)} {st : List Value} (h : mz_d y.2.1 pc n 3 (.invokevirtual i)) (hl : mz_ml y.1.cls i yX1_standWith) (hf : f_cl_standWith a1 M = some o) (hd : 1 + 1 ≤ d) (hsm : (st.map (fun v => v.category)).sum ≤ 8) (hLr : mz_rL 133 L = true) (hSr : mz_rS 133 st = true) (kk : mW y d Q n L (.int o :: st) M) : mW y d Q pc L (.long a1 :: .ref 50 :: st) M :=
  y_callV kmX1_standWith kvX1_standWith l_50 (by decide +kernel) (by decide +kernel) h hl (ok_cl_standWith a1 M hf) (vs := [.long a1]) rfl rfl hd hsm hLr hSr kk
noncomputable def t_ax_standing_16 (x1 : Int32) (M : dM) : Option Int32 :=
  (f_to_findsWithout x1 M).bind fun v1 =>
  (f_cl_standWith v1 M).bind fun v3 =>
  some v3
noncomputable def f_ax_standing (a1 : Int32) (M : dM) : Option Int32 :=
  if a1 = (-1) then
    t_ax_standing_16 a1 M
  else
    if (f_ax_within a1 10) = true then
      t_ax_standing_16 a1 M
    else
      some (-1)
theorem w_t_ax_standing_16 (x1 : Int32) (M : dM) {Q : mz_P} {o : Int32} (hf : t_ax_standing_16 x1 M = some o) (hk : mR Q (some (.int o)) M) : mW mX11_standing 2 Q 16 [some (.ref 0), some (.int x1)] [] M := by
  unfold t_ax_standing_16 at hf
  refine y_aload_n (i := 0) (n := 17) ⟨dX11_standing_16, rfl⟩ rfl ?_
  refine y_getR (n := 20) ⟨dX11_standing_17, rfl⟩ kfX11_74 l_0 rfl r_0_8 ?_
  refine y_aload_n (i := 0) (n := 21) ⟨dX11_standing_20, rfl⟩ rfl ?_
  refine y_getR (n := 24) ⟨dX11_standing_21, rfl⟩ kfX11_26 l_0 rfl r_0_2 ?_
  refine y_iload_n (i := 1) (n := 25) ⟨dX11_standing_24, rfl⟩ rfl ?_
  obtain ⟨v1, hv2, hf⟩ := b_s hf
  refine c_to_findsWithout x1 M (n := 28) ⟨dX11_standing_25, rfl⟩ klX11_240 hv2 (by decide) (Nat.le_of_ble_eq_true rfl) rfl rfl ?_
  obtain ⟨v3, hv4, hf⟩ := b_s hf
  refine c_cl_standWith v1 M (n := 31) ⟨dX11_standing_28, rfl⟩ klX11_244 hv4 (by decide) (Nat.le_of_ble_eq_true rfl) rfl rfl ?_
  cases hf
  exact y_ireturn (n := 32) ⟨dX11_standing_31, rfl⟩ rfl rfl hk
theorem ok_ax_standing (a1 : Int32) (M : dM) {o : Int32} (hf : f_ax_standing a1 M = some o) : mO mX11_standing 2 [.ref 0, .int a1] M (some (.int o)) M := by
  refine y_ok (by decide +kernel) (Nat.le_of_ble_eq_true rfl) (L0 := [some (.ref 0), some (.int a1)]) rfl ?_
  have hk := mR_mQ (some (.int o)) M
  generalize mQ _ _ = Q at hk ⊢
  unfold f_ax_standing at hf
  refine y_iload_n (i := 1) (n := 1) ⟨dX11_standing_0, rfl⟩ rfl ?_
  refine y_iconst (n := 2) (v := (-1)) ⟨dX11_standing_1, rfl⟩ ki_m1 ?_
  refine y_icmp_eq (t := 16) (n := 5) ⟨dX11_standing_2, rfl, rfl⟩ (fun (hc : a1 = (-1)) => ?_) (fun (hc : ¬ (a1 = (-1))) => ?_)
  · replace hf := i_t hc hf
    exact y_wk (L2 := [some (.ref 0), some (.int a1)]) ⟨Or.inr rfl, Or.inr rfl, trivial⟩ (w_t_ax_standing_16 a1 M hf hk)
  · replace hf := i_f hc hf
    refine y_iload_n (i := 1) (n := 6) ⟨dX11_standing_5, rfl⟩ rfl ?_
    refine y_bipush (n := 8) (v := 10) ⟨dX11_standing_6, rfl⟩ kb_10 ?_
    refine c_ax_within a1 10 M (n := 11) ⟨dX11_standing_8, rfl⟩ klX11_91 rfl (by decide) (Nat.le_of_ble_eq_true rfl) rfl rfl ?_
    refine y_if_ne (t := 16) (n := 14) ⟨dX11_standing_11, rfl, rfl⟩ (fun h0 => ?_) (fun h0 => ?_)
    · have hc := bI_1 h0
      replace hf := i_t hc hf
      exact y_wk (L2 := [some (.ref 0), some (.int a1)]) ⟨Or.inr rfl, Or.inr rfl, trivial⟩ (w_t_ax_standing_16 a1 M hf hk)
    · have hc := bI_0 h0
      replace hf := i_f hc hf
      refine y_iconst (n := 15) (v := (-1)) ⟨dX11_standing_14, rfl⟩ ki_m1 ?_
      cases hf
      exact y_ireturn (n := 16) ⟨dX11_standing_15, rfl⟩ rfl rfl hk
theorem c_ax_standing (a1 : Int32) (M : dM) {o : Int32} {y : mz_M} {d : Nat} {Q : mz_P} {pc n i : Nat} {L : List (Option Value)} {st : List Value} (h : mz_d y.2.1 pc n 3 (.invokevirtual i)) (hl : mz_ml y.1.cls i yX11_standing) (hf : f_ax_standing a1 M = some o) (hd : 2 + 1 ≤ d) (hsm : (st.map (fun v => v.category)).sum ≤ 8) (hLr : mz_rL 133 L = true) (hSr : mz_rS 133 st = true) (kk : mW y d Q n L (.int o :: st) M) : mW y d Q pc L (.int a1 :: .ref 0 :: st) M :=
  y_callV kmX11_standing kvX11_standing l_0 (by decide +kernel) (by decide +kernel) h hl (ok_ax_standing a1 M hf) (vs := [.int a1]) rfl rfl hd hsm hLr hSr kk
def K_ax_oldest_20 (Q : mz_P) (x1 : Int32) (M : dM) : ((Int32 × Int32) ⊕ Int32) → Prop
  | .inl s => mW mX11_oldest 2 Q 20 [some (.ref 0), some (.int x1), some (.int s.1), some (.int s.2)] [] M
  | .inr r => mR Q (some (.int r)) M
noncomputable def b_ax_oldest_20_20 (x1 : Int32) (x2 : Int32) (x3 : Int32) (M : dM) : Option ((Int32 × Int32) ⊕ Int32) :=
  if (gI M 12 7) ≤ x3 then
    some (.inr x2)
  else
    gd (vp_in x3 40) <|
    if (gI M 17 x3.toNatClampNeg) = x1 then
      some (.inl (x2, (x3 + 1)))
    else
      (f_si_ageOf (gI M 13 x3.toNatClampNeg) (gI M 14 x3.toNatClampNeg) M).bind fun v2 =>
      some (.inl ((if x2 < v2 then v2 else x2), (x3 + 1)))
noncomputable def l_ax_oldest_20 (x1 : Int32) (x2 : Int32) (x3 : Int32) (M : dM) : Option Int32 := lpc (fun s => b_ax_oldest_20_20 x1 s.1 s.2 M) (x2, x3)
noncomputable def t_ax_oldest_16 (x1 : Int32) (M : dM) : Option Int32 :=
  (l_ax_oldest_20 x1 (-1) 0 M).bind fun r6 => some r6
noncomputable def f_ax_oldest (a1 : Int32) (M : dM) : Option Int32 :=
  if a1 = (-1) then
    t_ax_oldest_16 a1 M
  else
    if (f_ax_within a1 10) = true then
      t_ax_oldest_16 a1 M
    else
      some (-1)
theorem w_b_ax_oldest_20_20 (x1 : Int32) (x2 : Int32) (x3 : Int32)  (M : dM) {Q : mz_P} {o : ((Int32 × Int32) ⊕ Int32)} (hf : b_ax_oldest_20_20 x1 x2 x3 M = some o) (hk : K_ax_oldest_20 Q x1 M o) : mW mX11_oldest 2 Q 20 [some (.ref 0), some (.int x1), some (.int x2), some (.int x3)] [] M := by
  unfold b_ax_oldest_20_20 at hf
  refine y_iload_n (i := 3) (n := 21) ⟨dX11_oldest_20, rfl⟩ rfl ?_
  refine y_aload_n (i := 0) (n := 22) ⟨dX11_oldest_21, rfl⟩ rfl ?_
  refine y_getR (n := 25) ⟨dX11_oldest_22, rfl⟩ kfX11_26 l_0 rfl r_0_2 ?_
  refine y_getI (n := 28) ⟨dX11_oldest_25, rfl⟩ kfX11_146 l_12 rfl ?_
  refine y_icmp_ge (t := 80) (n := 31) ⟨dX11_oldest_28, rfl, rfl⟩ (fun (hc : (gI M 12 7) ≤ x3) => ?_) (fun (hc : ¬ ((gI M 12 7) ≤ x3)) => ?_)
  · replace hf := i_t hc hf
    refine y_iload_n (i := 2) (n := 81) ⟨dX11_oldest_80, rfl⟩ rfl ?_
    cases hf
    exact y_ireturn (n := 82) ⟨dX11_oldest_81, rfl⟩ rfl rfl hk
  · replace hf := i_f hc hf
    refine y_aload_n (i := 0) (n := 32) ⟨dX11_oldest_31, rfl⟩ rfl ?_
    refine y_getR (n := 35) ⟨dX11_oldest_32, rfl⟩ kfX11_26 l_0 rfl r_0_2 ?_
    refine y_getR (n := 38) ⟨dX11_oldest_35, rfl⟩ kfX11_170 l_12 rfl r_12_4 ?_
    refine y_iload_n (i := 3) (n := 39) ⟨dX11_oldest_38, rfl⟩ rfl ?_
    obtain ⟨hg1, hf⟩ := g_s hf
    refine y_iaload (n := 40) ⟨dX11_oldest_39, rfl⟩ l_17 hg1 ?_
    refine y_iload_n (i := 1) (n := 41) ⟨dX11_oldest_40, rfl⟩ rfl ?_
    refine y_icmp_eq (t := 74) (n := 44) ⟨dX11_oldest_41, rfl, rfl⟩ (fun (hc : (gI M 17 x3.toNatClampNeg) = x1) => ?_) (fun (hc : ¬ ((gI M 17 x3.toNatClampNeg) = x1)) => ?_)
    · replace hf := i_t hc hf
      refine y_iinc (i := 3) (n := 77) (b := (x3 + 1)) (L2 := [some (.ref 0), some (.int x1), some (.int x2), some (.int (x3 + 1))]) ⟨dX11_oldest_74, rfl⟩ rfl (by rw [ki_1]) (by decide) rfl rfl ?_
      refine y_goto (t := 20) ⟨dX11_oldest_77, rfl, rfl⟩ ?_
      cases hf
      exact y_wk (L2 := [some (.ref 0), some (.int x1), some (.int x2), some (.int (x3 + 1))]) ⟨Or.inr rfl, Or.inr rfl, Or.inr rfl, Or.inr rfl, trivial⟩ hk
    · replace hf := i_f hc hf
      refine y_iload_n (i := 2) (n := 45) ⟨dX11_oldest_44, rfl⟩ rfl ?_
      refine y_aload_n (i := 0) (n := 46) ⟨dX11_oldest_45, rfl⟩ rfl ?_
      refine y_getR (n := 49) ⟨dX11_oldest_46, rfl⟩ kfX11_10 l_0 rfl r_0_0 ?_
      refine y_aload_n (i := 0) (n := 50) ⟨dX11_oldest_49, rfl⟩ rfl ?_
      refine y_getR (n := 53) ⟨dX11_oldest_50, rfl⟩ kfX11_26 l_0 rfl r_0_2 ?_
      refine y_getR (n := 56) ⟨dX11_oldest_53, rfl⟩ kfX11_164 l_12 rfl r_12_0 ?_
      refine y_iload_n (i := 3) (n := 57) ⟨dX11_oldest_56, rfl⟩ rfl ?_
      refine y_iaload (n := 58) ⟨dX11_oldest_57, rfl⟩ l_13 hg1 ?_
      refine y_aload_n (i := 0) (n := 59) ⟨dX11_oldest_58, rfl⟩ rfl ?_
      refine y_getR (n := 62) ⟨dX11_oldest_59, rfl⟩ kfX11_26 l_0 rfl r_0_2 ?_
      refine y_getR (n := 65) ⟨dX11_oldest_62, rfl⟩ kfX11_248 l_12 rfl r_12_1 ?_
      refine y_iload_n (i := 3) (n := 66) ⟨dX11_oldest_65, rfl⟩ rfl ?_
      refine y_iaload (n := 67) ⟨dX11_oldest_66, rfl⟩ l_14 hg1 ?_
      obtain ⟨v2, hv3, hf⟩ := b_s hf
      refine c_si_ageOf (gI M 13 x3.toNatClampNeg) (gI M 14 x3.toNatClampNeg) M (n := 70) ⟨dX11_oldest_67, rfl⟩ klX11_251 hv3 (by decide) (Nat.le_of_ble_eq_true rfl) rfl rfl ?_
      refine y_mmax kcmax ksmax kiMath (n := 73) ⟨dX11_oldest_70, rfl⟩ (mz_in 1153 (by decide +kernel) (by decide +kernel)) (by decide) (Nat.le_of_ble_eq_true rfl) ?_
      refine y_istore_n (i := 2) (n := 74) (L2 := [some (.ref 0), some (.int x1), some (.int (if x2 < v2 then v2 else x2)), some (.int x3)]) ⟨dX11_oldest_73, rfl⟩ (by decide) rfl rfl ?_
      refine y_iinc (i := 3) (n := 77) (b := (x3 + 1)) (L2 := [some (.ref 0), some (.int x1), some (.int (if x2 < v2 then v2 else x2)), some (.int (x3 + 1))]) ⟨dX11_oldest_74, rfl⟩ rfl (by rw [ki_1]) (by decide) rfl rfl ?_
      refine y_goto (t := 20) ⟨dX11_oldest_77, rfl, rfl⟩ ?_
      cases hf
      exact y_wk (L2 := [some (.ref 0), some (.int x1), some (.int (if x2 < v2 then v2 else x2)), some (.int (x3 + 1))]) ⟨Or.inr rfl, Or.inr rfl, Or.inr rfl, Or.inr rfl, trivial⟩ hk
theorem wl_ax_oldest_20 (x1 : Int32) (x2 : Int32) (x3 : Int32) (M : dM) {Q : mz_P} {x : Int32} (hf : l_ax_oldest_20 x1 x2 x3 M = some x) (hk : K_ax_oldest_20 Q x1 M (.inr x)) : mW mX11_oldest 2 Q 20 [some (.ref 0), some (.int x1), some (.int x2), some (.int x3)] [] M :=
  lpc_wp (σ := (Int32 × Int32)) (ξ := Int32) (s := (x2, x3)) (Wh := fun s => mW mX11_oldest 2 Q 20 [some (.ref 0), some (.int x1), some (.int s.1), some (.int s.2)] [] M) (K := K_ax_oldest_20 Q x1 M) (fun _ h => h) (fun s o hb hk => w_b_ax_oldest_20_20 x1 s.1 s.2 M hb hk) hf hk
theorem w_t_ax_oldest_16 (x1 : Int32) (M : dM) {Q : mz_P} {o : Int32} (hf : t_ax_oldest_16 x1 M = some o) (hk : mR Q (some (.int o)) M) : mW mX11_oldest 2 Q 16 [some (.ref 0), some (.int x1), none, none] [] M := by
  unfold t_ax_oldest_16 at hf
  refine y_iconst (n := 17) (v := (-1)) ⟨dX11_oldest_16, rfl⟩ ki_m1 ?_
  refine y_istore_n (i := 2) (n := 18) (L2 := [some (.ref 0), some (.int x1), some (.int (-1)), none]) ⟨dX11_oldest_17, rfl⟩ (by decide) rfl rfl ?_
  refine y_iconst (n := 19) (v := 0) ⟨dX11_oldest_18, rfl⟩ ki_0 ?_
  refine y_istore_n (i := 3) (n := 20) (L2 := [some (.ref 0), some (.int x1), some (.int (-1)), some (.int 0)]) ⟨dX11_oldest_19, rfl⟩ (by decide) rfl rfl ?_
  obtain ⟨r6, hl5, hf⟩ := b_s hf
  cases hf
  exact y_wk (L2 := [some (.ref 0), some (.int x1), some (.int (-1)), some (.int 0)]) ⟨Or.inr rfl, Or.inr rfl, Or.inr rfl, Or.inr rfl, trivial⟩ (wl_ax_oldest_20 x1 (-1) 0 M hl5 hk)
theorem ok_ax_oldest (a1 : Int32) (M : dM) {o : Int32} (hf : f_ax_oldest a1 M = some o) : mO mX11_oldest 2 [.ref 0, .int a1] M (some (.int o)) M := by
  refine y_ok (by decide +kernel) (Nat.le_of_ble_eq_true rfl) (L0 := [some (.ref 0), some (.int a1), none, none]) rfl ?_
  have hk := mR_mQ (some (.int o)) M
  generalize mQ _ _ = Q at hk ⊢
  unfold f_ax_oldest at hf
  refine y_iload_n (i := 1) (n := 1) ⟨dX11_oldest_0, rfl⟩ rfl ?_
  refine y_iconst (n := 2) (v := (-1)) ⟨dX11_oldest_1, rfl⟩ ki_m1 ?_
  refine y_icmp_eq (t := 16) (n := 5) ⟨dX11_oldest_2, rfl, rfl⟩ (fun (hc : a1 = (-1)) => ?_) (fun (hc : ¬ (a1 = (-1))) => ?_)
  · replace hf := i_t hc hf
    exact y_wk (L2 := [some (.ref 0), some (.int a1), none, none]) ⟨Or.inr rfl, Or.inr rfl, Or.inr rfl, Or.inr rfl, trivial⟩ (w_t_ax_oldest_16 a1 M hf hk)
  · replace hf := i_f hc hf
    refine y_iload_n (i := 1) (n := 6) ⟨dX11_oldest_5, rfl⟩ rfl ?_
    refine y_bipush (n := 8) (v := 10) ⟨dX11_oldest_6, rfl⟩ kb_10 ?_
    refine c_ax_within a1 10 M (n := 11) ⟨dX11_oldest_8, rfl⟩ klX11_91 rfl (by decide) (Nat.le_of_ble_eq_true rfl) rfl rfl ?_
    refine y_if_ne (t := 16) (n := 14) ⟨dX11_oldest_11, rfl, rfl⟩ (fun h0 => ?_) (fun h0 => ?_)
    · have hc := bI_1 h0
      replace hf := i_t hc hf
      exact y_wk (L2 := [some (.ref 0), some (.int a1), none, none]) ⟨Or.inr rfl, Or.inr rfl, Or.inr rfl, Or.inr rfl, trivial⟩ (w_t_ax_oldest_16 a1 M hf hk)
    · have hc := bI_0 h0
      replace hf := i_f hc hf
      refine y_iconst (n := 15) (v := (-1)) ⟨dX11_oldest_14, rfl⟩ ki_m1 ?_
      cases hf
      exact y_ireturn (n := 16) ⟨dX11_oldest_15, rfl⟩ rfl rfl hk
theorem c_ax_oldest (a1 : Int32) (M : dM) {o : Int32} {y : mz_M} {d : Nat} {Q : mz_P} {pc n i : Nat} {L : List (Option Value)} {st : List Value} (h : mz_d y.2.1 pc n 3 (.invokevirtual i)) (hl : mz_ml y.1.cls i yX11_oldest) (hf : f_ax_oldest a1 M = some o) (hd : 2 + 1 ≤ d) (hsm : (st.map (fun v => v.category)).sum ≤ 8) (hLr : mz_rL 133 L = true) (hSr : mz_rS 133 st = true) (kk : mW y d Q n L (.int o :: st) M) : mW y d Q pc L (.int a1 :: .ref 0 :: st) M :=
  y_callV kmX11_oldest kvX11_oldest l_0 (by decide +kernel) (by decide +kernel) h hl (ok_ax_oldest a1 M hf) (vs := [.int a1]) rfl rfl hd hsm hLr hSr kk
def K_cl_findsInGrounds_4 (Q : mz_P)  (M : dM) : ((Int64 × Int32) ⊕ Int64) → Prop
  | .inl s => mW mX1_findsInGrounds 1 Q 4 [some (.ref 50), some (.long s.1), none, some (.int s.2)] [] M
  | .inr r => mR Q (some (.long r)) M
noncomputable def b_cl_findsInGrounds_4_4 (x1 : Int64) (x3 : Int32) (M : dM) : Option ((Int64 × Int32) ⊕ Int64) :=
  if (gI M 50 4) ≤ x3 then
    some (.inr x1)
  else
    gd (vp_in x3 36) <|
    some (.inl ((x1 ||| (gJ M 52 x3.toNatClampNeg)), (x3 + 1)))
noncomputable def l_cl_findsInGrounds_4 (x1 : Int64) (x3 : Int32) (M : dM) : Option Int64 := lpc (fun s => b_cl_findsInGrounds_4_4 s.1 s.2 M) (x1, x3)
noncomputable def f_cl_findsInGrounds (M : dM) : Option Int64 :=
  (l_cl_findsInGrounds_4 0 0 M).bind fun r4 => some r4
theorem w_b_cl_findsInGrounds_4_4 (x1 : Int64) (x3 : Int32)  (M : dM) {Q : mz_P} {o : ((Int64 × Int32) ⊕ Int64)} (hf : b_cl_findsInGrounds_4_4 x1 x3 M = some o) (hk : K_cl_findsInGrounds_4 Q  M o) : mW mX1_findsInGrounds 1 Q 4 [some (.ref 50), some (.long x1), none, some (.int x3)] [] M := by
  unfold b_cl_findsInGrounds_4_4 at hf
  refine y_iload_n (i := 3) (n := 5) ⟨dX1_findsInGrounds_4, rfl⟩ rfl ?_
  refine y_aload_n (i := 0) (n := 6) ⟨dX1_findsInGrounds_5, rfl⟩ rfl ?_
  refine y_getI (n := 9) ⟨dX1_findsInGrounds_6, rfl⟩ kfX1_39 l_50 rfl ?_
  refine y_icmp_ge (t := 27) (n := 12) ⟨dX1_findsInGrounds_9, rfl, rfl⟩ (fun (hc : (gI M 50 4) ≤ x3) => ?_) (fun (hc : ¬ ((gI M 50 4) ≤ x3)) => ?_)
  · replace hf := i_t hc hf
    refine y_lload_n (i := 1) (n := 28) ⟨dX1_findsInGrounds_27, rfl⟩ rfl ?_
    cases hf
    exact y_lreturn (n := 29) ⟨dX1_findsInGrounds_28, rfl⟩ rfl hk
  · replace hf := i_f hc hf
    refine y_lload_n (i := 1) (n := 13) ⟨dX1_findsInGrounds_12, rfl⟩ rfl ?_
    refine y_aload_n (i := 0) (n := 14) ⟨dX1_findsInGrounds_13, rfl⟩ rfl ?_
    refine y_getR (n := 17) ⟨dX1_findsInGrounds_14, rfl⟩ kfX1_15 l_50 rfl r_50_2 ?_
    refine y_iload_n (i := 3) (n := 18) ⟨dX1_findsInGrounds_17, rfl⟩ rfl ?_
    obtain ⟨hg1, hf⟩ := g_s hf
    refine y_laload (n := 19) ⟨dX1_findsInGrounds_18, rfl⟩ l_52 hg1 ?_
    refine y_lor (n := 20) ⟨dX1_findsInGrounds_19, rfl⟩ ?_
    refine y_lstore_n (i := 1) (n := 21) (L2 := [some (.ref 50), some (.long (x1 ||| (gJ M 52 x3.toNatClampNeg))), none, some (.int x3)]) ⟨dX1_findsInGrounds_20, rfl⟩ (by decide) rfl rfl ?_
    refine y_iinc (i := 3) (n := 24) (b := (x3 + 1)) (L2 := [some (.ref 50), some (.long (x1 ||| (gJ M 52 x3.toNatClampNeg))), none, some (.int (x3 + 1))]) ⟨dX1_findsInGrounds_21, rfl⟩ rfl (by rw [ki_1]) (by decide) rfl rfl ?_
    refine y_goto (t := 4) ⟨dX1_findsInGrounds_24, rfl, rfl⟩ ?_
    cases hf
    exact y_wk (L2 := [some (.ref 50), some (.long (x1 ||| (gJ M 52 x3.toNatClampNeg))), none, some (.int (x3 + 1))]) ⟨Or.inr rfl, Or.inr rfl, Or.inr rfl, Or.inr rfl, trivial⟩ hk
theorem wl_cl_findsInGrounds_4 (x1 : Int64) (x3 : Int32) (M : dM) {Q : mz_P} {x : Int64} (hf : l_cl_findsInGrounds_4 x1 x3 M = some x) (hk : K_cl_findsInGrounds_4 Q  M (.inr x)) : mW mX1_findsInGrounds 1 Q 4 [some (.ref 50), some (.long x1), none, some (.int x3)] [] M :=
  lpc_wp (σ := (Int64 × Int32)) (ξ := Int64) (s := (x1, x3)) (Wh := fun s => mW mX1_findsInGrounds 1 Q 4 [some (.ref 50), some (.long s.1), none, some (.int s.2)] [] M) (K := K_cl_findsInGrounds_4 Q  M) (fun _ h => h) (fun s o hb hk => w_b_cl_findsInGrounds_4_4 s.1 s.2 M hb hk) hf hk
theorem ok_cl_findsInGrounds  (M : dM) {o : Int64} (hf : f_cl_findsInGrounds M = some o) : mO mX1_findsInGrounds 1 [.ref 50] M (some (.long o)) M := by
  refine y_ok (by decide +kernel) (Nat.le_of_ble_eq_true rfl) (L0 := [some (.ref 50), none, none, none]) rfl ?_
  have hk := mR_mQ (some (.long o)) M
  generalize mQ _ _ = Q at hk ⊢
  unfold f_cl_findsInGrounds at hf
  refine y_lconst (n := 1) (v := 0) ⟨dX1_findsInGrounds_0, rfl⟩ kl_0 ?_
  refine y_lstore_n (i := 1) (n := 2) (L2 := [some (.ref 50), some (.long 0), none, none]) ⟨dX1_findsInGrounds_1, rfl⟩ (by decide) rfl rfl ?_
  refine y_iconst (n := 3) (v := 0) ⟨dX1_findsInGrounds_2, rfl⟩ ki_0 ?_
  refine y_istore_n (i := 3) (n := 4) (L2 := [some (.ref 50), some (.long 0), none, some (.int 0)]) ⟨dX1_findsInGrounds_3, rfl⟩ (by decide) rfl rfl ?_
  obtain ⟨r4, hl3, hf⟩ := b_s hf
  cases hf
  exact y_wk (L2 := [some (.ref 50), some (.long 0), none, some (.int 0)]) ⟨Or.inr rfl, Or.inr rfl, Or.inr rfl, Or.inr rfl, trivial⟩ (wl_cl_findsInGrounds_4 0 0 M hl3 hk)
theorem c_cl_findsInGrounds  (M : dM) {o : Int64} {y : mz_M} {d : Nat} {Q : mz_P} {pc n i : Nat} {L : List (Option Value)} {st : List Value} (h : mz_d y.2.1 pc n 3 (.invokevirtual i)) (hl : mz_ml y.1.cls i yX1_findsInGrounds) (hf : f_cl_findsInGrounds M = some o) (hd : 1 + 1 ≤ d) (hsm : (st.map (fun v => v.category)).sum ≤ 8) (hLr : mz_rL 133 L = true) (hSr : mz_rS 133 st = true) (kk : mW y d Q n L (.long o :: st) M) : mW y d Q pc L (.ref 50 :: st) M :=
  y_callV kmX1_findsInGrounds kvX1_findsInGrounds l_50 (by decide +kernel) (by decide +kernel) h hl (ok_cl_findsInGrounds  M hf) (vs := []) rfl rfl hd hsm hLr hSr kk
theorem c_cl_cutsR {dr : Nat} {rec : (Int32 → Int32 → Int32 → Int64 → Int64 → dM → Option (Bool × dM))} (hrec : ∀ (a1 : Int32) (a2 : Int32) (a3 : Int32) (a4 : Int64) (a5 : Int64) (M : dM) (o : (Bool × dM)), rec a1 a2 a3 a4 a5 M = some o → mO mX1_cuts dr [.ref 50, .int a1, .int a2, .int a3, .long a4, .long a5] M (some (.int (bI o.1))) o.2) (a1 : Int32) (a2 : Int32) (a3 : Int32) (a4 : Int64) (a5 : Int64) (M : dM) {o : (Bool × dM)} {y : mz_M} {d : Nat} {Q : mz_P} {pc n i : Nat} {L : List (Option Value)} {st : List Value} (h : mz_d y.2.1 pc n 3 (.invokevirtual i)) (hl : mz_ml y.1.cls i yX1_cuts) (hf : rec a1 a2 a3 a4 a5 M = some o) (hd : dr + 1 ≤ d) (hsm : (st.map (fun v => v.category)).sum ≤ 8) (hLr : mz_rL 133 L = true) (hSr : mz_rS 133 st = true) (kk : mW y d Q n L (.int (bI o.1) :: st) o.2) : mW y d Q pc L (.long a5 :: .long a4 :: .int a3 :: .int a2 :: .int a1 :: .ref 50 :: st) M :=
  y_callV kmX1_cuts kvX1_cuts l_50 (by decide +kernel) (by decide +kernel) h hl (hrec a1 a2 a3 a4 a5 M o hf) (vs := [.int a1, .int a2, .int a3, .long a4, .long a5]) rfl rfl hd hsm hLr hSr kk
noncomputable def t_cl_cuts_10 (rec : (Int32 → Int32 → Int32 → Int64 → Int64 → dM → Option (Bool × dM))) (x1 : Int32) (x4 : Int64) (M : dM) : Option (Bool × dM) :=
  (f_cl_standWith x4 M).bind fun v1 =>
  if (f_ax_hasBit v1.toInt64 x1) = true then
    some (false, M)
  else
    some (true, M)
def K_cl_cuts_55 (dr : Nat) (Q : mz_P) (x1 : Int32) (x2 : Int32) (x4 : Int64) (x6 : Int64) : ((Int32 × dM) ⊕ (Bool × dM)) → Prop
  | .inl s => mW mX1_cuts (dr + 2) Q 55 [some (.ref 50), some (.int x1), some (.int x2), none, some (.long x4), none, some (.long x6), none, some (.int s.1)] [] s.2
  | .inr r => mR Q (some (.int (bI r.1))) r.2
noncomputable def b_cl_cuts_55_55 (rec : (Int32 → Int32 → Int32 → Int64 → Int64 → dM → Option (Bool × dM))) (x1 : Int32) (x2 : Int32) (x4 : Int64) (x6 : Int64) (x8 : Int32) (M : dM) : Option ((Int32 × dM) ⊕ (Bool × dM)) :=
  if (gI M 12 7) ≤ x8 then
    some (.inr (false, M))
  else
    if (f_ax_hasBit x6 x8) = true then
      gd (vp_in (x2 - 1) 3) <|
      (rec x1 (x2 - 1) (x8 + 1) (x4 &&& (((1 : Int64) <<< (x8.toInt64 &&& 63)) ^^^ (-1))) x6 (sI M 54 (x2 - 1).toNatClampNeg x8)).bind fun q6 =>
      if q6.1 = true then
        some (.inr (true, q6.2))
      else
        some (.inl ((x8 + 1), q6.2))
    else
      some (.inl ((x8 + 1), M))
noncomputable def l_cl_cuts_55 (rec : (Int32 → Int32 → Int32 → Int64 → Int64 → dM → Option (Bool × dM))) (x1 : Int32) (x2 : Int32) (x4 : Int64) (x6 : Int64) (x8 : Int32) (M : dM) : Option (Bool × dM) := lpc (fun s => b_cl_cuts_55_55 rec x1 x2 x4 x6 s.1 s.2) (x8, M)
noncomputable def f_cl_cuts (rec : (Int32 → Int32 → Int32 → Int64 → Int64 → dM → Option (Bool × dM))) (a1 : Int32) (a2 : Int32) (a3 : Int32) (a4 : Int64) (a5 : Int64) (M : dM) : Option (Bool × dM) :=
  if a2 < 1 then
    t_cl_cuts_10 rec a1 a4 M
  else
    if a2 ≤ 3 then
      (f_cl_standWith (a4 &&& (((1 : Int64) <<< (a3.toInt64 &&& 63)) - 1)) M).bind fun v3 =>
      if (f_ax_hasBit v3.toInt64 a1) = true then
        some (false, M)
      else
        (l_cl_cuts_55 rec a1 a2 a4 a5 a3 M).bind fun r10 => some r10
    else
      t_cl_cuts_10 rec a1 a4 M
theorem w_t_cl_cuts_10 {dr : Nat} (rec : (Int32 → Int32 → Int32 → Int64 → Int64 → dM → Option (Bool × dM))) (hrec : ∀ (a1 : Int32) (a2 : Int32) (a3 : Int32) (a4 : Int64) (a5 : Int64) (M : dM) (o : (Bool × dM)), rec a1 a2 a3 a4 a5 M = some o → mO mX1_cuts dr [.ref 50, .int a1, .int a2, .int a3, .long a4, .long a5] M (some (.int (bI o.1))) o.2) (x1 : Int32) (x4 : Int64) (M : dM) {Q : mz_P} {o : (Bool × dM)} (hf : t_cl_cuts_10 rec x1 x4 M = some o) (hk : mR Q (some (.int (bI o.1))) o.2) : mW mX1_cuts (dr + 2) Q 10 [some (.ref 50), some (.int x1), none, none, some (.long x4), none, none, none, none] [] M := by
  unfold t_cl_cuts_10 at hf
  refine y_aload_n (i := 0) (n := 11) ⟨dX1_cuts_10, rfl⟩ rfl ?_
  refine y_lload (i := 4) (n := 13) ⟨dX1_cuts_11, rfl⟩ rfl ?_
  obtain ⟨v1, hv2, hf⟩ := b_s hf
  refine c_cl_standWith x4 M (n := 16) ⟨dX1_cuts_13, rfl⟩ klX1_57 hv2 (by omega) (Nat.le_of_ble_eq_true rfl) rfl rfl ?_
  refine y_i2l (n := 17) ⟨dX1_cuts_16, rfl⟩ ?_
  refine y_iload_n (i := 1) (n := 18) ⟨dX1_cuts_17, rfl⟩ rfl ?_
  refine c_ax_hasBit v1.toInt64 x1 M (n := 21) ⟨dX1_cuts_18, rfl⟩ klX1_61 rfl (by omega) (Nat.le_of_ble_eq_true rfl) rfl rfl ?_
  refine y_if_ne (t := 28) (n := 24) ⟨dX1_cuts_21, rfl, rfl⟩ (fun h0 => ?_) (fun h0 => ?_)
  · have hc := bI_1 h0
    replace hf := i_t hc hf
    refine y_iconst (n := 29) (v := 0) ⟨dX1_cuts_28, rfl⟩ ki_0 ?_
    cases hf
    exact y_ireturn (n := 30) ⟨dX1_cuts_29, rfl⟩ rfl rfl hk
  · have hc := bI_0 h0
    replace hf := i_f hc hf
    refine y_iconst (n := 25) (v := 1) ⟨dX1_cuts_24, rfl⟩ ki_1 ?_
    refine y_goto (t := 29) ⟨dX1_cuts_25, rfl, rfl⟩ ?_
    cases hf
    exact y_ireturn (n := 30) ⟨dX1_cuts_29, rfl⟩ rfl rfl hk
theorem w_b_cl_cuts_55_55 {dr : Nat} (rec : (Int32 → Int32 → Int32 → Int64 → Int64 → dM → Option (Bool × dM))) (hrec : ∀ (a1 : Int32) (a2 : Int32) (a3 : Int32) (a4 : Int64) (a5 : Int64) (M : dM) (o : (Bool × dM)), rec a1 a2 a3 a4 a5 M = some o → mO mX1_cuts dr [.ref 50, .int a1, .int a2, .int a3, .long a4, .long a5] M (some (.int (bI o.1))) o.2) (x1 : Int32) (x2 : Int32) (x4 : Int64) (x6 : Int64) (x8 : Int32)  (M : dM) {Q : mz_P} {o : ((Int32 × dM) ⊕ (Bool × dM))} (hf : b_cl_cuts_55_55 rec x1 x2 x4 x6 x8 M = some o) (hk : K_cl_cuts_55 dr Q x1 x2 x4 x6 o) : mW mX1_cuts (dr + 2) Q 55 [some (.ref 50), some (.int x1), some (.int x2), none, some (.long x4), none, some (.long x6), none, some (.int x8)] [] M := by
  unfold b_cl_cuts_55_55 at hf
  refine y_iload (i := 8) (n := 57) ⟨dX1_cuts_55, rfl⟩ rfl ?_
  refine y_aload_n (i := 0) (n := 58) ⟨dX1_cuts_57, rfl⟩ rfl ?_
  refine y_getR (n := 61) ⟨dX1_cuts_58, rfl⟩ kfX1_32 l_50 rfl r_50_0 ?_
  refine y_getI (n := 64) ⟨dX1_cuts_61, rfl⟩ kfX1_76 l_12 rfl ?_
  refine y_icmp_ge (t := 123) (n := 67) ⟨dX1_cuts_64, rfl, rfl⟩ (fun (hc : (gI M 12 7) ≤ x8) => ?_) (fun (hc : ¬ ((gI M 12 7) ≤ x8)) => ?_)
  · replace hf := i_t hc hf
    refine y_iconst (n := 124) (v := 0) ⟨dX1_cuts_123, rfl⟩ ki_0 ?_
    cases hf
    exact y_ireturn (n := 125) ⟨dX1_cuts_124, rfl⟩ rfl rfl hk
  · replace hf := i_f hc hf
    refine y_lload (i := 6) (n := 69) ⟨dX1_cuts_67, rfl⟩ rfl ?_
    refine y_iload (i := 8) (n := 71) ⟨dX1_cuts_69, rfl⟩ rfl ?_
    refine c_ax_hasBit x6 x8 M (n := 74) ⟨dX1_cuts_71, rfl⟩ klX1_61 rfl (by omega) (Nat.le_of_ble_eq_true rfl) rfl rfl ?_
    refine y_if_eq (t := 117) (n := 77) ⟨dX1_cuts_74, rfl, rfl⟩ (fun h0 => ?_) (fun h0 => ?_)
    · have hc := bI_0 h0
      replace hf := i_f hc hf
      refine y_iinc (i := 8) (n := 120) (b := (x8 + 1)) (L2 := [some (.ref 50), some (.int x1), some (.int x2), none, some (.long x4), none, some (.long x6), none, some (.int (x8 + 1))]) ⟨dX1_cuts_117, rfl⟩ rfl (by rw [ki_1]) (by decide) rfl rfl ?_
      refine y_goto (t := 55) ⟨dX1_cuts_120, rfl, rfl⟩ ?_
      cases hf
      exact y_wk (L2 := [some (.ref 50), some (.int x1), some (.int x2), none, some (.long x4), none, some (.long x6), none, some (.int (x8 + 1))]) ⟨Or.inr rfl, Or.inr rfl, Or.inr rfl, Or.inr rfl, Or.inr rfl, Or.inr rfl, Or.inr rfl, Or.inr rfl, Or.inr rfl, trivial⟩ hk
    · have hc := bI_1 h0
      replace hf := i_t hc hf
      refine y_aload_n (i := 0) (n := 78) ⟨dX1_cuts_77, rfl⟩ rfl ?_
      refine y_getR (n := 81) ⟨dX1_cuts_78, rfl⟩ kfX1_22 l_50 rfl r_50_5 ?_
      refine y_iload_n (i := 2) (n := 82) ⟨dX1_cuts_81, rfl⟩ rfl ?_
      refine y_iconst (n := 83) (v := 1) ⟨dX1_cuts_82, rfl⟩ ki_1 ?_
      refine y_isub (n := 84) ⟨dX1_cuts_83, rfl⟩ ?_
      refine y_iload (i := 8) (n := 86) ⟨dX1_cuts_84, rfl⟩ rfl ?_
      obtain ⟨hg5, hf⟩ := g_s hf
      refine y_iastore (n := 87) ⟨dX1_cuts_86, rfl⟩ l_54 hg5 ?_
      refine y_aload_n (i := 0) (n := 88) ⟨dX1_cuts_87, rfl⟩ rfl ?_
      refine y_iload_n (i := 1) (n := 89) ⟨dX1_cuts_88, rfl⟩ rfl ?_
      refine y_iload_n (i := 2) (n := 90) ⟨dX1_cuts_89, rfl⟩ rfl ?_
      refine y_iconst (n := 91) (v := 1) ⟨dX1_cuts_90, rfl⟩ ki_1 ?_
      refine y_isub (n := 92) ⟨dX1_cuts_91, rfl⟩ ?_
      refine y_iload (i := 8) (n := 94) ⟨dX1_cuts_92, rfl⟩ rfl ?_
      refine y_iconst (n := 95) (v := 1) ⟨dX1_cuts_94, rfl⟩ ki_1 ?_
      refine y_iadd (n := 96) ⟨dX1_cuts_95, rfl⟩ ?_
      refine y_lload (i := 4) (n := 98) ⟨dX1_cuts_96, rfl⟩ rfl ?_
      refine y_lconst (n := 99) (v := 1) ⟨dX1_cuts_98, rfl⟩ kl_1 ?_
      refine y_iload (i := 8) (n := 101) ⟨dX1_cuts_99, rfl⟩ rfl ?_
      refine y_lshl (n := 102) ⟨dX1_cuts_101, rfl⟩ ?_
      refine y_ldc2 (n := 105) ⟨dX1_cuts_102, rfl⟩ kcX1_42 ?_
      refine y_lxor (n := 106) ⟨dX1_cuts_105, rfl⟩ ?_
      refine y_land (n := 107) ⟨dX1_cuts_106, rfl⟩ ?_
      refine y_lload (i := 6) (n := 109) ⟨dX1_cuts_107, rfl⟩ rfl ?_
      obtain ⟨q6, hv7, hf⟩ := b_s hf
      refine c_cl_cutsR hrec x1 (x2 - 1) (x8 + 1) (x4 &&& (((1 : Int64) <<< (x8.toInt64 &&& 63)) ^^^ (-1))) x6 (sI M 54 (x2 - 1).toNatClampNeg x8) (n := 112) ⟨dX1_cuts_109, rfl⟩ klX1_68 hv7 (by omega) (Nat.le_of_ble_eq_true rfl) rfl rfl ?_
      refine y_if_eq (t := 117) (n := 115) ⟨dX1_cuts_112, rfl, rfl⟩ (fun h0 => ?_) (fun h0 => ?_)
      · have hc := bI_0 h0
        replace hf := i_f hc hf
        refine y_iinc (i := 8) (n := 120) (b := (x8 + 1)) (L2 := [some (.ref 50), some (.int x1), some (.int x2), none, some (.long x4), none, some (.long x6), none, some (.int (x8 + 1))]) ⟨dX1_cuts_117, rfl⟩ rfl (by rw [ki_1]) (by decide) rfl rfl ?_
        refine y_goto (t := 55) ⟨dX1_cuts_120, rfl, rfl⟩ ?_
        cases hf
        exact y_wk (L2 := [some (.ref 50), some (.int x1), some (.int x2), none, some (.long x4), none, some (.long x6), none, some (.int (x8 + 1))]) ⟨Or.inr rfl, Or.inr rfl, Or.inr rfl, Or.inr rfl, Or.inr rfl, Or.inr rfl, Or.inr rfl, Or.inr rfl, Or.inr rfl, trivial⟩ hk
      · have hc := bI_1 h0
        replace hf := i_t hc hf
        refine y_iconst (n := 116) (v := 1) ⟨dX1_cuts_115, rfl⟩ ki_1 ?_
        cases hf
        exact y_ireturn (n := 117) ⟨dX1_cuts_116, rfl⟩ rfl rfl hk
theorem wl_cl_cuts_55 {dr : Nat} (rec : (Int32 → Int32 → Int32 → Int64 → Int64 → dM → Option (Bool × dM))) (hrec : ∀ (a1 : Int32) (a2 : Int32) (a3 : Int32) (a4 : Int64) (a5 : Int64) (M : dM) (o : (Bool × dM)), rec a1 a2 a3 a4 a5 M = some o → mO mX1_cuts dr [.ref 50, .int a1, .int a2, .int a3, .long a4, .long a5] M (some (.int (bI o.1))) o.2) (x1 : Int32) (x2 : Int32) (x4 : Int64) (x6 : Int64) (x8 : Int32) (M : dM) {Q : mz_P} {x : (Bool × dM)} (hf : l_cl_cuts_55 rec x1 x2 x4 x6 x8 M = some x) (hk : K_cl_cuts_55 dr Q x1 x2 x4 x6 (.inr x)) : mW mX1_cuts (dr + 2) Q 55 [some (.ref 50), some (.int x1), some (.int x2), none, some (.long x4), none, some (.long x6), none, some (.int x8)] [] M :=
  lpc_wp (σ := (Int32 × dM)) (ξ := (Bool × dM)) (s := (x8, M)) (Wh := fun s => mW mX1_cuts (dr + 2) Q 55 [some (.ref 50), some (.int x1), some (.int x2), none, some (.long x4), none, some (.long x6), none, some (.int s.1)] [] s.2) (K := K_cl_cuts_55 dr Q x1 x2 x4 x6) (fun _ h => h) (fun s o hb hk => w_b_cl_cuts_55_55 rec hrec x1 x2 x4 x6 s.1 s.2 hb hk) hf hk
theorem ok_cl_cuts {dr : Nat} (rec : (Int32 → Int32 → Int32 → Int64 → Int64 → dM → Option (Bool × dM))) (hrec : ∀ (a1 : Int32) (a2 : Int32) (a3 : Int32) (a4 : Int64) (a5 : Int64) (M : dM) (o : (Bool × dM)), rec a1 a2 a3 a4 a5 M = some o → mO mX1_cuts dr [.ref 50, .int a1, .int a2, .int a3, .long a4, .long a5] M (some (.int (bI o.1))) o.2) (a1 : Int32) (a2 : Int32) (a3 : Int32) (a4 : Int64) (a5 : Int64) (M : dM) {o : (Bool × dM)} (hf : f_cl_cuts rec a1 a2 a3 a4 a5 M = some o) : mO mX1_cuts (dr + 2) [.ref 50, .int a1, .int a2, .int a3, .long a4, .long a5] M (some (.int (bI o.1))) o.2 := by
  refine y_ok (by decide +kernel) (Nat.le_of_ble_eq_true rfl) (L0 := [some (.ref 50), some (.int a1), some (.int a2), some (.int a3), some (.long a4), none, some (.long a5), none, none]) rfl ?_
  have hk := mR_mQ (some (.int (bI o.1))) o.2
  generalize mQ _ _ = Q at hk ⊢
  unfold f_cl_cuts at hf
  refine y_iload_n (i := 2) (n := 1) ⟨dX1_cuts_0, rfl⟩ rfl ?_
  refine y_iconst (n := 2) (v := 1) ⟨dX1_cuts_1, rfl⟩ ki_1 ?_
  refine y_icmp_lt (t := 10) (n := 5) ⟨dX1_cuts_2, rfl, rfl⟩ (fun (hc : a2 < 1) => ?_) (fun (hc : ¬ (a2 < 1)) => ?_)
  · replace hf := i_t hc hf
    exact y_wk (L2 := [some (.ref 50), some (.int a1), none, none, some (.long a4), none, none, none, none]) ⟨Or.inr rfl, Or.inr rfl, Or.inl rfl, Or.inl rfl, Or.inr rfl, Or.inr rfl, Or.inl rfl, Or.inr rfl, Or.inr rfl, trivial⟩ (w_t_cl_cuts_10 rec hrec a1 a4 M hf hk)
  · replace hf := i_f hc hf
    refine y_iload_n (i := 2) (n := 6) ⟨dX1_cuts_5, rfl⟩ rfl ?_
    refine y_iconst (n := 7) (v := 3) ⟨dX1_cuts_6, rfl⟩ ki_3 ?_
    refine y_icmp_le (t := 30) (n := 10) ⟨dX1_cuts_7, rfl, rfl⟩ (fun (hc : a2 ≤ 3) => ?_) (fun (hc : ¬ (a2 ≤ 3)) => ?_)
    · replace hf := i_t hc hf
      refine y_aload_n (i := 0) (n := 31) ⟨dX1_cuts_30, rfl⟩ rfl ?_
      refine y_lload (i := 4) (n := 33) ⟨dX1_cuts_31, rfl⟩ rfl ?_
      refine y_lconst (n := 34) (v := 1) ⟨dX1_cuts_33, rfl⟩ kl_1 ?_
      refine y_iload_n (i := 3) (n := 35) ⟨dX1_cuts_34, rfl⟩ rfl ?_
      refine y_lshl (n := 36) ⟨dX1_cuts_35, rfl⟩ ?_
      refine y_lconst (n := 37) (v := 1) ⟨dX1_cuts_36, rfl⟩ kl_1 ?_
      refine y_lsub (n := 38) ⟨dX1_cuts_37, rfl⟩ ?_
      refine y_land (n := 39) ⟨dX1_cuts_38, rfl⟩ ?_
      obtain ⟨v3, hv4, hf⟩ := b_s hf
      refine c_cl_standWith (a4 &&& (((1 : Int64) <<< (a3.toInt64 &&& 63)) - 1)) M (n := 42) ⟨dX1_cuts_39, rfl⟩ klX1_57 hv4 (by omega) (Nat.le_of_ble_eq_true rfl) rfl rfl ?_
      refine y_i2l (n := 43) ⟨dX1_cuts_42, rfl⟩ ?_
      refine y_iload_n (i := 1) (n := 44) ⟨dX1_cuts_43, rfl⟩ rfl ?_
      refine c_ax_hasBit v3.toInt64 a1 M (n := 47) ⟨dX1_cuts_44, rfl⟩ klX1_61 rfl (by omega) (Nat.le_of_ble_eq_true rfl) rfl rfl ?_
      refine y_if_eq (t := 52) (n := 50) ⟨dX1_cuts_47, rfl, rfl⟩ (fun h0 => ?_) (fun h0 => ?_)
      · have hc := bI_0 h0
        replace hf := i_f hc hf
        refine y_iload_n (i := 3) (n := 53) ⟨dX1_cuts_52, rfl⟩ rfl ?_
        refine y_istore (i := 8) (n := 55) (L2 := [some (.ref 50), some (.int a1), some (.int a2), some (.int a3), some (.long a4), none, some (.long a5), none, some (.int a3)]) ⟨dX1_cuts_53, rfl⟩ (by decide) rfl rfl ?_
        obtain ⟨r10, hl9, hf⟩ := b_s hf
        cases hf
        exact y_wk (L2 := [some (.ref 50), some (.int a1), some (.int a2), none, some (.long a4), none, some (.long a5), none, some (.int a3)]) ⟨Or.inr rfl, Or.inr rfl, Or.inr rfl, Or.inl rfl, Or.inr rfl, Or.inr rfl, Or.inr rfl, Or.inr rfl, Or.inr rfl, trivial⟩ (wl_cl_cuts_55 rec hrec a1 a2 a4 a5 a3 M hl9 hk)
      · have hc := bI_1 h0
        replace hf := i_t hc hf
        refine y_iconst (n := 51) (v := 0) ⟨dX1_cuts_50, rfl⟩ ki_0 ?_
        cases hf
        exact y_ireturn (n := 52) ⟨dX1_cuts_51, rfl⟩ rfl rfl hk
    · replace hf := i_f hc hf
      exact y_wk (L2 := [some (.ref 50), some (.int a1), none, none, some (.long a4), none, none, none, none]) ⟨Or.inr rfl, Or.inr rfl, Or.inl rfl, Or.inl rfl, Or.inr rfl, Or.inr rfl, Or.inl rfl, Or.inr rfl, Or.inr rfl, trivial⟩ (w_t_cl_cuts_10 rec hrec a1 a4 M hf hk)
noncomputable def fr_cl_cuts : Nat → Int32 → Int32 → Int32 → Int64 → Int64 → dM → Option (Bool × dM)
  | 0 => fun _ _ _ _ _ _ => none
  | n + 1 => f_cl_cuts (fr_cl_cuts n)
theorem okr_cl_cuts : ∀ (n : Nat) (a1 : Int32) (a2 : Int32) (a3 : Int32) (a4 : Int64) (a5 : Int64) (M : dM) (o : (Bool × dM)), fr_cl_cuts n a1 a2 a3 a4 a5 M = some o → mO mX1_cuts (2 * n) [.ref 50, .int a1, .int a2, .int a3, .long a4, .long a5] M (some (.int (bI o.1))) o.2
  | 0, _, _, _, _, _, _, _, h => by cases h
  | n + 1, a1, a2, a3, a4, a5, M, o, h => by
    have e : 2 * (n + 1) = 2 * n + 2 := by omega
    rw [e]
    exact ok_cl_cuts (fr_cl_cuts n) (okr_cl_cuts n) a1 a2 a3 a4 a5 M h
theorem c_cl_cuts (a1 : Int32) (a2 : Int32) (a3 : Int32) (a4 : Int64) (a5 : Int64) (M : dM) {o : (Bool × dM)} {y : mz_M} {d : Nat} {Q : mz_P} {pc n i : Nat} {L : List (Option Value)} {st : List Value} (h : mz_d y.2.1 pc n 3 (.invokevirtual i)) (hl : mz_ml y.1.cls i yX1_cuts) (hf : fr_cl_cuts 8 a1 a2 a3 a4 a5 M = some o) (hd : 16 + 1 ≤ d) (hsm : (st.map (fun v => v.category)).sum ≤ 8) (hLr : mz_rL 133 L = true) (hSr : mz_rS 133 st = true) (kk : mW y d Q n L (.int (bI o.1) :: st) o.2) : mW y d Q pc L (.long a5 :: .long a4 :: .int a3 :: .int a2 :: .int a1 :: .ref 50 :: st) M :=
  y_callV kmX1_cuts kvX1_cuts l_50 (by decide +kernel) (by decide +kernel) h hl (okr_cl_cuts 8 a1 a2 a3 a4 a5 M o hf) (vs := [.int a1, .int a2, .int a3, .long a4, .long a5]) rfl rfl hd hsm hLr hSr kk
noncomputable def f_cl_turnPicks (a1 : Int32) (M : dM) : Option dM :=
  gd (vp_in (a1 - 1) 3) <|
  some (sI (sI M 54 0 (gI M 54 (a1 - 1).toNatClampNeg)) 54 (a1 - 1).toNatClampNeg (gI M 54 0))
theorem ok_cl_turnPicks (a1 : Int32) (M : dM) {o : dM} (hf : f_cl_turnPicks a1 M = some o) : mO mX1_turnPicks 1 [.ref 50, .int a1] M none o := by
  refine y_ok (by decide +kernel) (Nat.le_of_ble_eq_true rfl) (L0 := [some (.ref 50), some (.int a1), none]) rfl ?_
  have hk := mR_mQ none o
  generalize mQ _ _ = Q at hk ⊢
  unfold f_cl_turnPicks at hf
  refine y_aload_n (i := 0) (n := 1) ⟨dX1_turnPicks_0, rfl⟩ rfl ?_
  refine y_getR (n := 4) ⟨dX1_turnPicks_1, rfl⟩ kfX1_22 l_50 rfl r_50_5 ?_
  refine y_iconst (n := 5) (v := 0) ⟨dX1_turnPicks_4, rfl⟩ ki_0 ?_
  refine y_iaload (n := 6) ⟨dX1_turnPicks_5, rfl⟩ l_54 (by unfold vp_in; decide) ?_
  refine y_istore_n (i := 2) (n := 7) (L2 := [some (.ref 50), some (.int a1), some (.int (gI M 54 0))]) ⟨dX1_turnPicks_6, rfl⟩ (by decide) rfl rfl ?_
  refine y_aload_n (i := 0) (n := 8) ⟨dX1_turnPicks_7, rfl⟩ rfl ?_
  refine y_getR (n := 11) ⟨dX1_turnPicks_8, rfl⟩ kfX1_22 l_50 rfl r_50_5 ?_
  refine y_iconst (n := 12) (v := 0) ⟨dX1_turnPicks_11, rfl⟩ ki_0 ?_
  refine y_aload_n (i := 0) (n := 13) ⟨dX1_turnPicks_12, rfl⟩ rfl ?_
  refine y_getR (n := 16) ⟨dX1_turnPicks_13, rfl⟩ kfX1_22 l_50 rfl r_50_5 ?_
  refine y_iload_n (i := 1) (n := 17) ⟨dX1_turnPicks_16, rfl⟩ rfl ?_
  refine y_iconst (n := 18) (v := 1) ⟨dX1_turnPicks_17, rfl⟩ ki_1 ?_
  refine y_isub (n := 19) ⟨dX1_turnPicks_18, rfl⟩ ?_
  obtain ⟨hg1, hf⟩ := g_s hf
  refine y_iaload (n := 20) ⟨dX1_turnPicks_19, rfl⟩ l_54 hg1 ?_
  refine y_iastore (n := 21) ⟨dX1_turnPicks_20, rfl⟩ l_54 (by unfold vp_in; decide) ?_
  refine y_aload_n (i := 0) (n := 22) ⟨dX1_turnPicks_21, rfl⟩ rfl ?_
  refine y_getR (n := 25) ⟨dX1_turnPicks_22, rfl⟩ kfX1_22 l_50 rfl r_50_5 ?_
  refine y_iload_n (i := 1) (n := 26) ⟨dX1_turnPicks_25, rfl⟩ rfl ?_
  refine y_iconst (n := 27) (v := 1) ⟨dX1_turnPicks_26, rfl⟩ ki_1 ?_
  refine y_isub (n := 28) ⟨dX1_turnPicks_27, rfl⟩ ?_
  refine y_iload_n (i := 2) (n := 29) ⟨dX1_turnPicks_28, rfl⟩ rfl ?_
  refine y_iastore (n := 30) ⟨dX1_turnPicks_29, rfl⟩ l_54 hg1 ?_
  cases hf
  exact y_return (n := 31) ⟨dX1_turnPicks_30, rfl⟩ rfl hk
theorem c_cl_turnPicks (a1 : Int32) (M : dM) {o : dM} {y : mz_M} {d : Nat} {Q : mz_P} {pc n i : Nat} {L : List (Option Value)} {st : List Value} (h : mz_d y.2.1 pc n 3 (.invokevirtual i)) (hl : mz_ml y.1.cls i yX1_turnPicks) (hf : f_cl_turnPicks a1 M = some o) (hd : 1 + 1 ≤ d) (hsm : (st.map (fun v => v.category)).sum ≤ 8) (hLr : mz_rL 133 L = true) (hSr : mz_rS 133 st = true) (kk : mW y d Q n L st o) : mW y d Q pc L (.int a1 :: .ref 50 :: st) M :=
  y_callV kmX1_turnPicks kvX1_turnPicks l_50 (by decide +kernel) (by decide +kernel) h hl (ok_cl_turnPicks a1 M hf) (vs := [.int a1]) rfl rfl hd hsm hLr hSr kk
def K_cl_seekCut_32 (Q : mz_P) (x1 : Int32) (x2 : Int64) (x4 : Int64) : ((Int32 × dM) ⊕ (Int32 × dM)) → Prop
  | .inl s => mW mX1_seekCut 17 Q 32 [some (.ref 50), some (.int x1), some (.long x2), none, some (.long x4), none, some (.int s.1)] [] s.2
  | .inr r => mR Q (some (.int r.1)) r.2
noncomputable def b_cl_seekCut_32_32 (x1 : Int32) (x2 : Int64) (x4 : Int64) (x6 : Int32) (M : dM) : Option ((Int32 × dM) ⊕ (Int32 × dM)) :=
  if 3 < x6 then
    some (.inr (0, M))
  else
    (fr_cl_cuts 8 x1 x6 0 x2 x4 M).bind fun q5 =>
    if q5.1 = true then
      (f_cl_turnPicks x6 q5.2).bind fun q7 =>
      some (.inr (x6, q7))
    else
      some (.inl ((x6 + 1), q5.2))
noncomputable def l_cl_seekCut_32 (x1 : Int32) (x2 : Int64) (x4 : Int64) (x6 : Int32) (M : dM) : Option (Int32 × dM) := lpc (fun s => b_cl_seekCut_32_32 x1 x2 x4 s.1 s.2) (x6, M)
noncomputable def f_cl_seekCut (a1 : Int32) (M : dM) : Option (Int32 × dM) :=
  (f_cl_standWith (f_to_allFinds M) M).bind fun v1 =>
  if (f_ax_hasBit v1.toInt64 a1) = true then
    (f_cl_findsInGrounds M).bind fun v3 =>
    (l_cl_seekCut_32 a1 (f_to_allFinds M) v3 1 M).bind fun r11 => some r11
  else
    some (0, M)
theorem w_b_cl_seekCut_32_32 (x1 : Int32) (x2 : Int64) (x4 : Int64) (x6 : Int32)  (M : dM) {Q : mz_P} {o : ((Int32 × dM) ⊕ (Int32 × dM))} (hf : b_cl_seekCut_32_32 x1 x2 x4 x6 M = some o) (hk : K_cl_seekCut_32 Q x1 x2 x4 o) : mW mX1_seekCut 17 Q 32 [some (.ref 50), some (.int x1), some (.long x2), none, some (.long x4), none, some (.int x6)] [] M := by
  unfold b_cl_seekCut_32_32 at hf
  refine y_iload (i := 6) (n := 34) ⟨dX1_seekCut_32, rfl⟩ rfl ?_
  refine y_iconst (n := 35) (v := 3) ⟨dX1_seekCut_34, rfl⟩ ki_3 ?_
  refine y_icmp_gt (t := 67) (n := 38) ⟨dX1_seekCut_35, rfl, rfl⟩ (fun (hc : 3 < x6) => ?_) (fun (hc : ¬ (3 < x6)) => ?_)
  · replace hf := i_t hc hf
    refine y_iconst (n := 68) (v := 0) ⟨dX1_seekCut_67, rfl⟩ ki_0 ?_
    cases hf
    exact y_ireturn (n := 69) ⟨dX1_seekCut_68, rfl⟩ rfl rfl hk
  · replace hf := i_f hc hf
    refine y_aload_n (i := 0) (n := 39) ⟨dX1_seekCut_38, rfl⟩ rfl ?_
    refine y_iload_n (i := 1) (n := 40) ⟨dX1_seekCut_39, rfl⟩ rfl ?_
    refine y_iload (i := 6) (n := 42) ⟨dX1_seekCut_40, rfl⟩ rfl ?_
    refine y_iconst (n := 43) (v := 0) ⟨dX1_seekCut_42, rfl⟩ ki_0 ?_
    refine y_lload_n (i := 2) (n := 44) ⟨dX1_seekCut_43, rfl⟩ rfl ?_
    refine y_lload (i := 4) (n := 46) ⟨dX1_seekCut_44, rfl⟩ rfl ?_
    obtain ⟨q5, hv6, hf⟩ := b_s hf
    refine c_cl_cuts x1 x6 0 x2 x4 M (n := 49) ⟨dX1_seekCut_46, rfl⟩ klX1_68 hv6 (by decide) (Nat.le_of_ble_eq_true rfl) rfl rfl ?_
    refine y_if_eq (t := 61) (n := 52) ⟨dX1_seekCut_49, rfl, rfl⟩ (fun h0 => ?_) (fun h0 => ?_)
    · have hc := bI_0 h0
      replace hf := i_f hc hf
      refine y_iinc (i := 6) (n := 64) (b := (x6 + 1)) (L2 := [some (.ref 50), some (.int x1), some (.long x2), none, some (.long x4), none, some (.int (x6 + 1))]) ⟨dX1_seekCut_61, rfl⟩ rfl (by rw [ki_1]) (by decide) rfl rfl ?_
      refine y_goto (t := 32) ⟨dX1_seekCut_64, rfl, rfl⟩ ?_
      cases hf
      exact y_wk (L2 := [some (.ref 50), some (.int x1), some (.long x2), none, some (.long x4), none, some (.int (x6 + 1))]) ⟨Or.inr rfl, Or.inr rfl, Or.inr rfl, Or.inr rfl, Or.inr rfl, Or.inr rfl, Or.inr rfl, trivial⟩ hk
    · have hc := bI_1 h0
      replace hf := i_t hc hf
      refine y_aload_n (i := 0) (n := 53) ⟨dX1_seekCut_52, rfl⟩ rfl ?_
      refine y_iload (i := 6) (n := 55) ⟨dX1_seekCut_53, rfl⟩ rfl ?_
      obtain ⟨q7, hv8, hf⟩ := b_s hf
      refine c_cl_turnPicks x6 q5.2 (n := 58) ⟨dX1_seekCut_55, rfl⟩ klX1_72 hv8 (by decide) (Nat.le_of_ble_eq_true rfl) rfl rfl ?_
      refine y_iload (i := 6) (n := 60) ⟨dX1_seekCut_58, rfl⟩ rfl ?_
      cases hf
      exact y_ireturn (n := 61) ⟨dX1_seekCut_60, rfl⟩ rfl rfl hk
theorem wl_cl_seekCut_32 (x1 : Int32) (x2 : Int64) (x4 : Int64) (x6 : Int32) (M : dM) {Q : mz_P} {x : (Int32 × dM)} (hf : l_cl_seekCut_32 x1 x2 x4 x6 M = some x) (hk : K_cl_seekCut_32 Q x1 x2 x4 (.inr x)) : mW mX1_seekCut 17 Q 32 [some (.ref 50), some (.int x1), some (.long x2), none, some (.long x4), none, some (.int x6)] [] M :=
  lpc_wp (σ := (Int32 × dM)) (ξ := (Int32 × dM)) (s := (x6, M)) (Wh := fun s => mW mX1_seekCut 17 Q 32 [some (.ref 50), some (.int x1), some (.long x2), none, some (.long x4), none, some (.int s.1)] [] s.2) (K := K_cl_seekCut_32 Q x1 x2 x4) (fun _ h => h) (fun s o hb hk => w_b_cl_seekCut_32_32 x1 x2 x4 s.1 s.2 hb hk) hf hk
theorem ok_cl_seekCut (a1 : Int32) (M : dM) {o : (Int32 × dM)} (hf : f_cl_seekCut a1 M = some o) : mO mX1_seekCut 17 [.ref 50, .int a1] M (some (.int o.1)) o.2 := by
  refine y_ok (by decide +kernel) (Nat.le_of_ble_eq_true rfl) (L0 := [some (.ref 50), some (.int a1), none, none, none, none, none]) rfl ?_
  have hk := mR_mQ (some (.int o.1)) o.2
  generalize mQ _ _ = Q at hk ⊢
  unfold f_cl_seekCut at hf
  refine y_aload_n (i := 0) (n := 1) ⟨dX1_seekCut_0, rfl⟩ rfl ?_
  refine y_getR (n := 4) ⟨dX1_seekCut_1, rfl⟩ kfX1_32 l_50 rfl r_50_0 ?_
  refine c_to_allFinds M (n := 7) ⟨dX1_seekCut_4, rfl⟩ klX1_51 rfl (by decide) (Nat.le_of_ble_eq_true rfl) rfl rfl ?_
  refine y_lstore_n (i := 2) (n := 8) (L2 := [some (.ref 50), some (.int a1), some (.long (f_to_allFinds M)), none, none, none, none]) ⟨dX1_seekCut_7, rfl⟩ (by decide) rfl rfl ?_
  refine y_aload_n (i := 0) (n := 9) ⟨dX1_seekCut_8, rfl⟩ rfl ?_
  refine y_lload_n (i := 2) (n := 10) ⟨dX1_seekCut_9, rfl⟩ rfl ?_
  obtain ⟨v1, hv2, hf⟩ := b_s hf
  refine c_cl_standWith (f_to_allFinds M) M (n := 13) ⟨dX1_seekCut_10, rfl⟩ klX1_57 hv2 (by decide) (Nat.le_of_ble_eq_true rfl) rfl rfl ?_
  refine y_i2l (n := 14) ⟨dX1_seekCut_13, rfl⟩ ?_
  refine y_iload_n (i := 1) (n := 15) ⟨dX1_seekCut_14, rfl⟩ rfl ?_
  refine c_ax_hasBit v1.toInt64 a1 M (n := 18) ⟨dX1_seekCut_15, rfl⟩ klX1_61 rfl (by decide) (Nat.le_of_ble_eq_true rfl) rfl rfl ?_
  refine y_if_ne (t := 23) (n := 21) ⟨dX1_seekCut_18, rfl, rfl⟩ (fun h0 => ?_) (fun h0 => ?_)
  · have hc := bI_1 h0
    replace hf := i_t hc hf
    refine y_aload_n (i := 0) (n := 24) ⟨dX1_seekCut_23, rfl⟩ rfl ?_
    obtain ⟨v3, hv4, hf⟩ := b_s hf
    refine c_cl_findsInGrounds M (n := 27) ⟨dX1_seekCut_24, rfl⟩ klX1_65 hv4 (by decide) (Nat.le_of_ble_eq_true rfl) rfl rfl ?_
    refine y_lstore (i := 4) (n := 29) (L2 := [some (.ref 50), some (.int a1), some (.long (f_to_allFinds M)), none, some (.long v3), none, none]) ⟨dX1_seekCut_27, rfl⟩ (by decide) rfl rfl ?_
    refine y_iconst (n := 30) (v := 1) ⟨dX1_seekCut_29, rfl⟩ ki_1 ?_
    refine y_istore (i := 6) (n := 32) (L2 := [some (.ref 50), some (.int a1), some (.long (f_to_allFinds M)), none, some (.long v3), none, some (.int 1)]) ⟨dX1_seekCut_30, rfl⟩ (by decide) rfl rfl ?_
    obtain ⟨r11, hl10, hf⟩ := b_s hf
    cases hf
    exact y_wk (L2 := [some (.ref 50), some (.int a1), some (.long (f_to_allFinds M)), none, some (.long v3), none, some (.int 1)]) ⟨Or.inr rfl, Or.inr rfl, Or.inr rfl, Or.inr rfl, Or.inr rfl, Or.inr rfl, Or.inr rfl, trivial⟩ (wl_cl_seekCut_32 a1 (f_to_allFinds M) v3 1 M hl10 hk)
  · have hc := bI_0 h0
    replace hf := i_f hc hf
    refine y_iconst (n := 22) (v := 0) ⟨dX1_seekCut_21, rfl⟩ ki_0 ?_
    cases hf
    exact y_ireturn (n := 23) ⟨dX1_seekCut_22, rfl⟩ rfl rfl hk
theorem c_cl_seekCut (a1 : Int32) (M : dM) {o : (Int32 × dM)} {y : mz_M} {d : Nat} {Q : mz_P} {pc n i : Nat} {L : List (Option Value)} {st : List Value} (h : mz_d y.2.1 pc n 3 (.invokevirtual i)) (hl : mz_ml y.1.cls i yX1_seekCut) (hf : f_cl_seekCut a1 M = some o) (hd : 17 + 1 ≤ d) (hsm : (st.map (fun v => v.category)).sum ≤ 8) (hLr : mz_rL 133 L = true) (hSr : mz_rS 133 st = true) (kk : mW y d Q n L (.int o.1 :: st) o.2) : mW y d Q pc L (.int a1 :: .ref 50 :: st) M :=
  y_callV kmX1_seekCut kvX1_seekCut l_50 (by decide +kernel) (by decide +kernel) h hl (ok_cl_seekCut a1 M hf) (vs := [.int a1]) rfl rfl hd hsm hLr hSr kk
noncomputable def f_cl_cutSize (a1 : Int32) (M : dM) : Option (Int32 × dM) :=
  if (gI M 50 6) = a1 then
    some ((gI M 50 7), M)
  else
    (f_cl_seekCut a1 (sI M 50 6 a1)).bind fun q1 =>
    some ((gI (sI q1.2 50 7 q1.1) 50 7), (sI q1.2 50 7 q1.1))
theorem ok_cl_cutSize (a1 : Int32) (M : dM) {o : (Int32 × dM)} (hf : f_cl_cutSize a1 M = some o) : mO mX1_cutSize 18 [.ref 50, .int a1] M (some (.int o.1)) o.2 := by
  refine y_ok (by decide +kernel) (Nat.le_of_ble_eq_true rfl) (L0 := [some (.ref 50), some (.int a1)]) rfl ?_
  have hk := mR_mQ (some (.int o.1)) o.2
  generalize mQ _ _ = Q at hk ⊢
  unfold f_cl_cutSize at hf
  refine y_aload_n (i := 0) (n := 1) ⟨dX1_cutSize_0, rfl⟩ rfl ?_
  refine y_getI (n := 4) ⟨dX1_cutSize_1, rfl⟩ kfX1_25 l_50 rfl ?_
  refine y_iload_n (i := 1) (n := 5) ⟨dX1_cutSize_4, rfl⟩ rfl ?_
  refine y_icmp_eq (t := 22) (n := 8) ⟨dX1_cutSize_5, rfl, rfl⟩ (fun (hc : (gI M 50 6) = a1) => ?_) (fun (hc : ¬ ((gI M 50 6) = a1)) => ?_)
  · replace hf := i_t hc hf
    refine y_aload_n (i := 0) (n := 23) ⟨dX1_cutSize_22, rfl⟩ rfl ?_
    refine y_getI (n := 26) ⟨dX1_cutSize_23, rfl⟩ kfX1_48 l_50 rfl ?_
    cases hf
    exact y_ireturn (n := 27) ⟨dX1_cutSize_26, rfl⟩ rfl rfl hk
  · replace hf := i_f hc hf
    refine y_aload_n (i := 0) (n := 9) ⟨dX1_cutSize_8, rfl⟩ rfl ?_
    refine y_iload_n (i := 1) (n := 10) ⟨dX1_cutSize_9, rfl⟩ rfl ?_
    refine y_putI (n := 13) ⟨dX1_cutSize_10, rfl⟩ kfX1_25 l_50 (by decide +kernel) rfl ?_
    refine y_aload_n (i := 0) (n := 14) ⟨dX1_cutSize_13, rfl⟩ rfl ?_
    refine y_aload_n (i := 0) (n := 15) ⟨dX1_cutSize_14, rfl⟩ rfl ?_
    refine y_iload_n (i := 1) (n := 16) ⟨dX1_cutSize_15, rfl⟩ rfl ?_
    obtain ⟨q1, hv2, hf⟩ := b_s hf
    refine c_cl_seekCut a1 (sI M 50 6 a1) (n := 19) ⟨dX1_cutSize_16, rfl⟩ klX1_44 hv2 (by decide) (Nat.le_of_ble_eq_true rfl) rfl rfl ?_
    refine y_putI (n := 22) ⟨dX1_cutSize_19, rfl⟩ kfX1_48 l_50 (by decide +kernel) rfl ?_
    refine y_aload_n (i := 0) (n := 23) ⟨dX1_cutSize_22, rfl⟩ rfl ?_
    refine y_getI (n := 26) ⟨dX1_cutSize_23, rfl⟩ kfX1_48 l_50 rfl ?_
    cases hf
    exact y_ireturn (n := 27) ⟨dX1_cutSize_26, rfl⟩ rfl rfl hk
theorem c_cl_cutSize (a1 : Int32) (M : dM) {o : (Int32 × dM)} {y : mz_M} {d : Nat} {Q : mz_P} {pc n i : Nat} {L : List (Option Value)} {st : List Value} (h : mz_d y.2.1 pc n 3 (.invokevirtual i)) (hl : mz_ml y.1.cls i yX1_cutSize) (hf : f_cl_cutSize a1 M = some o) (hd : 18 + 1 ≤ d) (hsm : (st.map (fun v => v.category)).sum ≤ 8) (hLr : mz_rL 133 L = true) (hSr : mz_rS 133 st = true) (kk : mW y d Q n L (.int o.1 :: st) o.2) : mW y d Q pc L (.int a1 :: .ref 50 :: st) M :=
  y_callV kmX1_cutSize kvX1_cutSize l_50 (by decide +kernel) (by decide +kernel) h hl (ok_cl_cutSize a1 M hf) (vs := [.int a1]) rfl rfl hd hsm hLr hSr kk
noncomputable def f_ax_cut (a1 : Int32) (a2 : Int32) (M : dM) : Option (Int32 × dM) :=
  if (f_ax_within a1 12) = true then
    if (f_ax_within a2 4) = true then
      (f_cl_cutSize a1 M).bind fun q1 =>
      if q1.1 < 1 then
        some ((-1), q1.2)
      else
        if a2 ≤ q1.1 then
          if a2 = 0 then
            some (q1.1, q1.2)
          else
            gd (vp_in (a2 - 1) 3) <|
            some ((gI q1.2 54 (a2 - 1).toNatClampNeg), q1.2)
        else
          some ((-1), q1.2)
    else
      some ((-1), M)
  else
    some ((-1), M)
theorem ok_ax_cut (a1 : Int32) (a2 : Int32) (M : dM) {o : (Int32 × dM)} (hf : f_ax_cut a1 a2 M = some o) : mO mX11_cut 19 [.ref 0, .int a1, .int a2] M (some (.int o.1)) o.2 := by
  refine y_ok (by decide +kernel) (Nat.le_of_ble_eq_true rfl) (L0 := [some (.ref 0), some (.int a1), some (.int a2), none]) rfl ?_
  have hk := mR_mQ (some (.int o.1)) o.2
  generalize mQ _ _ = Q at hk ⊢
  unfold f_ax_cut at hf
  refine y_iload_n (i := 1) (n := 1) ⟨dX11_cut_0, rfl⟩ rfl ?_
  refine y_bipush (n := 3) (v := 12) ⟨dX11_cut_1, rfl⟩ kb_12 ?_
  refine c_ax_within a1 12 M (n := 6) ⟨dX11_cut_3, rfl⟩ klX11_91 rfl (by decide) (Nat.le_of_ble_eq_true rfl) rfl rfl ?_
  refine y_if_eq (t := 17) (n := 9) ⟨dX11_cut_6, rfl, rfl⟩ (fun h0 => ?_) (fun h0 => ?_)
  · have hc := bI_0 h0
    replace hf := i_f hc hf
    refine y_iconst (n := 18) (v := (-1)) ⟨dX11_cut_17, rfl⟩ ki_m1 ?_
    cases hf
    exact y_ireturn (n := 19) ⟨dX11_cut_18, rfl⟩ rfl rfl hk
  · have hc := bI_1 h0
    replace hf := i_t hc hf
    refine y_iload_n (i := 2) (n := 10) ⟨dX11_cut_9, rfl⟩ rfl ?_
    refine y_iconst (n := 11) (v := 4) ⟨dX11_cut_10, rfl⟩ ki_4 ?_
    refine c_ax_within a2 4 M (n := 14) ⟨dX11_cut_11, rfl⟩ klX11_91 rfl (by decide) (Nat.le_of_ble_eq_true rfl) rfl rfl ?_
    refine y_if_ne (t := 19) (n := 17) ⟨dX11_cut_14, rfl, rfl⟩ (fun h0 => ?_) (fun h0 => ?_)
    · have hc := bI_1 h0
      replace hf := i_t hc hf
      refine y_aload_n (i := 0) (n := 20) ⟨dX11_cut_19, rfl⟩ rfl ?_
      refine y_getR (n := 23) ⟨dX11_cut_20, rfl⟩ kfX11_74 l_0 rfl r_0_8 ?_
      refine y_iload_n (i := 1) (n := 24) ⟨dX11_cut_23, rfl⟩ rfl ?_
      obtain ⟨q1, hv2, hf⟩ := b_s hf
      refine c_cl_cutSize a1 M (n := 27) ⟨dX11_cut_24, rfl⟩ klX11_259 hv2 (by decide) (Nat.le_of_ble_eq_true rfl) rfl rfl ?_
      refine y_istore_n (i := 3) (n := 28) (L2 := [some (.ref 0), some (.int a1), some (.int a2), some (.int q1.1)]) ⟨dX11_cut_27, rfl⟩ (by decide) rfl rfl ?_
      refine y_iload_n (i := 3) (n := 29) ⟨dX11_cut_28, rfl⟩ rfl ?_
      refine y_iconst (n := 30) (v := 1) ⟨dX11_cut_29, rfl⟩ ki_1 ?_
      refine y_icmp_lt (t := 38) (n := 33) ⟨dX11_cut_30, rfl, rfl⟩ (fun (hc : q1.1 < 1) => ?_) (fun (hc : ¬ (q1.1 < 1)) => ?_)
      · replace hf := i_t hc hf
        refine y_iconst (n := 39) (v := (-1)) ⟨dX11_cut_38, rfl⟩ ki_m1 ?_
        cases hf
        exact y_ireturn (n := 40) ⟨dX11_cut_39, rfl⟩ rfl rfl hk
      · replace hf := i_f hc hf
        refine y_iload_n (i := 2) (n := 34) ⟨dX11_cut_33, rfl⟩ rfl ?_
        refine y_iload_n (i := 3) (n := 35) ⟨dX11_cut_34, rfl⟩ rfl ?_
        refine y_icmp_le (t := 40) (n := 38) ⟨dX11_cut_35, rfl, rfl⟩ (fun (hc : a2 ≤ q1.1) => ?_) (fun (hc : ¬ (a2 ≤ q1.1)) => ?_)
        · replace hf := i_t hc hf
          refine y_iload_n (i := 2) (n := 41) ⟨dX11_cut_40, rfl⟩ rfl ?_
          refine y_if_ne (t := 48) (n := 44) ⟨dX11_cut_41, rfl, rfl⟩ (fun (hc : ¬ (a2 = 0)) => ?_) (fun (hc : a2 = 0) => ?_)
          · replace hf := i_f hc hf
            refine y_aload_n (i := 0) (n := 49) ⟨dX11_cut_48, rfl⟩ rfl ?_
            refine y_getR (n := 52) ⟨dX11_cut_49, rfl⟩ kfX11_74 l_0 rfl r_0_8 ?_
            refine y_getR (n := 55) ⟨dX11_cut_52, rfl⟩ kfX11_262 l_50 rfl r_50_5 ?_
            refine y_iload_n (i := 2) (n := 56) ⟨dX11_cut_55, rfl⟩ rfl ?_
            refine y_iconst (n := 57) (v := 1) ⟨dX11_cut_56, rfl⟩ ki_1 ?_
            refine y_isub (n := 58) ⟨dX11_cut_57, rfl⟩ ?_
            obtain ⟨hg3, hf⟩ := g_s hf
            refine y_iaload (n := 59) ⟨dX11_cut_58, rfl⟩ l_54 hg3 ?_
            cases hf
            exact y_ireturn (n := 60) ⟨dX11_cut_59, rfl⟩ rfl rfl hk
          · replace hf := i_t hc hf
            refine y_iload_n (i := 3) (n := 45) ⟨dX11_cut_44, rfl⟩ rfl ?_
            refine y_goto (t := 59) ⟨dX11_cut_45, rfl, rfl⟩ ?_
            cases hf
            exact y_ireturn (n := 60) ⟨dX11_cut_59, rfl⟩ rfl rfl hk
        · replace hf := i_f hc hf
          refine y_iconst (n := 39) (v := (-1)) ⟨dX11_cut_38, rfl⟩ ki_m1 ?_
          cases hf
          exact y_ireturn (n := 40) ⟨dX11_cut_39, rfl⟩ rfl rfl hk
    · have hc := bI_0 h0
      replace hf := i_f hc hf
      refine y_iconst (n := 18) (v := (-1)) ⟨dX11_cut_17, rfl⟩ ki_m1 ?_
      cases hf
      exact y_ireturn (n := 19) ⟨dX11_cut_18, rfl⟩ rfl rfl hk
theorem c_ax_cut (a1 : Int32) (a2 : Int32) (M : dM) {o : (Int32 × dM)} {y : mz_M} {d : Nat} {Q : mz_P} {pc n i : Nat} {L : List (Option Value)} {st : List Value} (h : mz_d y.2.1 pc n 3 (.invokevirtual i)) (hl : mz_ml y.1.cls i yX11_cut) (hf : f_ax_cut a1 a2 M = some o) (hd : 19 + 1 ≤ d) (hsm : (st.map (fun v => v.category)).sum ≤ 8) (hLr : mz_rL 133 L = true) (hSr : mz_rS 133 st = true) (kk : mW y d Q n L (.int o.1 :: st) o.2) : mW y d Q pc L (.int a2 :: .int a1 :: .ref 0 :: st) M :=
  y_callV kmX11_cut kvX11_cut l_0 (by decide +kernel) (by decide +kernel) h hl (ok_ax_cut a1 a2 M hf) (vs := [.int a1, .int a2]) rfl rfl hd hsm hLr hSr kk
noncomputable def f_ax_doubted (a1 : Int32) (M : dM) : Option (Int32 × dM) :=
  if (f_ax_within a1 (gI M 12 7)) = true then
    (f_ax_study 2 M).bind fun q1 =>
    if (f_ax_hasBit (gJ q1 45 7) a1) = true then
      some (1, q1)
    else
      some (0, q1)
  else
    some ((-1), M)
theorem ok_ax_doubted (a1 : Int32) (M : dM) {o : (Int32 × dM)} (hf : f_ax_doubted a1 M = some o) : mO mX11_doubted 6 [.ref 0, .int a1] M (some (.int o.1)) o.2 := by
  refine y_ok (by decide +kernel) (Nat.le_of_ble_eq_true rfl) (L0 := [some (.ref 0), some (.int a1)]) rfl ?_
  have hk := mR_mQ (some (.int o.1)) o.2
  generalize mQ _ _ = Q at hk ⊢
  unfold f_ax_doubted at hf
  refine y_iload_n (i := 1) (n := 1) ⟨dX11_doubted_0, rfl⟩ rfl ?_
  refine y_aload_n (i := 0) (n := 2) ⟨dX11_doubted_1, rfl⟩ rfl ?_
  refine y_getR (n := 5) ⟨dX11_doubted_2, rfl⟩ kfX11_26 l_0 rfl r_0_2 ?_
  refine y_getI (n := 8) ⟨dX11_doubted_5, rfl⟩ kfX11_146 l_12 rfl ?_
  refine c_ax_within a1 (gI M 12 7) M (n := 11) ⟨dX11_doubted_8, rfl⟩ klX11_91 rfl (by decide) (Nat.le_of_ble_eq_true rfl) rfl rfl ?_
  refine y_if_ne (t := 16) (n := 14) ⟨dX11_doubted_11, rfl, rfl⟩ (fun h0 => ?_) (fun h0 => ?_)
  · have hc := bI_1 h0
    replace hf := i_t hc hf
    refine y_aload_n (i := 0) (n := 17) ⟨dX11_doubted_16, rfl⟩ rfl ?_
    refine y_iconst (n := 18) (v := 2) ⟨dX11_doubted_17, rfl⟩ ki_2 ?_
    obtain ⟨q1, hv2, hf⟩ := b_s hf
    refine c_ax_study 2 M (n := 21) ⟨dX11_doubted_18, rfl⟩ klX11_156 hv2 (by decide) (Nat.le_of_ble_eq_true rfl) rfl rfl ?_
    refine y_aload_n (i := 0) (n := 22) ⟨dX11_doubted_21, rfl⟩ rfl ?_
    refine y_getR (n := 25) ⟨dX11_doubted_22, rfl⟩ kfX11_65 l_0 rfl r_0_7 ?_
    refine y_getJ (n := 28) ⟨dX11_doubted_25, rfl⟩ kfX11_265 l_45 rfl ?_
    refine y_iload_n (i := 1) (n := 29) ⟨dX11_doubted_28, rfl⟩ rfl ?_
    refine c_ax_hasBit (gJ q1 45 7) a1 q1 (n := 32) ⟨dX11_doubted_29, rfl⟩ klX11_120 rfl (by decide) (Nat.le_of_ble_eq_true rfl) rfl rfl ?_
    refine y_if_eq (t := 39) (n := 35) ⟨dX11_doubted_32, rfl, rfl⟩ (fun h0 => ?_) (fun h0 => ?_)
    · have hc := bI_0 h0
      replace hf := i_f hc hf
      refine y_iconst (n := 40) (v := 0) ⟨dX11_doubted_39, rfl⟩ ki_0 ?_
      cases hf
      exact y_ireturn (n := 41) ⟨dX11_doubted_40, rfl⟩ rfl rfl hk
    · have hc := bI_1 h0
      replace hf := i_t hc hf
      refine y_iconst (n := 36) (v := 1) ⟨dX11_doubted_35, rfl⟩ ki_1 ?_
      refine y_goto (t := 40) ⟨dX11_doubted_36, rfl, rfl⟩ ?_
      cases hf
      exact y_ireturn (n := 41) ⟨dX11_doubted_40, rfl⟩ rfl rfl hk
  · have hc := bI_0 h0
    replace hf := i_f hc hf
    refine y_iconst (n := 15) (v := (-1)) ⟨dX11_doubted_14, rfl⟩ ki_m1 ?_
    cases hf
    exact y_ireturn (n := 16) ⟨dX11_doubted_15, rfl⟩ rfl rfl hk
theorem c_ax_doubted (a1 : Int32) (M : dM) {o : (Int32 × dM)} {y : mz_M} {d : Nat} {Q : mz_P} {pc n i : Nat} {L : List (Option Value)} {st : List Value} (h : mz_d y.2.1 pc n 3 (.invokevirtual i)) (hl : mz_ml y.1.cls i yX11_doubted) (hf : f_ax_doubted a1 M = some o) (hd : 6 + 1 ≤ d) (hsm : (st.map (fun v => v.category)).sum ≤ 8) (hLr : mz_rL 133 L = true) (hSr : mz_rS 133 st = true) (kk : mW y d Q n L (.int o.1 :: st) o.2) : mW y d Q pc L (.int a1 :: .ref 0 :: st) M :=
  y_callV kmX11_doubted kvX11_doubted l_0 (by decide +kernel) (by decide +kernel) h hl (ok_ax_doubted a1 M hf) (vs := [.int a1]) rfl rfl hd hsm hLr hSr kk
noncomputable def f_cl_settledWhen (a1 : Int64) (a2 : Int64) (M : dM) : Option Int32 :=
  (f_cl_standWith a1 M).bind fun v1 =>
  (f_cl_standWith (a1 ||| a2) M).bind fun v3 =>
  some (v1 ||| (4095 &&& (v3 ^^^ (-1))))
theorem ok_cl_settledWhen (a1 : Int64) (a2 : Int64) (M : dM) {o : Int32} (hf : f_cl_settledWhen a1 a2 M = some o) : mO mX1_settledWhen 2 [.ref 50, .long a1, .long a2] M (some (.int o)) M := by
  refine y_ok (by decide +kernel) (Nat.le_of_ble_eq_true rfl) (L0 := [some (.ref 50), some (.long a1), none, some (.long a2), none]) rfl ?_
  have hk := mR_mQ (some (.int o)) M
  generalize mQ _ _ = Q at hk ⊢
  unfold f_cl_settledWhen at hf
  refine y_aload_n (i := 0) (n := 1) ⟨dX1_settledWhen_0, rfl⟩ rfl ?_
  refine y_lload_n (i := 1) (n := 2) ⟨dX1_settledWhen_1, rfl⟩ rfl ?_
  obtain ⟨v1, hv2, hf⟩ := b_s hf
  refine c_cl_standWith a1 M (n := 5) ⟨dX1_settledWhen_2, rfl⟩ klX1_57 hv2 (by decide) (Nat.le_of_ble_eq_true rfl) rfl rfl ?_
  refine y_sipush (n := 8) (v := 4095) ⟨dX1_settledWhen_5, rfl⟩ ks_4095 ?_
  refine y_aload_n (i := 0) (n := 9) ⟨dX1_settledWhen_8, rfl⟩ rfl ?_
  refine y_lload_n (i := 1) (n := 10) ⟨dX1_settledWhen_9, rfl⟩ rfl ?_
  refine y_lload_n (i := 3) (n := 11) ⟨dX1_settledWhen_10, rfl⟩ rfl ?_
  refine y_lor (n := 12) ⟨dX1_settledWhen_11, rfl⟩ ?_
  obtain ⟨v3, hv4, hf⟩ := b_s hf
  refine c_cl_standWith (a1 ||| a2) M (n := 15) ⟨dX1_settledWhen_12, rfl⟩ klX1_57 hv4 (by decide) (Nat.le_of_ble_eq_true rfl) rfl rfl ?_
  refine y_iconst (n := 16) (v := (-1)) ⟨dX1_settledWhen_15, rfl⟩ ki_m1 ?_
  refine y_ixor (n := 17) ⟨dX1_settledWhen_16, rfl⟩ ?_
  refine y_iand (n := 18) ⟨dX1_settledWhen_17, rfl⟩ ?_
  refine y_ior (n := 19) ⟨dX1_settledWhen_18, rfl⟩ ?_
  cases hf
  exact y_ireturn (n := 20) ⟨dX1_settledWhen_19, rfl⟩ rfl rfl hk
theorem c_cl_settledWhen (a1 : Int64) (a2 : Int64) (M : dM) {o : Int32} {y : mz_M} {d : Nat} {Q : mz_P} {pc n i : Nat} {L : List (Option Value)} {st : List Value} (h : mz_d y.2.1 pc n 3 (.invokevirtual i)) (hl : mz_ml y.1.cls i yX1_settledWhen) (hf : f_cl_settledWhen a1 a2 M = some o) (hd : 2 + 1 ≤ d) (hsm : (st.map (fun v => v.category)).sum ≤ 8) (hLr : mz_rL 133 L = true) (hSr : mz_rS 133 st = true) (kk : mW y d Q n L (.int o :: st) M) : mW y d Q pc L (.long a2 :: .long a1 :: .ref 50 :: st) M :=
  y_callV kmX1_settledWhen kvX1_settledWhen l_50 (by decide +kernel) (by decide +kernel) h hl (ok_cl_settledWhen a1 a2 M hf) (vs := [.long a1, .long a2]) rfl rfl hd hsm hLr hSr kk
noncomputable def f_ax_settled (M : dM) : Option (Int32 × dM) :=
  (f_ax_study 2 M).bind fun q1 =>
  (f_cl_settledWhen ((f_to_allFinds q1) &&& ((gJ q1 45 7) ^^^ (-1))) (gJ q1 45 7) q1).bind fun v3 =>
  some (v3, q1)
theorem ok_ax_settled  (M : dM) {o : (Int32 × dM)} (hf : f_ax_settled M = some o) : mO mX11_settled 6 [.ref 0] M (some (.int o.1)) o.2 := by
  refine y_ok (by decide +kernel) (Nat.le_of_ble_eq_true rfl) (L0 := [some (.ref 0)]) rfl ?_
  have hk := mR_mQ (some (.int o.1)) o.2
  generalize mQ _ _ = Q at hk ⊢
  unfold f_ax_settled at hf
  refine y_aload_n (i := 0) (n := 1) ⟨dX11_settled_0, rfl⟩ rfl ?_
  refine y_iconst (n := 2) (v := 2) ⟨dX11_settled_1, rfl⟩ ki_2 ?_
  obtain ⟨q1, hv2, hf⟩ := b_s hf
  refine c_ax_study 2 M (n := 5) ⟨dX11_settled_2, rfl⟩ klX11_156 hv2 (by decide) (Nat.le_of_ble_eq_true rfl) rfl rfl ?_
  refine y_aload_n (i := 0) (n := 6) ⟨dX11_settled_5, rfl⟩ rfl ?_
  refine y_getR (n := 9) ⟨dX11_settled_6, rfl⟩ kfX11_74 l_0 rfl r_0_8 ?_
  refine y_aload_n (i := 0) (n := 10) ⟨dX11_settled_9, rfl⟩ rfl ?_
  refine y_getR (n := 13) ⟨dX11_settled_10, rfl⟩ kfX11_26 l_0 rfl r_0_2 ?_
  refine c_to_allFinds q1 (n := 16) ⟨dX11_settled_13, rfl⟩ klX11_232 rfl (by decide) (Nat.le_of_ble_eq_true rfl) rfl rfl ?_
  refine y_aload_n (i := 0) (n := 17) ⟨dX11_settled_16, rfl⟩ rfl ?_
  refine y_getR (n := 20) ⟨dX11_settled_17, rfl⟩ kfX11_65 l_0 rfl r_0_7 ?_
  refine y_getJ (n := 23) ⟨dX11_settled_20, rfl⟩ kfX11_265 l_45 rfl ?_
  refine y_ldc2 (n := 26) ⟨dX11_settled_23, rfl⟩ kcX11_189 ?_
  refine y_lxor (n := 27) ⟨dX11_settled_26, rfl⟩ ?_
  refine y_land (n := 28) ⟨dX11_settled_27, rfl⟩ ?_
  refine y_aload_n (i := 0) (n := 29) ⟨dX11_settled_28, rfl⟩ rfl ?_
  refine y_getR (n := 32) ⟨dX11_settled_29, rfl⟩ kfX11_65 l_0 rfl r_0_7 ?_
  refine y_getJ (n := 35) ⟨dX11_settled_32, rfl⟩ kfX11_265 l_45 rfl ?_
  obtain ⟨v3, hv4, hf⟩ := b_s hf
  refine c_cl_settledWhen ((f_to_allFinds q1) &&& ((gJ q1 45 7) ^^^ (-1))) (gJ q1 45 7) q1 (n := 38) ⟨dX11_settled_35, rfl⟩ klX11_268 hv4 (by decide) (Nat.le_of_ble_eq_true rfl) rfl rfl ?_
  cases hf
  exact y_ireturn (n := 39) ⟨dX11_settled_38, rfl⟩ rfl rfl hk
theorem c_ax_settled  (M : dM) {o : (Int32 × dM)} {y : mz_M} {d : Nat} {Q : mz_P} {pc n i : Nat} {L : List (Option Value)} {st : List Value} (h : mz_d y.2.1 pc n 3 (.invokevirtual i)) (hl : mz_ml y.1.cls i yX11_settled) (hf : f_ax_settled M = some o) (hd : 6 + 1 ≤ d) (hsm : (st.map (fun v => v.category)).sum ≤ 8) (hLr : mz_rL 133 L = true) (hSr : mz_rS 133 st = true) (kk : mW y d Q n L (.int o.1 :: st) o.2) : mW y d Q pc L (.ref 0 :: st) M :=
  y_callV kmX11_settled kvX11_settled l_0 (by decide +kernel) (by decide +kernel) h hl (ok_ax_settled  M hf) (vs := []) rfl rfl hd hsm hLr hSr kk
def K_to_findsAt_5 (Q : mz_P) (x1 : Int32) (M : dM) : ((Int64 × Int32) ⊕ Int64) → Prop
  | .inl s => mW mX9_findsAt 2 Q 5 [some (.ref 12), some (.int x1), some (.long s.1), none, some (.int s.2)] [] M
  | .inr r => mR Q (some (.long r)) M
noncomputable def b_to_findsAt_5_5 (x1 : Int32) (x2 : Int64) (x4 : Int32) (M : dM) : Option ((Int64 × Int32) ⊕ Int64) :=
  if (gI M 12 7) ≤ x4 then
    some (.inr x2)
  else
    gd (vp_in x4 40) <|
    if (f_ax_hasBit x1.toInt64 (gI M 13 x4.toNatClampNeg)) = true then
      some (.inl ((x2 ||| ((1 : Int64) <<< (x4.toInt64 &&& 63))), (x4 + 1)))
    else
      some (.inl (x2, (x4 + 1)))
noncomputable def l_to_findsAt_5 (x1 : Int32) (x2 : Int64) (x4 : Int32) (M : dM) : Option Int64 := lpc (fun s => b_to_findsAt_5_5 x1 s.1 s.2 M) (x2, x4)
noncomputable def f_to_findsAt (a1 : Int32) (M : dM) : Option Int64 :=
  (l_to_findsAt_5 a1 0 0 M).bind fun r4 => some r4
theorem w_b_to_findsAt_5_5 (x1 : Int32) (x2 : Int64) (x4 : Int32)  (M : dM) {Q : mz_P} {o : ((Int64 × Int32) ⊕ Int64)} (hf : b_to_findsAt_5_5 x1 x2 x4 M = some o) (hk : K_to_findsAt_5 Q x1 M o) : mW mX9_findsAt 2 Q 5 [some (.ref 12), some (.int x1), some (.long x2), none, some (.int x4)] [] M := by
  unfold b_to_findsAt_5_5 at hf
  refine y_iload (i := 4) (n := 7) ⟨dX9_findsAt_5, rfl⟩ rfl ?_
  refine y_aload_n (i := 0) (n := 8) ⟨dX9_findsAt_7, rfl⟩ rfl ?_
  refine y_getI (n := 11) ⟨dX9_findsAt_8, rfl⟩ kfX9_45 l_12 rfl ?_
  refine y_icmp_ge (t := 42) (n := 14) ⟨dX9_findsAt_11, rfl, rfl⟩ (fun (hc : (gI M 12 7) ≤ x4) => ?_) (fun (hc : ¬ ((gI M 12 7) ≤ x4)) => ?_)
  · replace hf := i_t hc hf
    refine y_lload_n (i := 2) (n := 43) ⟨dX9_findsAt_42, rfl⟩ rfl ?_
    cases hf
    exact y_lreturn (n := 44) ⟨dX9_findsAt_43, rfl⟩ rfl hk
  · replace hf := i_f hc hf
    refine y_iload_n (i := 1) (n := 15) ⟨dX9_findsAt_14, rfl⟩ rfl ?_
    refine y_i2l (n := 16) ⟨dX9_findsAt_15, rfl⟩ ?_
    refine y_aload_n (i := 0) (n := 17) ⟨dX9_findsAt_16, rfl⟩ rfl ?_
    refine y_getR (n := 20) ⟨dX9_findsAt_17, rfl⟩ kfX9_9 l_12 rfl r_12_0 ?_
    refine y_iload (i := 4) (n := 22) ⟨dX9_findsAt_20, rfl⟩ rfl ?_
    obtain ⟨hg1, hf⟩ := g_s hf
    refine y_iaload (n := 23) ⟨dX9_findsAt_22, rfl⟩ l_13 hg1 ?_
    refine c_ax_hasBit x1.toInt64 (gI M 13 x4.toNatClampNeg) M (n := 26) ⟨dX9_findsAt_23, rfl⟩ klX9_55 rfl (by decide) (Nat.le_of_ble_eq_true rfl) rfl rfl ?_
    refine y_if_eq (t := 36) (n := 29) ⟨dX9_findsAt_26, rfl, rfl⟩ (fun h0 => ?_) (fun h0 => ?_)
    · have hc := bI_0 h0
      replace hf := i_f hc hf
      refine y_iinc (i := 4) (n := 39) (b := (x4 + 1)) (L2 := [some (.ref 12), some (.int x1), some (.long x2), none, some (.int (x4 + 1))]) ⟨dX9_findsAt_36, rfl⟩ rfl (by rw [ki_1]) (by decide) rfl rfl ?_
      refine y_goto (t := 5) ⟨dX9_findsAt_39, rfl, rfl⟩ ?_
      cases hf
      exact y_wk (L2 := [some (.ref 12), some (.int x1), some (.long x2), none, some (.int (x4 + 1))]) ⟨Or.inr rfl, Or.inr rfl, Or.inr rfl, Or.inr rfl, Or.inr rfl, trivial⟩ hk
    · have hc := bI_1 h0
      replace hf := i_t hc hf
      refine y_lload_n (i := 2) (n := 30) ⟨dX9_findsAt_29, rfl⟩ rfl ?_
      refine y_lconst (n := 31) (v := 1) ⟨dX9_findsAt_30, rfl⟩ kl_1 ?_
      refine y_iload (i := 4) (n := 33) ⟨dX9_findsAt_31, rfl⟩ rfl ?_
      refine y_lshl (n := 34) ⟨dX9_findsAt_33, rfl⟩ ?_
      refine y_lor (n := 35) ⟨dX9_findsAt_34, rfl⟩ ?_
      refine y_lstore_n (i := 2) (n := 36) (L2 := [some (.ref 12), some (.int x1), some (.long (x2 ||| ((1 : Int64) <<< (x4.toInt64 &&& 63)))), none, some (.int x4)]) ⟨dX9_findsAt_35, rfl⟩ (by decide) rfl rfl ?_
      refine y_iinc (i := 4) (n := 39) (b := (x4 + 1)) (L2 := [some (.ref 12), some (.int x1), some (.long (x2 ||| ((1 : Int64) <<< (x4.toInt64 &&& 63)))), none, some (.int (x4 + 1))]) ⟨dX9_findsAt_36, rfl⟩ rfl (by rw [ki_1]) (by decide) rfl rfl ?_
      refine y_goto (t := 5) ⟨dX9_findsAt_39, rfl, rfl⟩ ?_
      cases hf
      exact y_wk (L2 := [some (.ref 12), some (.int x1), some (.long (x2 ||| ((1 : Int64) <<< (x4.toInt64 &&& 63)))), none, some (.int (x4 + 1))]) ⟨Or.inr rfl, Or.inr rfl, Or.inr rfl, Or.inr rfl, Or.inr rfl, trivial⟩ hk
theorem wl_to_findsAt_5 (x1 : Int32) (x2 : Int64) (x4 : Int32) (M : dM) {Q : mz_P} {x : Int64} (hf : l_to_findsAt_5 x1 x2 x4 M = some x) (hk : K_to_findsAt_5 Q x1 M (.inr x)) : mW mX9_findsAt 2 Q 5 [some (.ref 12), some (.int x1), some (.long x2), none, some (.int x4)] [] M :=
  lpc_wp (σ := (Int64 × Int32)) (ξ := Int64) (s := (x2, x4)) (Wh := fun s => mW mX9_findsAt 2 Q 5 [some (.ref 12), some (.int x1), some (.long s.1), none, some (.int s.2)] [] M) (K := K_to_findsAt_5 Q x1 M) (fun _ h => h) (fun s o hb hk => w_b_to_findsAt_5_5 x1 s.1 s.2 M hb hk) hf hk
theorem ok_to_findsAt (a1 : Int32) (M : dM) {o : Int64} (hf : f_to_findsAt a1 M = some o) : mO mX9_findsAt 2 [.ref 12, .int a1] M (some (.long o)) M := by
  refine y_ok (by decide +kernel) (Nat.le_of_ble_eq_true rfl) (L0 := [some (.ref 12), some (.int a1), none, none, none]) rfl ?_
  have hk := mR_mQ (some (.long o)) M
  generalize mQ _ _ = Q at hk ⊢
  unfold f_to_findsAt at hf
  refine y_lconst (n := 1) (v := 0) ⟨dX9_findsAt_0, rfl⟩ kl_0 ?_
  refine y_lstore_n (i := 2) (n := 2) (L2 := [some (.ref 12), some (.int a1), some (.long 0), none, none]) ⟨dX9_findsAt_1, rfl⟩ (by decide) rfl rfl ?_
  refine y_iconst (n := 3) (v := 0) ⟨dX9_findsAt_2, rfl⟩ ki_0 ?_
  refine y_istore (i := 4) (n := 5) (L2 := [some (.ref 12), some (.int a1), some (.long 0), none, some (.int 0)]) ⟨dX9_findsAt_3, rfl⟩ (by decide) rfl rfl ?_
  obtain ⟨r4, hl3, hf⟩ := b_s hf
  cases hf
  exact y_wk (L2 := [some (.ref 12), some (.int a1), some (.long 0), none, some (.int 0)]) ⟨Or.inr rfl, Or.inr rfl, Or.inr rfl, Or.inr rfl, Or.inr rfl, trivial⟩ (wl_to_findsAt_5 a1 0 0 M hl3 hk)
theorem c_to_findsAt (a1 : Int32) (M : dM) {o : Int64} {y : mz_M} {d : Nat} {Q : mz_P} {pc n i : Nat} {L : List (Option Value)} {st : List Value} (h : mz_d y.2.1 pc n 3 (.invokevirtual i)) (hl : mz_ml y.1.cls i yX9_findsAt) (hf : f_to_findsAt a1 M = some o) (hd : 2 + 1 ≤ d) (hsm : (st.map (fun v => v.category)).sum ≤ 8) (hLr : mz_rL 133 L = true) (hSr : mz_rS 133 st = true) (kk : mW y d Q n L (.long o :: st) M) : mW y d Q pc L (.int a1 :: .ref 12 :: st) M :=
  y_callV kmX9_findsAt kvX9_findsAt l_12 (by decide +kernel) (by decide +kernel) h hl (ok_to_findsAt a1 M hf) (vs := [.int a1]) rfl rfl hd hsm hLr hSr kk
def K_cl_goodFor_93 (Q : mz_P) (x6 : Int64) (x8 : Int64) (x10 : Int64) (x12 : Int32) (x16 : Int32) (M : dM) : ((Int32 × Int64 × Int32) ⊕ Int32) → Prop
  | .inl s => mW mX1_goodFor 3 Q 93 [some (.ref 50), none, none, none, none, none, some (.long x6), none, some (.long x8), none, some (.long x10), none, some (.int x12), some (.int s.1), some (.long s.2.1), none, some (.int x16), some (.int s.2.2)] [] M
  | .inr r => mR Q (some (.int r)) M
noncomputable def b_cl_goodFor_93_140 (x13 : Int32) (M : dM) : Option ((Int32 × Int64 × Int32) ⊕ Int32) :=
  some (.inr (f_jd_bitCount_0f7a4 x13))
noncomputable def b_cl_goodFor_93_93 (x6 : Int64) (x8 : Int64) (x10 : Int64) (x12 : Int32) (x13 : Int32) (x14 : Int64) (x16 : Int32) (x17 : Int32) (M : dM) : Option ((Int32 × Int64 × Int32) ⊕ Int32) :=
  if x16 ≤ x17 then
    b_cl_goodFor_93_140 x13 M
  else
    if (x13 &&& x12) = 0 then
      b_cl_goodFor_93_140 x13 M
    else
      (f_cl_settledWhen (x6 ||| x14) x8 M).bind fun v7 =>
      some (.inl ((x13 &&& v7), ((x14 - x10) &&& x10), (x17 + 1)))
noncomputable def l_cl_goodFor_93 (x6 : Int64) (x8 : Int64) (x10 : Int64) (x12 : Int32) (x13 : Int32) (x14 : Int64) (x16 : Int32) (x17 : Int32) (M : dM) : Option Int32 := lpc (fun s => b_cl_goodFor_93_93 x6 x8 x10 x12 s.1 s.2.1 x16 s.2.2 M) (x13, x14, x17)
noncomputable def f_cl_goodFor (a1 : Int32) (a2 : Int64) (M : dM) : Option Int32 :=
  (f_to_findsAt a1 M).bind fun v1 =>
  if (f_jd_bitCount_95d88 (a2 &&& v1)) ≤ 10 then
    (f_cl_findsInGrounds M).bind fun v3 =>
    (f_cl_settledWhen ((f_to_allFinds M) &&& (a2 ^^^ (-1))) a2 M).bind fun v5 =>
    (l_cl_goodFor_93 ((f_to_allFinds M) &&& (a2 ^^^ (-1))) (a2 &&& ((a2 &&& v1) ^^^ (-1))) ((a2 &&& v1) &&& v3) (4095 &&& (v5 ^^^ (-1))) 4095 0 ((1 : Int32) <<< ((f_jd_bitCount_95d88 ((a2 &&& v1) &&& v3)) &&& 31)) 0 M).bind fun r11 => some r11
  else
    some (-1)
theorem w_b_cl_goodFor_93_140 (x13 : Int32) {x6 : Int64} {x8 : Int64} {x10 : Int64} {x12 : Int32} {x16 : Int32} (M : dM) {Q : mz_P} {o : ((Int32 × Int64 × Int32) ⊕ Int32)} (hf : b_cl_goodFor_93_140 x13 M = some o) (hk : K_cl_goodFor_93 Q x6 x8 x10 x12 x16 M o) : mW mX1_goodFor 3 Q 140 [none, none, none, none, none, none, none, none, none, none, none, none, none, some (.int x13), none, none, none, none] [] M := by
  unfold b_cl_goodFor_93_140 at hf
  refine y_iload (i := 13) (n := 142) ⟨dX1_goodFor_140, rfl⟩ rfl ?_
  refine c_jd_bitCount_0f7a4 x13 M (n := 145) ⟨dX1_goodFor_142, rfl⟩ klX1_91 rfl (by decide) (Nat.le_of_ble_eq_true rfl) rfl rfl ?_
  cases hf
  exact y_ireturn (n := 146) ⟨dX1_goodFor_145, rfl⟩ rfl rfl hk
theorem w_b_cl_goodFor_93_93 (x6 : Int64) (x8 : Int64) (x10 : Int64) (x12 : Int32) (x13 : Int32) (x14 : Int64) (x16 : Int32) (x17 : Int32)  (M : dM) {Q : mz_P} {o : ((Int32 × Int64 × Int32) ⊕ Int32)} (hf : b_cl_goodFor_93_93 x6 x8 x10 x12 x13 x14 x16 x17 M = some o) (hk : K_cl_goodFor_93 Q x6 x8 x10 x12 x16 M o) : mW mX1_goodFor 3 Q 93 [some (.ref 50), none, none, none, none, none, some (.long x6), none, some (.long x8), none, some (.long x10), none, some (.int x12), some (.int x13), some (.long x14), none, some (.int x16), some (.int x17)] [] M := by
  unfold b_cl_goodFor_93_93 at hf
  refine y_iload (i := 17) (n := 95) ⟨dX1_goodFor_93, rfl⟩ rfl ?_
  refine y_iload (i := 16) (n := 97) ⟨dX1_goodFor_95, rfl⟩ rfl ?_
  refine y_icmp_ge (t := 140) (n := 100) ⟨dX1_goodFor_97, rfl, rfl⟩ (fun (hc : x16 ≤ x17) => ?_) (fun (hc : ¬ (x16 ≤ x17)) => ?_)
  · replace hf := i_t hc hf
    exact y_wk (L2 := [none, none, none, none, none, none, none, none, none, none, none, none, none, some (.int x13), none, none, none, none]) ⟨Or.inl rfl, Or.inr rfl, Or.inr rfl, Or.inr rfl, Or.inr rfl, Or.inr rfl, Or.inl rfl, Or.inr rfl, Or.inl rfl, Or.inr rfl, Or.inl rfl, Or.inr rfl, Or.inl rfl, Or.inr rfl, Or.inl rfl, Or.inr rfl, Or.inl rfl, Or.inl rfl, trivial⟩ (w_b_cl_goodFor_93_140 x13 M hf hk)
  · replace hf := i_f hc hf
    refine y_iload (i := 13) (n := 102) ⟨dX1_goodFor_100, rfl⟩ rfl ?_
    refine y_iload (i := 12) (n := 104) ⟨dX1_goodFor_102, rfl⟩ rfl ?_
    refine y_iand (n := 105) ⟨dX1_goodFor_104, rfl⟩ ?_
    refine y_if_eq (t := 140) (n := 108) ⟨dX1_goodFor_105, rfl, rfl⟩ (fun (hc : (x13 &&& x12) = 0) => ?_) (fun (hc : ¬ ((x13 &&& x12) = 0)) => ?_)
    · replace hf := i_t hc hf
      exact y_wk (L2 := [none, none, none, none, none, none, none, none, none, none, none, none, none, some (.int x13), none, none, none, none]) ⟨Or.inl rfl, Or.inr rfl, Or.inr rfl, Or.inr rfl, Or.inr rfl, Or.inr rfl, Or.inl rfl, Or.inr rfl, Or.inl rfl, Or.inr rfl, Or.inl rfl, Or.inr rfl, Or.inl rfl, Or.inr rfl, Or.inl rfl, Or.inr rfl, Or.inl rfl, Or.inl rfl, trivial⟩ (w_b_cl_goodFor_93_140 x13 M hf hk)
    · replace hf := i_f hc hf
      refine y_iload (i := 13) (n := 110) ⟨dX1_goodFor_108, rfl⟩ rfl ?_
      refine y_aload_n (i := 0) (n := 111) ⟨dX1_goodFor_110, rfl⟩ rfl ?_
      refine y_lload (i := 6) (n := 113) ⟨dX1_goodFor_111, rfl⟩ rfl ?_
      refine y_lload (i := 14) (n := 115) ⟨dX1_goodFor_113, rfl⟩ rfl ?_
      refine y_lor (n := 116) ⟨dX1_goodFor_115, rfl⟩ ?_
      refine y_lload (i := 8) (n := 118) ⟨dX1_goodFor_116, rfl⟩ rfl ?_
      obtain ⟨v7, hv8, hf⟩ := b_s hf
      refine c_cl_settledWhen (x6 ||| x14) x8 M (n := 121) ⟨dX1_goodFor_118, rfl⟩ klX1_87 hv8 (by decide) (Nat.le_of_ble_eq_true rfl) rfl rfl ?_
      refine y_iand (n := 122) ⟨dX1_goodFor_121, rfl⟩ ?_
      refine y_istore (i := 13) (n := 124) (L2 := [some (.ref 50), none, none, none, none, none, some (.long x6), none, some (.long x8), none, some (.long x10), none, some (.int x12), some (.int (x13 &&& v7)), some (.long x14), none, some (.int x16), some (.int x17)]) ⟨dX1_goodFor_122, rfl⟩ (by decide) rfl rfl ?_
      refine y_lload (i := 14) (n := 126) ⟨dX1_goodFor_124, rfl⟩ rfl ?_
      refine y_lload (i := 10) (n := 128) ⟨dX1_goodFor_126, rfl⟩ rfl ?_
      refine y_lsub (n := 129) ⟨dX1_goodFor_128, rfl⟩ ?_
      refine y_lload (i := 10) (n := 131) ⟨dX1_goodFor_129, rfl⟩ rfl ?_
      refine y_land (n := 132) ⟨dX1_goodFor_131, rfl⟩ ?_
      refine y_lstore (i := 14) (n := 134) (L2 := [some (.ref 50), none, none, none, none, none, some (.long x6), none, some (.long x8), none, some (.long x10), none, some (.int x12), some (.int (x13 &&& v7)), some (.long ((x14 - x10) &&& x10)), none, some (.int x16), some (.int x17)]) ⟨dX1_goodFor_132, rfl⟩ (by decide) rfl rfl ?_
      refine y_iinc (i := 17) (n := 137) (b := (x17 + 1)) (L2 := [some (.ref 50), none, none, none, none, none, some (.long x6), none, some (.long x8), none, some (.long x10), none, some (.int x12), some (.int (x13 &&& v7)), some (.long ((x14 - x10) &&& x10)), none, some (.int x16), some (.int (x17 + 1))]) ⟨dX1_goodFor_134, rfl⟩ rfl (by rw [ki_1]) (by decide) rfl rfl ?_
      refine y_goto (t := 93) ⟨dX1_goodFor_137, rfl, rfl⟩ ?_
      cases hf
      exact y_wk (L2 := [some (.ref 50), none, none, none, none, none, some (.long x6), none, some (.long x8), none, some (.long x10), none, some (.int x12), some (.int (x13 &&& v7)), some (.long ((x14 - x10) &&& x10)), none, some (.int x16), some (.int (x17 + 1))]) ⟨Or.inr rfl, Or.inr rfl, Or.inr rfl, Or.inr rfl, Or.inr rfl, Or.inr rfl, Or.inr rfl, Or.inr rfl, Or.inr rfl, Or.inr rfl, Or.inr rfl, Or.inr rfl, Or.inr rfl, Or.inr rfl, Or.inr rfl, Or.inr rfl, Or.inr rfl, Or.inr rfl, trivial⟩ hk
theorem wl_cl_goodFor_93 (x6 : Int64) (x8 : Int64) (x10 : Int64) (x12 : Int32) (x13 : Int32) (x14 : Int64) (x16 : Int32) (x17 : Int32) (M : dM) {Q : mz_P} {x : Int32} (hf : l_cl_goodFor_93 x6 x8 x10 x12 x13 x14 x16 x17 M = some x) (hk : K_cl_goodFor_93 Q x6 x8 x10 x12 x16 M (.inr x)) : mW mX1_goodFor 3 Q 93 [some (.ref 50), none, none, none, none, none, some (.long x6), none, some (.long x8), none, some (.long x10), none, some (.int x12), some (.int x13), some (.long x14), none, some (.int x16), some (.int x17)] [] M :=
  lpc_wp (σ := (Int32 × Int64 × Int32)) (ξ := Int32) (s := (x13, x14, x17)) (Wh := fun s => mW mX1_goodFor 3 Q 93 [some (.ref 50), none, none, none, none, none, some (.long x6), none, some (.long x8), none, some (.long x10), none, some (.int x12), some (.int s.1), some (.long s.2.1), none, some (.int x16), some (.int s.2.2)] [] M) (K := K_cl_goodFor_93 Q x6 x8 x10 x12 x16 M) (fun _ h => h) (fun s o hb hk => w_b_cl_goodFor_93_93 x6 x8 x10 x12 s.1 s.2.1 x16 s.2.2 M hb hk) hf hk
theorem ok_cl_goodFor (a1 : Int32) (a2 : Int64) (M : dM) {o : Int32} (hf : f_cl_goodFor a1 a2 M = some o) : mO mX1_goodFor 3 [.ref 50, .int a1, .long a2] M (some (.int o)) M := by
  refine y_ok (by decide +kernel) (Nat.le_of_ble_eq_true rfl) (L0 := [some (.ref 50), some (.int a1), some (.long a2), none, none, none, none, none, none, none, none, none, none, none, none, none, none, none]) rfl ?_
  have hk := mR_mQ (some (.int o)) M
  generalize mQ _ _ = Q at hk ⊢
  unfold f_cl_goodFor at hf
  refine y_lload_n (i := 2) (n := 1) ⟨dX1_goodFor_0, rfl⟩ rfl ?_
  refine y_aload_n (i := 0) (n := 2) ⟨dX1_goodFor_1, rfl⟩ rfl ?_
  refine y_getR (n := 5) ⟨dX1_goodFor_2, rfl⟩ kfX1_32 l_50 rfl r_50_0 ?_
  refine y_iload_n (i := 1) (n := 6) ⟨dX1_goodFor_5, rfl⟩ rfl ?_
  obtain ⟨v1, hv2, hf⟩ := b_s hf
  refine c_to_findsAt a1 M (n := 9) ⟨dX1_goodFor_6, rfl⟩ klX1_78 hv2 (by decide) (Nat.le_of_ble_eq_true rfl) rfl rfl ?_
  refine y_land (n := 10) ⟨dX1_goodFor_9, rfl⟩ ?_
  refine y_lstore (i := 4) (n := 12) (L2 := [some (.ref 50), some (.int a1), some (.long a2), none, some (.long (a2 &&& v1)), none, none, none, none, none, none, none, none, none, none, none, none, none]) ⟨dX1_goodFor_10, rfl⟩ (by decide) rfl rfl ?_
  refine y_lload (i := 4) (n := 14) ⟨dX1_goodFor_12, rfl⟩ rfl ?_
  refine c_jd_bitCount_95d88 (a2 &&& v1) M (n := 17) ⟨dX1_goodFor_14, rfl⟩ klX1_82 rfl (by decide) (Nat.le_of_ble_eq_true rfl) rfl rfl ?_
  refine y_bipush (n := 19) (v := 10) ⟨dX1_goodFor_17, rfl⟩ kb_10 ?_
  refine y_icmp_le (t := 24) (n := 22) ⟨dX1_goodFor_19, rfl, rfl⟩ (fun (hc : (f_jd_bitCount_95d88 (a2 &&& v1)) ≤ 10) => ?_) (fun (hc : ¬ ((f_jd_bitCount_95d88 (a2 &&& v1)) ≤ 10)) => ?_)
  · replace hf := i_t hc hf
    refine y_aload_n (i := 0) (n := 25) ⟨dX1_goodFor_24, rfl⟩ rfl ?_
    refine y_getR (n := 28) ⟨dX1_goodFor_25, rfl⟩ kfX1_32 l_50 rfl r_50_0 ?_
    refine c_to_allFinds M (n := 31) ⟨dX1_goodFor_28, rfl⟩ klX1_51 rfl (by decide) (Nat.le_of_ble_eq_true rfl) rfl rfl ?_
    refine y_lload_n (i := 2) (n := 32) ⟨dX1_goodFor_31, rfl⟩ rfl ?_
    refine y_ldc2 (n := 35) ⟨dX1_goodFor_32, rfl⟩ kcX1_42 ?_
    refine y_lxor (n := 36) ⟨dX1_goodFor_35, rfl⟩ ?_
    refine y_land (n := 37) ⟨dX1_goodFor_36, rfl⟩ ?_
    refine y_lstore (i := 6) (n := 39) (L2 := [some (.ref 50), some (.int a1), some (.long a2), none, some (.long (a2 &&& v1)), none, some (.long ((f_to_allFinds M) &&& (a2 ^^^ (-1)))), none, none, none, none, none, none, none, none, none, none, none]) ⟨dX1_goodFor_37, rfl⟩ (by decide) rfl rfl ?_
    refine y_lload_n (i := 2) (n := 40) ⟨dX1_goodFor_39, rfl⟩ rfl ?_
    refine y_lload (i := 4) (n := 42) ⟨dX1_goodFor_40, rfl⟩ rfl ?_
    refine y_ldc2 (n := 45) ⟨dX1_goodFor_42, rfl⟩ kcX1_42 ?_
    refine y_lxor (n := 46) ⟨dX1_goodFor_45, rfl⟩ ?_
    refine y_land (n := 47) ⟨dX1_goodFor_46, rfl⟩ ?_
    refine y_lstore (i := 8) (n := 49) (L2 := [some (.ref 50), some (.int a1), some (.long a2), none, some (.long (a2 &&& v1)), none, some (.long ((f_to_allFinds M) &&& (a2 ^^^ (-1)))), none, some (.long (a2 &&& ((a2 &&& v1) ^^^ (-1)))), none, none, none, none, none, none, none, none, none]) ⟨dX1_goodFor_47, rfl⟩ (by decide) rfl rfl ?_
    refine y_lload (i := 4) (n := 51) ⟨dX1_goodFor_49, rfl⟩ rfl ?_
    refine y_aload_n (i := 0) (n := 52) ⟨dX1_goodFor_51, rfl⟩ rfl ?_
    obtain ⟨v3, hv4, hf⟩ := b_s hf
    refine c_cl_findsInGrounds M (n := 55) ⟨dX1_goodFor_52, rfl⟩ klX1_65 hv4 (by decide) (Nat.le_of_ble_eq_true rfl) rfl rfl ?_
    refine y_land (n := 56) ⟨dX1_goodFor_55, rfl⟩ ?_
    refine y_lstore (i := 10) (n := 58) (L2 := [some (.ref 50), some (.int a1), some (.long a2), none, some (.long (a2 &&& v1)), none, some (.long ((f_to_allFinds M) &&& (a2 ^^^ (-1)))), none, some (.long (a2 &&& ((a2 &&& v1) ^^^ (-1)))), none, some (.long ((a2 &&& v1) &&& v3)), none, none, none, none, none, none, none]) ⟨dX1_goodFor_56, rfl⟩ (by decide) rfl rfl ?_
    refine y_sipush (n := 61) (v := 4095) ⟨dX1_goodFor_58, rfl⟩ ks_4095 ?_
    refine y_aload_n (i := 0) (n := 62) ⟨dX1_goodFor_61, rfl⟩ rfl ?_
    refine y_lload (i := 6) (n := 64) ⟨dX1_goodFor_62, rfl⟩ rfl ?_
    refine y_lload_n (i := 2) (n := 65) ⟨dX1_goodFor_64, rfl⟩ rfl ?_
    obtain ⟨v5, hv6, hf⟩ := b_s hf
    refine c_cl_settledWhen ((f_to_allFinds M) &&& (a2 ^^^ (-1))) a2 M (n := 68) ⟨dX1_goodFor_65, rfl⟩ klX1_87 hv6 (by decide) (Nat.le_of_ble_eq_true rfl) rfl rfl ?_
    refine y_iconst (n := 69) (v := (-1)) ⟨dX1_goodFor_68, rfl⟩ ki_m1 ?_
    refine y_ixor (n := 70) ⟨dX1_goodFor_69, rfl⟩ ?_
    refine y_iand (n := 71) ⟨dX1_goodFor_70, rfl⟩ ?_
    refine y_istore (i := 12) (n := 73) (L2 := [some (.ref 50), some (.int a1), some (.long a2), none, some (.long (a2 &&& v1)), none, some (.long ((f_to_allFinds M) &&& (a2 ^^^ (-1)))), none, some (.long (a2 &&& ((a2 &&& v1) ^^^ (-1)))), none, some (.long ((a2 &&& v1) &&& v3)), none, some (.int (4095 &&& (v5 ^^^ (-1)))), none, none, none, none, none]) ⟨dX1_goodFor_71, rfl⟩ (by decide) rfl rfl ?_
    refine y_sipush (n := 76) (v := 4095) ⟨dX1_goodFor_73, rfl⟩ ks_4095 ?_
    refine y_istore (i := 13) (n := 78) (L2 := [some (.ref 50), some (.int a1), some (.long a2), none, some (.long (a2 &&& v1)), none, some (.long ((f_to_allFinds M) &&& (a2 ^^^ (-1)))), none, some (.long (a2 &&& ((a2 &&& v1) ^^^ (-1)))), none, some (.long ((a2 &&& v1) &&& v3)), none, some (.int (4095 &&& (v5 ^^^ (-1)))), some (.int 4095), none, none, none, none]) ⟨dX1_goodFor_76, rfl⟩ (by decide) rfl rfl ?_
    refine y_lconst (n := 79) (v := 0) ⟨dX1_goodFor_78, rfl⟩ kl_0 ?_
    refine y_lstore (i := 14) (n := 81) (L2 := [some (.ref 50), some (.int a1), some (.long a2), none, some (.long (a2 &&& v1)), none, some (.long ((f_to_allFinds M) &&& (a2 ^^^ (-1)))), none, some (.long (a2 &&& ((a2 &&& v1) ^^^ (-1)))), none, some (.long ((a2 &&& v1) &&& v3)), none, some (.int (4095 &&& (v5 ^^^ (-1)))), some (.int 4095), some (.long 0), none, none, none]) ⟨dX1_goodFor_79, rfl⟩ (by decide) rfl rfl ?_
    refine y_iconst (n := 82) (v := 1) ⟨dX1_goodFor_81, rfl⟩ ki_1 ?_
    refine y_lload (i := 10) (n := 84) ⟨dX1_goodFor_82, rfl⟩ rfl ?_
    refine c_jd_bitCount_95d88 ((a2 &&& v1) &&& v3) M (n := 87) ⟨dX1_goodFor_84, rfl⟩ klX1_82 rfl (by decide) (Nat.le_of_ble_eq_true rfl) rfl rfl ?_
    refine y_ishl (n := 88) ⟨dX1_goodFor_87, rfl⟩ ?_
    refine y_istore (i := 16) (n := 90) (L2 := [some (.ref 50), some (.int a1), some (.long a2), none, some (.long (a2 &&& v1)), none, some (.long ((f_to_allFinds M) &&& (a2 ^^^ (-1)))), none, some (.long (a2 &&& ((a2 &&& v1) ^^^ (-1)))), none, some (.long ((a2 &&& v1) &&& v3)), none, some (.int (4095 &&& (v5 ^^^ (-1)))), some (.int 4095), some (.long 0), none, some (.int ((1 : Int32) <<< ((f_jd_bitCount_95d88 ((a2 &&& v1) &&& v3)) &&& 31))), none]) ⟨dX1_goodFor_88, rfl⟩ (by decide) rfl rfl ?_
    refine y_iconst (n := 91) (v := 0) ⟨dX1_goodFor_90, rfl⟩ ki_0 ?_
    refine y_istore (i := 17) (n := 93) (L2 := [some (.ref 50), some (.int a1), some (.long a2), none, some (.long (a2 &&& v1)), none, some (.long ((f_to_allFinds M) &&& (a2 ^^^ (-1)))), none, some (.long (a2 &&& ((a2 &&& v1) ^^^ (-1)))), none, some (.long ((a2 &&& v1) &&& v3)), none, some (.int (4095 &&& (v5 ^^^ (-1)))), some (.int 4095), some (.long 0), none, some (.int ((1 : Int32) <<< ((f_jd_bitCount_95d88 ((a2 &&& v1) &&& v3)) &&& 31))), some (.int 0)]) ⟨dX1_goodFor_91, rfl⟩ (by decide) rfl rfl ?_
    obtain ⟨r11, hl10, hf⟩ := b_s hf
    cases hf
    exact y_wk (L2 := [some (.ref 50), none, none, none, none, none, some (.long ((f_to_allFinds M) &&& (a2 ^^^ (-1)))), none, some (.long (a2 &&& ((a2 &&& v1) ^^^ (-1)))), none, some (.long ((a2 &&& v1) &&& v3)), none, some (.int (4095 &&& (v5 ^^^ (-1)))), some (.int 4095), some (.long 0), none, some (.int ((1 : Int32) <<< ((f_jd_bitCount_95d88 ((a2 &&& v1) &&& v3)) &&& 31))), some (.int 0)]) ⟨Or.inr rfl, Or.inl rfl, Or.inl rfl, Or.inr rfl, Or.inl rfl, Or.inr rfl, Or.inr rfl, Or.inr rfl, Or.inr rfl, Or.inr rfl, Or.inr rfl, Or.inr rfl, Or.inr rfl, Or.inr rfl, Or.inr rfl, Or.inr rfl, Or.inr rfl, Or.inr rfl, trivial⟩ (wl_cl_goodFor_93 ((f_to_allFinds M) &&& (a2 ^^^ (-1))) (a2 &&& ((a2 &&& v1) ^^^ (-1))) ((a2 &&& v1) &&& v3) (4095 &&& (v5 ^^^ (-1))) 4095 0 ((1 : Int32) <<< ((f_jd_bitCount_95d88 ((a2 &&& v1) &&& v3)) &&& 31)) 0 M hl10 hk)
  · replace hf := i_f hc hf
    refine y_iconst (n := 23) (v := (-1)) ⟨dX1_goodFor_22, rfl⟩ ki_m1 ?_
    cases hf
    exact y_ireturn (n := 24) ⟨dX1_goodFor_23, rfl⟩ rfl rfl hk
theorem c_cl_goodFor (a1 : Int32) (a2 : Int64) (M : dM) {o : Int32} {y : mz_M} {d : Nat} {Q : mz_P} {pc n i : Nat} {L : List (Option Value)} {st : List Value} (h : mz_d y.2.1 pc n 3 (.invokevirtual i)) (hl : mz_ml y.1.cls i yX1_goodFor) (hf : f_cl_goodFor a1 a2 M = some o) (hd : 3 + 1 ≤ d) (hsm : (st.map (fun v => v.category)).sum ≤ 8) (hLr : mz_rL 133 L = true) (hSr : mz_rS 133 st = true) (kk : mW y d Q n L (.int o :: st) M) : mW y d Q pc L (.long a2 :: .int a1 :: .ref 50 :: st) M :=
  y_callV kmX1_goodFor kvX1_goodFor l_50 (by decide +kernel) (by decide +kernel) h hl (ok_cl_goodFor a1 a2 M hf) (vs := [.int a1, .long a2]) rfl rfl hd hsm hLr hSr kk
