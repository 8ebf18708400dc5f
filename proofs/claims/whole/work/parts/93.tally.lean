/-! ===== worlds: tallies of the first of them ===== -/
def tyX (X : wX) (j : Nat) : Int32 := tyI X.2.2 j X.2.1
noncomputable def sumT (A : sA) (Q : sQ) (j : Nat) : Nat → Int32
  | 0 => 0
  | n + 1 => sumT A Q j n + tyX (uX A Q n) j
def wC2 (A : sA) (Q : sQ) (M : dM) : Prop := ∃ b, b < 1048576 ∧ gI M 56 16 = nI b ∧ ∀ k, k < 20 → b.testBit k = true → ∀ j, j < 14 → gI M 65 (14 * k + j) = tyX (uX A Q k) j
theorem swC2 (A : sA) (Q : sQ) : supp [6616, 65] (wC2 A Q) := by
  intro M M' e hw ⟨b, h1, h2, h3⟩
  exact ⟨b, h1, (e 56 16 rfl).1.trans h2, fun k hk hb j hj => (e 65 _ rfl).1.trans (h3 k hk hb j hj)⟩
def kTo : List Nat := [6616, 65] ++ kLv
theorem c_tof62 {A : sA} {Q : sQ} {M : dM} {n j k : Nat} (hk : k < 20) (hj : j < 14) (hg : gI M 65 (14 * k + j) = tyX (uX A Q k) j) : b_wo_tallyOfFirst_5_62 (nI n) (nI j) (sumT A Q j k) (nI k) M = some (.inl (sumT A Q j (k + 1), nI (k + 1), M)) := by
  unfold b_wo_tallyOfFirst_5_62
  have ei : nI k * 14 + nI j = nI (14 * k + j) := by rw [show nI k * 14 = nI (k * 14) from z_mul k 14, z_add, Nat.mul_comm]
  rw [ei, z_gd (z_in (n := 14 * k + j) (by omega) (by omega)), z_cl (n := 14 * k + j) (by omega), hg, show nI k + 1 = nI (k + 1) from z_add k 1]
  rfl
theorem c_tof {A : sA} {Q : sQ} {v : Nat → Nat} {n j : Nat} (hn : n ≤ 20) (hj : j < 14) : ∀ (m k : Nat) (M : dM), k + m = n → IV A Q v M → wC1 A Q M → wC2 A Q M → ∃ M', l_wo_tallyOfFirst_5 (nI n) (nI j) (sumT A Q j k) (nI k) M = some (sumT A Q j n, M') ∧ IV A Q v M' ∧ wC1 A Q M' ∧ wC2 A Q M' ∧ chS kTo M M' := by
  intro m
  induction m with
  | zero =>
    intro k M hk h w1 w2
    have e : k = n := by omega
    subst e
    refine ⟨M, ?_, h, w1, w2, chS.refl _ _⟩
    unfold l_wo_tallyOfFirst_5
    refine lpc_out ?_
    show b_wo_tallyOfFirst_5_5 (nI k) (nI j) (sumT A Q j k) (nI k) M = _
    unfold b_wo_tallyOfFirst_5_5
    rw [if_pos (z_yle (by omega) (by omega) (Nat.le_refl _))]
  | succ m ih =>
    intro k M hk h w1 w2
    have go : ∀ M1 : dM, b_wo_tallyOfFirst_5_5 (nI n) (nI j) (sumT A Q j k) (nI k) M = some (Sum.inl (sumT A Q j (k + 1), nI (k + 1), M1)) → IV A Q v M1 → wC1 A Q M1 → wC2 A Q M1 → chS kTo M M1 → ∃ M', l_wo_tallyOfFirst_5 (nI n) (nI j) (sumT A Q j k) (nI k) M = some (sumT A Q j n, M') ∧ IV A Q v M' ∧ wC1 A Q M' ∧ wC2 A Q M' ∧ chS kTo M M' := fun M1 hb h1 h2 h3 c1 => by
      obtain ⟨M', a1, a2, a3, a4, a5⟩ := ih (k + 1) M1 (by omega) h1 h2 h3
      refine ⟨M', ?_, a2, a3, a4, c1.trans a5⟩
      unfold l_wo_tallyOfFirst_5 at a1 ⊢
      refine lpc_step (s' := (sumT A Q j (k + 1), nI (k + 1), M1)) ?_ a1
      exact hb
    obtain ⟨b, b1, b2, b3⟩ := w2
    have hd : b_wo_tallyOfFirst_5_5 (nI n) (nI j) (sumT A Q j k) (nI k) M = if b.testBit k = true then b_wo_tallyOfFirst_5_62 (nI n) (nI j) (sumT A Q j k) (nI k) M else (f_wo_live (nI k) M).bind fun q2 => gd ((¬ (0 : Int32) < 0 ∧ ¬ (nI k * 14) < 0 ∧ ¬ (14 : Int32) < 0) ∧ (0 : Int32).toNatClampNeg + (14 : Int32).toNatClampNeg ≤ 14 ∧ (nI k * 14).toNatClampNeg + (14 : Int32).toNatClampNeg ≤ 280) <| b_wo_tallyOfFirst_5_62 (nI n) (nI j) (sumT A Q j k) (nI k) (sI (cI q2 63 65 (0 : Int32).toNatClampNeg (nI k * 14).toNatClampNeg (14 : Int32).toNatClampNeg) 56 16 ((gI (cI q2 63 65 (0 : Int32).toNatClampNeg (nI k * 14).toNatClampNeg (14 : Int32).toNatClampNeg) 56 16) ||| ((1 : Int32) <<< (nI k &&& 31)))) := by
      unfold b_wo_tallyOfFirst_5_5
      rw [if_neg (z_nle (by omega) (by omega) (by omega)), b2, z_hasBit (by omega) (by omega)]
    by_cases c : b.testBit k = true
    · refine go M ?_ h w1 ⟨b, b1, b2, b3⟩ (chS.refl _ _)
      rw [hd, if_pos c]
      exact c_tof62 (by omega) hj (b3 k (by omega) c j hj)
    · obtain ⟨M1, d1, d2, d3, d4, d5⟩ := iv_live h w1 (s := k) (by omega)
      have g16 : gI M1 56 16 = nI b := (d5.I 56 16 rfl).trans b2
      have e14 : (nI k * 14).toNatClampNeg = 14 * k := by rw [show nI k * 14 = nI (k * 14) from z_mul k 14, z_cl (by omega), Nat.mul_comm]
      have n14 : ¬ (nI k * 14) < (0 : Int32) := by
        rw [show nI k * 14 = nI (k * 14) from z_mul k 14]
        exact z_nlt (b := 0) (by omega) (by decide) (by omega)
      have l0 : (0 : Int32).toNatClampNeg = 0 := rfl
      have l14 : (14 : Int32).toNatClampNeg = 14 := rfl
      have gc : gI (cI M1 63 65 0 (14 * k) 14) 56 16 = nI b := by rw [gI_cI, if_neg (by omega)]; exact g16
      have c2 : chS [6616, 65] M1 (sI (cI M1 63 65 0 (14 * k) 14) 56 16 (nI (b ||| 2 ^ k))) := (chS_cI M1 63 65 _ _ _ (fun j => rfl)).sI 56 16 _ rfl
      have g65 : ∀ x, gI (sI (cI M1 63 65 0 (14 * k) 14) 56 16 (nI (b ||| 2 ^ k))) 65 x = if 14 * k ≤ x ∧ x < 14 * k + 14 then gI M1 63 (x - 14 * k) else gI M1 65 x := fun x => by
        rw [gI_sI, if_neg (by omega), gI_cI]
        by_cases z : 14 * k ≤ x ∧ x < 14 * k + 14
        · rw [if_pos ⟨rfl, z⟩, if_pos z, Nat.zero_add]
        · rw [if_neg (fun y => z y.2), if_neg z]
      have hz : b_wo_tallyOfFirst_5_5 (nI n) (nI j) (sumT A Q j k) (nI k) M = b_wo_tallyOfFirst_5_62 (nI n) (nI j) (sumT A Q j k) (nI k) (sI (cI M1 63 65 0 (14 * k) 14) 56 16 (nI (b ||| 2 ^ k))) := by
        rw [hd, if_neg c, d1, Option.bind_some, e14, l0, l14, gc, z_1shl (by omega), z_or]
        exact gd_t ⟨⟨by decide, n14, by decide⟩, by decide, by omega⟩
      have g16' : gI (sI (cI M1 63 65 0 (14 * k) 14) 56 16 (nI (b ||| 2 ^ k))) 56 16 = nI (b ||| 2 ^ k) := by rw [gI_sI, if_pos ⟨rfl, rfl⟩]
      generalize sI (cI M1 63 65 0 (14 * k) 14) 56 16 (nI (b ||| 2 ^ k)) = M2 at c2 g65 hz g16'
      have hb2 : b ||| 2 ^ k < 1048576 := Nat.or_lt_two_pow (n := 20) b1 (Nat.pow_lt_pow_right (by decide) (by omega))
      have wc2 : wC2 A Q M2 := by
        refine ⟨b ||| 2 ^ k, hb2, g16', fun x hx hbx y hy => ?_⟩
        rw [g65]
        by_cases e : x = k
        · subst e
          rw [if_pos (by omega), show 14 * x + y - 14 * x = y by omega]
          exact d2.2.2.2.2.1 y hy
        · rw [if_neg (by omega), d5.I 65 _ rfl]
          refine b3 x hx ?_ y hy
          rw [fb_bit_set] at hbx
          simpa [e] using hbx
      refine go M2 ?_ (iv_keep d3 c2 (by decide +kernel)) ((swC1 A Q).use d4 c2 (by decide)) wc2 ((d5.mono (by decide)).trans (c2.mono (by decide)))
      rw [hz]
      refine c_tof62 (by omega) hj ?_
      rw [g65, if_pos (by omega), show 14 * k + j - 14 * k = j by omega]
      exact d2.2.2.2.2.1 j hj
theorem c_first {A : sA} {Q : sQ} {v : Nat → Nat} {M : dM} {n j : Nat} (hn : n ≤ 20) (hj : j < 14) (h : IV A Q v M) (w1 : wC1 A Q M) (w2 : wC2 A Q M) : ∃ M', f_wo_tallyOfFirst (nI n) (nI j) M = some (sumT A Q j n, M') ∧ IV A Q v M' ∧ wC1 A Q M' ∧ wC2 A Q M' ∧ chS kTo M M' := by
  obtain ⟨M', a1, a2⟩ := c_tof hn hj n 0 M (Nat.zero_add _) h w1 w2
  have a1' : l_wo_tallyOfFirst_5 (nI n) (nI j) 0 0 M = some (sumT A Q j n, M') := a1
  refine ⟨M', ?_, a2⟩
  unfold f_wo_tallyOfFirst
  rw [a1', Option.bind_some]
/-! the reference counts -/
theorem m_46 {T : thT} {n : Nat} {M : dM} (x1 x4 x3 : Int32) (hU : wfU T n) (hn : n ≤ 1920) (r : rmU T n M) {q : Nat} (hq : q < 6) : l_mo_rates_46 x1 (nI q) x3 x4 0 M = some (x3 + tyI T q n) := by
  have e0 : l_mo_rates_46 x1 (nI q) x3 x4 0 M = l_mo_rates_46 x1 (nI q) (x3 + tyI T q 0) x4 (nI 0) M := by
    show _ = l_mo_rates_46 x1 (nI q) (x3 + 0) x4 (nI 0) M
    rw [Int32.add_zero]
    rfl
  rw [e0]
  unfold l_mo_rates_46
  refine lpc_seq (body := fun s : Int32 × Int32 => b_mo_rates_46_46 x1 (nI q) s.1 x4 s.2 M) (fun k => (x3 + tyI T q k, nI k)) n ?_ ?_
  · intro k hk
    show b_mo_rates_46_46 x1 (nI q) (x3 + tyI T q k) x4 (nI k) M = some (.inl (x3 + (tyI T q k + sTy (T k) q), nI (k + 1)))
    obtain ⟨a0, a1, a2, a3, a4, a5, a6⟩ := r.2 k hk
    obtain ⟨q0, q1, q2, q3, q4, q5, q6, q7⟩ := hU k hk
    rw [← Int32.add_assoc]
    generalize x3 + tyI T q k = z
    have f120 : b_mo_rates_46_120 x1 (nI q) x4 (nI k) z M = some (.inl (z + 0, nI (k + 1))) := by
      unfold b_mo_rates_46_120
      rw [show nI k + 1 = nI (k + 1) from z_add k 1]
    have f113 : ∀ y : Nat, y < 2 → b_mo_rates_46_113 x1 (nI q) x4 (nI k) z (nI (T k 0)) (nI y) M = some (.inl (z + (if T k 0 = y then 1 else 0), nI (k + 1))) := fun y hy => by
      unfold b_mo_rates_46_113
      by_cases c : T k 0 = y
      · rw [if_pos (by rw [c]), if_pos c, show nI k + 1 = nI (k + 1) from z_add k 1]
      · rw [if_neg (z_ne (by omega) (by omega) c), if_neg c, f120]
    have f88 : ∀ b : Nat, b < 2 → b_mo_rates_46_88 x1 (nI q) z x4 (nI k) (nI b) M = some (.inl (z + (if b = 1 ∧ T k 0 = q / 3 then 1 else 0), nI (k + 1))) := fun b hb => by
      unfold b_mo_rates_46_88
      by_cases c : b = 0
      · rw [if_pos (show nI b = (0 : Int32) from by rw [c]; rfl), if_neg (by omega), f120]
      · rw [if_neg (show ¬ nI b = (0 : Int32) from z_ne (b := 0) (by omega) (by decide) c), z_gd (z_in (n := k) (by omega) (by omega)), z_cl (n := k) (by omega), a0]
        by_cases d : q ≤ 2
        · rw [if_pos (show nI q ≤ (2 : Int32) from z_yle (b := 2) (by omega) (by decide) d)]
          refine (f113 0 (by decide)).trans ?_
          rw [show q / 3 = 0 by omega]
          by_cases e : T k 0 = 0
          · rw [if_pos e, if_pos ⟨by omega, e⟩]
          · rw [if_neg e, if_neg (fun z => e z.2)]
        · rw [if_neg (show ¬ nI q ≤ (2 : Int32) from z_nle (b := 2) (by omega) (by decide) (by omega))]
          refine (f113 1 (by decide)).trans ?_
          rw [show q / 3 = 1 by omega]
          by_cases e : T k 0 = 1
          · rw [if_pos e, if_pos ⟨by omega, e⟩]
          · rw [if_neg e, if_neg (fun z => e z.2)]
    have f80 : ∀ y : Nat, y < 3 → b_mo_rates_46_80 x1 (nI q) z x4 (nI k) (nI (T k 5)) (nI y) M = some (.inl (z + (if T k 5 = y ∧ T k 0 = q / 3 then 1 else 0), nI (k + 1))) := fun y hy => by
      unfold b_mo_rates_46_80 b_mo_rates_46_83
      by_cases c : T k 5 = y
      · rw [if_pos (by rw [c])]
        refine (f88 1 (by decide)).trans ?_
        by_cases e : T k 0 = q / 3
        · rw [if_pos ⟨rfl, e⟩, if_pos ⟨c, e⟩]
        · rw [if_neg (fun z => e z.2), if_neg (fun z => e z.2)]
      · rw [if_neg (z_ne (by omega) (by omega) c)]
        refine (f88 0 (by decide)).trans ?_
        rw [if_neg (fun z => by have := z.1; omega), if_neg (fun z => c z.1)]
    have er : nI q - nI q / 3 * 3 = nI (q % 3) := z_krem (m := 3) (by omega) (by decide) (by decide)
    unfold b_mo_rates_46_46
    rw [r.1, if_neg (z_nle (by omega) (by omega) hk), er, z_gd (z_in (n := k) (by omega) (by omega)), z_cl (n := k) (by omega), a6]
    have hs : sTy (T k) q = if T k 0 = q / 3 ∧ (q % 3 = 0 ∨ (q % 3 = 1 ∧ T k 5 = 2) ∨ (q % 3 = 2 ∧ T k 5 = 1)) then 1 else 0 := by
      unfold sTy
      rw [if_pos hq]
    rw [hs]
    by_cases c0 : q % 3 = 0
    · rw [if_pos (show nI (q % 3) = (0 : Int32) from by rw [c0]; rfl)]
      unfold b_mo_rates_46_83
      refine (f88 1 (by decide)).trans ?_
      by_cases e : T k 0 = q / 3
      · rw [if_pos ⟨rfl, e⟩, if_pos ⟨e, Or.inl c0⟩]
      · rw [if_neg (fun z => e z.2), if_neg (fun z => e z.1)]
    · rw [if_neg (show ¬ nI (q % 3) = (0 : Int32) from z_ne (b := 0) (by omega) (by decide) c0)]
      by_cases c1 : q % 3 = 1
      · rw [if_pos (show nI (q % 3) = (1 : Int32) from by rw [c1]; rfl)]
        refine (f80 2 (by decide)).trans ?_
        by_cases e : T k 0 = q / 3 ∧ T k 5 = 2
        · rw [if_pos ⟨e.2, e.1⟩, if_pos ⟨e.1, Or.inr (Or.inl ⟨c1, e.2⟩)⟩]
        · rw [if_neg (fun z => e ⟨z.2, z.1⟩), if_neg (by omega)]
      · rw [if_neg (show ¬ nI (q % 3) = (1 : Int32) from z_ne (b := 1) (by omega) (by decide) c1)]
        refine (f80 1 (by decide)).trans ?_
        by_cases e : T k 0 = q / 3 ∧ T k 5 = 1
        · rw [if_pos ⟨e.2, e.1⟩, if_pos ⟨e.1, Or.inr (Or.inr ⟨by omega, e.2⟩)⟩]
        · rw [if_neg (fun z => e ⟨z.2, z.1⟩), if_neg (by omega)]
  · show b_mo_rates_46_46 x1 (nI q) (x3 + tyI T q n) x4 (nI n) M = _
    unfold b_mo_rates_46_46
    rw [r.1, if_pos (z_yle (by omega) (by omega) (Nat.le_refl _))]
theorem m_31 {A : sA} {Q : sQ} {v : Nat → Nat} {n q : Nat} (hn : n ≤ 20) (hq : q < 6) : ∀ (m k : Nat) (M : dM), k + m = n → IV A Q v M → ∃ M', l_mo_rates_31 (nI n) (nI q) (sumT A Q q k) (nI k) M = some (sumT A Q q n, M') ∧ IV A Q v M' ∧ chS kRm M M' := by
  intro m
  induction m with
  | zero =>
    intro k M hk h
    have e : k = n := by omega
    subst e
    refine ⟨M, ?_, h, chS.refl _ _⟩
    unfold l_mo_rates_31
    refine lpc_out ?_
    show b_mo_rates_31_31 (nI k) (nI q) (sumT A Q q k) (nI k) M = _
    unfold b_mo_rates_31_31
    rw [if_pos (z_yle (by omega) (by omega) (Nat.le_refl _))]
  | succ m ih =>
    intro k M hk h
    obtain ⟨M1, a1, a2, a3, a4⟩ := iv_runs h (s := k) (by omega)
    have wf : wfX A (uX A Q k) := runL_wf h.1 (by omega) _ (Nat.le_refl _)
    have e46 := m_46 (nI n) (nI k) (sumT A Q q k) wf.2 (uX_n h.1 Q k) a2.2 hq
    obtain ⟨M', b1, b2, b3⟩ := ih (k + 1) M1 (by omega) a3
    refine ⟨M', ?_, b2, a4.trans b3⟩
    unfold l_mo_rates_31 at b1 ⊢
    refine lpc_step (s' := (sumT A Q q (k + 1), nI (k + 1), M1)) ?_ b1
    show b_mo_rates_31_31 (nI n) (nI q) (sumT A Q q k) (nI k) M = _
    unfold b_mo_rates_31_31
    rw [if_neg (z_nle (by omega) (by omega) (by omega)), a1, Option.bind_some, e46, Option.bind_some, show nI k + 1 = nI (k + 1) from z_add k 1]
    rfl
def kRa : List Nat := 7600 :: (kTo ++ kRm)
/-- a number of worlds: 1 to 20, both sides -/
theorem z_one20 (x : Int32) : (x < 1 ∨ (20 : Int32) < x) ∧ f_mo_within x 1 20 = false ∨ ∃ n, 1 ≤ n ∧ n ≤ 20 ∧ x = nI n ∧ f_mo_within x 1 20 = true ∧ ¬ nI n < 1 ∧ ¬ (20 : Int32) < nI n := by
  unfold f_mo_within
  by_cases c1 : x < 1
  · exact Or.inl ⟨Or.inl c1, by rw [if_pos c1]⟩
  · by_cases c2 : (20 : Int32) < x
    · exact Or.inl ⟨Or.inr c2, by rw [if_neg c1, if_pos c2]⟩
    · rcases pk_ix x (n := 21) (by decide) with z | z | ⟨n, hn, rfl⟩
      · exfalso
        apply c1
        rw [fa_lt] at z ⊢
        have h0 : (0 : Int32).toInt = 0 := rfl
        have h1 : (1 : Int32).toInt = 1 := rfl
        omega
      · exfalso
        apply c2
        rw [fa_le, nI_toInt (by omega)] at z
        rw [fa_lt]
        have h1 : (20 : Int32).toInt = 20 := rfl
        omega
      · refine Or.inr ⟨n, ?_, by omega, rfl, by rw [if_neg c1, if_neg c2], c1, c2⟩
        by_cases e : n = 0
        · subst e
          exact absurd (by decide) c1
        · omega
theorem op_rates {A : sA} {Q : sQ} {v : Nat → Nat} {M : dM} (h : IV A Q v M) (w1 : wC1 A Q M) (w2 : wC2 A Q M) (x y : Int32) : opV kRa A Q v M (fun b M2 => (∃ M1, f_ax_rates x y M = some (b, M1) ∧ f_mo_rates x y M1 = some (b, M2)) ∧ wC1 A Q M2 ∧ wC2 A Q M2) := by
  have w10 : wC1 A Q (sI M 66 0 0) := (swC1 A Q).use w1 (chS_sI (S := [7600]) M 66 0 0 rfl) (by decide)
  have w20 : wC2 A Q (sI M 66 0 0) := (swC2 A Q).use w2 (chS_sI (S := [7600]) M 66 0 0 rfl) (by decide)
  have eyy : f_mo_within y 0 5 = f_ax_within y 6 := z_mw0 y (n := 5) (by decide)
  rcases z_one20 x with ⟨z1, z2⟩ | ⟨n, n1, n20, rfl, t, c1, c2⟩
  · refine opV_no rfl h (x := 0) (b := -1) ⟨⟨M, ?_, ?_⟩, w10, w20⟩
    · unfold f_ax_rates
      rcases z1 with z1 | z1
      · rw [if_pos z1]
      · by_cases c : x < 1
        · rw [if_pos c]
        · rw [if_neg c, if_pos z1]
    · unfold f_mo_rates
      rw [if_neg (by rw [z2]; exact Bool.false_ne_true)]
  rcases z_range y 6 (by decide) with zy | ⟨q, hq, rfl⟩
  · have zy' : f_ax_within y 6 = false := zy
    refine opV_no rfl h (x := 0) (b := -1) ⟨⟨M, ?_, ?_⟩, w10, w20⟩
    · unfold f_ax_rates
      rw [if_neg c1, if_neg c2, if_neg (by rw [zy']; exact Bool.false_ne_true)]
    · unfold f_mo_rates
      rw [eyy, if_pos t, if_neg (by rw [zy']; exact Bool.false_ne_true)]
  have ty : f_ax_within (nI q) 6 = true := by rw [show (6 : Int32) = nI 6 from rfl, z_within (by omega) (by omega)]; simp [hq]
  obtain ⟨M1, a1, a2, a3, a4, a5⟩ := c_first n20 (show q < 14 by omega) h w1 w2
  have i0 := iv_0 a2 0
  have c0 : chS [7600] M1 (sI M1 66 0 0) := chS_sI M1 66 0 0 rfl
  obtain ⟨M2, b1, b2, b3⟩ := m_31 n20 hq n 0 (sI M1 66 0 0) (Nat.zero_add _) i0
  have b1' : l_mo_rates_31 (nI n) (nI q) 0 0 (sI M1 66 0 0) = some (sumT A Q q n, M2) := b1
  have c12 : chS (7600 :: kRm) M1 M2 := (c0.mono (by decide)).trans (b3.mono (by decide))
  refine ⟨sumT A Q q n, M2, ⟨⟨M1, ?_, ?_⟩, (swC1 A Q).use a3 c12 (by decide), (swC2 A Q).use a4 c12 (by decide)⟩, b2, (a5.mono (by decide)).trans (c12.mono (by decide))⟩
  · unfold f_ax_rates
    rw [if_neg c1, if_neg c2, if_pos ty, a1]
    rfl
  · unfold f_mo_rates
    rw [eyy, if_pos t, if_pos ty, b1']
    rfl
