/-! ===== worlds: what was put comes out again ===== -/
def shV (st sd : Nat) (V : wV) : wV := (sd, fun s => if s = st then V.2.1 s - 1 else V.2.1 s, fun j => if 9 * st ≤ j ∧ j < 9 * st + 8 then V.2.2 (j + 1) else V.2.2 j)
theorem shV_wf {A : sA} {V : wV} (h : wfV A V) {st sd : Nat} (hsd : sd < 2147483648) (hs : st < 8) : wfV A (shV st sd V) := by
  refine ⟨hsd, fun s hs' => ?_⟩
  obtain ⟨h1, h2⟩ := h.2 s hs'
  show (if s = st then V.2.1 s - 1 else V.2.1 s) ≤ 9 ∧ ∀ j, j < (if s = st then V.2.1 s - 1 else V.2.1 s) → (if 9 * st ≤ 9 * s + j ∧ 9 * s + j < 9 * st + 8 then V.2.2 (9 * s + j + 1) else V.2.2 (9 * s + j)) < 10 ∧ lay0 A (10 * s + (if 9 * st ≤ 9 * s + j ∧ 9 * s + j < 9 * st + 8 then V.2.2 (9 * s + j + 1) else V.2.2 (9 * s + j))) = true
  by_cases e : s = st
  · subst e
    rw [if_pos rfl]
    refine ⟨by omega, fun j hj => ?_⟩
    rw [if_pos (by omega)]
    exact h2 (j + 1) (by omega)
  · rw [if_neg e]
    refine ⟨h1, fun j hj => ?_⟩
    rw [if_neg (by omega)]
    exact h2 j hj
theorem shV_at {V : wV} {st sd s j n : Nat} (e : s = st) (hn : V.2.1 st = n) (hj : j < n - 1) (h9 : n ≤ 9) : (shV st sd V).2.2 (9 * s + j) = V.2.2 (9 * s + (j + 1)) := by
  show (if 9 * st ≤ 9 * s + j ∧ 9 * s + j < 9 * st + 8 then V.2.2 (9 * s + j + 1) else V.2.2 (9 * s + j)) = _
  rw [if_pos (by omega)]
  rfl
theorem shV_off {V : wV} {st sd s j : Nat} (e : s ≠ st) (hj : j < 9) : (shV st sd V).2.2 (9 * s + j) = V.2.2 (9 * s + j) := by
  show (if 9 * st ≤ 9 * s + j ∧ 9 * s + j < 9 * st + 8 then V.2.2 (9 * s + j + 1) else V.2.2 (9 * s + j)) = _
  rw [if_neg (by omega)]
theorem c_earliest {V : wV} {M : dM} {st sd : Nat} (hs : st < 8) (h8 : gJ M 56 8 = lN sd) (rV : ∀ s, s < 8 → gI M 61 s = nI (V.2.1 s) ∧ ∀ j, j < V.2.1 s → gI M 60 (9 * s + j) = nI (V.2.2 (9 * s + j))) (h9 : ∀ s, s < 8 → V.2.1 s ≤ 9) (h0 : 0 < V.2.1 st) : ∃ M', f_wo_takeEarliest (nI st) M = some (nI (V.2.2 (9 * st)), M') ∧ rcV (shV st sd V) M' ∧ chS [60, 61] M M' := by
  obtain ⟨n, hn⟩ : ∃ n, V.2.1 st = n := ⟨_, rfl⟩
  have hn9 := h9 st hs
  rw [hn] at h0 hn9
  have g61 : gI M 61 st = nI n := by rw [(rV st hs).1, hn]
  have g60 : gI M 60 (9 * st) = nI (V.2.2 (9 * st)) := (rV st hs).2 0 (by rw [hn]; exact h0)
  have e9 : nI st * 9 = nI (9 * st) := by rw [show nI st * 9 = nI (st * 9) from z_mul st 9, Nat.mul_comm]
  have es : nI n - 1 = nI (n - 1) := z_sub (b := 1) (by omega)
  have q1 : gI (sI M 61 st (nI (n - 1))) 61 st = nI (n - 1) := by rw [gI_sI, if_pos ⟨rfl, rfl⟩]
  refine ⟨cI (sI M 61 st (nI (n - 1))) 60 60 (9 * st + 1) (9 * st) (n - 1), ?_, ⟨h8, fun s hs' => ⟨?_, fun j hj => ?_⟩⟩, ?_⟩
  · have c1 : ¬ nI (9 * st + 1) < (0 : Int32) := z_nlt (b := 0) (by omega) (by decide) (by omega)
    have c2 : ¬ nI (9 * st) < (0 : Int32) := z_nlt (b := 0) (by omega) (by decide) (by omega)
    have c3 : ¬ nI (n - 1) < (0 : Int32) := z_nlt (b := 0) (by omega) (by decide) (by omega)
    unfold f_wo_takeEarliest
    rw [e9, z_cl (n := st) (by omega), g61, es, q1, show nI (9 * st) + 1 = nI (9 * st + 1) from z_add _ 1, z_gd (z_in (n := 9 * st) (by omega) (by omega)), z_gd (z_in (n := st) (by omega) (by omega)), z_cl (n := 9 * st) (by omega), z_cl (n := 9 * st + 1) (by omega), z_cl (n := n - 1) (by omega), g60]
    exact gd_t ⟨⟨c1, c2, c3⟩, by omega, by omega⟩
  · rw [gI_cI, if_neg (by omega), gI_sI]
    show _ = nI (if s = st then V.2.1 s - 1 else V.2.1 s)
    by_cases e : s = st
    · subst e
      rw [if_pos ⟨rfl, rfl⟩, if_pos rfl, hn]
    · rw [if_neg (fun z => e z.2), if_neg e]
      exact (rV s hs').1
  · have hj' : j < (if s = st then V.2.1 s - 1 else V.2.1 s) := hj
    by_cases e : s = st
    · rw [shV_at e hn (by rw [if_pos e, e, hn] at hj'; exact hj') hn9]
      rw [e] at hj' ⊢
      rw [if_pos rfl, hn] at hj'
      rw [gI_cI, if_pos ⟨rfl, by omega, by omega⟩, gI_sI, if_neg (by omega), show 9 * st + 1 + (9 * st + j - 9 * st) = 9 * st + (j + 1) by omega]
      exact (rV st hs).2 (j + 1) (by omega)
    · rw [if_neg e] at hj'
      have := h9 s hs'
      rw [shV_off e (by omega), gI_cI, if_neg (by omega), gI_sI, if_neg (by omega)]
      exact (rV s hs').2 j hj'
  · exact (chS_sI M 61 _ _ rfl).trans (chS_cI _ 60 60 _ _ _ (fun j => rfl))
/-! the reference moves them one by one -/
theorem m_move63 {V : wV} {st n : Nat} (x1 x2 x5 : Int32) (hs : st < 8) (hn : n ≤ 8) : ∀ (m k : Nat) (M : dM), k + m = n → gI M 121 st = nI n → (∀ j, k < j → j < n + 1 → gI M 120 (9 * st + j) = nI (V.2.2 (9 * st + j))) → ∃ M', (∀ r, f_mo_takes x1 x2 x5 1 M' = some r → l_mo_digsAt_63 x1 x2 (nI st) x5 (nI k) M = some r) ∧ (∀ j, k ≤ j → j < n → gI M' 120 (9 * st + j) = nI (V.2.2 (9 * st + (j + 1)))) ∧ (∀ x, x < 9 * st + k ∨ 9 * st + n ≤ x → gI M' 120 x = gI M 120 x) ∧ chS [120] M M' := by
  intro m
  induction m with
  | zero =>
    intro k M hk h121 hc
    have e : k = n := by omega
    subst e
    refine ⟨M, fun r ht => ?_, fun j h1 h2 => by omega, fun _ _ => rfl, chS.refl _ _⟩
    unfold l_mo_digsAt_63
    refine lpc_out ?_
    show b_mo_digsAt_63_63 x1 x2 (nI st) x5 (nI k) M = some (Sum.inr r)
    unfold b_mo_digsAt_63_63
    rw [z_gd (z_in (n := st) (by omega) (by omega)), z_cl (n := st) (by omega), h121, if_pos (z_yle (by omega) (by omega) (Nat.le_refl _)), ht]
    rfl
  | succ m ih =>
    intro k M hk h121 hc
    have c : chS [120] M (sI M 120 (9 * st + k) (nI (V.2.2 (9 * st + (k + 1))))) := chS_sI M 120 _ _ rfl
    obtain ⟨M', a1, a2, a3, a4⟩ := ih (k + 1) (sI M 120 (9 * st + k) (nI (V.2.2 (9 * st + (k + 1))))) (by omega) ((c.I 121 st rfl).trans h121) (fun j h1 h2 => by rw [gI_sI, if_neg (by omega)]; exact hc j (by omega) h2)
    refine ⟨M', fun r hr => ?_, fun j h1 h2 => ?_, fun x hx => ?_, c.trans a4⟩
    · have a1r := a1 r hr
      unfold l_mo_digsAt_63 at a1r ⊢
      refine lpc_step (s' := (nI (k + 1), sI M 120 (9 * st + k) (nI (V.2.2 (9 * st + (k + 1)))))) ?_ a1r
      show b_mo_digsAt_63_63 x1 x2 (nI st) x5 (nI k) M = some (Sum.inl (nI (k + 1), sI M 120 (9 * st + k) (nI (V.2.2 (9 * st + (k + 1))))))
      unfold b_mo_digsAt_63_63
      have e9 : (9 : Int32) * nI st + nI k = nI (9 * st + k) := by rw [show (9 : Int32) * nI st = nI (9 * st) from z_mul 9 st, z_add]
      rw [z_gd (z_in (n := st) (by omega) (by omega)), z_cl (n := st) (by omega), h121, if_neg (z_nle (by omega) (by omega) (by omega)), e9, show nI (9 * st + k) + 1 = nI (9 * st + k + 1) from z_add _ 1, z_gd (z_in (n := 9 * st + k + 1) (by omega) (by omega)), z_gd (z_in (n := 9 * st + k) (by omega) (by omega)), z_cl (n := 9 * st + k) (by omega), z_cl (n := 9 * st + k + 1) (by omega), show 9 * st + k + 1 = 9 * st + (k + 1) by omega, hc (k + 1) (by omega) (by omega), show nI k + 1 = nI (k + 1) from z_add k 1]
    · by_cases e : j = k
      · rw [e, a3 _ (by omega), gI_sI, if_pos ⟨rfl, rfl⟩]
      · exact a2 j (by omega) h2
    · rw [a3 x (by omega), gI_sI, if_neg (by omega)]
