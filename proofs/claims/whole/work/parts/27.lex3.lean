/-! ===== the reference's next token ===== -/
def tpm (T : Nat → Nat) (n : Nat) (M : dM) : Prop := n ≤ 1000 ∧ (∀ i, i < n → T i ≤ 126) ∧ gI M 66 19 = nI n ∧ ∀ i, i < n → gI M 81 i = nI (T i)
def wv (T : Nat → Nat) (n p : Nat) : Nat := ev T p (nx T n p - p)
def tkm (T : Nat → Nat) (n p : Nat) (M : dM) : Prop := p ≤ n ∧ gI M 66 21 = nI p ∧ gI M 66 20 = nI (nx T n p) ∧ gI M 66 22 = nI (kd T n p) ∧ (kd T n p = 2 → gI M 66 24 = nI (nu T n p)) ∧ (kd T n p = 1 → gJ M 66 23 = lN (wv T n p))
theorem tpm_ch {T : Nat → Nat} {n : Nat} {S : List Nat} {M M' : dM} (h : tpm T n M) (c : chS S M M') (hd : disj [7619, 81] S = true) : tpm T n M' := by
  have : supp [7619, 81] (tpm T n) := by
    intro M M' e _ ⟨h0, h1, h2, h3⟩
    refine ⟨h0, h1, ?_, fun i hi => ?_⟩
    · rw [(e 66 19 rfl).1]; exact h2
    · rw [(e 81 i rfl).1]; exact h3 i hi
  exact this.use h c hd
theorem m_skip {T : Nat → Nat} {n : Nat} (p : Nat) (M : dM) (h : tpm T n M) (hp : p ≤ n) (h4 : gI M 66 20 = nI p) : ∃ M', l_mo_nextToken_0 M = some M' ∧ gI M' 66 20 = nI (sk T n p) ∧ chS [7620] M M' := by
  obtain ⟨h0, h1, h2, h3⟩ := h
  have hb : b_mo_nextToken_0_0 M = if p < n ∧ isWs (T p) = true then some (.inl (sI M 66 20 (nI (p + 1)))) else some (.inr M) := by
    unfold b_mo_nextToken_0_0 b_mo_nextToken_0_39
    rw [h2, h4, z_cl (n := p) (by omega)]
    by_cases hn : n ≤ p
    · rw [if_pos (z_yle (by omega) (by omega) hn), if_neg (by omega)]
    · rw [if_neg (z_nle (by omega) (by omega) (by omega)), z_gd (z_in (n := p) (by omega) (by omega)), h3 p (by omega)]
      have hT := h1 p (by omega)
      by_cases b : T p = 32
      · rw [if_pos (show nI (T p) = (32 : Int32) from by rw [b]; rfl), if_pos ⟨by omega, by unfold isWs; exact decide_eq_true (Or.inr b)⟩]
        show some (Sum.inl (sI M 66 20 (nI p + nI 1))) = _
        rw [z_add]
      · rw [if_neg (show ¬ nI (T p) = (32 : Int32) from z_ne (b := 32) (by omega) (by omega) b)]
        by_cases a : T p = 10
        · rw [if_pos (show nI (T p) = (10 : Int32) from by rw [a]; rfl), if_pos ⟨by omega, by unfold isWs; exact decide_eq_true (Or.inl a)⟩]
          show some (Sum.inl (sI M 66 20 (nI p + nI 1))) = _
          rw [z_add]
        · rw [if_neg (show ¬ nI (T p) = (10 : Int32) from z_ne (b := 10) (by omega) (by omega) a), if_neg (by rintro ⟨_, q⟩; unfold isWs at q; rcases of_decide_eq_true q with q | q <;> omega)]
  unfold l_mo_nextToken_0
  by_cases hc : p < n ∧ isWs (T p) = true
  · obtain ⟨M', e1, e2, e3⟩ := m_skip (p + 1) (sI M 66 20 (nI (p + 1))) (tpm_ch ⟨h0, h1, h2, h3⟩ (chS_sI (S := [7620]) M 66 20 _ rfl) rfl) hc.1 (by rw [gI_sI, if_pos ⟨rfl, rfl⟩])
    refine ⟨M', lpc_step (s' := sI M 66 20 (nI (p + 1))) ?_ e1, ?_, (chS_sI M 66 20 _ rfl).trans e3⟩
    · rw [hb, if_pos hc]
    · rw [e2]
      unfold sk
      rw [whl_go hc.1 hc.2]
  · refine ⟨M, lpc_out ?_, ?_, chS.refl _ _⟩
    · rw [hb, if_neg hc]
    · rw [h4]
      unfold sk
      rw [whl_no hc]
termination_by n - p
theorem m_signAt {T : Nat → Nat} {n p : Nat} {M : dM} (h : tpm T n M) (hp : p ≤ n) : f_mo_signAt (nI p) M = some (nI (if p < n then T p else 0)) := by
  have hn := h.1
  unfold f_mo_signAt
  rw [h.2.2.1]
  by_cases hpn : p < n
  · rw [if_neg (z_nle (by omega) (by omega) hpn), if_pos hpn, z_gd (z_in (n := p) (by omega) (by omega)), z_cl (n := p) (by omega), h.2.2.2 p hpn]
  · rw [if_pos (z_yle (by omega) (by omega) (by omega)), if_neg hpn]
    rfl
def kNt : List Nat := [7620, 7621, 7622, 7623, 7624]
theorem m_letters {T : Nat → Nat} {n : Nat} (b k : Nat) (M : dM) (h : tpm T n M) (hp : b + k ≤ n) (h1 : gI M 66 21 = nI b) (h0 : gI M 66 20 = nI (b + k)) (h3 : k ≤ 8 → gJ M 66 23 = lN (ev T b k)) : ∃ M', l_mo_nextToken_109 M = some M' ∧ gI M' 66 20 = nI (whl isLo T n (b + k)) ∧ (whl isLo T n (b + k) - b ≤ 8 → gJ M' 66 23 = lN (ev T b (whl isLo T n (b + k) - b))) ∧ chS [7620, 7623] M M' := by
  have hn := h.1
  have hx : (if b + k < n then T (b + k) else 0) ≤ 126 := by
    split
    · exact h.2.1 _ (by assumption)
    · omega
  have hb : b_mo_nextToken_109_109 M = if b + k < n ∧ isLo (T (b + k)) = true then some (.inl (sI (if k < 8 then sJ M 66 23 (lN (ev T b (k + 1))) else M) 66 20 (nI (b + (k + 1))))) else some (.inr M) := by
    unfold b_mo_nextToken_109_109 b_mo_nextToken_109_175
    rw [h0, h1, m_signAt h hp, Option.bind_some, z_sub (by omega), Nat.add_sub_cancel_left]
    by_cases a : (if b + k < n then T (b + k) else 0) < 97
    · rw [if_pos (show nI _ < (97 : Int32) from z_ylt (b := 97) (by omega) (by omega) a), if_neg]
      rintro ⟨y1, y2⟩
      rw [if_pos y1] at a
      rw [isLo_iff] at y2
      omega
    · rw [if_neg (show ¬ nI _ < (97 : Int32) from z_nlt (b := 97) (by omega) (by omega) (by omega)), Option.bind_some]
      have hlt : b + k < n := by
        by_cases q : b + k < n
        · exact q
        · rw [if_neg q] at a; omega
      rw [if_pos hlt] at a hx ⊢
      by_cases c : 122 < T (b + k)
      · rw [if_pos (show (122 : Int32) < nI (T (b + k)) from z_ylt (a := 122) (by omega) (by omega) c), if_neg (by rw [isLo_iff]; omega)]
      · rw [if_neg (show ¬ (122 : Int32) < nI (T (b + k)) from z_nlt (a := 122) (by omega) (by omega) (by omega)), if_pos (show b + k < n ∧ isLo (T (b + k)) = true from ⟨hlt, by rw [isLo_iff]; omega⟩)]
        by_cases k8 : k < 8
        · rw [if_neg (show ¬ (8 : Int32) ≤ nI k from z_nle (a := 8) (by omega) (by omega) k8), Option.bind_some, if_pos k8]
          have e3 : gJ M 66 23 * 27 + (nI (T (b + k))).toInt64 - 96 = lN (ev T b (k + 1)) := by
            rw [h3 (by omega), z_i2l (by omega)]
            show lN (ev T b k) * lN 27 + lN (T (b + k)) - lN 96 = _
            rw [z_lmul, z_ladd, z_lsub (by omega)]
            rfl
          rw [e3, gI_sJ, h0]
          show some (Sum.inl (sI (sJ M 66 23 (lN (ev T b (k + 1)))) 66 20 (nI (b + k) + nI 1))) = _
          rw [z_add]
          rfl
        · rw [if_pos (show (8 : Int32) ≤ nI k from z_yle (a := 8) (by omega) (by omega) (by omega)), if_neg k8]
          show some (Sum.inl (sI M 66 20 (nI (b + k) + nI 1))) = _
          rw [z_add]
          rfl
  unfold l_mo_nextToken_109
  by_cases hc : b + k < n ∧ isLo (T (b + k)) = true
  · rw [if_pos hc] at hb
    have cc : chS [7620, 7623] M (sI (if k < 8 then sJ M 66 23 (lN (ev T b (k + 1))) else M) 66 20 (nI (b + (k + 1)))) := by
      split
      · exact ((chS.refl _ M).sJ 66 23 _ rfl).sI 66 20 _ rfl
      · exact (chS.refl _ M).sI 66 20 _ rfl
    have e3 : k + 1 ≤ 8 → gJ (sI (if k < 8 then sJ M 66 23 (lN (ev T b (k + 1))) else M) 66 20 (nI (b + (k + 1)))) 66 23 = lN (ev T b (k + 1)) := fun z => by
      rw [if_pos (by omega), gJ_sI, gJ_sJ, if_pos ⟨rfl, rfl⟩]
    have e0 : gI (sI (if k < 8 then sJ M 66 23 (lN (ev T b (k + 1))) else M) 66 20 (nI (b + (k + 1)))) 66 20 = nI (b + (k + 1)) := by rw [gI_sI, if_pos ⟨rfl, rfl⟩]
    obtain ⟨M', e1, e2, e4, e5⟩ := m_letters b (k + 1) _ (tpm_ch h cc rfl) hc.1 (by rw [cc.I 66 21 rfl]; exact h1) e0 e3
    rw [show b + (k + 1) = b + k + 1 from rfl, ← whl_go hc.1 hc.2] at e2 e4
    exact ⟨M', lpc_step hb e1, e2, e4, cc.trans e5⟩
  · rw [if_neg hc] at hb
    refine ⟨M, lpc_out hb, ?_, ?_, chS.refl _ _⟩
    · rw [h0, whl_no hc]
    · rw [whl_no hc, Nat.add_sub_cancel_left]
      exact h3
termination_by n - (b + k)
theorem m_digits {T : Nat → Nat} {n : Nat} (b k : Nat) (M : dM) (h : tpm T n M) (hp : b + k ≤ n) (h1 : gI M 66 21 = nI b) (h0 : gI M 66 20 = nI (b + k)) (h3 : k ≤ 4 → gI M 66 24 = nI (dv T b k)) : ∃ M', l_mo_nextToken_224 M = some M' ∧ gI M' 66 20 = nI (whl isDg T n (b + k)) ∧ (whl isDg T n (b + k) - b ≤ 4 → gI M' 66 24 = nI (dv T b (whl isDg T n (b + k) - b))) ∧ chS [7620, 7624] M M' := by
  have hn := h.1
  have hx : (if b + k < n then T (b + k) else 0) ≤ 126 := by
    split
    · exact h.2.1 _ (by assumption)
    · omega
  have hb : b_mo_nextToken_224_224 M = if b + k < n ∧ isDg (T (b + k)) = true then some (.inl (sI (if k < 4 then sI M 66 24 (nI (dv T b (k + 1))) else M) 66 20 (nI (b + (k + 1))))) else some (.inr M) := by
    unfold b_mo_nextToken_224_224 b_mo_nextToken_224_286
    rw [h0, h1, m_signAt h hp, Option.bind_some, z_sub (by omega), Nat.add_sub_cancel_left]
    by_cases a : (if b + k < n then T (b + k) else 0) < 48
    · rw [if_pos (show nI _ < (48 : Int32) from z_ylt (b := 48) (by omega) (by omega) a), if_neg]
      rintro ⟨y1, y2⟩
      rw [if_pos y1] at a
      rw [isDg_iff] at y2
      omega
    · rw [if_neg (show ¬ nI _ < (48 : Int32) from z_nlt (b := 48) (by omega) (by omega) (by omega)), Option.bind_some]
      have hlt : b + k < n := by
        by_cases q : b + k < n
        · exact q
        · rw [if_neg q] at a; omega
      rw [if_pos hlt] at a hx ⊢
      by_cases c : 57 < T (b + k)
      · rw [if_pos (show (57 : Int32) < nI (T (b + k)) from z_ylt (a := 57) (by omega) (by omega) c), if_neg (by rw [isDg_iff]; omega)]
      · rw [if_neg (show ¬ (57 : Int32) < nI (T (b + k)) from z_nlt (a := 57) (by omega) (by omega) (by omega)), if_pos (show b + k < n ∧ isDg (T (b + k)) = true from ⟨hlt, by rw [isDg_iff]; omega⟩)]
        by_cases k8 : k < 4
        · rw [if_neg (show ¬ (4 : Int32) ≤ nI k from z_nle (a := 4) (by omega) (by omega) k8), Option.bind_some, if_pos k8]
          have e3 : gI M 66 24 * 10 + nI (T (b + k)) - 48 = nI (dv T b (k + 1)) := by
            rw [h3 (by omega)]
            show nI (dv T b k) * nI 10 + nI (T (b + k)) - nI 48 = _
            rw [z_mul, z_add, z_sub (by omega)]
            rfl
          rw [e3, gI_sI, if_neg (by omega), h0]
          show some (Sum.inl (sI (sI M 66 24 (nI (dv T b (k + 1)))) 66 20 (nI (b + k) + nI 1))) = _
          rw [z_add]
          rfl
        · rw [if_pos (show (4 : Int32) ≤ nI k from z_yle (a := 4) (by omega) (by omega) (by omega)), if_neg k8]
          show some (Sum.inl (sI M 66 20 (nI (b + k) + nI 1))) = _
          rw [z_add]
          rfl
  unfold l_mo_nextToken_224
  by_cases hc : b + k < n ∧ isDg (T (b + k)) = true
  · rw [if_pos hc] at hb
    have cc : chS [7620, 7624] M (sI (if k < 4 then sI M 66 24 (nI (dv T b (k + 1))) else M) 66 20 (nI (b + (k + 1)))) := by
      split
      · exact ((chS.refl _ M).sI 66 24 _ rfl).sI 66 20 _ rfl
      · exact (chS.refl _ M).sI 66 20 _ rfl
    have e3 : k + 1 ≤ 4 → gI (sI (if k < 4 then sI M 66 24 (nI (dv T b (k + 1))) else M) 66 20 (nI (b + (k + 1)))) 66 24 = nI (dv T b (k + 1)) := fun z => by
      rw [if_pos (by omega), gI_sI, if_neg (by omega), gI_sI, if_pos ⟨rfl, rfl⟩]
    have e0 : gI (sI (if k < 4 then sI M 66 24 (nI (dv T b (k + 1))) else M) 66 20 (nI (b + (k + 1)))) 66 20 = nI (b + (k + 1)) := by rw [gI_sI, if_pos ⟨rfl, rfl⟩]
    obtain ⟨M', e1, e2, e4, e5⟩ := m_digits b (k + 1) _ (tpm_ch h cc rfl) hc.1 (by rw [cc.I 66 21 rfl]; exact h1) e0 e3
    rw [show b + (k + 1) = b + k + 1 from rfl, ← whl_go hc.1 hc.2] at e2 e4
    exact ⟨M', lpc_step hb e1, e2, e4, cc.trans e5⟩
  · rw [if_neg hc] at hb
    refine ⟨M, lpc_out hb, ?_, ?_, chS.refl _ _⟩
    · rw [h0, whl_no hc]
    · rw [whl_no hc, Nat.add_sub_cancel_left]
      exact h3
termination_by n - (b + k)
/-- at a token: begin and place are at p, word and number are 0 -/
def atm (n p : Nat) (M : dM) : Prop := p ≤ n ∧ gI M 66 21 = nI p ∧ gI M 66 20 = nI p ∧ gJ M 66 23 = lN 0 ∧ gI M 66 24 = nI 0
theorem m_fin {T : Nat → Nat} {n p v : Nat} {M : dM} (hp : p ≤ n) (h1 : gI M 66 21 = nI p) (h0 : gI M 66 20 = nI (nx T n p)) (hv : kd T n p = v) (h2 : v = 2 → gI M 66 24 = nI (nu T n p)) (h3 : v = 1 → gJ M 66 23 = lN (wv T n p)) : tkm T n p (sI M 66 22 (nI v)) := by
  refine ⟨hp, ?_, ?_, ?_, fun z => ?_, fun z => ?_⟩
  · rw [gI_sI, if_neg (by omega)]; exact h1
  · rw [gI_sI, if_neg (by omega)]; exact h0
  · rw [gI_sI, if_pos ⟨rfl, rfl⟩, hv]
  · rw [gI_sI, if_neg (by omega)]; exact h2 (hv.symm.trans z)
  · rw [gJ_sI]; exact h3 (hv.symm.trans z)
theorem m_t322 {T : Nat → Nat} {n p : Nat} {M : dM} (h : tpm T n M) (hp : p < n) (l : ¬ isLo (T p) = true) (d : ¬ isDg (T p) = true) (a : atm n p M) : ∃ M', t_mo_nextToken_322 (nI (T p)) M = some M' ∧ tkm T n p M' ∧ chS kNt M M' := by
  obtain ⟨a0, a1, a2, a3, a4⟩ := a
  have hT := h.2.1 p hp
  have hn := h.1
  have key : ∀ v : Nat, kd T n p = v → v ≠ 2 → v ≠ 1 → t_mo_nextToken_322 (nI (T p)) M = t_mo_nextToken_368 (nI v) (sI M 66 20 (gI M 66 20 + 1)) → ∃ M', t_mo_nextToken_322 (nI (T p)) M = some M' ∧ tkm T n p M' ∧ chS kNt M M' := fun v hv v2 v1 e => by
    rw [e]
    unfold t_mo_nextToken_368
    refine ⟨_, rfl, m_fin a0 ?_ ?_ hv (fun z => absurd z v2) (fun z => absurd z v1), ((chS.refl _ M).sI 66 20 _ rfl).sI 66 22 _ rfl⟩
    · rw [gI_sI, if_neg (by omega)]; exact a1
    · rw [gI_sI, if_pos ⟨rfl, rfl⟩, a2, nx_ot hp l d]
      exact z_add p 1
  have k345 : ∀ X, t_mo_nextToken_345 (nI (T p)) X = t_mo_nextToken_368 (nI (if T p = 45 ∨ (59 ≤ T p ∧ T p ≤ 61) then 3 else 4)) X := fun X => by
    unfold t_mo_nextToken_345 t_mo_nextToken_363 t_mo_nextToken_367
    by_cases e45 : T p = 45
    · rw [if_pos (show nI (T p) = (45 : Int32) from by rw [e45]; rfl), if_pos (Or.inl e45)]
      rfl
    · rw [if_neg (show ¬ nI (T p) = (45 : Int32) from z_ne (b := 45) (by omega) (by omega) e45)]
      by_cases e59 : T p < 59
      · rw [if_pos (show nI (T p) < (59 : Int32) from z_ylt (b := 59) (by omega) (by omega) e59), if_neg (by omega)]
        rfl
      · rw [if_neg (show ¬ nI (T p) < (59 : Int32) from z_nlt (b := 59) (by omega) (by omega) (by omega))]
        by_cases e61 : 61 < T p
        · rw [if_pos (show (61 : Int32) < nI (T p) from z_ylt (a := 61) (by omega) (by omega) e61), if_neg (by omega)]
          rfl
        · rw [if_neg (show ¬ (61 : Int32) < nI (T p) from z_nlt (a := 61) (by omega) (by omega) (by omega)), if_pos (by omega)]
          rfl
  by_cases e40 : T p < 40
  · refine key 4 ?_ (by decide) (by decide) ?_
    · rw [kd_ot hp l d, if_neg (by rw [isSg_iff]; omega)]
    · unfold t_mo_nextToken_322
      rw [if_pos (show nI (T p) < (40 : Int32) from z_ylt (b := 40) (by omega) (by omega) e40), k345, if_neg (by omega)]
  · by_cases e43 : T p ≤ 43
    · refine key 3 ?_ (by decide) (by decide) ?_
      · rw [kd_ot hp l d, if_pos (by rw [isSg_iff]; omega)]
      · unfold t_mo_nextToken_322
        rw [if_neg (show ¬ nI (T p) < (40 : Int32) from z_nlt (b := 40) (by omega) (by omega) (by omega)), if_pos (show nI (T p) ≤ (43 : Int32) from z_yle (b := 43) (by omega) (by omega) e43)]
        rfl
    · refine key (if T p = 45 ∨ (59 ≤ T p ∧ T p ≤ 61) then 3 else 4) ?_ (by split <;> decide) (by split <;> decide) ?_
      · rw [kd_ot hp l d]
        by_cases s : T p = 45 ∨ (59 ≤ T p ∧ T p ≤ 61)
        · rw [if_pos s, if_pos (by rw [isSg_iff]; omega)]
        · rw [if_neg s, if_neg (by rw [isSg_iff]; omega)]
      · unfold t_mo_nextToken_322
        rw [if_neg (show ¬ nI (T p) < (40 : Int32) from z_nlt (b := 40) (by omega) (by omega) (by omega)), if_neg (show ¬ nI (T p) ≤ (43 : Int32) from z_nle (b := 43) (by omega) (by omega) (by omega)), k345]
theorem m_t212 {T : Nat → Nat} {n p : Nat} {M : dM} (h : tpm T n M) (hp : p < n) (l : ¬ isLo (T p) = true) (a : atm n p M) : ∃ M', t_mo_nextToken_212 (nI (T p)) M = some M' ∧ tkm T n p M' ∧ chS kNt M M' := by
  have hT := h.2.1 p hp
  have hn := h.1
  unfold t_mo_nextToken_212
  by_cases e48 : T p < 48
  · rw [if_pos (show nI (T p) < (48 : Int32) from z_ylt (b := 48) (by omega) (by omega) e48)]
    exact m_t322 h hp l (by rw [isDg_iff]; omega) a
  · rw [if_neg (show ¬ nI (T p) < (48 : Int32) from z_nlt (b := 48) (by omega) (by omega) (by omega))]
    by_cases e57 : 57 < T p
    · rw [if_pos (show (57 : Int32) < nI (T p) from z_ylt (a := 57) (by omega) (by omega) e57)]
      exact m_t322 h hp l (by rw [isDg_iff]; omega) a
    · rw [if_neg (show ¬ (57 : Int32) < nI (T p) from z_nlt (a := 57) (by omega) (by omega) (by omega))]
      have d : isDg (T p) = true := by rw [isDg_iff]; omega
      obtain ⟨a0, a1, a2, a3, a4⟩ := a
      obtain ⟨M1, b1, b2, b3, b4⟩ := m_digits p 0 M h (by omega) a1 a2 (fun _ => a4)
      rw [Nat.add_zero] at b2 b3
      have hw := whl_ge isDg T n p (by omega)
      have h41 : gI M1 66 21 = nI p := by rw [b4.I 66 21 rfl]; exact a1
      unfold t_mo_nextToken_299 t_mo_nextToken_318
      rw [b1, Option.bind_some, b2, h41, z_sub hw.1]
      by_cases h8 : whl isDg T n p - p ≤ 4
      · rw [if_pos (show nI (whl isDg T n p - p) ≤ (4 : Int32) from z_yle (b := 4) (by omega) (by omega) h8)]
        refine ⟨_, rfl, m_fin (v := 2) a0 h41 (by rw [b2, nx_dg hp l d]) (by rw [kd_dg hp l d, if_pos h8]) (fun _ => ?_) (fun z => by cases z), (b4.mono (by decide)).sI 66 22 _ rfl⟩
        unfold nu
        rw [nx_dg hp l d]
        exact b3 h8
      · rw [if_neg (show ¬ nI (whl isDg T n p - p) ≤ (4 : Int32) from z_nle (b := 4) (by omega) (by omega) (by omega))]
        exact ⟨_, rfl, m_fin (v := 4) a0 h41 (by rw [b2, nx_dg hp l d]) (by rw [kd_dg hp l d, if_neg h8]) (fun z => by cases z) (fun z => by cases z), (b4.mono (by decide)).sI 66 22 _ rfl⟩
theorem m_t52 {T : Nat → Nat} {n p : Nat} {M : dM} (h : tpm T n M) (hp : p ≤ n) (h0 : gI M 66 20 = nI p) : ∃ M', t_mo_nextToken_52 M = some M' ∧ tkm T n p M' ∧ chS kNt M M' := by
  have hn := h.1
  unfold t_mo_nextToken_52
  have c0 : chS kNt M (sI (sJ (sI M 66 21 (gI M 66 20)) 66 23 0) 66 24 0) := (((chS.refl _ M).sI 66 21 _ rfl).sJ 66 23 _ rfl).sI 66 24 _ rfl
  have e0 : gI (sI (sJ (sI M 66 21 (gI M 66 20)) 66 23 0) 66 24 0) 66 20 = nI p := by rw [gI_sI, if_neg (by omega), gI_sJ, gI_sI, if_neg (by omega)]; exact h0
  have ea : atm n p (sI (sJ (sI M 66 21 (gI M 66 20)) 66 23 0) 66 24 0) := by
    refine ⟨hp, ?_, e0, ?_, ?_⟩
    · rw [gI_sI, if_neg (by omega), gI_sJ, gI_sI, if_pos ⟨rfl, rfl⟩]; exact h0
    · rw [gJ_sI, gJ_sJ, if_pos ⟨rfl, rfl⟩]; rfl
    · rw [gI_sI, if_pos ⟨rfl, rfl⟩]; rfl
  generalize sI (sJ (sI M 66 21 (gI M 66 20)) 66 23 0) 66 24 0 = X at c0 e0 ea ⊢
  have hX := tpm_ch h c0 rfl
  rw [e0, hX.2.2.1]
  by_cases hpn : p < n
  · have hT := h.2.1 p hpn
    rw [if_neg (z_ne (by omega) (by omega) (by omega)), z_gd (z_in (n := p) (by omega) (by omega)), z_cl (n := p) (by omega), hX.2.2.2 p hpn]
    by_cases a : T p < 97
    · rw [if_pos (show nI (T p) < (97 : Int32) from z_ylt (b := 97) (by omega) (by omega) a)]
      obtain ⟨M', a1, a2, a3⟩ := m_t212 hX hpn (by rw [isLo_iff]; omega) ea
      exact ⟨M', a1, a2, c0.trans a3⟩
    · rw [if_neg (show ¬ nI (T p) < (97 : Int32) from z_nlt (b := 97) (by omega) (by omega) (by omega))]
      by_cases b : 122 < T p
      · rw [if_pos (show (122 : Int32) < nI (T p) from z_ylt (a := 122) (by omega) (by omega) b)]
        obtain ⟨M', a1, a2, a3⟩ := m_t212 hX hpn (by rw [isLo_iff]; omega) ea
        exact ⟨M', a1, a2, c0.trans a3⟩
      · rw [if_neg (show ¬ (122 : Int32) < nI (T p) from z_nlt (a := 122) (by omega) (by omega) (by omega))]
        have l : isLo (T p) = true := by rw [isLo_iff]; omega
        obtain ⟨a0, a1, a2, a3, a4⟩ := ea
        obtain ⟨M1, b1, b2, b3, b4⟩ := m_letters p 0 X hX (by omega) a1 a2 (fun _ => a3)
        rw [Nat.add_zero] at b2 b3
        have hw := whl_ge isLo T n p (by omega)
        have h41 : gI M1 66 21 = nI p := by rw [b4.I 66 21 rfl]; exact a1
        unfold t_mo_nextToken_188 t_mo_nextToken_208
        rw [b1, Option.bind_some, b2, h41, z_sub hw.1]
        by_cases h8 : whl isLo T n p - p ≤ 8
        · rw [if_pos (show nI (whl isLo T n p - p) ≤ (8 : Int32) from z_yle (b := 8) (by omega) (by omega) h8)]
          refine ⟨_, rfl, m_fin (v := 1) a0 h41 (by rw [b2, nx_lo hpn l]) (by rw [kd_lo hpn l, if_pos h8]) (fun z => by cases z) (fun _ => ?_), c0.trans ((b4.mono (by decide)).sI 66 22 _ rfl)⟩
          unfold wv
          rw [nx_lo hpn l]
          exact b3 h8
        · rw [if_neg (show ¬ nI (whl isLo T n p - p) ≤ (8 : Int32) from z_nle (b := 8) (by omega) (by omega) (by omega))]
          exact ⟨_, rfl, m_fin (v := 4) a0 h41 (by rw [b2, nx_lo hpn l]) (by rw [kd_lo hpn l, if_neg h8]) (fun z => by cases z) (fun z => by cases z), c0.trans ((b4.mono (by decide)).sI 66 22 _ rfl)⟩
  · have epn : p = n := by omega
    rw [if_pos (by rw [epn])]
    exact ⟨_, rfl, m_fin (v := 0) hp ea.2.1 (by rw [e0, nx_en hpn]) (kd_en hpn) (fun z => by cases z) (fun z => by cases z), c0.sI 66 22 _ rfl⟩
/-- the reference's next token -/
theorem m_next {T : Nat → Nat} {n q : Nat} {M : dM} (h : tpm T n M) (hq : q ≤ n) (h0 : gI M 66 20 = nI q) : ∃ M', f_mo_nextToken M = some M' ∧ tkm T n (sk T n q) M' ∧ chS kNt M M' := by
  obtain ⟨M1, a1, a2, a3⟩ := m_skip q M h hq h0
  unfold f_mo_nextToken
  rw [a1, Option.bind_some]
  obtain ⟨M2, b1, b2, b3⟩ := m_t52 (tpm_ch h a3 rfl) (whl_ge isWs T n q hq).2 a2
  exact ⟨M2, b1, b2, (a3.mono (by decide)).trans b3⟩
