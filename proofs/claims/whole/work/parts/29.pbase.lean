/-! ===== reading an E: both sides at a token ===== -/
def np (T : Nat → Nat) (n p : Nat) : Nat := sk T n (nx T n p)
theorem np_gt {T : Nat → Nat} {n p : Nat} (h : p < n) : p < np T n p ∧ np T n p ≤ n := by
  have h1 := nx_gt (T := T) h
  have h2 := whl_ge isWs T n (nx T n p) h1.2
  unfold np sk
  omega
def kP : List Nat := [4203, 4204, 4205, 4206, 4207, 35, 4401]
def pcs (T : Nat → Nat) (n e s p : Nat) (M : dM) : Prop := tpc T n M ∧ tkc T n p M ∧ M.2.2 = e ∧ gI M 34 1 = nI s
theorem tkc_ch {T : Nat → Nat} {n p : Nat} {S : List Nat} {M M' : dM} (h : tkc T n p M) (c : chS S M M') (hd : disj kTk S = true) : tkc T n p M' := by
  have : supp kTk (tkc T n p) := by
    intro M M' e _ ⟨h0, h1, h2, h3, h4⟩
    refine ⟨h0, ?_, ?_, ?_, fun z => ?_⟩
    · rw [(e 32 4 rfl).1]; exact h1
    · rw [(e 32 5 rfl).1]; exact h2
    · rw [(e 32 3 rfl).1]; exact h3
    · rw [(e 32 6 rfl).1]; exact h4 z
  exact this.use h c hd
theorem c_add {T : Nat → Nat} {n e s p v : Nat} {M : dM} (h : pcs T n e s p M) (hs : s < 1000) : ∃ M', f_la_addStep (nI v) M = some M' ∧ pcs T n e (s + 1) p M' ∧ gI M' 35 s = nI v ∧ (∀ j, j < s → gI M' 35 j = gI M 35 j) ∧ chS [35, 4401] M M' := by
  obtain ⟨h1, h2, h3, h4⟩ := h
  unfold f_la_addStep
  rw [h4, if_neg (show ¬ (1000 : Int32) ≤ nI s from z_nle (a := 1000) (by omega) (by omega) hs), z_gd (z_in (n := s) (by omega) (by omega)), z_cl (n := s) (by omega)]
  have e1 : gI (sI M 35 s (nI v)) 34 1 + 1 = nI (s + 1) := by
    rw [gI_sI, if_neg (by omega), h4]
    exact z_add s 1
  rw [e1]
  have c : chS [35, 4401] M (sI (sI M 35 s (nI v)) 34 1 (nI (s + 1))) := ((chS.refl _ M).sI 35 _ _ rfl).sI 34 1 _ rfl
  refine ⟨_, rfl, ⟨tpc_ch h1 c (by decide), tkc_ch h2 c (by decide), h3, ?_⟩, ?_, fun j hj => ?_, c⟩
  · rw [gI_sI, if_pos ⟨rfl, rfl⟩]
  · rw [gI_sI, if_neg (by omega), gI_sI, if_pos ⟨rfl, rfl⟩]
  · rw [gI_sI, if_neg (by omega), gI_sI, if_neg (by omega)]
theorem c_adv {T : Nat → Nat} {n e s p : Nat} {M : dM} (h : pcs T n e s p M) : ∃ M', f_re_advance M = some M' ∧ pcs T n e s (np T n p) M' ∧ chS kTk M M' := by
  obtain ⟨h1, h2, h3, h4⟩ := h
  obtain ⟨M', a1, a2, a3⟩ := c_advance h1 (nx_le h2.1).2 h2.2.2.1
  exact ⟨M', a1, ⟨tpc_ch h1 a3 (by decide), a2, a3.2.trans h3, by rw [a3.I 34 1 rfl]; exact h4⟩, a3⟩
theorem c_wrong {T : Nat → Nat} {n e s p k : Nat} {M : dM} (h : pcs T n e s p M) : (f_re_wrong (nI k) M).1 = false ∧ gI (f_re_wrong (nI k) M).2 32 7 = nI (k + 16 * p) ∧ chS [4207] M (f_re_wrong (nI k) M).2 := by
  refine ⟨rfl, ?_, (chS.refl _ M).sI 32 7 _ rfl⟩
  unfold f_re_wrong
  rw [gI_sI, if_pos ⟨rfl, rfl⟩, h.2.1.2.1]
  show nI k + nI 16 * nI p = _
  rw [z_mul, z_add]
/-! the reference at a token -/
def kR : List Nat := [7620, 7621, 7622, 7623, 7624, 7625, 7637, 88, 89, 90]
def rst (T : Nat → Nat) (n e q p : Nat) (M : dM) : Prop := tpm T n M ∧ tkm T n p M ∧ gI M 66 38 = nI e ∧ gI M 66 37 = nI (1000 + q)
def rfr (q d : Nat) (M M' : dM) : Prop := chS kR M M' ∧ (∀ j, j < 1000 + q → gI M' 88 j = gI M 88 j) ∧ (∀ j, j ≤ d → gI M' 89 j = gI M 89 j) ∧ ∀ j, j < d → gI M' 90 j = gI M 90 j
theorem rfr.refl (q d : Nat) (M : dM) : rfr q d M M := ⟨chS.refl _ M, fun _ _ => rfl, fun _ _ => rfl, fun _ _ => rfl⟩
theorem rfr.trans {q q' d : Nat} {M M' M'' : dM} (h : rfr q d M M') (h' : rfr q' d M' M'') (hq : q ≤ q') : rfr q d M M'' :=
  ⟨h.1.trans h'.1, fun j hj => (h'.2.1 j (by omega)).trans (h.2.1 j hj), fun j hj => (h'.2.2.1 j hj).trans (h.2.2.1 j hj), fun j hj => (h'.2.2.2 j hj).trans (h.2.2.2 j hj)⟩
theorem rfr.down {q d d' : Nat} {M M' : dM} (h : rfr q d M M') (hd : d' ≤ d) : rfr q d' M M' :=
  ⟨h.1, h.2.1, fun j hj => h.2.2.1 j (by omega), fun j hj => h.2.2.2 j (by omega)⟩
theorem tkm_ch {T : Nat → Nat} {n p : Nat} {S : List Nat} {M M' : dM} (h : tkm T n p M) (c : chS S M M') (hd : disj kNt S = true) : tkm T n p M' := by
  have : supp kNt (tkm T n p) := by
    intro M M' e _ ⟨h0, h1, h2, h3, h4, h5⟩
    refine ⟨h0, ?_, ?_, ?_, fun z => ?_, fun z => ?_⟩
    · rw [(e 66 21 rfl).1]; exact h1
    · rw [(e 66 20 rfl).1]; exact h2
    · rw [(e 66 22 rfl).1]; exact h3
    · rw [(e 66 24 rfl).1]; exact h4 z
    · rw [(e 66 23 rfl).2]; exact h5 z
  exact this.use h c hd
theorem m_put {q v : Nat} {M : dM} (h : gI M 66 37 = nI (1000 + q)) (hq : q < 1000) : f_mo_puts (nI v) M = some (sI (sI M 88 (1000 + q) (nI v)) 66 37 (nI (1000 + (q + 1)))) := by
  unfold f_mo_puts
  have e1 : gI (sI M 88 (1000 + q) (nI v)) 66 37 + 1 = nI (1000 + (q + 1)) := by
    rw [gI_sI, if_neg (by omega), h]
    exact z_add (1000 + q) 1
  rw [h, z_gd (z_in (n := 1000 + q) (by omega) (by omega)), z_cl (n := 1000 + q) (by omega), e1]
/-- a code is put, some cells of the levels are set, the next token is read -/
theorem m_step {T : Nat → Nat} {n e q p v : Nat} {M M1 : dM} (h : rst T n e q p M) (hM1 : M1 = sI (sI M 88 (1000 + q) (nI v)) 66 37 (nI (1000 + (q + 1)))) {M2 : dM} (c : chS [89, 90] M1 M2) : ∃ M', f_mo_nextToken M2 = some M' ∧ rst T n e (q + 1) (np T n p) M' ∧ hold M' 88 (1000 + q) [v] ∧ chS kR M M' ∧ (∀ j, j < 1000 + q → gI M' 88 j = gI M 88 j) ∧ (∀ j, gI M' 89 j = gI M2 89 j) ∧ (∀ j, gI M' 90 j = gI M2 90 j) := by
  obtain ⟨h1, h2, h3, h4⟩ := h
  have c1 : chS [88, 7637] M M1 := by rw [hM1]; exact ((chS.refl _ M).sI 88 _ _ rfl).sI 66 37 _ rfl
  have c2 : chS [88, 7637, 89, 90] M M2 := (c1.mono (by decide)).trans (c.mono (by decide))
  obtain ⟨M', a1, a2, a3⟩ := m_next (T := T) (n := n) (tpm_ch h1 c2 (by decide)) (nx_le h2.1).2 (by rw [c2.I 66 20 rfl]; exact h2.2.2.1)
  refine ⟨M', a1, ⟨tpm_ch (tpm_ch h1 c2 (by decide)) a3 (by decide), a2, ?_, ?_⟩, ?_, (c2.mono (by decide)).trans (a3.mono (by decide)), fun j hj => ?_, fun j => a3.I 89 j rfl, fun j => a3.I 90 j rfl⟩
  · rw [a3.I 66 38 rfl, c2.I 66 38 rfl]; exact h3
  · rw [a3.I 66 37 rfl, c.I 66 37 rfl, hM1, gI_sI, if_pos ⟨rfl, rfl⟩]
  · rw [hold_one, a3.I 88 _ rfl, c.I 88 _ rfl, hM1, gI_sI, if_neg (by omega), gI_sI, if_pos ⟨rfl, rfl⟩]
  · rw [a3.I 88 j rfl, c.I 88 j rfl, hM1, gI_sI, if_neg (by omega), gI_sI, if_neg (by omega)]
noncomputable def bR : Int32 × Int32 × dM → Option ((Int32 × Int32 × dM) ⊕ ((Int32 × dM) ⊕ (Bool × dM))) := fun s => b_mo_reads_11_11 s.1 s.2.1 s.2.2
noncomputable def mE (s : Int32 × Int32 × dM) : Option (Bool × dM) := (lpc bR s).bind (Sum.elim (fun t => t_mo_reads_399 t.1 t.2) some)
theorem mE_comes {s s' : Int32 × Int32 × dM} {y : Bool × dM} (h : comes bR s s') (h' : mE s' = some y) : mE s = some y := by
  unfold mE at h' ⊢
  cases hx : lpc bR s' with
  | none => rw [hx] at h'; cases h'
  | some x =>
    rw [hx] at h'
    rw [h x hx]
    exact h'
theorem mE_out {s : Int32 × Int32 × dM} {b : Bool} {M : dM} (h : bR s = some (.inr (.inr (b, M)))) : mE s = some (b, M) := by
  unfold mE
  rw [lpc_out h]
  rfl
theorem mE_end {s : Int32 × Int32 × dM} {x : Int32} {M : dM} (h : bR s = some (.inr (.inl (x, M)))) : mE s = t_mo_reads_399 x M := by
  unfold mE
  rw [lpc_out h]
  rfl
/-- nots above d are closed -/
def pq (M : dM) : Nat → Nat
  | 0 => 0
  | d + 1 => if gI M 89 (d + 1) = nI 1 then pq M d else d + 1
theorem pq_le (M : dM) : ∀ d, pq M d ≤ d
  | 0 => Nat.le_refl 0
  | d + 1 => by
    show (if gI M 89 (d + 1) = nI 1 then pq M d else d + 1) ≤ d + 1
    have := pq_le M d
    split <;> omega
theorem pq_congr {M M' : dM} : ∀ d, (∀ j, j ≤ d → gI M' 89 j = gI M 89 j) → pq M' d = pq M d
  | 0, _ => rfl
  | d + 1, h => by
    show (if gI M' 89 (d + 1) = nI 1 then pq M' d else d + 1) = (if gI M 89 (d + 1) = nI 1 then pq M d else d + 1)
    rw [h (d + 1) (Nat.le_refl _), pq_congr d (fun j hj => h j (by omega))]
theorem m_152 (M : dM) (x : Int32) : ∀ d, d < 7 → l_mo_reads_152 (nI d) x M = some (nI (pq M d))
  | 0, _ => by
    unfold l_mo_reads_152
    refine lpc_out ?_
    show b_mo_reads_152_152 (nI 0) x M = _
    unfold b_mo_reads_152_152
    rw [if_pos (by decide)]
    rfl
  | d + 1, hd => by
    have ih := m_152 M x d (by omega)
    have hb : b_mo_reads_152_152 (nI (d + 1)) x M = if gI M 89 (d + 1) = nI 1 then some (.inl (nI d)) else some (.inr (nI (d + 1))) := by
      unfold b_mo_reads_152_152
      rw [if_neg (show ¬ nI (d + 1) ≤ (0 : Int32) from z_nle (b := 0) (by omega) (by omega) (by omega)), z_gd (z_in (n := d + 1) (by omega) (by omega)), z_cl (n := d + 1) (by omega), show nI (d + 1) + -1 = nI d from pk_m1 d]
      rfl
    unfold l_mo_reads_152
    show lpc _ _ = some (nI (if gI M 89 (d + 1) = nI 1 then pq M d else d + 1))
    by_cases h : gI M 89 (d + 1) = nI 1
    · rw [if_pos h] at hb ⊢
      exact lpc_step (s' := nI d) hb ih
    · rw [if_neg h] at hb ⊢
      exact lpc_out hb
theorem m_379 (M : dM) (x : Int32) : ∀ d, d < 7 → l_mo_reads_379 (nI d) x M = some (nI (pq M d))
  | 0, _ => by
    unfold l_mo_reads_379
    refine lpc_out ?_
    show b_mo_reads_379_379 (nI 0) x M = _
    unfold b_mo_reads_379_379
    rw [if_pos (by decide)]
    rfl
  | d + 1, hd => by
    have ih := m_379 M x d (by omega)
    have hb : b_mo_reads_379_379 (nI (d + 1)) x M = if gI M 89 (d + 1) = nI 1 then some (.inl (nI d)) else some (.inr (nI (d + 1))) := by
      unfold b_mo_reads_379_379
      rw [if_neg (show ¬ nI (d + 1) ≤ (0 : Int32) from z_nle (b := 0) (by omega) (by omega) (by omega)), z_gd (z_in (n := d + 1) (by omega) (by omega)), z_cl (n := d + 1) (by omega), show nI (d + 1) + -1 = nI d from pk_m1 d]
      rfl
    unfold l_mo_reads_379
    show lpc _ _ = some (nI (if gI M 89 (d + 1) = nI 1 then pq M d else d + 1))
    by_cases h : gI M 89 (d + 1) = nI 1
    · rw [if_pos h] at hb ⊢
      exact lpc_step (s' := nI d) hb ih
    · rw [if_neg h] at hb ⊢
      exact lpc_out hb
