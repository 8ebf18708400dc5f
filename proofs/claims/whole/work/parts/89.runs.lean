/-! ===== worlds: the reference runs a world ===== -/
def kRm : List Nat := kDm
theorem runH_lo {A : sA} {Q : sQ} {i : Nat} {X : wX} : ∀ k, k ≤ A 72 i → runH A Q i X k = X
  | 0, _ => rfl
  | k + 1, h => by
    rw [runH_s, if_neg (by rw [Bool.and_eq_true, decide_eq_true_iff, decide_eq_true_iff]; omega)]
    exact runH_lo k (by omega)
theorem runH_hi {A : sA} {Q : sQ} {i : Nat} {X : wX} : ∀ d k, A 73 i < k → runH A Q i X (k + d) = runH A Q i X k
  | 0, _, _ => rfl
  | d + 1, k, h => by
    have ih := runH_hi (A := A) (Q := Q) (i := i) (X := X) d k h
    show runH A Q i X (k + d + 1) = _
    rw [runH_s, if_neg (by rw [Bool.and_eq_true, decide_eq_true_iff, decide_eq_true_iff]; omega)]
    exact ih
theorem m_49 {A : sA} {Q : sQ} {v : Nat → Nat} {X : wX} (w : wfA A) (wq : wQ Q v) (hX : wfX A X) {i : Nat} (hi : i < A 66 3) (hn : X.2.1 ≤ 1896) : ∀ (m k : Nat) (M : dM), k + m = A 73 i + 1 → A 72 i ≤ k → rmA A M → rmW Q v M → rmX (runH A Q i X k) M → ∃ M', l_mo_runs_49 (nI i) (nI k) M = some M' ∧ rmX (runH A Q i X 24) M' ∧ chS kRm M M' := by
  have hL := w.1.1
  obtain ⟨p1, p2, p3, p4, p5⟩ := w.1.2 i hi
  intro m
  induction m with
  | zero =>
    intro k M hk hk2 rm mw rx
    have e : k = A 73 i + 1 := by omega
    subst e
    have hh : runH A Q i X 24 = runH A Q i X (A 73 i + 1) := by
      have := runH_hi (A := A) (Q := Q) (i := i) (X := X) (24 - (A 73 i + 1)) (A 73 i + 1) (by omega)
      rw [show A 73 i + 1 + (24 - (A 73 i + 1)) = 24 by omega] at this
      exact this
    refine ⟨M, ?_, by rw [hh]; exact rx, chS.refl _ _⟩
    unfold l_mo_runs_49
    refine lpc_out ?_
    show b_mo_runs_49_49 (nI i) (nI (A 73 i + 1)) M = _
    unfold b_mo_runs_49_49
    rw [z_gd (z_in (n := i) (by omega) (by omega)), z_cl (n := i) (by omega), (rm.1.2 i hi).2.2.2.2, if_pos (z_ylt (by omega) (by omega) (by omega))]
  | succ m ih =>
    intro k M hk hk2 rm mw rx
    have hrun : runH A Q i X (k + 1) = stX A Q i k (runH A Q i X k) := by rw [runH_s, if_pos (by rw [Bool.and_eq_true, decide_eq_true_iff, decide_eq_true_iff]; omega)]
    have hwf := runH_wf (Q := Q) w hX hi k
    have hn2 := runH_n A Q i X k
    generalize runH A Q i X k = Y at rx hrun hwf hn2
    obtain ⟨M1, a1, a2, a3⟩ := m_bury (h := k) w rm hwf.1 rx.1 hi (by omega)
    have rm1 := (srmA A).use rm a3 (by decide +kernel)
    have mw1 : rmW Q v M1 := rmW_w mw a3 (by decide)
    obtain ⟨M2, b1, b2, b3⟩ := m_dig (X := (ptW A i k Y.1, Y.2)) w rm1 wq mw1 ⟨ptW_wf w.1 hwf.1 hi k, hwf.2⟩ ⟨a2, rmU_ch rx.2 a3 (by decide)⟩ hi (show k < 24 by omega) hk2 (show k ≤ A 73 i by omega) (show Y.2.1 < 1920 by omega)
    have c12 : chS kRm M M2 := (a3.mono (by decide)).trans b3
    obtain ⟨M', f1, f2, f3⟩ := ih (k + 1) M2 (by omega) (by omega) ((srmA A).use rm c12 (by decide +kernel)) (rmW_w mw c12 (by decide)) (by rw [hrun]; exact b2)
    refine ⟨M', ?_, f2, c12.trans f3⟩
    unfold l_mo_runs_49 at f1 ⊢
    refine lpc_step (s' := (nI (k + 1), M2)) ?_ f1
    show b_mo_runs_49_49 (nI i) (nI k) M = _
    unfold b_mo_runs_49_49
    rw [z_gd (z_in (n := i) (by omega) (by omega)), z_cl (n := i) (by omega), (rm.1.2 i hi).2.2.2.2, if_neg (z_nlt (by omega) (by omega) (by omega)), a1, Option.bind_some, b1, Option.bind_some, show nI k + 1 = nI (k + 1) from z_add k 1]
theorem m_34r {A : sA} {Q : sQ} {v : Nat → Nat} {s : Nat} (w : wfA A) (wq : wQ Q v) (hs : s < 2147483648) : ∀ (m k : Nat) (M : dM), k + m = A 66 3 → rmA A M → rmW Q v M → rmX (runL A Q s k) M → ∃ M', l_mo_runs_34 (nI k) M = some M' ∧ rmX (uX A Q s) M' ∧ chS kRm M M' := by
  have hL := w.1.1
  intro m
  induction m with
  | zero =>
    intro k M hk rm mw rx
    have e : k = A 66 3 := by omega
    subst e
    refine ⟨M, ?_, rx, chS.refl _ _⟩
    unfold l_mo_runs_34
    refine lpc_out ?_
    show b_mo_runs_34_34 (nI (A 66 3)) M = _
    unfold b_mo_runs_34_34
    rw [rm.1.1, if_pos (z_yle (by omega) (by omega) (Nat.le_refl _))]
  | succ m ih =>
    intro k M hk rm mw rx
    have hn := runL_n A Q s k
    obtain ⟨p1, p2, p3, p4, p5⟩ := w.1.2 k (by omega)
    obtain ⟨M1, a1, a2, a3⟩ := m_49 (i := k) (X := runL A Q s k) w wq (runL_wf w hs k (by omega)) (by omega) (by omega) (A 73 k + 1 - A 72 k) (A 72 k) M (by omega) (Nat.le_refl _) rm mw (by rw [runH_lo _ (Nat.le_refl _)]; exact rx)
    obtain ⟨M', f1, f2, f3⟩ := ih (k + 1) M1 (by omega) ((srmA A).use rm a3 (by decide +kernel)) (rmW_w mw a3 (by decide)) a2
    refine ⟨M', ?_, f2, a3.trans f3⟩
    unfold l_mo_runs_34 at f1 ⊢
    refine lpc_step (s' := (nI (k + 1), M1)) ?_ f1
    show b_mo_runs_34_34 (nI k) M = _
    unfold b_mo_runs_34_34
    rw [rm.1.1, if_neg (z_nle (by omega) (by omega) (by omega)), z_gd (z_in (n := k) (by omega) (by omega)), z_cl (n := k) (by omega), (rm.1.2 k (by omega)).2.2.2.1, a1, Option.bind_some, show nI k + 1 = nI (k + 1) from z_add k 1]
theorem m_hid13 : ∀ (m k : Nat) (M : dM), k + m = 8 → ∃ M', l_mo_runs_13 (nI k) M = some M' ∧ (∀ j, k ≤ j → j < 8 → gI M' 121 j = 0) ∧ (∀ j, j < k → gI M' 121 j = gI M 121 j) ∧ chS [121] M M' := by
  intro m
  induction m with
  | zero =>
    intro k M hk
    refine ⟨M, ?_, fun j h1 h2 => by omega, fun _ _ => rfl, chS.refl _ _⟩
    unfold l_mo_runs_13
    refine lpc_out ?_
    show b_mo_runs_13_13 (nI k) M = _
    unfold b_mo_runs_13_13
    rw [if_pos (show (8 : Int32) ≤ nI k from z_yle (a := 8) (by omega) (by omega) (by omega))]
  | succ m ih =>
    intro k M hk
    have c : chS [121] M (sI M 121 k 0) := chS_sI M 121 _ _ rfl
    obtain ⟨M', a1, a2, a3, a4⟩ := ih (k + 1) (sI M 121 k 0) (by omega)
    refine ⟨M', ?_, fun j h1 h2 => ?_, fun j hj => ?_, c.trans a4⟩
    · unfold l_mo_runs_13 at a1 ⊢
      refine lpc_step (s' := (nI (k + 1), sI M 121 k 0)) ?_ a1
      show b_mo_runs_13_13 (nI k) M = _
      unfold b_mo_runs_13_13
      rw [if_neg (show ¬ (8 : Int32) ≤ nI k from z_nle (a := 8) (by omega) (by omega) (by omega)), z_gd (z_in (n := k) (by omega) (by omega)), z_cl (n := k) (by omega), show nI k + 1 = nI (k + 1) from z_add k 1]
    · by_cases e : j = k
      · rw [e, a3 _ (by omega), gI_sI, if_pos ⟨rfl, rfl⟩]
      · exact a2 j (by omega) h2
    · rw [a3 j (by omega), gI_sI, if_neg (by omega)]
theorem m_runs {A : sA} {Q : sQ} {v : Nat → Nat} {M : dM} (w : wfA A) (rm : rmA A M) (wq : wQ Q v) (mw : rmW Q v M) {s : Nat} (hs : s < 10000) : ∃ M', f_mo_runs (nI s) M = some M' ∧ rmX (uX A Q s) M' ∧ chS kRm M M' := by
  have k2 : chS [7685, 7688] M (sI (sJ M 66 85 (nI s).toInt64) 66 88 0) := (chS_sJ M 66 85 _ rfl).sI 66 88 _ rfl
  have s2 : gJ (sI (sJ M 66 85 (nI s).toInt64) 66 88 0) 66 85 = lN s := by
    show gJ (sJ M 66 85 (nI s).toInt64) 66 85 = _
    rw [gJ_sJ, if_pos ⟨rfl, rfl⟩, z_i2l (by omega)]
  have t2 : gI (sI (sJ M 66 85 (nI s).toInt64) 66 88 0) 66 88 = 0 := by rw [gI_sI, if_pos ⟨rfl, rfl⟩]
  generalize hM2 : sI (sJ M 66 85 (nI s).toInt64) 66 88 0 = M2 at k2 s2 t2
  obtain ⟨M3, b1, b2, b3, b4⟩ := m_hid13 8 0 M2 rfl
  have b1' : l_mo_runs_13 0 M2 = some M3 := b1
  have k3 : chS kRm M M3 := (k2.mono (by decide)).trans (b4.mono (by decide))
  have rx3 : rmX (runL A Q s 0) M3 := by
    refine ⟨⟨?_, fun x hx => ⟨?_, fun j hj => absurd hj (Nat.not_lt_zero _)⟩⟩, ?_, fun k hk => absurd hk (Nat.not_lt_zero _)⟩
    · rw [b4.J 66 85 rfl, s2]
      rfl
    · rw [b2 x (Nat.zero_le _) hx]
      rfl
    · rw [b4.I 66 88 rfl, t2]
      rfl
  obtain ⟨M4, g1, g2, g3⟩ := m_34r (s := s) w wq (by omega) (A 66 3) 0 M3 (Nat.zero_add _) ((srmA A).use rm k3 (by decide +kernel)) (rmW_w mw k3 (by decide)) rx3
  have g1' : l_mo_runs_34 0 M3 = some M4 := g1
  refine ⟨M4, ?_, g2, k3.trans g3⟩
  unfold f_mo_runs
  rw [hM2, b1', Option.bind_some, g1']
  rfl
