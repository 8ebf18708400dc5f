/-! ===== row and odds ===== -/
noncomputable def soB (A : sA) (Q : sQ) (v : Nat → Nat) (s f : Nat) : Bool := if s = 0 then decide (0 < fc A (v 3) f 14) else if s = 1 then decide (0 < fc A (v 3) f 12) else decide (eaF A Q (v 3) f ≠ 0)
noncomputable def whA (A : sA) (x : Int32) (f : Nat) : Bool := decide (x = -1) || whB A x f
theorem fc14 (A : sA) (far f : Nat) : fc A far f 14 ≤ A 77 f := by
  show fb_ct _ (A 77 f) ≤ A 77 f
  exact fb_ct_le _ _
theorem fc12 (A : sA) (far f : Nat) : fc A far f 12 ≤ 1 := by
  show fiF A f ≤ 1
  unfold fiF
  split <;> decide
theorem c_findsOf {A : sA} {M : dM} (w : wfA A) (rc : rcA A M) (x : Int32) : f_ju_findsOf x M = some (nI (fb_ct (whA A x) (A 66 9))) := by
  have hn := w.2.2.1.1
  unfold f_ju_findsOf
  have e0 : l_ju_findsOf_4 x 0 0 M = some (nI (fb_ct (whA A x) (A 66 9))) := by
    unfold l_ju_findsOf_4
    refine lpc_seq (body := fun s : Int32 × Int32 => b_ju_findsOf_4_4 x s.1 s.2 M) (fun k => (nI (fb_ct (whA A x) k), nI k)) (A 66 9) ?_ ?_
    · intro k hk
      obtain ⟨e1, e2, e3, e4, e5, e6, e7⟩ := rc.2.2.1.2 k hk
      show b_ju_findsOf_4_4 x (nI (fb_ct (whA A x) k)) (nI k) M = some (.inl (nI (fb_ct (whA A x) (k + 1)), nI (k + 1)))
      unfold b_ju_findsOf_4_4
      rw [rc.2.2.1.1, if_neg (z_nle (by omega) (by omega) hk), show nI k + 1 = nI (k + 1) from z_add k 1, show nI (fb_ct (whA A x) k) + 1 = nI (fb_ct (whA A x) k + 1) from z_add _ 1, fb_ct_succ]
      by_cases c : x = -1
      · rw [if_pos c, if_pos (by unfold whA; rw [decide_eq_true c]; rfl)]
      · rw [if_neg c, z_gd (z_in (n := k) (by omega) (by omega)), z_cl (n := k) (by omega), e5]
        by_cases c2 : nI (A 78 k) = x
        · rw [if_pos c2, if_pos (by unfold whA whB; rw [decide_eq_true c2, Bool.or_true])]
        · rw [if_neg c2, if_neg (by unfold whA whB; rw [decide_eq_false c, decide_eq_false c2]; exact Bool.false_ne_true)]; rfl
    · show b_ju_findsOf_4_4 x (nI (fb_ct (whA A x) (A 66 9))) (nI (A 66 9)) M = _
      unfold b_ju_findsOf_4_4
      rw [rc.2.2.1.1, if_pos (z_yle (by omega) (by omega) (Nat.le_refl _))]
  rw [e0]; rfl
theorem c_isOfSort {A : sA} {Q : sQ} {v : Nat → Nat} {M : dM} (w : wfA A) (j : rcJ A Q (v 3) M) {f s : Nat} (hf : f < A 66 9) (hs : s < 3) : f_ju_isOfSort (nI f) (nI s) M = some (soB A Q v s f) := by
  have hn := w.2.2.1.1
  obtain ⟨j1, j2, j3⟩ := j f hf
  have hj : eaF A Q (v 3) f < 3 := jdg_lt Q _
  have q4 := (w.2.2.1.2.1 f hf).2.2.2.1
  have f14 := fc14 A (v 3) f
  have f12 := fc12 A (v 3) f
  have go : ∀ k, k < 17 → fc A (v 3) f k < 100 → t_ju_isOfSort_39 (nI f * 17) (nI k) M = some (decide (0 < fc A (v 3) f k)) := fun k hk hb => by
    unfold t_ju_isOfSort_39
    have em : nI f * 17 + nI k = nI (f * 17 + k) := by rw [show (17 : Int32) = nI 17 from rfl, z_mul, z_add]
    rw [em, z_gd (z_in (n := f * 17 + k) (by omega) (by omega)), z_cl (n := f * 17 + k) (by omega), j1 k hk]
    by_cases c : fc A (v 3) f k = 0
    · rw [if_pos (show nI _ ≤ (0 : Int32) from z_yle (b := 0) (by omega) (by decide) (by omega)), c]; rfl
    · rw [if_neg (show ¬ nI _ ≤ (0 : Int32) from z_nle (b := 0) (by omega) (by decide) (by omega)), decide_eq_true (by omega)]
  unfold f_ju_isOfSort soB
  by_cases s2 : s = 2
  · subst s2
    rw [if_pos (show nI 2 = (2 : Int32) from rfl), z_gd (z_in (n := f) (by omega) (by omega)), z_cl (n := f) (by omega), j2, if_neg (by decide), if_neg (by decide)]
    by_cases c : eaF A Q (v 3) f = 0
    · rw [if_pos (show nI _ = (0 : Int32) from by rw [c]; rfl), c]; rfl
    · rw [if_neg (show ¬ nI _ = (0 : Int32) from z_ne (b := 0) (by omega) (by decide) c), decide_eq_true c]
  · rw [if_neg (show ¬ nI s = (2 : Int32) from z_ne (b := 2) (by omega) (by decide) s2)]
    by_cases s0 : s = 0
    · subst s0
      rw [if_pos (show nI 0 = (0 : Int32) from rfl), if_pos rfl]
      exact go 14 (by decide) (by omega)
    · have s1 : s = 1 := by omega
      subst s1
      rw [if_neg (show ¬ nI 1 = (0 : Int32) from by decide), if_neg (by decide), if_pos rfl]
      exact go 12 (by decide) (by omega)
theorem c_findsOfSort {A : sA} {Q : sQ} {v : Nat → Nat} {M : dM} (w : wfA A) (rc : rcA A M) (j : rcJ A Q (v 3) M) (x : Int32) {s : Nat} (hs : s < 3) : f_ju_findsOfSort x (nI s) M = some (nI (fb_ct (fun f => whA A x f && soB A Q v s f) (A 66 9))) := by
  have hn := w.2.2.1.1
  unfold f_ju_findsOfSort
  have e0 : l_ju_findsOfSort_5 x (nI s) 0 0 M = some (nI (fb_ct (fun f => whA A x f && soB A Q v s f) (A 66 9))) := by
    unfold l_ju_findsOfSort_5
    refine lpc_seq (body := fun q : Int32 × Int32 => b_ju_findsOfSort_5_5 x (nI s) q.1 q.2 M) (fun k => (nI (fb_ct (fun f => whA A x f && soB A Q v s f) k), nI k)) (A 66 9) ?_ ?_
    · intro k hk
      obtain ⟨e1, e2, e3, e4, e5, e6, e7⟩ := rc.2.2.1.2 k hk
      show b_ju_findsOfSort_5_5 x (nI s) (nI (fb_ct (fun f => whA A x f && soB A Q v s f) k)) (nI k) M = some (.inl (nI (fb_ct (fun f => whA A x f && soB A Q v s f) (k + 1)), nI (k + 1)))
      have e36 : b_ju_findsOfSort_5_36 x (nI s) (nI (fb_ct (fun f => whA A x f && soB A Q v s f) k)) (nI k) M = some (.inl (nI (if soB A Q v s k = true then fb_ct (fun f => whA A x f && soB A Q v s f) k + 1 else fb_ct (fun f => whA A x f && soB A Q v s f) k), nI (k + 1))) := by
        unfold b_ju_findsOfSort_5_36
        rw [c_isOfSort w j hk hs, Option.bind_some, show nI k + 1 = nI (k + 1) from z_add k 1, show nI (fb_ct (fun f => whA A x f && soB A Q v s f) k) + 1 = nI (fb_ct (fun f => whA A x f && soB A Q v s f) k + 1) from z_add _ 1]
        by_cases c : soB A Q v s k = true
        · rw [if_pos c, if_pos c]
        · rw [if_neg c, if_neg c]
      unfold b_ju_findsOfSort_5_5
      rw [rc.2.2.1.1, if_neg (z_nle (by omega) (by omega) hk), e36, fb_ct_succ, show nI k + 1 = nI (k + 1) from z_add k 1]
      by_cases c : x = -1
      · rw [if_pos c, show whA A x k = true from by unfold whA; rw [decide_eq_true c]; rfl, Bool.true_and]
        split <;> rfl
      · rw [if_neg c, z_gd (z_in (n := k) (by omega) (by omega)), z_cl (n := k) (by omega), e5]
        by_cases c2 : nI (A 78 k) = x
        · rw [if_pos c2, show whA A x k = true from by unfold whA whB; rw [decide_eq_true c2, Bool.or_true], Bool.true_and]
          split <;> rfl
        · rw [if_neg c2, show whA A x k = false from by unfold whA whB; rw [decide_eq_false c, decide_eq_false c2]; rfl, Bool.false_and]
          rfl
    · show b_ju_findsOfSort_5_5 x (nI s) (nI (fb_ct (fun f => whA A x f && soB A Q v s f) (A 66 9))) (nI (A 66 9)) M = _
      unfold b_ju_findsOfSort_5_5
      rw [rc.2.2.1.1, if_pos (z_yle (by omega) (by omega) (Nat.le_refl _))]
  rw [e0]; rfl
/-- the reference counts -/
def kCo : List Nat := [7651, 7652, 7654] ++ kEa
def cnM (A : sA) (Q : sQ) (v : Nat → Nat) (x : Int32) (s n : Nat) (M : dM) : Prop := gI M 66 51 = nI (fb_ct (whB A x) n) ∧ gI M 66 52 = nI (fb_ct (fun f => whB A x f && soB A Q v s f) n) ∧ gI M 66 54 = nI (fb_ct (soB A Q v s) n)
theorem m_92 {A : sA} {Q : sQ} {v : Nat → Nat} {M : dM} (w : wfA A) (rm : rmA A M) (x : Int32) {s k : Nat} (hk : k < A 66 9) (x2 : Int32) (c : cnM A Q v x s k M) : ∃ M', b_mo_counts_25_92 x x2 (nI k) (if soB A Q v s k = true then 1 else 0) M = some (.inl (nI (k + 1), M')) ∧ cnM A Q v x s (k + 1) M' ∧ chS [7651, 7652, 7654] M M' := by
  have hn := w.2.2.1.1
  obtain ⟨e1, e2, e3, e4, e5, e6, e7⟩ := rm.2.2.1.2 k hk
  obtain ⟨c1, c2, c3⟩ := c
  have a1 : ∀ n : Nat, nI n + 1 = nI (n + 1) := fun n => z_add n 1
  have a0 : ∀ n : Nat, nI n + 0 = nI n := fun n => z_add n 0
  unfold b_mo_counts_25_92
  rw [z_gd (z_in (n := k) (by omega) (by omega)), z_cl (n := k) (by omega), e5]
  have cc : ∀ y z t : Int32, chS [7651, 7652, 7654] M (sI (sI (sI M 66 51 y) 66 54 z) 66 52 t) := fun y z t => (((chS.refl _ M).sI 66 51 y rfl).sI 66 54 z rfl).sI 66 52 t rfl
  refine ⟨sI (sI (sI M 66 51 (nI (fb_ct (whB A x) (k + 1)))) 66 54 (nI (fb_ct (soB A Q v s) (k + 1)))) 66 52 (nI (fb_ct (fun f => whB A x f && soB A Q v s f) (k + 1))), ?_, ⟨?_, ?_, ?_⟩, cc _ _ _⟩
  · rw [fb_ct_succ, fb_ct_succ, fb_ct_succ]
    unfold b_mo_counts_25_109 b_mo_counts_25_126 b_mo_counts_25_145 b_mo_counts_25_168 b_mo_counts_25_169
    by_cases d1 : nI (A 78 k) = x
    · rw [if_pos d1, if_neg (show ¬ (1 : Int32) = 0 from by decide), show whB A x k = true from decide_eq_true d1]
      cases d2 : soB A Q v s k
      · simp [gI_sI, c1, c2, c3, a1]
      · simp [gI_sI, c1, c2, c3, a1]
    · rw [if_neg d1, if_pos rfl, show whB A x k = false from decide_eq_false d1]
      cases d2 : soB A Q v s k
      · simp [gI_sI, c1, c2, c3, a1]
      · simp [gI_sI, c1, c2, c3, a1]
  · simp [gI_sI]
  · simp [gI_sI]
  · simp [gI_sI]
