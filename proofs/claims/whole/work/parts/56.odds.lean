/-! ===== row and odds ===== -/
noncomputable def soB (A : sA) (Q : sQ) (v : Nat → Nat) (s f : Nat) : Bool := if s = 0 then decide (0 < fc A (v 3) f 14) else if s = 1 then decide (0 < fc A (v 3) f 12) else decide (eaF A Q (v 3) f ≠ 0)
noncomputable def whA (A : sA) (x : Int32) (f : Nat) : Bool := decide (x = -1) || whB A x f
theorem fc14 (A : sA) (far f : Nat) : fc A far f 14 ≤ A 77 f := by
  show fb_ct _ (A 77 f) ≤ A 77 f
  exact fb_ct_le _ _
theorem fc12 (A : sA) (far f : Nat) : fc A far f 12 ≤ 1 := by
  show fiF A f ≤ 1
  unfold fiF
  split <;> decide
theorem c_findsOf {A : sA} {M : dM} (w : wfA A) (rc : rcA A M) (x : Int32) : f_ju_findsOf x M = some (nI (fb_ct (whA A x) (A 66 9))) := by
  have hn := w.2.2.1.1
  unfold f_ju_findsOf
  have e0 : l_ju_findsOf_4 x 0 0 M = some (nI (fb_ct (whA A x) (A 66 9))) := by
    unfold l_ju_findsOf_4
    refine lpc_seq (body := fun s : Int32 × Int32 => b_ju_findsOf_4_4 x s.1 s.2 M) (fun k => (nI (fb_ct (whA A x) k), nI k)) (A 66 9) ?_ ?_
    · intro k hk
      obtain ⟨e1, e2, e3, e4, e5, e6, e7⟩ := rc.2.2.1.2 k hk
      show b_ju_findsOf_4_4 x (nI (fb_ct (whA A x) k)) (nI k) M = some (.inl (nI (fb_ct (whA A x) (k + 1)), nI (k + 1)))
      unfold b_ju_findsOf_4_4
      rw [rc.2.2.1.1, if_neg (z_nle (by omega) (by omega) hk), show nI k + 1 = nI (k + 1) from z_add k 1, show nI (fb_ct (whA A x) k) + 1 = nI (fb_ct (whA A x) k + 1) from z_add _ 1, fb_ct_succ]
      by_cases c : x = -1
      · rw [if_pos c, if_pos (by unfold whA; rw [decide_eq_true c]; rfl)]
      · rw [if_neg c, z_gd (z_in (n := k) (by omega) (by omega)), z_cl (n := k) (by omega), e5]
        by_cases c2 : nI (A 78 k) = x
        · rw [if_pos c2, if_pos (by unfold whA whB; rw [decide_eq_true c2, Bool.or_true])]
        · rw [if_neg c2, if_neg (by unfold whA whB; rw [decide_eq_false c, decide_eq_false c2]; exact Bool.false_ne_true)]; rfl
    · show b_ju_findsOf_4_4 x (nI (fb_ct (whA A x) (A 66 9))) (nI (A 66 9)) M = _
      unfold b_ju_findsOf_4_4
      rw [rc.2.2.1.1, if_pos (z_yle (by omega) (by omega) (Nat.le_refl _))]
  rw [e0]; rfl
theorem c_isOfSort {A : sA} {Q : sQ} {v : Nat → Nat} {M : dM} (w : wfA A) (j : rcJ A Q (v 3) M) {f s : Nat} (hf : f < A 66 9) (hs : s < 3) : f_ju_isOfSort (nI f) (nI s) M = some (soB A Q v s f) := by
  have hn := w.2.2.1.1
  obtain ⟨j1, j2, j3⟩ := j f hf
  have hj : eaF A Q (v 3) f < 3 := jdg_lt Q _
  have q4 := (w.2.2.1.2.1 f hf).2.2.2.1
  have f14 := fc14 A (v 3) f
  have f12 := fc12 A (v 3) f
  have go : ∀ k, k < 17 → fc A (v 3) f k < 100 → t_ju_isOfSort_39 (nI f * 17) (nI k) M = some (decide (0 < fc A (v 3) f k)) := fun k hk hb => by
    unfold t_ju_isOfSort_39
    have em : nI f * 17 + nI k = nI (f * 17 + k) := by rw [show (17 : Int32) = nI 17 from rfl, z_mul, z_add]
    rw [em, z_gd (z_in (n := f * 17 + k) (by omega) (by omega)), z_cl (n := f * 17 + k) (by omega), j1 k hk]
    by_cases c : fc A (v 3) f k = 0
    · rw [if_pos (show nI _ ≤ (0 : Int32) from z_yle (b := 0) (by omega) (by decide) (by omega)), c]; rfl
    · rw [if_neg (show ¬ nI _ ≤ (0 : Int32) from z_nle (b := 0) (by omega) (by decide) (by omega)), decide_eq_true (by omega)]
  unfold f_ju_isOfSort soB
  by_cases s2 : s = 2
  · subst s2
    rw [if_pos (show nI 2 = (2 : Int32) from rfl), z_gd (z_in (n := f) (by omega) (by omega)), z_cl (n := f) (by omega), j2, if_neg (show ¬ (2 : Nat) = 0 from by decide), if_neg (show ¬ (2 : Nat) = 1 from by decide)]
    by_cases c : eaF A Q (v 3) f = 0
    · rw [if_pos (show nI _ = (0 : Int32) from by rw [c]; rfl), c]; rfl
    · rw [if_neg (show ¬ nI _ = (0 : Int32) from z_ne (b := 0) (by omega) (by decide) c), decide_eq_true c]
  · rw [if_neg (show ¬ nI s = (2 : Int32) from z_ne (b := 2) (by omega) (by decide) s2)]
    by_cases s0 : s = 0
    · subst s0
      rw [if_pos (show nI 0 = (0 : Int32) from rfl), if_pos rfl]
      exact go 14 (by decide) (by omega)
    · have s1 : s = 1 := by omega
      subst s1
      rw [if_neg (show ¬ nI 1 = (0 : Int32) from by decide), if_neg (show ¬ (1 : Nat) = 0 from by decide), if_pos rfl]
      exact go 12 (by decide) (by omega)
theorem c_findsOfSort {A : sA} {Q : sQ} {v : Nat → Nat} {M : dM} (w : wfA A) (rc : rcA A M) (j : rcJ A Q (v 3) M) (x : Int32) {s : Nat} (hs : s < 3) : f_ju_findsOfSort x (nI s) M = some (nI (fb_ct (fun f => whA A x f && soB A Q v s f) (A 66 9))) := by
  have hn := w.2.2.1.1
  unfold f_ju_findsOfSort
  have e0 : l_ju_findsOfSort_5 x (nI s) 0 0 M = some (nI (fb_ct (fun f => whA A x f && soB A Q v s f) (A 66 9))) := by
    unfold l_ju_findsOfSort_5
    refine lpc_seq (body := fun q : Int32 × Int32 => b_ju_findsOfSort_5_5 x (nI s) q.1 q.2 M) (fun k => (nI (fb_ct (fun f => whA A x f && soB A Q v s f) k), nI k)) (A 66 9) ?_ ?_
    · intro k hk
      obtain ⟨e1, e2, e3, e4, e5, e6, e7⟩ := rc.2.2.1.2 k hk
      show b_ju_findsOfSort_5_5 x (nI s) (nI (fb_ct (fun f => whA A x f && soB A Q v s f) k)) (nI k) M = some (.inl (nI (fb_ct (fun f => whA A x f && soB A Q v s f) (k + 1)), nI (k + 1)))
      have e36 : b_ju_findsOfSort_5_36 x (nI s) (nI (fb_ct (fun f => whA A x f && soB A Q v s f) k)) (nI k) M = some (.inl (nI (if soB A Q v s k = true then fb_ct (fun f => whA A x f && soB A Q v s f) k + 1 else fb_ct (fun f => whA A x f && soB A Q v s f) k), nI (k + 1))) := by
        unfold b_ju_findsOfSort_5_36
        rw [c_isOfSort w j hk hs, Option.bind_some, show nI k + 1 = nI (k + 1) from z_add k 1, show nI (fb_ct (fun f => whA A x f && soB A Q v s f) k) + 1 = nI (fb_ct (fun f => whA A x f && soB A Q v s f) k + 1) from z_add _ 1]
        by_cases c : soB A Q v s k = true
        · rw [if_pos c, if_pos c]
        · rw [if_neg c, if_neg c]
      unfold b_ju_findsOfSort_5_5
      rw [rc.2.2.1.1, if_neg (z_nle (by omega) (by omega) hk), e36, fb_ct_succ, show nI k + 1 = nI (k + 1) from z_add k 1]
      by_cases c : x = -1
      · rw [if_pos c, show whA A x k = true from by unfold whA; rw [decide_eq_true c]; rfl, Bool.true_and]
        split <;> rfl
      · rw [if_neg c, z_gd (z_in (n := k) (by omega) (by omega)), z_cl (n := k) (by omega), e5]
        by_cases c2 : nI (A 78 k) = x
        · rw [if_pos c2, show whA A x k = true from by unfold whA whB; rw [decide_eq_true c2, Bool.or_true], Bool.true_and]
          split <;> rfl
        · rw [if_neg c2, show whA A x k = false from by unfold whA whB; rw [decide_eq_false c, decide_eq_false c2]; rfl, Bool.false_and]
          rfl
    · show b_ju_findsOfSort_5_5 x (nI s) (nI (fb_ct (fun f => whA A x f && soB A Q v s f) (A 66 9))) (nI (A 66 9)) M = _
      unfold b_ju_findsOfSort_5_5
      rw [rc.2.2.1.1, if_pos (z_yle (by omega) (by omega) (Nat.le_refl _))]
  rw [e0]; rfl
/-- the reference counts -/
def kCo : List Nat := [7651, 7652, 7654] ++ kEa
def cnM (A : sA) (Q : sQ) (v : Nat → Nat) (x : Int32) (s n : Nat) (M : dM) : Prop := gI M 66 51 = nI (fb_ct (whB A x) n) ∧ gI M 66 52 = nI (fb_ct (fun f => whB A x f && soB A Q v s f) n) ∧ gI M 66 54 = nI (fb_ct (soB A Q v s) n)
theorem m_92 {A : sA} {Q : sQ} {v : Nat → Nat} {M : dM} (w : wfA A) (rm : rmA A M) (x : Int32) {s k : Nat} (hk : k < A 66 9) (x2 : Int32) (c : cnM A Q v x s k M) : ∃ M', b_mo_counts_25_92 x x2 (nI k) (if soB A Q v s k = true then 1 else 0) M = some (.inl (nI (k + 1), M')) ∧ cnM A Q v x s (k + 1) M' ∧ chS [7651, 7652, 7654] M M' := by
  have hn := w.2.2.1.1
  obtain ⟨e1, e2, e3, e4, e5, e6, e7⟩ := rm.2.2.1.2 k hk
  obtain ⟨c1, c2, c3⟩ := c
  have a1 : ∀ n : Nat, nI n + 1 = nI (n + 1) := fun n => z_add n 1
  have a0 : ∀ n : Nat, nI n + 0 = nI n := fun n => z_add n 0
  unfold b_mo_counts_25_92
  rw [z_gd (z_in (n := k) (by omega) (by omega)), z_cl (n := k) (by omega), e5]
  have cc : ∀ y z t : Int32, chS [7651, 7652, 7654] M (sI (sI (sI M 66 51 y) 66 54 z) 66 52 t) := fun y z t => (((chS.refl _ M).sI 66 51 y rfl).sI 66 54 z rfl).sI 66 52 t rfl
  refine ⟨sI (sI (sI M 66 51 (nI (fb_ct (whB A x) (k + 1)))) 66 54 (nI (fb_ct (soB A Q v s) (k + 1)))) 66 52 (nI (fb_ct (fun f => whB A x f && soB A Q v s f) (k + 1))), ?_, ⟨?_, ?_, ?_⟩, cc _ _ _⟩
  · rw [fb_ct_succ, fb_ct_succ, fb_ct_succ]
    unfold b_mo_counts_25_109 b_mo_counts_25_126 b_mo_counts_25_145 b_mo_counts_25_168 b_mo_counts_25_169
    by_cases d1 : nI (A 78 k) = x
    · rw [if_pos d1, if_neg (show ¬ (1 : Int32) = 0 from by decide), show whB A x k = true from decide_eq_true d1]
      cases d2 : soB A Q v s k
      · simp [gI_sI, c1, c2, c3, a1]
      · simp [gI_sI, c1, c2, c3, a1]
    · rw [if_neg d1, if_pos rfl, show whB A x k = false from decide_eq_false d1]
      cases d2 : soB A Q v s k
      · simp [gI_sI, c1, c2, c3, a1]
      · simp [gI_sI, c1, c2, c3, a1]
  · simp [gI_sI]
  · simp [gI_sI]
  · simp [gI_sI]
theorem m_25 {A : sA} {Q : sQ} {v : Nat → Nat} (w : wfA A) (wq : wQ Q v) (x : Int32) {s : Nat} (hs : s < 3) : ∀ (m k : Nat) (M : dM), k + m = A 66 9 → rmA A M → rmW Q v M → cnM A Q v x s k M → ∃ M', l_mo_counts_25 x (nI s) (nI k) M = some M' ∧ cnM A Q v x s (A 66 9) M' ∧ chS kCo M M' := by
  have hn := w.2.2.1.1
  intro m
  induction m with
  | zero =>
    intro k M hk rm mw c
    have e : k = A 66 9 := by omega
    subst e
    refine ⟨M, ?_, c, chS.refl _ _⟩
    unfold l_mo_counts_25
    refine lpc_out ?_
    show b_mo_counts_25_25 x (nI s) (nI (A 66 9)) M = _
    unfold b_mo_counts_25_25
    rw [rm.2.2.1.1, if_pos (z_yle (by omega) (by omega) (Nat.le_refl _))]
  | succ m ih =>
    intro k M hkm rm mw c
    have hk : k < A 66 9 := by omega
    have q4 := (w.2.2.1.2.1 k hk).2.2.2.1
    have f14 := fc14 A (v 3) k
    have f12 := fc12 A (v 3) k
    have hj : eaF A Q (v 3) k < 3 := jdg_lt Q _
    have step : ∃ M1, b_mo_counts_25_25 x (nI s) (nI k) M = some (.inl (nI (k + 1), M1)) ∧ cnM A Q v x s (k + 1) M1 ∧ chS kCo M M1 := by
      unfold b_mo_counts_25_25
      rw [rm.2.2.1.1, if_neg (z_nle (by omega) (by omega) hk)]
      by_cases s0 : s = 0
      · subst s0
        obtain ⟨M1, a1, a2, a3⟩ := m_92 w rm x hk (nI 0) c
        refine ⟨M1, ?_, a2, a3.mono (by decide)⟩
        have e : f_mo_factOf (nI k) 14 M = some (nI (fc A (v 3) k 14)) := m_factOf w rm mw.1.2 wq.2.2.2.2.2.2.1 hk (k := 14) (by decide)
        rw [if_pos (show nI 0 = (0 : Int32) from rfl), e, Option.bind_some, ← a1]
        unfold soB
        rw [if_pos rfl]
        by_cases z : fc A (v 3) k 14 = 0
        · rw [if_pos (show nI _ ≤ (0 : Int32) from z_yle (b := 0) (by omega) (by decide) (by omega)), if_neg (by rw [z]; decide)]
        · rw [if_neg (show ¬ nI _ ≤ (0 : Int32) from z_nle (b := 0) (by omega) (by decide) (by omega)), if_pos (by rw [decide_eq_true_iff]; omega)]
      · rw [if_neg (show ¬ nI s = (0 : Int32) from z_ne (b := 0) (by omega) (by decide) s0)]
        by_cases s1 : s = 1
        · subst s1
          obtain ⟨M1, a1, a2, a3⟩ := m_92 w rm x hk (nI 1) c
          refine ⟨M1, ?_, a2, a3.mono (by decide)⟩
          have e : f_mo_factOf (nI k) 12 M = some (nI (fc A (v 3) k 12)) := m_factOf w rm mw.1.2 wq.2.2.2.2.2.2.1 hk (k := 12) (by decide)
          rw [if_pos (show nI 1 = (1 : Int32) from rfl), e, Option.bind_some, ← a1]
          unfold soB
          rw [if_neg (show ¬ (1 : Nat) = 0 from by decide), if_pos rfl]
          by_cases z : fc A (v 3) k 12 = 1
          · rw [if_pos (show nI _ = (1 : Int32) from by rw [z]; rfl), if_pos (by rw [decide_eq_true_iff]; omega)]
          · rw [if_neg (show ¬ nI _ = (1 : Int32) from z_ne (b := 1) (by omega) (by decide) z), if_neg (by rw [decide_eq_true_iff]; omega)]
        · rw [if_neg (show ¬ nI s = (1 : Int32) from z_ne (b := 1) (by omega) (by decide) s1)]
          obtain ⟨M0, b1, b2⟩ := m_eachOf w rm wq mw hk
          have c0 : cnM A Q v x s k M0 := by
            obtain ⟨c1, c2, c3⟩ := c
            exact ⟨(b2.I 66 51 (by decide)).trans c1, (b2.I 66 52 (by decide)).trans c2, (b2.I 66 54 (by decide)).trans c3⟩
          obtain ⟨M1, a1, a2, a3⟩ := m_92 w ((srmA A).use rm b2 (by decide +kernel)) x hk (nI s) c0
          refine ⟨M1, ?_, a2, (b2.mono (by decide)).trans (a3.mono (by decide))⟩
          rw [b1, Option.bind_some, ← a1]
          unfold soB
          rw [if_neg s0, if_neg s1]
          by_cases z : eaF A Q (v 3) k = 0
          · rw [if_pos (show nI _ ≤ (0 : Int32) from z_yle (b := 0) (by omega) (by decide) (by omega)), if_neg (by rw [decide_eq_true_iff]; exact fun h => h z)]
          · rw [if_neg (show ¬ nI _ ≤ (0 : Int32) from z_nle (b := 0) (by omega) (by decide) (by omega)), if_pos (by rw [decide_eq_true_iff]; exact z)]
    obtain ⟨M1, a1, a2, a3⟩ := step
    obtain ⟨M2, b1, b2, b3⟩ := ih (k + 1) M1 (by omega) ((srmA A).use rm a3 (by decide +kernel)) (rmW_w mw a3 (by decide)) a2
    refine ⟨M2, ?_, b2, a3.trans b3⟩
    unfold l_mo_counts_25 at b1 ⊢
    exact lpc_step (s' := (nI (k + 1), M1)) a1 b1
theorem m_counts {A : sA} {Q : sQ} {v : Nat → Nat} {M : dM} (i : IV A Q v M) (x : Int32) {s : Nat} (hs : s < 3) : ∃ M', f_mo_counts x (nI s) M = some M' ∧ cnM A Q v x s (A 66 9) M' ∧ gI M' 66 53 = nI (A 66 9) ∧ IV A Q v M' ∧ chS (7653 :: kCo) M M' := by
  have hz : chS (7653 :: kCo) M (sI (sI (sI (sI M 66 51 0) 66 52 0) 66 53 (gI (sI (sI M 66 51 0) 66 52 0) 66 9)) 66 54 0) := ((((chS.refl _ M).sI 66 51 0 rfl).sI 66 52 0 rfl).sI 66 53 _ rfl).sI 66 54 0 rfl
  have i1 := iv_keep i hz (by decide +kernel)
  obtain ⟨M1, a1, a2, a3⟩ := m_25 i1.1 i1.2.2.2.1 x hs (A 66 9) 0 _ (by omega) i1.2.2.1 i1.2.2.2.2.2.1 ⟨by simp [gI_sI]; rfl, by simp [gI_sI]; rfl, by simp [gI_sI]; rfl⟩
  have a1' : l_mo_counts_25 x (nI s) 0 (sI (sI (sI (sI M 66 51 0) 66 52 0) 66 53 (gI (sI (sI M 66 51 0) 66 52 0) 66 9)) 66 54 0) = some M1 := a1
  refine ⟨M1, ?_, a2, ?_, iv_keep i1 a3 (by decide +kernel), hz.trans (a3.mono (by decide))⟩
  · unfold f_mo_counts
    rw [a1', Option.bind_some]
  · rw [a3.I 66 53 (by decide)]
    simp only [gI_sI, Nat.reduceEqDiff, and_false, and_true, if_false, if_true]
    exact i.2.2.1.2.2.1.1
theorem whA_hand {A : sA} {x : Int32} (h : ¬ x = -1) : whA A x = whB A x := by
  funext f
  unfold whA
  rw [decide_eq_false h, Bool.false_or]
theorem whA_all {A : sA} (f : Nat) : whA A (-1) f = true := rfl
theorem op_row {A : sA} {Q : sQ} {v : Nat → Nat} {M : dM} (h : IV A Q v M) (x y z : Int32) : opV kQ A Q v M (fun b M2 => ∃ M1, f_ax_row x y z M = some (b, M1) ∧ f_mo_row x y z M1 = some (b, M2)) := by
  unfold f_ax_row f_mo_row
  have e1 : f_mo_isHand x = f_ax_within x 10 := z_hand x
  have e2 : f_mo_within y 0 2 = f_ax_within y 3 := z_mw0 y (n := 2) (by decide)
  have e3 : f_mo_within z 0 3 = f_ax_within z 4 := z_mw0 z (n := 3) (by decide)
  rw [e1, e2, e3]
  have hn := h.1.2.2.1.1
  by_cases zx : f_ax_within x 10 = true
  case neg =>
    rw [if_neg zx]
    exact opV_no rfl h (x := 0) (b := -1) ⟨M, rfl, by rw [if_neg zx]⟩
  by_cases zy : f_ax_within y 3 = true
  case neg =>
    rw [if_pos zx, if_neg zy]
    exact opV_no rfl h (x := 0) (b := -1) ⟨M, rfl, by rw [if_pos zx, if_neg zy]⟩
  by_cases zz : f_ax_within z 4 = true
  case neg =>
    rw [if_pos zx, if_pos zy, if_neg zz]
    exact opV_no rfl h (x := 0) (b := -1) ⟨M, rfl, by rw [if_pos zx, if_pos zy, if_neg zz]⟩
  rcases z_range x 10 (by decide) with q | ⟨b, hb, rfl⟩
  · rw [show f_ax_within x 10 = false from q] at zx; cases zx
  rcases z_range y 3 (by decide) with q | ⟨s, hs, rfl⟩
  · rw [show f_ax_within y 3 = false from q] at zy; cases zy
  rcases z_range z 4 (by decide) with q | ⟨k, hk, rfl⟩
  · rw [show f_ax_within z 4 = false from q] at zz; cases zz
  obtain ⟨M1, a1, a2, a3, a4, a5, a6⟩ := iv_study h (Or.inl rfl : (1 : Nat) = 1 ∨ (1 : Nat) = 2)
  have a1' : f_ax_study 1 M = some M1 := a1
  have i1 := iv_0 a2 0
  obtain ⟨M2, b1, ⟨b2, b3, b4⟩, b5, b6, b7⟩ := m_counts i1 (nI b) hs
  have c : chS kQ M M2 := ((a6.mono (by decide)).sI 66 0 0 rfl).trans (b7.mono (by decide))
  have nb : ¬ nI b = -1 := fun z => by
    have := nI_toInt (n := b) (by omega)
    rw [z] at this
    have h2 : (-1 : Int32).toInt = -1 := rfl
    rw [h2] at this
    omega
  have f1 := c_findsOf a2.1 a2.2.1 (nI b)
  have f2 := c_findsOf a2.1 a2.2.1 (-1)
  have f3 := c_findsOfSort a2.1 a2.2.1 a4 (nI b) hs
  have f4 := c_findsOfSort a2.1 a2.2.1 a4 (-1) hs
  rw [whA_hand nb] at f1
  simp only [whA_hand nb] at f3
  have hall : fb_ct (whA A (-1)) (A 66 9) = A 66 9 := fb_ct_all.mpr (fun k _ => rfl)
  rw [hall] at f2
  simp only [whA_all, Bool.true_and] at f4
  rw [if_pos zx, if_pos zy, if_pos zz, a1', Option.bind_some]
  simp only [if_pos zx, if_pos zy, if_pos zz]
  unfold t_ax_row_42
  have k4 : k = 0 ∨ k = 1 ∨ k = 2 ∨ k = 3 := by omega
  rcases k4 with rfl | rfl | rfl | rfl
  · refine ⟨nI (fb_ct (whB A (nI b)) (A 66 9)), M2, ⟨M1, ?_, ?_⟩, b6, c⟩
    rotate_left
    · rw [b1, Option.bind_some, if_pos (show nI 0 = (0 : Int32) from rfl), b2]
    · rw [if_neg (show ¬ (2 : Int32) ≤ nI 0 from by decide), if_pos (by decide), f1, Option.bind_some]
  · refine ⟨nI (fb_ct (fun f => whB A (nI b) f && soB A Q v s f) (A 66 9)), M2, ⟨M1, ?_, ?_⟩, b6, c⟩
    rotate_left
    · rw [b1, Option.bind_some, if_neg (show ¬ nI 1 = (0 : Int32) from by decide), if_pos (show nI 1 = (1 : Int32) from rfl), b3]
    · rw [if_neg (show ¬ (2 : Int32) ≤ nI 1 from by decide), if_neg (by decide), f3, Option.bind_some]
  · refine ⟨nI (A 66 9), M2, ⟨M1, ?_, ?_⟩, b6, c⟩
    rotate_left
    · rw [b1, Option.bind_some, if_neg (show ¬ nI 2 = (0 : Int32) from by decide), if_neg (show ¬ nI 2 = (1 : Int32) from by decide), if_pos (show nI 2 = (2 : Int32) from rfl), b5]
    · rw [if_pos (show (2 : Int32) ≤ nI 2 from by decide), if_pos (by decide), f2, Option.bind_some]
  · refine ⟨nI (fb_ct (soB A Q v s) (A 66 9)), M2, ⟨M1, ?_, ?_⟩, b6, c⟩
    rotate_left
    · rw [b1, Option.bind_some, if_neg (show ¬ nI 3 = (0 : Int32) from by decide), if_neg (show ¬ nI 3 = (1 : Int32) from by decide), if_neg (show ¬ nI 3 = (2 : Int32) from by decide), b4]
    · rw [if_pos (show (2 : Int32) ≤ nI 3 from by decide), if_neg (by decide), f4, Option.bind_some]
