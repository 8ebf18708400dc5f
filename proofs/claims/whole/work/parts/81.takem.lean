/-! ===== worlds: the reference takes a thing ===== -/
theorem m_old116 {A : sA} {T : thT} {n : Nat} {M : dM} (x1 x2 x4 x6 x7 x8 x9 : Int32) {s l : Nat} (hs : s < 8) (hl : l < 10) (hn : n ≤ 1920) (hU : wfU T n) (h88 : gI M 66 88 = nI n) (h127 : ∀ k, k < n → gI M 127 k = nI (T k 6 - 1)) (ha : A 67 (10 * s + l) ≤ 10000) (ht : A 67 (10 * s + l) ≠ 0) (h67 : gI M 67 (10 * s + l) = nI (A 67 (10 * s + l) - 1)) : l_mo_takes_116 x1 x2 (nI l) x4 (nI s) x6 x7 x8 x9 0 0 M = some (nI (fb_ct (fun k => decide (A 67 (10 * s + l) ≤ T k 6)) n)) := by
  unfold l_mo_takes_116
  refine lpc_seq (body := fun q : Int32 × Int32 => b_mo_takes_116_116 x1 x2 (nI l) x4 (nI s) x6 x7 x8 x9 q.1 q.2 M) (fun i => (nI (fb_ct (fun k => decide (A 67 (10 * s + l) ≤ T k 6)) i), nI i)) n ?_ ?_
  · intro i hi
    obtain ⟨b1, b2⟩ := (hU i hi).2.2.2.2.2.2
    show b_mo_takes_116_116 x1 x2 (nI l) x4 (nI s) x6 x7 x8 x9 (nI (fb_ct (fun k => decide (A 67 (10 * s + l) ≤ T k 6)) i)) (nI i) M = _
    unfold b_mo_takes_116_116
    rw [h88, if_neg (z_nle (by omega) (by omega) hi), show (10 : Int32) * nI s = nI (10 * s) from z_mul 10 s, z_add, z_gd (z_in (n := i) (by omega) (by omega)), z_gd (z_in (n := 10 * s + l) (by omega) (by omega)), z_cl (n := i) (by omega), z_cl (n := 10 * s + l) (by omega), h67, h127 i hi, fb_ct_succ, show nI i + 1 = nI (i + 1) from z_add i 1]
    by_cases c : A 67 (10 * s + l) ≤ T i 6
    · rw [if_neg (z_nlt (by omega) (by omega) (by omega)), if_pos (decide_eq_true c)]
      show some (Sum.inl (nI _ + nI 1, _)) = _
      rw [z_add]
    · rw [if_pos (z_ylt (by omega) (by omega) (by omega)), if_neg (by rw [decide_eq_true_iff]; exact c)]
      show some (Sum.inl (nI _ + nI 0, _)) = _
      rw [z_add]
  · show b_mo_takes_116_116 x1 x2 (nI l) x4 (nI s) x6 x7 x8 x9 _ (nI n) M = _
    unfold b_mo_takes_116_116
    rw [h88, if_pos (z_yle (by omega) (by omega) (Nat.le_refl _))]
theorem old_gm {T : thT} {a : Nat} (ha : a ≠ 0) : ∀ n, (fb_ct (fun k => decide (a ≤ T k 6)) n = 0) = (gmT T n < a)
  | 0 => by
    have e1 : (fb_ct (fun k => decide (a ≤ T k 6)) 0 = 0) = True := eq_true rfl
    have e2 : (gmT T 0 < a) = True := eq_true (Nat.pos_of_ne_zero ha)
    rw [e1, e2]
  | n + 1 => by
    have ih := old_gm (T := T) ha n
    rw [fb_ct_succ]
    show _ = ((if gmT T n < T n 6 then T n 6 else gmT T n) < a)
    by_cases c : a ≤ T n 6
    · rw [if_pos (decide_eq_true c)]
      refine propext ⟨fun z => by omega, fun z => ?_⟩
      split at z <;> omega
    · rw [if_neg (by rw [decide_eq_true_iff]; exact c), Nat.add_zero, ih]
      refine propext ⟨fun z => by split <;> omega, fun z => ?_⟩
      split at z <;> omega
theorem m_dawn169 {A : sA} {M : dM} (x3 x4 x7 x8 x9 x10 : Int32) (w : wfA A) (rm : rmA A M) {i h : Nat} (hi : i < A 66 3) (hh : h < 24) : l_mo_takes_169 (nI i) (nI h) x3 x4 (nI (A 70 i)) (nI (A 69 i)) x7 x8 x9 x10 0 0 M = some (nI (fb_ct (fun x => alb A (A 70 i) (A 71 i) (A 69 i) x) h)) := by
  have hL := w.1.1
  obtain ⟨p1, p2, p3, p4, p5⟩ := w.1.2 i hi
  obtain ⟨e69, e70, e71, e72, e73⟩ := rm.1.2 i hi
  have h2 : (2 : Nat) ^ A 69 i < 2 ^ 10 := Nat.pow_lt_pow_right (by decide) p1
  unfold l_mo_takes_169
  refine lpc_seq (body := fun q : Int32 × Int32 => b_mo_takes_169_169 (nI i) (nI h) x3 x4 (nI (A 70 i)) (nI (A 69 i)) x7 x8 x9 x10 q.1 q.2 M) (fun k => (nI (fb_ct (fun x => alb A (A 70 i) (A 71 i) (A 69 i) x) k), nI k)) h ?_ ?_
  · intro k hk
    have hp := pre_lt w.1 (A 70 i) (A 71 i) k
    show b_mo_takes_169_169 (nI i) (nI h) x3 x4 (nI (A 70 i)) (nI (A 69 i)) x7 x8 x9 x10 (nI (fb_ct (fun x => alb A (A 70 i) (A 71 i) (A 69 i) x) k)) (nI k) M = _
    unfold b_mo_takes_169_169
    rw [if_neg (z_nle (by omega) (by omega) hk), z_gd (z_in (n := i) (by omega) (by omega)), z_cl (n := i) (by omega), e71, m_presentAt w.1 rm.1 p2 p3 (by omega), Option.bind_some, z_1shl (by omega), fb_ct_succ, show nI k + 1 = nI (k + 1) from z_add k 1]
    by_cases c : pre A (A 70 i) (A 71 i) k = 2 ^ A 69 i
    · rw [if_pos (by rw [c]), if_pos (show alb A (A 70 i) (A 71 i) (A 69 i) k = true from decide_eq_true c)]
      show some (Sum.inl (nI _ + nI 1, _)) = _
      rw [z_add]
    · rw [if_neg (z_ne (by omega) (by omega) c), if_neg (show ¬ alb A (A 70 i) (A 71 i) (A 69 i) k = true from by unfold alb; rw [decide_eq_true_iff]; exact c)]
      show some (Sum.inl (nI _ + nI 0, _)) = _
      rw [z_add]
  · show b_mo_takes_169_169 (nI i) (nI h) x3 x4 (nI (A 70 i)) (nI (A 69 i)) x7 x8 x9 x10 _ (nI h) M = _
    unfold b_mo_takes_169_169
    rw [if_pos (z_yle (by omega) (by omega) (Nat.le_refl _))]
theorem m_ms215 (x2 x3 x4 x5 x6 x7 x9 x10 x11 : Int32) {ms : Nat} (hms : ms < 256) : ∀ (m k : Nat) (M : dM), k + m = 8 → ∃ M', l_mo_takes_215 x2 x3 x4 x5 x6 x7 (nI ms) x9 x10 x11 (nI k) M = some M' ∧ (∀ j, k ≤ j → j < 8 → gI M' 100 (1 + j) = nI (ms / 2 ^ j % 2)) ∧ (∀ j, j < 1 + k → gI M' 100 j = gI M 100 j) ∧ chS [100] M M' := by
  intro m
  induction m with
  | zero =>
    intro k M hk
    refine ⟨M, ?_, fun j h1 h2 => by omega, fun _ _ => rfl, chS.refl _ _⟩
    unfold l_mo_takes_215
    refine lpc_out ?_
    show b_mo_takes_215_215 x2 x3 x4 x5 x6 x7 (nI ms) x9 x10 x11 (nI k) M = _
    unfold b_mo_takes_215_215
    rw [if_pos (show (8 : Int32) ≤ nI k from z_yle (a := 8) (by omega) (by omega) (by omega))]
  | succ m ih =>
    intro k M hk
    have c : chS [100] M (sI M 100 (1 + k) (nI (ms / 2 ^ k % 2))) := chS_sI M 100 _ _ rfl
    obtain ⟨M', a1, a2, a3, a4⟩ := ih (k + 1) (sI M 100 (1 + k) (nI (ms / 2 ^ k % 2))) (by omega)
    refine ⟨M', ?_, fun j h1 h2 => ?_, fun j hj => ?_, c.trans a4⟩
    · unfold l_mo_takes_215 at a1 ⊢
      refine lpc_step (s' := (nI (k + 1), sI M 100 (1 + k) (nI (ms / 2 ^ k % 2)))) ?_ a1
      show b_mo_takes_215_215 x2 x3 x4 x5 x6 x7 (nI ms) x9 x10 x11 (nI k) M = _
      unfold b_mo_takes_215_215
      rw [if_neg (show ¬ (8 : Int32) ≤ nI k from z_nle (a := 8) (by omega) (by omega) (by omega)), show (1 : Int32) + nI k = nI (1 + k) from z_add 1 k, z_gd (z_in (n := 1 + k) (by omega) (by omega)), z_cl (n := 1 + k) (by omega), z_shr (by omega) (by omega), show nI (ms / 2 ^ k) &&& 1 = nI (ms / 2 ^ k % 2 ^ 1) from fa_mask _ 1, show nI k + 1 = nI (k + 1) from z_add k 1]
    · by_cases e : j = k
      · rw [e, a3 _ (by omega), gI_sI, if_pos ⟨rfl, rfl⟩]
      · exact a2 j (by omega) h2
    · rw [a3 j (by omega), gI_sI, if_neg (by omega)]
