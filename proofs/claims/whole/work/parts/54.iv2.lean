/-! ===== stories, standing, oldest, stops, again ===== -/
theorem op_stories {A : sA} {Q : sQ} {v : Nat → Nat} {M : dM} (h : IV A Q v M) (x : Int32) : opV kQ A Q v M (fun b M2 => ∃ M1, f_ax_stories x M = some (b, M1) ∧ f_mo_stories x M1 = some (b, M2)) := by
  unfold f_ax_stories f_mo_stories
  have e0 : f_mo_within x 0 4 = f_ax_within x 5 := z_mw0 x (n := 4) (by decide)
  rw [e0]
  by_cases z : f_ax_within x 5 = true
  · rw [if_pos z]
    obtain ⟨M1, a1, a2, a3, a4, a5, a6⟩ := iv_study h (Or.inr rfl : (2 : Nat) = 1 ∨ (2 : Nat) = 2)
    have i0 := iv_0 a2 0
    have a1' : f_ax_study 2 M = some M1 := a1
    obtain ⟨M2, b1, b2, b3, b4, b5⟩ := m_knows i0.1 i0.2.2.1 i0.2.2.2.1 i0.2.2.2.2.2.1
    have c : chS kQ M M2 := ((a6.mono (by decide)).sI 66 0 0 rfl).trans (b5.mono (by decide))
    refine ⟨f_sy_answer x M1, M2, ⟨M1, by rw [a1', Option.bind_some], ?_⟩, iv_keep i0 b5 (by decide +kernel), c⟩
    rw [if_pos z, b1, Option.bind_some]
    obtain ⟨s1, s2, s3, s4, s5⟩ := (a5 rfl).2.1
    obtain ⟨t1, t2, t3, t4, t5⟩ := b3
    obtain ⟨o1, o2, o3, o4, o5, o6⟩ := sT_ok A Q v
    unfold f_sy_answer
    rw [s1, s2, s3, s4, s5, t1, t2, t4, t5]
    by_cases c0 : x = 0
    · rw [if_pos c0, if_pos c0]
    · rw [if_neg c0, if_neg c0]
      by_cases c1 : (sT A Q v).1 = 0
      · rw [if_pos (show nI (sT A Q v).1 = 0 from by rw [c1]; rfl), if_pos (show nI (sT A Q v).1 = 0 from by rw [c1]; rfl)]
      · rw [if_neg (show ¬ nI (sT A Q v).1 = 0 from z_ne (b := 0) (by omega) (by decide) c1), if_neg (show ¬ nI (sT A Q v).1 = 0 from z_ne (b := 0) (by omega) (by decide) c1), t3 c1, if_neg c1]
        by_cases c2 : x = 1
        · rw [if_pos c2, if_pos c2]
        · rw [if_neg c2, if_neg c2]
          by_cases c3 : x = 2
          · rw [if_pos c3, if_pos c3]
          · rw [if_neg c3, if_neg c3]
            by_cases c4 : x = 3
            · rw [if_pos c4, if_pos c4]
            · rw [if_neg c4, if_neg c4]
  · rw [if_neg z]
    exact opV_no rfl h (x := 0) (b := -1) ⟨M, rfl, by rw [if_neg z]⟩
noncomputable def whB (A : sA) (x : Int32) (f : Nat) : Bool := decide (nI (A 78 f) = x)
theorem c_without {A : sA} {M : dM} (w : wfA A) (rc : rcA A M) (x : Int32) : f_to_findsWithout x M = some (lN (bsN (fun f => !whB A x f) (A 66 9))) := by
  have hn := w.2.2.1.1
  unfold f_to_findsWithout
  have e0 : l_to_findsWithout_5 x 0 0 M = some (lN (bsN (fun f => !whB A x f) (A 66 9))) := by
    unfold l_to_findsWithout_5
    refine lpc_seq (body := fun s : Int64 × Int32 => b_to_findsWithout_5_5 x s.1 s.2 M) (fun k => (lN (bsN (fun f => !whB A x f) k), nI k)) (A 66 9) ?_ ?_
    · intro k hk
      obtain ⟨e1, e2, e3, e4, e5, e6, e7⟩ := rc.2.2.1.2 k hk
      show b_to_findsWithout_5_5 x (lN (bsN (fun f => !whB A x f) k)) (nI k) M = some (.inl (lN (bsN (fun f => !whB A x f) (k + 1)), nI (k + 1)))
      unfold b_to_findsWithout_5_5
      rw [rc.2.2.1.1, if_neg (z_nle (by omega) (by omega) hk), z_gd (z_in (n := k) (by omega) (by omega)), z_cl (n := k) (by omega), e5, show nI k + 1 = nI (k + 1) from z_add k 1, bsN_s]
      by_cases c : nI (A 78 k) = x
      · rw [if_pos c, if_neg (by unfold whB; rw [decide_eq_true c]; exact Bool.false_ne_true)]
      · rw [if_neg c, if_pos (by unfold whB; rw [decide_eq_false c]; rfl), z_1shlL (by omega), fb_orL]
    · show b_to_findsWithout_5_5 x (lN (bsN (fun f => !whB A x f) (A 66 9))) (nI (A 66 9)) M = _
      unfold b_to_findsWithout_5_5
      rw [rc.2.2.1.1, if_pos (z_yle (by omega) (by omega) (Nat.le_refl _))]
  rw [e0]; rfl
theorem m_findsBy {A : sA} {M : dM} (w : wfA A) (rm : rmA A M) (x : Int32) : f_mo_findsBy x M = some (lN (bsN (whB A x) (A 66 9))) := by
  have hn := w.2.2.1.1
  unfold f_mo_findsBy
  have e0 : l_mo_findsBy_5 x 0 0 M = some (lN (bsN (whB A x) (A 66 9))) := by
    unfold l_mo_findsBy_5
    refine lpc_seq (body := fun s : Int64 × Int32 => b_mo_findsBy_5_5 x s.1 s.2 M) (fun k => (lN (bsN (whB A x) k), nI k)) (A 66 9) ?_ ?_
    · intro k hk
      obtain ⟨e1, e2, e3, e4, e5, e6, e7⟩ := rm.2.2.1.2 k hk
      show b_mo_findsBy_5_5 x (lN (bsN (whB A x) k)) (nI k) M = some (.inl (lN (bsN (whB A x) (k + 1)), nI (k + 1)))
      unfold b_mo_findsBy_5_5
      rw [rm.2.2.1.1, if_neg (z_nle (by omega) (by omega) hk), z_gd (z_in (n := k) (by omega) (by omega)), z_cl (n := k) (by omega), e5, show nI k + 1 = nI (k + 1) from z_add k 1, bsN_s]
      by_cases c : nI (A 78 k) = x
      · rw [if_pos c, if_pos (by unfold whB; exact decide_eq_true c), z_1shlL (by omega), fb_orL]
      · rw [if_neg c, if_neg (by unfold whB; rw [decide_eq_false c]; exact Bool.false_ne_true)]
    · show b_mo_findsBy_5_5 x (lN (bsN (whB A x) (A 66 9))) (nI (A 66 9)) M = _
      unfold b_mo_findsBy_5_5
      rw [rm.2.2.1.1, if_pos (z_yle (by omega) (by omega) (Nat.le_refl _))]
  rw [e0]; rfl
theorem stand_with {A : sA} {M : dM} (w : wfA A) (rc : rcA A M) (rm : rmA A M) (x : Int32) : t_ax_standing_16 x M = some (nI (swO A (bsN (whB A x) (A 66 9)))) ∧ t_mo_standing_17 x M = some (nI (swO A (bsN (whB A x) (A 66 9))), M) := by
  refine ⟨?_, ?_⟩
  · unfold t_ax_standing_16
    rw [c_without w rc, Option.bind_some, c_standWith w rc, Option.bind_some, sw_eq w (out := bsN (whB A x) (A 66 9))]
    intro b hb
    rw [bsN_bit, bsN_bit, decide_eq_true hb, Bool.true_and, Bool.true_and]
  · unfold t_mo_standing_17
    rw [m_findsBy w rm, Option.bind_some, m_stands w rm, Option.bind_some]
theorem op_standing {A : sA} {Q : sQ} {v : Nat → Nat} {M : dM} (h : IV A Q v M) (x : Int32) : opV [7600] A Q v M (fun b M2 => f_ax_standing x M = some b ∧ f_mo_standing x M = some (b, M2)) := by
  have i0 := iv_0 h 0
  have c : chS [7600] M (sI M 66 0 0) := chS_sI M 66 0 0 rfl
  have e8 : f_mo_isHand x = f_ax_within x 10 := z_hand x
  unfold f_ax_standing f_mo_standing
  rw [e8]
  have t1 := (stand_with h.1 h.2.1 h.2.2.1 x).1
  have t2 := (stand_with i0.1 i0.2.1 i0.2.2.1 x).2
  rw [t1, t2]
  by_cases c1 : x = -1
  · rw [if_pos c1, if_pos c1]
    exact ⟨_, _, ⟨rfl, rfl⟩, i0, c⟩
  · rw [if_neg c1, if_neg c1]
    by_cases c2 : f_ax_within x 10 = true
    · rw [if_pos c2, if_pos c2]
      exact ⟨_, _, ⟨rfl, rfl⟩, i0, c⟩
    · rw [if_neg c2, if_neg c2]
      exact ⟨_, _, ⟨rfl, rfl⟩, i0, c⟩
noncomputable def odN (A : sA) (x : Int32) : Nat → Nat
  | 0 => 0
  | n + 1 => if whB A x n = true then odN A x n else if odN A x n < agF A n then agF A n else odN A x n
theorem odN_le {A : sA} (w : wfA A) (x : Int32) : ∀ n, n ≤ A 66 9 → odN A x n ≤ 10000
  | 0, _ => Nat.zero_le _
  | n + 1, hn => by
    have ih := odN_le w x n (by omega)
    have := (ag_ok w (f := n) (by omega)).1
    show (if _ then _ else if _ then _ else _) ≤ 10000
    split
    · exact ih
    · split <;> omega
theorem odN_s (A : sA) (x : Int32) (n : Nat) : odN A x (n + 1) = if whB A x n = true then odN A x n else if odN A x n < agF A n then agF A n else odN A x n := rfl
theorem ageI_pos {a : Nat} (h : a ≠ 0) : ageI a = nI (a - 1) := by unfold ageI; rw [if_neg h]
theorem ageI_gt {a g : Nat} (ha : a ≤ 10000) (h1 : a ≠ 0) (hg : g ≤ 10000) : (ageI g < nI (a - 1)) = (g < a) := by
  rw [← Int32.not_le, ageI_le ha h1 hg, Nat.not_le]
theorem c_ageOf {A : sA} {M : dM} (w : wfA A) (rc : rcA A M) {f : Nat} (hf : f < A 66 9) : f_si_ageOf (nI (A 74 f)) (nI (A 75 f)) M = some (nI (agF A f - 1)) := by
  obtain ⟨q1, q2, q3, q4, q5, q6, q7, q8⟩ := w.2.2.1.2.1 f hf
  unfold f_si_ageOf
  have e : nI (A 74 f) * 10 + nI (A 75 f) = nI (10 * A 74 f + A 75 f) := by
    rw [show (10 : Int32) = nI 10 from rfl, z_mul, z_add, Nat.mul_comm]
  rw [e, z_gd (z_in (n := 10 * A 74 f + A 75 f) (by omega) (by omega)), z_cl (n := 10 * A 74 f + A 75 f) (by omega), (rc.2.1.2.1 (10 * A 74 f + A 75 f) (by omega)).1 q8]
  rfl
theorem old_c {A : sA} {M : dM} (w : wfA A) (rc : rcA A M) (x : Int32) : t_ax_oldest_16 x M = some (ageI (odN A x (A 66 9))) := by
  have hn := w.2.2.1.1
  unfold t_ax_oldest_16
  have e0 : l_ax_oldest_20 x (-1) 0 M = some (ageI (odN A x (A 66 9))) := by
    unfold l_ax_oldest_20
    refine lpc_seq (body := fun s : Int32 × Int32 => b_ax_oldest_20_20 x s.1 s.2 M) (fun k => (ageI (odN A x k), nI k)) (A 66 9) ?_ ?_
    · intro k hk
      obtain ⟨e1, e2, e3, e4, e5, e6, e7⟩ := rc.2.2.1.2 k hk
      obtain ⟨g1, g2⟩ := ag_ok w (f := k) hk
      have g3 := odN_le w x k (by omega)
      show b_ax_oldest_20_20 x (ageI (odN A x k)) (nI k) M = some (.inl (ageI (odN A x (k + 1)), nI (k + 1)))
      unfold b_ax_oldest_20_20
      rw [rc.2.2.1.1, if_neg (z_nle (by omega) (by omega) hk), z_gd (z_in (n := k) (by omega) (by omega)), z_cl (n := k) (by omega), e5, show nI k + 1 = nI (k + 1) from z_add k 1, odN_s]
      by_cases c : nI (A 78 k) = x
      · rw [if_pos c, if_pos (by unfold whB; exact decide_eq_true c)]
      · rw [if_neg c, if_neg (by unfold whB; rw [decide_eq_false c]; exact Bool.false_ne_true), e1, e2, c_ageOf w rc hk, Option.bind_some]
        by_cases c2 : odN A x k < agF A k
        · rw [if_pos (show ageI (odN A x k) < nI (agF A k - 1) from by rw [ageI_gt g1 g2 g3]; exact c2), if_pos c2, ageI_pos g2]
        · rw [if_neg (show ¬ ageI (odN A x k) < nI (agF A k - 1) from by rw [ageI_gt g1 g2 g3]; exact c2), if_neg c2]
    · show b_ax_oldest_20_20 x (ageI (odN A x (A 66 9))) (nI (A 66 9)) M = _
      unfold b_ax_oldest_20_20
      rw [rc.2.2.1.1, if_pos (z_yle (by omega) (by omega) (Nat.le_refl _))]
  rw [e0]; rfl
theorem old_m {A : sA} {M : dM} (w : wfA A) (rm : rmA A M) (x : Int32) : t_mo_oldest_21 x (-1) M = some (ageI (odN A x (A 66 9)), M) := by
  have hn := w.2.2.1.1
  unfold t_mo_oldest_21
  have e0 : l_mo_oldest_23 x (-1) 0 M = some (ageI (odN A x (A 66 9)), M) := by
    unfold l_mo_oldest_23
    refine lpc_seq (body := fun s : Int32 × Int32 => b_mo_oldest_23_23 x s.1 s.2 M) (fun k => (ageI (odN A x k), nI k)) (A 66 9) ?_ ?_
    · intro k hk
      obtain ⟨e1, e2, e3, e4, e5, e6, e7⟩ := rm.2.2.1.2 k hk
      obtain ⟨g1, g2⟩ := ag_ok w (f := k) hk
      have g3 := odN_le w x k (by omega)
      show b_mo_oldest_23_23 x (ageI (odN A x k)) (nI k) M = some (.inl (ageI (odN A x (k + 1)), nI (k + 1)))
      unfold b_mo_oldest_23_23
      rw [rm.2.2.1.1, if_neg (z_nle (by omega) (by omega) hk), z_gd (z_in (n := k) (by omega) (by omega)), z_cl (n := k) (by omega), e5, show nI k + 1 = nI (k + 1) from z_add k 1, odN_s]
      by_cases c : nI (A 78 k) = x
      · rw [if_pos c, if_pos (by unfold whB; exact decide_eq_true c)]
      · rw [if_neg c, if_neg (by unfold whB; rw [decide_eq_false c]; exact Bool.false_ne_true), m_ageOf w rm hk, Option.bind_some]
        by_cases c2 : odN A x k < agF A k
        · rw [if_neg (show ¬ nI (agF A k - 1) ≤ ageI (odN A x k) from by rw [ageI_le g1 g2 g3]; omega), if_pos c2, ageI_pos g2]; rfl
        · rw [if_pos (show nI (agF A k - 1) ≤ ageI (odN A x k) from by rw [ageI_le g1 g2 g3]; omega), if_neg c2]
    · show b_mo_oldest_23_23 x (ageI (odN A x (A 66 9))) (nI (A 66 9)) M = _
      unfold b_mo_oldest_23_23
      rw [rm.2.2.1.1, if_pos (z_yle (by omega) (by omega) (Nat.le_refl _))]
  rw [e0]; rfl
theorem op_oldest {A : sA} {Q : sQ} {v : Nat → Nat} {M : dM} (h : IV A Q v M) (x : Int32) : opV [7600] A Q v M (fun b M2 => f_ax_oldest x M = some b ∧ f_mo_oldest x M = some (b, M2)) := by
  have i0 := iv_0 h 0
  have c : chS [7600] M (sI M 66 0 0) := chS_sI M 66 0 0 rfl
  have e8 : f_mo_isHand x = f_ax_within x 10 := z_hand x
  unfold f_ax_oldest f_mo_oldest
  rw [e8, old_c h.1 h.2.1 x, old_m i0.1 i0.2.2.1 x]
  by_cases c1 : x = -1
  · rw [if_pos c1, if_pos c1]
    exact ⟨_, _, ⟨rfl, rfl⟩, i0, c⟩
  · rw [if_neg c1, if_neg c1]
    by_cases c2 : f_ax_within x 10 = true
    · rw [if_pos c2, if_pos c2]
      exact ⟨_, _, ⟨rfl, rfl⟩, i0, c⟩
    · rw [if_neg c2, if_neg c2]
      exact ⟨_, _, ⟨rfl, rfl⟩, i0, c⟩
