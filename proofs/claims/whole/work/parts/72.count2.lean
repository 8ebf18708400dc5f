/-! ===== count ===== -/
def lay0 (A : sA) (j : Nat) : Bool := decide (A 67 j ≠ 0)
theorem c_layers {A : sA} {M : dM} (rc : rcA A M) : f_si_layersTold M = some (nI (fb_ct (lay0 A) 80)) := by
  unfold f_si_layersTold
  have e0 : l_si_layersTold_4 0 0 M = some (nI (fb_ct (lay0 A) (10 * 8))) := by
    unfold l_si_layersTold_4
    refine lpc_seq (body := fun s : Int32 × Int32 => b_si_layersTold_4_4 s.1 s.2 M) (fun k => (nI (fb_ct (lay0 A) (10 * k)), nI k)) 8 ?_ ?_
    · intro s hs
      show b_si_layersTold_4_4 (nI (fb_ct (lay0 A) (10 * s))) (nI s) M = some (.inl (nI (fb_ct (lay0 A) (10 * (s + 1))), nI (s + 1)))
      have hl := layN10 A s
      have e1 : pc (layN A s 10) 24 = fb_ct (fun k => lay0 A (10 * s + k)) 10 := by
        rw [pc_ext (n := layN A s 10) (m := 10) (layN_lt A s 10) (by decide)]
        exact fb_ct_cong (fun k hk => by
          show (layN A s 10).testBit k = _
          rw [Bool.eq_iff_iff, layN_bit]
          unfold lay0
          rw [decide_eq_true_iff]
          exact ⟨fun z => z.2, fun z => ⟨hk, z⟩⟩)
      unfold b_si_layersTold_4_4 f_si_layersAt
      rw [if_neg (show ¬ (8 : Int32) ≤ nI s from z_nle (a := 8) (by decide) (by omega) (by omega)), z_gd (z_in (n := s) (by omega) (by omega)), z_cl (n := s) (by omega), rc.2.1.1 s hs, z_bcI (by omega), Option.bind_some, e1, z_add, show nI s + 1 = nI (s + 1) from z_add s 1, show 10 * (s + 1) = 10 * s + 10 by omega, fb_ct_split]
    · show b_si_layersTold_4_4 (nI (fb_ct (lay0 A) (10 * 8))) (nI 8) M = _
      unfold b_si_layersTold_4_4
      rw [if_pos (show (8 : Int32) ≤ nI 8 from by decide)]
  rw [e0]; rfl
theorem m_layers {A : sA} {M : dM} (w : wfA A) (rm : rmA A M) (x : Int32) : l_mo_count_27 x 0 0 M = some (nI (fb_ct (lay0 A) 80)) := by
  unfold l_mo_count_27
  refine lpc_seq (body := fun s : Int32 × Int32 => b_mo_count_27_27 x s.1 s.2 M) (fun k => (nI (fb_ct (lay0 A) k), nI k)) 80 ?_ ?_
  · intro s hs
    show b_mo_count_27_27 x (nI (fb_ct (lay0 A) s)) (nI s) M = some (.inl (nI (fb_ct (lay0 A) (s + 1)), nI (s + 1)))
    have h1 := (w.2.1.1 s hs).1
    unfold b_mo_count_27_27
    rw [if_neg (show ¬ (80 : Int32) ≤ nI s from z_nle (a := 80) (by decide) (by omega) (by omega)), z_gd (z_in (n := s) (by omega) (by omega)), z_cl (n := s) (by omega), (rm.2.1.1 s hs).1, show nI s + 1 = nI (s + 1) from z_add s 1, fb_ct_succ]
    unfold ageI
    by_cases c : A 67 s = 0
    · rw [if_pos c, if_pos (show (-1 : Int32) < 0 from by decide), if_neg (by unfold lay0; rw [decide_eq_true_iff]; exact fun z => z c), show nI (fb_ct (lay0 A) s) + 0 = nI (fb_ct (lay0 A) s + 0) from z_add _ 0]
    · rw [if_neg c, if_neg (show ¬ nI (A 67 s - 1) < (0 : Int32) from by rw [show (0 : Int32) = nI 0 from rfl, z_lt (by omega) (by omega)]; omega), if_pos (show lay0 A s = true from decide_eq_true c), show nI (fb_ct (lay0 A) s) + 1 = nI (fb_ct (lay0 A) s + 1) from z_add _ 1]
  · show b_mo_count_27_27 x (nI (fb_ct (lay0 A) 80)) (nI 80) M = _
    unfold b_mo_count_27_27
    rw [if_pos (show (80 : Int32) ≤ nI 80 from by decide)]
theorem c_rulesTold {Q : sQ} {v : Nat → Nat} {M : dM} (wq : wQ Q v) (cw : rcW Q v M) : f_la_rulesTold M = some (nI (fb_ct (fun r => decide (Q (12 + r) ≠ none)) 8)) := by
  unfold f_la_rulesTold
  have e0 : l_la_rulesTold_4 0 0 M = some (nI (fb_ct (fun r => decide (Q (12 + r) ≠ none)) 8)) := by
    unfold l_la_rulesTold_4
    refine lpc_seq (body := fun s : Int32 × Int32 => b_la_rulesTold_4_4 s.1 s.2 M) (fun k => (nI (fb_ct (fun r => decide (Q (12 + r) ≠ none)) k), nI k)) 8 ?_ ?_
    · intro s hs
      show b_la_rulesTold_4_4 (nI (fb_ct (fun r => decide (Q (12 + r) ≠ none)) s)) (nI s) M = some (.inl (nI (fb_ct (fun r => decide (Q (12 + r) ≠ none)) (s + 1)), nI (s + 1)))
      unfold b_la_rulesTold_4_4
      rw [if_neg (show ¬ (8 : Int32) ≤ nI s from z_nle (a := 8) (by decide) (by omega) (by omega)), show (12 : Int32) + nI s = nI (12 + s) from z_add 12 s, c_told wq cw (by omega), Option.bind_some, show nI s + 1 = nI (s + 1) from z_add s 1, fb_ct_succ]
      by_cases c : Q (12 + s) = none
      · rw [if_neg (by rw [decide_eq_true_iff]; exact fun z => z c), if_neg (by rw [decide_eq_true_iff]; exact fun z => z c)]; rfl
      · rw [if_pos (decide_eq_true c), if_pos (decide_eq_true c), show nI (fb_ct (fun r => decide (Q (12 + r) ≠ none)) s) + 1 = nI (fb_ct (fun r => decide (Q (12 + r) ≠ none)) s + 1) from z_add _ 1]
    · show b_la_rulesTold_4_4 (nI (fb_ct (fun r => decide (Q (12 + r) ≠ none)) 8)) (nI 8) M = _
      unfold b_la_rulesTold_4_4
      rw [if_pos (show (8 : Int32) ≤ nI 8 from by decide)]
  rw [e0, Option.bind_some]
theorem op_count {A : sA} {Q : sQ} {v : Nat → Nat} {M : dM} (h : IV A Q v M) (x : Int32) : opV [7600] A Q v M (fun b M2 => f_ax_count x M = some b ∧ f_mo_count x M = some (b, M2)) := by
  have i0 := iv_0 h 0
  have c : chS [7600] M (sI M 66 0 0) := chS_sI M 66 0 0 rfl
  have e8 : f_mo_within x 0 7 = f_ax_within x 8 := z_mw0 x (n := 7) (by decide)
  have nn : ∀ k j : Nat, k < 8 → j < 8 → k ≠ j → ¬ nI k = nI j := fun k j h1 h2 h3 => z_ne (by omega) (by omega) h3
  unfold f_ax_count f_mo_count t_mo_count_56
  rw [e8]
  rcases z_range x 8 (by decide) with z | ⟨k, hk, rfl⟩
  · have z' : f_ax_within x 8 = false := z
    have nx : ∀ j, j < 8 → ¬ x = nI j := fun j hj e => by
      rw [e] at z
      rw [z_within (by omega) (by omega)] at z
      simp at z
      omega
    rw [z', if_neg Bool.false_ne_true, if_neg (show ¬ x = 0 from nx 0 (by decide)), if_neg (show ¬ x = 1 from nx 1 (by decide)), if_neg (show ¬ x = 2 from nx 2 (by decide)), if_neg (show ¬ x = 3 from nx 3 (by decide)), if_neg (show ¬ x = 4 from nx 4 (by decide)), if_neg (show ¬ x = 5 from nx 5 (by decide)), if_neg (show ¬ x = 6 from nx 6 (by decide)), if_neg (show ¬ x = 7 from nx 7 (by decide))]
    exact ⟨_, _, ⟨rfl, rfl⟩, i0, c⟩
  · have hw : f_ax_within (nI k) 8 = true := by
      rw [show (8 : Int32) = nI 8 from rfl, z_within (by omega) (by omega)]; simp [hk]
    rw [if_pos hw]
    obtain ⟨w, rc, rm, wq, cw, mw, ca⟩ := i0
    have i0' : IV A Q v (sI M 66 0 0) := ⟨w, rc, rm, wq, cw, mw, ca⟩
    have hk8 : k = 0 ∨ k = 1 ∨ k = 2 ∨ k = 3 ∨ k = 4 ∨ k = 5 ∨ k = 6 ∨ k = 7 := by omega
    rcases hk8 with rfl | rfl | rfl | rfl | rfl | rfl | rfl | rfl
    · refine ⟨nI (A 66 9), _, ⟨?_, ?_⟩, i0', c⟩
      · show some (gI M 12 7) = _
        rw [h.2.1.2.2.1.1]
      · show some (gI (sI M 66 0 0) 66 9, sI M 66 0 0) = _
        rw [rm.2.2.1.1]
    · refine ⟨nI (A 66 3), _, ⟨?_, ?_⟩, i0', c⟩
      · show some (gI M 6 5) = _
        rw [h.2.1.1.1]
      · show some (gI (sI M 66 0 0) 66 3, sI M 66 0 0) = _
        rw [rm.1.1]
    · refine ⟨nI (A 66 55), _, ⟨?_, ?_⟩, i0', c⟩
      · show some (gI M 12 11) = _
        rw [h.2.1.2.2.2.1.1]
      · show some (gI (sI M 66 0 0) 66 55, sI M 66 0 0) = _
        rw [rm.2.2.2.1.1]
    · refine ⟨nI (A 66 77), _, ⟨?_, ?_⟩, i0', c⟩
      · show some (gI M 12 13) = _
        rw [h.2.1.2.2.2.2.1.1]
      · show some (gI (sI M 66 0 0) 66 77, sI M 66 0 0) = _
        rw [rm.2.2.2.2.1.1]
    · refine ⟨nI (A 66 69), _, ⟨?_, ?_⟩, i0', c⟩
      · show some (gI M 50 4) = _
        rw [h.2.1.2.2.2.2.2.1.1]
      · show some (gI (sI M 66 0 0) 66 69, sI M 66 0 0) = _
        rw [rm.2.2.2.2.2.1.1]
    · refine ⟨nI (fb_ct (fun r => decide (Q (12 + r) ≠ none)) 8), _, ⟨?_, ?_⟩, i0', c⟩
      · show (f_la_rulesTold M).bind _ = _
        rw [c_rulesTold h.2.2.2.1 h.2.2.2.2.1, Option.bind_some]
      · show (f_mo_ruled (sI M 66 0 0)).bind _ = _
        have hr : rdF Q < 256 := bsN_lt _ 8
        rw [m_ruled mw, Option.bind_some, mb8 hr, Option.bind_some]
        have e : rb8 (rdF Q) = fb_ct (fun r => decide (Q (12 + r) ≠ none)) 8 := fb_ct_cong (fun k hk => by
          show (rdF Q).testBit k = _
          unfold rdF
          rw [bsN_bit, decide_eq_true hk, Bool.true_and])
        rw [e]
    · refine ⟨nI (A 66 17), _, ⟨?_, ?_⟩, i0', c⟩
      · show some (gI M 32 1) = _
        rw [h.2.1.2.2.2.2.2.2.2.1.1]
      · show some (gI (sI M 66 0 0) 66 17, sI M 66 0 0) = _
        rw [rm.2.2.2.2.2.2.2.1.1]
    · refine ⟨nI (fb_ct (lay0 A) 80), _, ⟨?_, ?_⟩, i0', c⟩
      · show (f_si_layersTold M).bind _ = _
        rw [c_layers h.2.1, Option.bind_some]
      · show (l_mo_count_27 (nI 7) 0 0 (sI M 66 0 0)).bind _ = _
        rw [m_layers w rm, Option.bind_some]
        rfl
