/-! ===== worlds: one hour of one line ===== -/
noncomputable def dgX (A : sA) (Q : sQ) (i h : Nat) (X : wX) : wX :=
  if 0 < X.1.2.1 (A 70 i) then
    (if drV X.1.1 < A 115 (A 69 i) then tkX A Q i h (X.1.2.2 (9 * A 70 i)) 1 (shV (A 70 i) (drS X.1.1) X.1, X.2) else ((drS X.1.1, X.1.2), X.2))
  else if laC A (A 70 i) 10 = 0 then X
  else if drV (drS X.1.1) < A 117 (10 * A 70 i + klF A (A 70 i) (drV X.1.1 % laC A (A 70 i) 10)) ∧ drV (drS (drS X.1.1)) < A 115 (A 69 i) then tkX A Q i h (klF A (A 70 i) (drV X.1.1 % laC A (A 70 i) 10)) 0 ((drS (drS (drS X.1.1)), X.1.2), X.2)
  else ((drS (drS (drS X.1.1)), X.1.2), X.2)
theorem lay0_ne {A : sA} {j : Nat} (h : lay0 A j = true) : A 67 j ≠ 0 := of_decide_eq_true h
theorem sd_wf {A : sA} {X : wX} (hX : wfX A X) {s : Nat} (hs : s < 2147483648) : wfX A ((s, X.1.2), X.2) := ⟨⟨hs, hX.1.2⟩, hX.2⟩
theorem dgX_wf {A : sA} {Q : sQ} (w : wfA A) {X : wX} (hX : wfX A X) {i h : Nat} (hi : i < A 66 3) : wfX A (dgX A Q i h X) := by
  obtain ⟨p1, p2, p3, p4, p5⟩ := w.1.2 i hi
  unfold dgX
  split
  · rename_i c
    split
    · obtain ⟨l1, l2⟩ := (hX.1.2 (A 70 i) p2).2 0 c
      exact tkX_wf (X := (shV (A 70 i) (drS X.1.1) X.1, X.2)) (p := 1) w ⟨shV_wf hX.1 (drS_lt _) p2, hX.2⟩ hi l1 (by decide) (lay0_ne l2)
    · exact sd_wf hX (drS_lt _)
  · split
    · exact hX
    · rename_i c
      obtain ⟨k1, k2, k3⟩ := klF_ok (A := A) (s := A 70 i) (k := drV X.1.1 % laC A (A 70 i) 10) (Nat.mod_lt _ (by omega))
      split
      · exact tkX_wf (X := ((drS (drS (drS X.1.1)), X.1.2), X.2)) (p := 0) w (sd_wf hX (drS_lt _)) hi k1 (by decide) (lay0_ne k2)
      · exact sd_wf hX (drS_lt _)
theorem tkX_n (A : sA) (Q : sQ) (i h l p : Nat) (X : wX) : (tkX A Q i h l p X).2.1 = X.2.1 + 1 := rfl
theorem dgX_n (A : sA) (Q : sQ) (i h : Nat) (X : wX) : (dgX A Q i h X).2.1 ≤ X.2.1 + 1 := by
  unfold dgX
  split
  · split
    · exact Nat.le_refl _
    · exact Nat.le_succ _
  · split
    · exact Nat.le_succ _
    · split
      · exact Nat.le_refl _
      · exact Nat.le_succ _
/-! the reference digs -/
def kDm : List Nat := [120, 121] ++ kTm
theorem m_156 {A : sA} {Q : sQ} {v : Nat → Nat} {X : wX} {M : dM} (w : wfA A) (rm : rmA A M) (wq : wQ Q v) (mw : rmW Q v M) (hX : wfX A X) (rx : rmX X M) {i h l y : Nat} (hi : i < A 66 3) (hh : h < 24) (h1 : A 72 i ≤ h) (h2 : h ≤ A 73 i) (hl : l < 10) (ht : A 67 (10 * A 70 i + l) ≠ 0) (hn : X.2.1 < 1920) : ∃ M', t_mo_digsAt_156 (nI i) (nI h) (nI (A 115 (A 69 i))) (nI l) (nI y) M = some M' ∧ rmX (if nI y = 0 then ((drS X.1.1, X.1.2), X.2) else if drV X.1.1 < A 115 (A 69 i) then tkX A Q i h l 0 ((drS X.1.1, X.1.2), X.2) else ((drS X.1.1, X.1.2), X.2)) M' ∧ chS kDm M M' := by
  obtain ⟨p1, p2, p3, p4, p5⟩ := w.1.2 i hi
  have q115 := (w.2.2.2.2.2.2.2.2.1 (A 69 i) p1).1
  have hv := drV_lt X.1.1
  have k1 : chS [7685] M (sJ M 66 85 (lN (drS X.1.1))) := chS_sJ M 66 85 _ rfl
  have rx1 : rmX ((drS X.1.1, X.1.2), X.2) (sJ M 66 85 (lN (drS X.1.1))) := ⟨⟨by rw [gJ_sJ, if_pos ⟨rfl, rfl⟩], rx.1.2⟩, rx.2⟩
  have rm1 := (srmA A).use rm k1 (by decide +kernel)
  have mw1 : rmW Q v (sJ M 66 85 (lN (drS X.1.1))) := rmW_w mw k1 (by decide)
  have tk := m_take (p := 0) w rm1 wq mw1 (sd_wf hX (drS_lt _)) rx1 hi hh h1 h2 hl ht (by decide) hn
  unfold t_mo_digsAt_156
  rw [m_draws hX.1.1 rx.1.1, Option.bind_some]
  generalize sJ M 66 85 (lN (drS X.1.1)) = M1 at *
  by_cases c : drV X.1.1 < A 115 (A 69 i)
  · rw [if_neg (z_nle (by omega) (by omega) c), if_pos c]
    unfold t_mo_digsAt_172
    by_cases d : nI y = 0
    · rw [if_pos d, if_pos d]
      exact ⟨M1, rfl, rx1, k1.mono (by decide)⟩
    · rw [if_neg d, if_neg d, if_neg (show ¬ (1 : Int32) = 0 from by decide)]
      obtain ⟨M', a1, a2, a3⟩ := tk
      exact ⟨M', by rw [show (0 : Int32) = nI 0 from rfl, a1]; rfl, a2, (k1.mono (by decide)).trans (a3.mono (by decide))⟩
  · rw [if_pos (z_yle (by omega) (by omega) (by omega)), if_neg c]
    unfold t_mo_digsAt_172
    by_cases d : nI y = 0
    · rw [if_pos d, if_pos d]
      exact ⟨M1, rfl, rx1, k1.mono (by decide)⟩
    · rw [if_neg d, if_neg d, if_pos rfl]
      exact ⟨M1, rfl, rx1, k1.mono (by decide)⟩
theorem m_dig {A : sA} {Q : sQ} {v : Nat → Nat} {X : wX} {M : dM} (w : wfA A) (rm : rmA A M) (wq : wQ Q v) (mw : rmW Q v M) (hX : wfX A X) (rx : rmX X M) {i h : Nat} (hi : i < A 66 3) (hh : h < 24) (h1 : A 72 i ≤ h) (h2 : h ≤ A 73 i) (hn : X.2.1 < 1920) : ∃ M', f_mo_digsAt (nI i) (nI h) M = some M' ∧ rmX (dgX A Q i h X) M' ∧ chS kDm M M' := by
  have hL := w.1.1
  obtain ⟨p1, p2, p3, p4, p5⟩ := w.1.2 i hi
  obtain ⟨e69, e70, e71, e72, e73⟩ := rm.1.2 i hi
  have q115 := (w.2.2.2.2.2.2.2.2.1 (A 69 i) p1).1
  have r115 : gI M 115 (A 69 i) = nI (A 115 (A 69 i)) := (rm.2.2.2.2.2.2.2.2.1 (A 69 i) p1).1
  have hv := drV_lt X.1.1
  have hle : laC A (A 70 i) 10 ≤ 10 := fb_ct_le _ _
  obtain ⟨n, hN⟩ : ∃ n, X.1.2.1 (A 70 i) = n := ⟨_, rfl⟩
  have g121 : gI M 121 (A 70 i) = nI n := by rw [(rx.1.2 (A 70 i) p2).1, hN]
  have n9 := (hX.1.2 (A 70 i) p2).1
  unfold f_mo_digsAt dgX
  rw [z_gd (z_in (n := i) (by omega) (by omega)), z_cl (n := i) (by omega), e69, e70, z_gd (z_in (n := A 69 i) (by omega) (by omega)), z_cl (n := A 69 i) (by omega), z_gd (z_in (n := A 70 i) (by omega) (by omega)), z_cl (n := A 70 i) (by omega), r115, g121, hN]
  by_cases c0 : 0 < n
  · rw [if_neg (show ¬ nI n ≤ (0 : Int32) from z_nle (b := 0) (by omega) (by decide) c0), if_pos c0, m_draws hX.1.1 rx.1.1, Option.bind_some]
    have k1 : chS [7685] M (sJ M 66 85 (lN (drS X.1.1))) := chS_sJ M 66 85 _ rfl
    have s1 : gJ (sJ M 66 85 (lN (drS X.1.1))) 66 85 = lN (drS X.1.1) := by rw [gJ_sJ, if_pos ⟨rfl, rfl⟩]
    generalize hM1 : sJ M 66 85 (lN (drS X.1.1)) = M1 at k1 s1
    have rx1 : rmX ((drS X.1.1, X.1.2), X.2) M1 := ⟨⟨s1, fun s hs => ⟨(k1.I 121 s rfl).trans (rx.1.2 s hs).1, fun j hj => (k1.I 120 _ rfl).trans ((rx.1.2 s hs).2 j hj)⟩⟩, rmU_ch rx.2 k1 (by decide)⟩
    by_cases c1 : drV X.1.1 < A 115 (A 69 i)
    · have e9 : (9 : Int32) * nI (A 70 i) = nI (9 * A 70 i) := z_mul 9 _
      have g120 : gI M1 120 (9 * A 70 i) = nI (X.1.2.2 (9 * A 70 i)) := (rx1.1.2 (A 70 i) p2).2 0 (by show 0 < X.1.2.1 (A 70 i); rw [hN]; exact c0)
      have g1 : gI M1 121 (A 70 i) = nI n := (k1.I 121 _ rfl).trans g121
      rw [if_pos (z_ylt (by omega) (by omega) c1), if_pos c1]
      show ∃ M', (gd (vp_in (9 * nI (A 70 i)) 72) ((l_mo_digsAt_63 (nI i) (nI h) (nI (A 70 i)) (gI M1 120 (9 * nI (A 70 i)).toNatClampNeg) 0 (sI M1 121 (A 70 i) (gI M1 121 (A 70 i) - 1))).bind fun r25 => some r25)) = some M' ∧ _
      rw [e9, z_gd (z_in (n := 9 * A 70 i) (by omega) (by omega)), z_cl (n := 9 * A 70 i) (by omega), g120, g1, show nI n - 1 = nI (n - 1) from z_sub (b := 1) c0]
      have k2 : chS [7685, 121] M (sI M1 121 (A 70 i) (nI (n - 1))) := (k1.mono (by decide)).sI 121 _ _ rfl
      have w121 : ∀ x, gI (sI M1 121 (A 70 i) (nI (n - 1))) 121 x = if x = A 70 i then nI (n - 1) else gI M 121 x := fun x => by
        rw [gI_sI]
        by_cases d : x = A 70 i
        · rw [if_pos ⟨rfl, d⟩, if_pos d]
        · rw [if_neg (fun z => d z.2), if_neg d, k1.I 121 x rfl]
      have w120 : ∀ x, gI (sI M1 121 (A 70 i) (nI (n - 1))) 120 x = gI M 120 x := fun x => k2.I 120 x rfl
      have s2 : gJ (sI M1 121 (A 70 i) (nI (n - 1))) 66 85 = lN (drS X.1.1) := s1
      generalize sI M1 121 (A 70 i) (nI (n - 1)) = M2 at k2 w121 w120 s2
      obtain ⟨M3, b1, b2, b3, b4⟩ := m_move63 (V := X.1) (nI i) (nI h) (nI (X.1.2.2 (9 * A 70 i))) p2 (n := n - 1) (by omega) (n - 1) 0 M2 (Nat.zero_add _) (by rw [w121, if_pos rfl]) (fun j q1 q2 => by rw [w120]; exact (rx.1.2 (A 70 i) p2).2 j (by omega))
      have k3 : chS [7685, 120, 121] M M3 := (k2.mono (by decide)).trans (b4.mono (by decide))
      have rm3 := (srmA A).use rm k3 (by decide +kernel)
      have mw3 : rmW Q v M3 := rmW_w mw k3 (by decide)
      have rx3 : rmX (shV (A 70 i) (drS X.1.1) X.1, X.2) M3 := by
        refine ⟨⟨(b4.J 66 85 rfl).trans s2, fun s hs => ⟨?_, fun j hj => ?_⟩⟩, rmU_ch rx.2 k3 (by decide)⟩
        · rw [b4.I 121 s rfl, w121]
          show _ = nI (if s = A 70 i then X.1.2.1 s - 1 else X.1.2.1 s)
          by_cases d : s = A 70 i
          · rw [if_pos d, if_pos d, d, hN]
          · rw [if_neg d, if_neg d]
            exact (rx.1.2 s hs).1
        · have hj' : j < (if s = A 70 i then X.1.2.1 s - 1 else X.1.2.1 s) := hj
          by_cases d : s = A 70 i
          · rw [if_pos d, d, hN] at hj'
            rw [shV_at d hN hj' (by omega), d]
            exact b2 j (Nat.zero_le _) hj'
          · rw [if_neg d] at hj'
            have n9s := (hX.1.2 s hs).1
            rw [shV_off d (by omega), b3 _ (by omega), w120]
            exact (rx.1.2 s hs).2 j hj'
      obtain ⟨l1, l2⟩ := (hX.1.2 (A 70 i) p2).2 0 (by rw [hN]; exact c0)
      obtain ⟨M', a1, a2, a3⟩ := m_take (X := (shV (A 70 i) (drS X.1.1) X.1, X.2)) (p := 1) w rm3 wq mw3 ⟨shV_wf hX.1 (drS_lt _) p2, hX.2⟩ rx3 hi hh h1 h2 l1 (lay0_ne l2) (by decide) hn
      have b1' : l_mo_digsAt_63 (nI i) (nI h) (nI (A 70 i)) (nI (X.1.2.2 (9 * A 70 i))) 0 M2 = some M' := b1 M' a1
      exact ⟨M', by rw [b1']; rfl, a2, (k3.mono (by decide)).trans (a3.mono (by decide))⟩
    · rw [if_neg (z_nlt (by omega) (by omega) (by omega)), if_neg c1]
      exact ⟨M1, rfl, rx1, k1.mono (by decide)⟩
  · rw [if_pos (show nI n ≤ (0 : Int32) from z_yle (b := 0) (by omega) (by decide) (by omega)), if_neg c0, m_layersOf w rm p2, Option.bind_some]
    by_cases c1 : laC A (A 70 i) 10 = 0
    · rw [if_pos (by rw [c1]; rfl), if_pos c1]
      exact ⟨M, rfl, rx, chS.refl _ _⟩
    · rw [if_neg (show ¬ nI (laC A (A 70 i) 10) = (0 : Int32) from z_ne (b := 0) (by omega) (by decide) c1), if_neg c1, m_drawsLayer w rm p2 hX.1.1 rx.1.1 c1, Option.bind_some]
      obtain ⟨z1, z2, z3⟩ := klF_ok (A := A) (s := A 70 i) (k := drV X.1.1 % laC A (A 70 i) 10) (Nat.mod_lt _ (by omega))
      generalize klF A (A 70 i) (drV X.1.1 % laC A (A 70 i) 10) = l at *
      have k1 : chS [7685] M (sJ (sJ M 66 85 (lN (drS X.1.1))) 66 85 (lN (drS (drS X.1.1)))) := (chS_sJ M 66 85 _ rfl).sJ 66 85 _ rfl
      have b2 := m_draws (M := sJ M 66 85 (lN (drS X.1.1))) (drS_lt X.1.1) (by rw [gJ_sJ, if_pos ⟨rfl, rfl⟩])
      have s1 : gJ (sJ (sJ M 66 85 (lN (drS X.1.1))) 66 85 (lN (drS (drS X.1.1)))) 66 85 = lN (drS (drS X.1.1)) := by rw [gJ_sJ, if_pos ⟨rfl, rfl⟩]
      generalize sJ (sJ M 66 85 (lN (drS X.1.1))) 66 85 (lN (drS (drS X.1.1))) = M2 at k1 b2 s1
      have rm2 := (srmA A).use rm k1 (by decide +kernel)
      have mw2 : rmW Q v M2 := rmW_w mw k1 (by decide)
      have rx2 : rmX ((drS (drS X.1.1), X.1.2), X.2) M2 := ⟨⟨s1, fun s hs => ⟨(k1.I 121 s rfl).trans (rx.1.2 s hs).1, fun j hj => (k1.I 120 _ rfl).trans ((rx.1.2 s hs).2 j hj)⟩⟩, rmU_ch rx.2 k1 (by decide)⟩
      have q117 := (w.2.1.1 (10 * A 70 i + l) (by omega)).2
      have r117 : gI M2 117 (10 * A 70 i + l) = nI (A 117 (10 * A 70 i + l)) := (rm2.2.1.1 (10 * A 70 i + l) (by omega)).2
      have hv2 := drV_lt (drS X.1.1)
      have go : ∀ y : Nat, (∃ M', t_mo_digsAt_156 (nI i) (nI h) (nI (A 115 (A 69 i))) (nI l) (nI y) M2 = some M' ∧ rmX (if nI y = 0 then ((drS (drS (drS X.1.1)), X.1.2), X.2) else if drV (drS (drS X.1.1)) < A 115 (A 69 i) then tkX A Q i h l 0 ((drS (drS (drS X.1.1)), X.1.2), X.2) else ((drS (drS (drS X.1.1)), X.1.2), X.2)) M' ∧ chS kDm M M') := fun y => by
        obtain ⟨M', a1, a2, a3⟩ := m_156 (y := y) w rm2 wq mw2 (sd_wf hX (drS_lt (drS X.1.1))) rx2 hi hh h1 h2 z1 (lay0_ne z2) hn
        exact ⟨M', a1, a2, (k1.mono (by decide)).trans a3⟩
      rw [b2, Option.bind_some, show (10 : Int32) * nI (A 70 i) = nI (10 * A 70 i) from z_mul 10 _]
      show ∃ M', (gd (vp_in (nI (10 * A 70 i) + nI l) 80) (if gI M2 117 (nI (10 * A 70 i) + nI l).toNatClampNeg ≤ nI (drV (drS X.1.1)) then t_mo_digsAt_156 (nI i) (nI h) (nI (A 115 (A 69 i))) (nI l) 0 M2 else t_mo_digsAt_156 (nI i) (nI h) (nI (A 115 (A 69 i))) (nI l) 1 M2)) = some M' ∧ _
      rw [z_add, z_gd (z_in (n := 10 * A 70 i + l) (by omega) (by omega)), z_cl (n := 10 * A 70 i + l) (by omega), r117]
      by_cases d : drV (drS X.1.1) < A 117 (10 * A 70 i + l)
      · rw [if_neg (z_nle (by omega) (by omega) d)]
        obtain ⟨M', a1, a2, a3⟩ := go 1
        refine ⟨M', a1, ?_, a3⟩
        rw [if_neg (show ¬ nI 1 = (0 : Int32) from by decide)] at a2
        by_cases d2 : drV (drS (drS X.1.1)) < A 115 (A 69 i)
        · rw [if_pos d2] at a2
          rw [if_pos ⟨d, d2⟩]
          exact a2
        · rw [if_neg d2] at a2
          rw [if_neg (fun z => d2 z.2)]
          exact a2
      · rw [if_pos (z_yle (by omega) (by omega) (by omega))]
        obtain ⟨M', a1, a2, a3⟩ := go 0
        refine ⟨M', a1, ?_, a3⟩
        rw [if_pos (show nI 0 = (0 : Int32) from rfl)] at a2
        rw [if_neg (fun z => d z.1)]
        exact a2
