/-! ===== worlds: the class runs a world ===== -/
theorem c_fill61 : ∀ (m k : Nat) (M : dM), k + m = 8 → ∃ M', l_jd_fill_61_5 0 (nI k) 8 M = some M' ∧ (∀ j, k ≤ j → j < 8 → gI M' 61 j = 0) ∧ (∀ j, j < k → gI M' 61 j = gI M 61 j) ∧ chS [61] M M' := by
  intro m
  induction m with
  | zero =>
    intro k M hk
    refine ⟨M, ?_, fun j h1 h2 => by omega, fun _ _ => rfl, chS.refl _ _⟩
    unfold l_jd_fill_61_5
    refine lpc_out ?_
    show b_jd_fill_61_5_5 0 (nI k) 8 M = _
    unfold b_jd_fill_61_5_5
    rw [if_pos (show (8 : Int32) ≤ nI k from z_yle (a := 8) (by omega) (by omega) (by omega))]
  | succ m ih =>
    intro k M hk
    have c : chS [61] M (sI M 61 k 0) := chS_sI M 61 _ _ rfl
    obtain ⟨M', a1, a2, a3, a4⟩ := ih (k + 1) (sI M 61 k 0) (by omega)
    refine ⟨M', ?_, fun j h1 h2 => ?_, fun j hj => ?_, c.trans a4⟩
    · unfold l_jd_fill_61_5 at a1 ⊢
      refine lpc_step (s' := (nI (k + 1), sI M 61 k 0)) ?_ a1
      show b_jd_fill_61_5_5 0 (nI k) 8 M = _
      unfold b_jd_fill_61_5_5
      rw [if_neg (show ¬ (8 : Int32) ≤ nI k from z_nle (a := 8) (by omega) (by omega) (by omega)), z_gd (z_in (n := k) (by omega) (by omega)), z_cl (n := k) (by omega), show nI k + 1 = nI (k + 1) from z_add k 1]
    · by_cases e : j = k
      · rw [e, a3 _ (by omega), gI_sI, if_pos ⟨rfl, rfl⟩]
      · exact a2 j (by omega) h2
    · rw [a3 j (by omega), gI_sI, if_neg (by omega)]
theorem c_fill63 : ∀ (m k : Nat) (M : dM), k + m = 14 → ∃ M', l_jd_fill_63_5 0 (nI k) 14 M = some M' ∧ (∀ j, k ≤ j → j < 14 → gI M' 63 j = 0) ∧ (∀ j, j < k → gI M' 63 j = gI M 63 j) ∧ chS [63] M M' := by
  intro m
  induction m with
  | zero =>
    intro k M hk
    refine ⟨M, ?_, fun j h1 h2 => by omega, fun _ _ => rfl, chS.refl _ _⟩
    unfold l_jd_fill_63_5
    refine lpc_out ?_
    show b_jd_fill_63_5_5 0 (nI k) 14 M = _
    unfold b_jd_fill_63_5_5
    rw [if_pos (show (14 : Int32) ≤ nI k from z_yle (a := 14) (by omega) (by omega) (by omega))]
  | succ m ih =>
    intro k M hk
    have c : chS [63] M (sI M 63 k 0) := chS_sI M 63 _ _ rfl
    obtain ⟨M', a1, a2, a3, a4⟩ := ih (k + 1) (sI M 63 k 0) (by omega)
    refine ⟨M', ?_, fun j h1 h2 => ?_, fun j hj => ?_, c.trans a4⟩
    · unfold l_jd_fill_63_5 at a1 ⊢
      refine lpc_step (s' := (nI (k + 1), sI M 63 k 0)) ?_ a1
      show b_jd_fill_63_5_5 0 (nI k) 14 M = _
      unfold b_jd_fill_63_5_5
      rw [if_neg (show ¬ (14 : Int32) ≤ nI k from z_nle (a := 14) (by omega) (by omega) (by omega)), z_gd (z_in (n := k) (by omega) (by omega)), z_cl (n := k) (by omega), show nI k + 1 = nI (k + 1) from z_add k 1]
    · by_cases e : j = k
      · rw [e, a3 _ (by omega), gI_sI, if_pos ⟨rfl, rfl⟩]
      · exact a2 j (by omega) h2
    · rw [a3 j (by omega), gI_sI, if_neg (by omega)]
theorem c_fill64 : ∀ (m k : Nat) (M : dM), k + m = 10 → ∃ M', l_jd_fill_64_5 0 (nI k) 10 M = some M' ∧ (∀ j, k ≤ j → j < 10 → gI M' 64 j = 0) ∧ (∀ j, j < k → gI M' 64 j = gI M 64 j) ∧ chS [64] M M' := by
  intro m
  induction m with
  | zero =>
    intro k M hk
    refine ⟨M, ?_, fun j h1 h2 => by omega, fun _ _ => rfl, chS.refl _ _⟩
    unfold l_jd_fill_64_5
    refine lpc_out ?_
    show b_jd_fill_64_5_5 0 (nI k) 10 M = _
    unfold b_jd_fill_64_5_5
    rw [if_pos (show (10 : Int32) ≤ nI k from z_yle (a := 10) (by omega) (by omega) (by omega))]
  | succ m ih =>
    intro k M hk
    have c : chS [64] M (sI M 64 k 0) := chS_sI M 64 _ _ rfl
    obtain ⟨M', a1, a2, a3, a4⟩ := ih (k + 1) (sI M 64 k 0) (by omega)
    refine ⟨M', ?_, fun j h1 h2 => ?_, fun j hj => ?_, c.trans a4⟩
    · unfold l_jd_fill_64_5 at a1 ⊢
      refine lpc_step (s' := (nI (k + 1), sI M 64 k 0)) ?_ a1
      show b_jd_fill_64_5_5 0 (nI k) 10 M = _
      unfold b_jd_fill_64_5_5
      rw [if_neg (show ¬ (10 : Int32) ≤ nI k from z_nle (a := 10) (by omega) (by omega) (by omega)), z_gd (z_in (n := k) (by omega) (by omega)), z_cl (n := k) (by omega), show nI k + 1 = nI (k + 1) from z_add k 1]
    · by_cases e : j = k
      · rw [e, a3 _ (by omega), gI_sI, if_pos ⟨rfl, rfl⟩]
      · exact a2 j (by omega) h2
    · rw [a3 j (by omega), gI_sI, if_neg (by omega)]
def kLv : List Nat := [11, 1606, 6614] ++ kDc
/-- what the class knows of worlds -/
def wC1 (A : sA) (Q : sQ) (M : dM) : Prop := gI M 56 14 = -1 ∨ ∃ s, s < 10000 ∧ gI M 56 14 = nI s ∧ rcX (uX A Q s) M
theorem c_live {A : sA} {Q : sQ} {v : Nat → Nat} {M : dM} (w : wfA A) (rc : rcA A M) (hO : gI M 6 6 = 0 ∨ rcO A M) (wq : wQ Q v) (cw : rcW Q v M) (wc : wC1 A Q M) {s : Nat} (hs : s < 10000) : ∃ M', f_wo_live (nI s) M = some M' ∧ rcX (uX A Q s) M' ∧ wC1 A Q M' ∧ ((gI M' 6 6 = 0 ∨ rcO A M') ∧ (rcO A M → rcO A M')) ∧ chS kLv M M' ∧ lo40 M M' := by
  unfold f_wo_live
  by_cases c : gI M 56 14 = nI s
  · rw [if_pos c]
    refine ⟨M, rfl, ?_, wc, ⟨hO, fun z => z⟩, chS.refl _ _, fun _ _ => rfl⟩
    rcases wc with h | ⟨s', h1, h2, h3⟩
    · rw [h] at c
      exact absurd c (fun z => by
        have h2 := nI_toInt (n := s) (by omega)
        rw [← z] at h2
        have h3 : (-1 : Int32).toInt = -1 := rfl
        omega)
    · rw [h2, z_eq (by omega) (by omega)] at c
      rw [← c]
      exact h3
  · rw [if_neg c]
    obtain ⟨M1, a1, a2, a3⟩ := c_weigh w.1 rc.1 hO
    have k2 : chS [6608, 6610, 6613] M1 (sI (sI (sJ M1 56 8 (nI s).toInt64) 56 10 0) 56 13 (-1)) := ((chS_sJ M1 56 8 _ rfl).sI 56 10 _ rfl).sI 56 13 _ rfl
    have s2 : gJ (sI (sI (sJ M1 56 8 (nI s).toInt64) 56 10 0) 56 13 (-1)) 56 8 = lN s := by
      show gJ (sJ M1 56 8 (nI s).toInt64) 56 8 = _
      rw [gJ_sJ, if_pos ⟨rfl, rfl⟩, z_i2l (by omega)]
    have t2 : gI (sI (sI (sJ M1 56 8 (nI s).toInt64) 56 10 0) 56 13 (-1)) 56 10 = 0 := by rw [gI_sI, if_neg (by decide), gI_sI, if_pos ⟨rfl, rfl⟩]
    have u2 : gI (sI (sI (sJ M1 56 8 (nI s).toInt64) 56 10 0) 56 13 (-1)) 56 13 = -1 := by rw [gI_sI, if_pos ⟨rfl, rfl⟩]
    generalize hM2 : sI (sI (sJ M1 56 8 (nI s).toInt64) 56 10 0) 56 13 (-1) = M2 at k2 s2 t2 u2
    obtain ⟨M3, b1, b2, b3, b4⟩ := c_fill61 8 0 M2 rfl
    obtain ⟨M4, d1, d2, d3, d4⟩ := c_fill63 14 0 M3 rfl
    obtain ⟨M5, f1, f2, f3, f4⟩ := c_fill64 10 0 M4 rfl
    have k5 : chS ([11, 1606, 6608, 6610, 6613, 61, 63, 64]) M M5 := ((((a3.mono (by decide)).trans (k2.mono (by decide))).trans (b4.mono (by decide))).trans (d4.mono (by decide))).trans (f4.mono (by decide))
    have o5 : rcO A M5 := rcO_ch a2 (((k2.mono (S' := [6608, 6610, 6613, 61, 63, 64]) (by decide)).trans (b4.mono (by decide))).trans ((d4.mono (by decide)).trans (f4.mono (by decide)))) (by decide)
    have rx5 : rcX (runL A Q s 0) M5 := by
      refine ⟨⟨?_, fun x hx => ⟨?_, fun j hj => absurd hj (Nat.not_lt_zero _)⟩⟩, ?_, ?_, fun k hk => absurd hk (Nat.not_lt_zero _), fun j hj => ?_, fun b hb => ?_⟩
      · rw [f4.J 56 8 rfl, d4.J 56 8 rfl, b4.J 56 8 rfl, s2]
        rfl
      · rw [f4.I 61 x rfl, d4.I 61 x rfl, b2 x (Nat.zero_le _) hx]
        rfl
      · rw [f4.I 56 10 rfl, d4.I 56 10 rfl, b4.I 56 10 rfl, t2]
        rfl
      · rw [f4.I 56 13 rfl, d4.I 56 13 rfl, b4.I 56 13 rfl, u2]
        rfl
      · rw [f4.I 63 j rfl, d2 j (Nat.zero_le _) hj]
        rfl
      · rw [f2 b (Nat.zero_le _) hb]
        rfl
    obtain ⟨M6, g1, g2, g3, g4⟩ := c_58 (s := s) w wq (by omega) (A 66 3) 0 M5 (Nat.zero_add _) ((srcA A).use rc k5 (by decide +kernel)) o5 ((srcW Q v).use cw k5 (by decide)) rx5
    have g1' : l_wo_live_58 (nI s) 0 M5 = some (sI M6 56 14 (nI s)) := g1
    have b1' : f_jd_fill_61 0 M2 = some M3 := by
      unfold f_jd_fill_61
      rw [show l_jd_fill_61_5 0 0 8 M2 = some M3 from b1]
      rfl
    have d1' : f_jd_fill_63 0 M3 = some M4 := by
      unfold f_jd_fill_63
      rw [show l_jd_fill_63_5 0 0 14 M3 = some M4 from d1]
      rfl
    have f1' : f_jd_fill_64 0 M4 = some M5 := by
      unfold f_jd_fill_64
      rw [show l_jd_fill_64_5 0 0 10 M4 = some M5 from f1]
      rfl
    have k6 : chS [6614] M6 (sI M6 56 14 (nI s)) := chS_sI M6 56 14 _ rfl
    have rx6 : rcX (uX A Q s) (sI M6 56 14 (nI s)) := ⟨rcV_ch g2.1 k6 (by decide), rcU_ch g2.2 k6 (by decide)⟩
    refine ⟨sI M6 56 14 (nI s), ?_, rx6, Or.inr ⟨s, hs, by rw [gI_sI, if_pos ⟨rfl, rfl⟩], rx6⟩, ⟨Or.inr (rcO_ch (rcO_ch o5 g3 (by decide)) k6 (by decide)), fun _ => rcO_ch (rcO_ch o5 g3 (by decide)) k6 (by decide)⟩, ((k5.mono (by decide)).trans (g3.mono (by decide))).trans (k6.mono (by decide)), fun j hj => ?_⟩
    · rw [a1, Option.bind_some, hM2, b1', Option.bind_some, d1', Option.bind_some, f1', Option.bind_some, g1']
      rfl
    · rw [k6.I 40 j rfl, g4 j hj, k5.I 40 j rfl]
