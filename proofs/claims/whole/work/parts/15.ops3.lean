/-! ===== wealth, seen, paper ===== -/
def kWea : List Nat := [3, 117, 7600] ++ kFr
theorem c_isTold {A : sA} {M : dM} (rc : rcS A M) {s l : Nat} (hs : s < 8) (hl : l < 10) : f_si_isTold (nI s) (nI l) M = some (decide (A 67 (10 * s + l) ≠ 0)) := by
  unfold f_si_isTold
  have g4 := rc.1 s hs
  have g41 := layN10 A s
  simp (disch := omega) only [z_in, z_cl, z_gdT, g4, z_hasBit]
  congr 1
  rw [Bool.eq_iff_iff, layN_bit, decide_eq_true_iff]
  exact ⟨fun h => h.2, fun h => ⟨hl, h⟩⟩
theorem ageI_neg {n : Nat} (h : n ≤ 10000) : ageI n < 0 ↔ n = 0 := by
  unfold ageI
  split
  · rename_i h; simp only [h]; decide
  · rw [fa_lit 0]; simp only [z_lt (a := n - 1) (b := 0) (by omega) (by decide)]; omega
theorem ageI_neg' {n : Nat} (h : n ≤ 10000) : (ageI n < nI 0) = (n = 0) := propext (ageI_neg h)
theorem op_wealth {A : sA} {M : dM} (w : wfA A) (rc : rcA A M) (rm : rmA A M) (x1 x2 x3 : Int32) : opT kWea A M (fun b M2 => ∃ M1, f_ax_wealth x1 x2 x3 M = some (b, M1) ∧ f_mo_wealth x1 x2 x3 M1 = some (b, M2)) := by
  have e8 : f_mo_isSite x1 = f_ax_within x1 (nI 8) := z_site x1
  have e10 : f_mo_within x2 (nI 0) (nI 9) = f_ax_within x2 (nI 10) := z_mw0 x2 (n := 9) (by decide)
  have e10k : f_mo_within x3 (nI 0) (nI 9) = f_ax_within x3 (nI 10) := z_mw0 x3 (n := 9) (by decide)
  rcases z_range x1 8 (by decide) with h0 | ⟨s, hs, rfl⟩
  · exact opT_no (b := false) (x := nI 0) (by decide) w rc rm ⟨M, by unfold f_ax_wealth; simp only [fa_lit, e8, e10, e10k, h0, Bool.false_eq_true, if_false, if_true, ite_self], by unfold f_mo_wealth; simp only [fa_lit, e8, e10, e10k, h0, Bool.false_eq_true, if_false, if_true, ite_self]⟩
  have k_s : f_ax_within (nI s) (nI 8) = true := by rw [z_within (by omega) (by decide)]; simp [hs]
  rcases z_range x2 10 (by decide) with h0 | ⟨l, hl, rfl⟩
  · exact opT_no (b := false) (x := nI 0) (by decide) w rc rm ⟨M, by unfold f_ax_wealth; simp only [fa_lit, e8, e10, e10k, h0, k_s, Bool.false_eq_true, if_false, if_true, ite_self], by unfold f_mo_wealth; simp only [fa_lit, e8, e10, e10k, h0, k_s, Bool.false_eq_true, if_false, if_true, ite_self]⟩
  have k_l : f_ax_within (nI l) (nI 10) = true := by rw [z_within (by omega) (by decide)]; simp [hl]
  have ha := rm.2.1.1 (10 * s + l) (by omega)
  have w67 := (w.2.1.1 (10 * s + l) (by omega)).1
  have cn : chS [7600] M (sI M 66 0 (nI 0)) := (chS.refl _ M).sI 66 0 _ rfl
  have hno : f_ax_wealth (nI s) (nI l) x3 M = some (false, M) → (f_ax_within x3 (nI 10) = true → A 67 (10 * s + l) = 0) → opT kWea A M (fun b M2 => ∃ M1, f_ax_wealth (nI s) (nI l) x3 M = some (b, M1) ∧ f_mo_wealth (nI s) (nI l) x3 M1 = some (b, M2)) := by
    intro h1 h2
    refine opT_no (b := false) (x := nI 0) (by decide) w rc rm ⟨M, h1, ?_⟩
    unfold f_mo_wealth
    simp (disch := omega) only [fa_lit, e8, e10, e10k, k_s, k_l, if_true, z_mul, z_add, z_in, z_cl, z_gdT, cn.I 67 _ rfl, ha.1, ageI_neg' w67]
    by_cases hz : A 67 (10 * s + l) = 0
    · rw [if_pos hz]
    · rw [if_neg hz]
      split
      · rename_i h3; exact absurd (h2 h3) hz
      · rfl
  rcases z_range x3 10 (by decide) with h0 | ⟨a, ha9, rfl⟩
  · exact hno (by unfold f_ax_wealth; simp only [fa_lit, k_s, k_l, h0, Bool.false_eq_true, if_false, ite_self]) (fun h => by rw [h0] at h; cases h)
  have k_a : f_ax_within (nI a) (nI 10) = true := by rw [z_within (by omega) (by decide)]; simp [ha9]
  by_cases ht : A 67 (10 * s + l) = 0
  · refine hno ?_ (fun _ => ht)
    unfold f_ax_wealth
    simp only [fa_lit, k_s, k_l, k_a, if_true, c_isTold rc.2.1 hs hl, Option.bind_some, ht, ne_eq, not_true, decide_false, Bool.false_eq_true, if_false]
  have hc : f_ax_wealth (nI s) (nI l) (nI a) M = some (true, f_ax_changed (sI M 3 (s * 10 + l) (nI a))) := by
    unfold f_ax_wealth
    simp (disch := omega) only [fa_lit, k_s, k_l, k_a, if_true, c_isTold rc.2.1 hs hl, Option.bind_some, ht, ne_eq, not_false_eq_true, decide_true, z_mul, z_add, z_in, z_cl, z_gdT]
  revert hc
  generalize hM' : sI M 3 (s * 10 + l) (nI a) = M'
  intro hc
  have c0 : chS [3] M M' := by rw [← hM']; exact (chS.refl _ M).sI 3 _ _ rfl
  have c01 : chS (7600 :: 3 :: kFr) M (sI (f_ax_changed M') 66 0 (nI 0)) := (chS_changed (c0.mono (by decide)) (by decide)).sI 66 0 _ rfl
  have hm : f_mo_wealth (nI s) (nI l) (nI a) (f_ax_changed M') = some (true, sI (sI (f_ax_changed M') 66 0 (nI 0)) 117 (10 * s + l) (nI a)) := by
    unfold f_mo_wealth
    simp (disch := omega) only [fa_lit, e8, e10, e10k, k_s, k_l, k_a, if_true, z_mul, z_add, z_in, z_cl, z_gdT, c01.I 67 _ rfl, ha.1, ageI_neg' w67, ht, if_false]
  generalize hM2 : sI (sI (f_ax_changed M') 66 0 (nI 0)) 117 (10 * s + l) (nI a) = M2
  have d2 : chS [117, 7600] (f_ax_changed M') M2 := by rw [← hM2]; exact ((chS.refl _ _).sI 66 0 _ rfl).sI 117 _ _ rfl
  have d : chS (117 :: 7600 :: kFr) M' M2 := (chS_changed (chS.refl _ M') (by decide)).trans (d2.mono (by decide))
  have c : chS kWea M M2 := (c0.mono (by decide)).trans (d.mono (by decide))
  have hA : ∀ j, aU A 117 (10 * s + l) a 117 j = if j = 10 * s + l then a else A 117 j := fun j => by
    rw [aU_at]; simp only [true_and]
  refine ⟨true, aU A 117 (10 * s + l) a, M2, ⟨f_ax_changed M', hc, by rw [← hM2]; exact hm⟩, ?_, ?_, ?_, c, Or.inr ⟨sfresh.use (fresh_changed M') d2 (by decide), (by simp [aU])⟩⟩
  · refine ⟨w.1, ?_, w.2.2.1, w.2.2.2.1, w.2.2.2.2.1, w.2.2.2.2.2.1, wfK_aU _ _ rfl w.2.2.2.2.2.2.1, w.2.2.2.2.2.2.2.1, w.2.2.2.2.2.2.2.2⟩
    refine ⟨fun j hj => ?_, w.2.1.2⟩
    rw [hA]
    have := w.2.1.1 j hj
    refine ⟨this.1, ?_⟩
    split <;> omega
  · refine ⟨(srcL A).use rc.1 c (by decide), ?_, (srcF A).use rc.2.2.1 c (by decide), (srcE A).use rc.2.2.2.1 c (by decide), (srcP A).use rc.2.2.2.2.1 c (by decide), (srcG A).use rc.2.2.2.2.2.1 c (by decide), (srcK A).use rc.2.2.2.2.2.2.1 c (by decide), (srcT A).use rc.2.2.2.2.2.2.2.1 c (by decide), (srcD A).use rc.2.2.2.2.2.2.2.2 c (by decide)⟩
    refine ⟨fun s' hs' => ?_, fun j hj => ⟨?_, ?_⟩, fun j hj => ?_⟩
    · rw [c.I 4 s' rfl]; exact rc.2.1.1 s' hs'
    · rw [c.I 2 j rfl]; exact (rc.2.1.2.1 j hj).1
    · rw [hA, d.I 3 j rfl, ← hM', gI_sI]
      by_cases e1 : j = 10 * s + l
      · rw [if_pos e1, if_pos ⟨rfl, by omega⟩]
      · rw [if_neg e1, if_neg (by omega)]
        exact (rc.2.1.2.1 j hj).2
    · rw [c.I 5 j rfl]; exact rc.2.1.2.2 j hj
  · refine ⟨(srmL A).use rm.1 c (by decide), ?_, (srmF A).use rm.2.2.1 c (by decide), (srmE A).use rm.2.2.2.1 c (by decide), (srmP A).use rm.2.2.2.2.1 c (by decide), (srmG A).use rm.2.2.2.2.2.1 c (by decide), (srmK A).use rm.2.2.2.2.2.2.1 c (by decide), (srmT A).use rm.2.2.2.2.2.2.2.1 c (by decide), (srmD A).use rm.2.2.2.2.2.2.2.2 c (by decide)⟩
    refine ⟨fun j hj => ⟨?_, ?_⟩, fun j hj => ?_⟩
    · rw [c.I 67 j rfl]; exact (rm.2.1.1 j hj).1
    · rw [hA, ← hM2, gI_sI]
      by_cases e1 : j = 10 * s + l
      · rw [if_pos e1, if_pos ⟨rfl, e1⟩]
      · rw [if_neg e1, if_neg (by omega), c01.I 117 j rfl]
        exact (rm.2.1.1 j hj).2
    · rw [c.I 68 j rfl]; exact rm.2.1.2 j hj
/-- K over one more line, find, sight, paper or ground: what is behind the marks doesn't matter -/
theorem wfK_add {A B : sA} (w : wfK A) (hl : ∀ i, i < A 66 3 → B 69 i = A 69 i ∧ B 70 i = A 70 i ∧ B 71 i = A 71 i ∧ B 72 i = A 72 i ∧ B 73 i = A 73 i) (hf : ∀ i, i < A 66 9 → B 74 i = A 74 i ∧ B 76 i = A 76 i ∧ B 77 i = A 77 i ∧ B 78 i = A 78 i) (hg : ∀ i, i < A 66 69 → B 109 i = A 109 i) (h1 : ∀ i, B 130 i = A 130 i) (h2 : ∀ i, B 131 i = A 131 i) (h3 : A 66 3 ≤ B 66 3) (h4 : A 66 9 ≤ B 66 9) (h5 : A 66 55 ≤ B 66 55) (h6 : A 66 77 ≤ B 66 77) (h7 : A 66 69 ≤ B 66 69) (h8 : B 66 97 = A 66 97) (hc : cons B (B 66 9) (B 66 3) (B 66 69)) : wfK B := by
  obtain ⟨w1, w2, w3, w4⟩ := w
  refine ⟨hc, ?_, ?_, ?_⟩
  · intro p hp; rw [h1, h8]; exact w2 p hp
  · intro p hp hz
    rw [h1] at hz
    obtain ⟨q1, q2, q3, q4, q5, q6⟩ := w3 p hp hz
    rw [h2, h2, h2, h2, h2]
    exact ⟨cons_congr (fun i hi => hl i (by omega)) (fun i hi => hf i (by omega)) (fun i hi => hg i (by omega)) q1, by omega, by omega, by omega, by omega, by omega⟩
  · intro p q hp hq
    rw [h1, h1]
    intro e1 e2 i hi
    rw [h2, h2]
    exact w4 p q hp hq e1 e2 i hi
def kSee : List Nat := [2211, 20, 21, 22, 101, 102, 103, 7655, 7600] ++ kFr
theorem op_seen {A : sA} {M : dM} (w : wfA A) (rc : rcA A M) (rm : rmA A M) (x1 x2 x3 : Int32) : opT kSee A M (fun b M2 => ∃ M1, f_ax_seen x1 x2 x3 M = some (b, M1) ∧ f_mo_seen x1 x2 x3 M1 = some (b, M2)) := by
  have e8 : f_mo_isHand x1 = f_ax_within x1 (nI 10) := z_hand x1
  have e10 : f_mo_isSite x2 = f_ax_within x2 (nI 8) := z_site x2
  have e10k : f_mo_within x3 (nI 0) (nI 999) = f_ax_within x3 (nI 1000) := z_mw0 x3 (n := 999) (by decide)
  rcases z_range x1 10 (by decide) with h0 | ⟨s, hs, rfl⟩
  · exact opT_no (b := false) (x := nI 0) (by decide) w rc rm ⟨M, by unfold f_ax_seen; simp only [fa_lit, e8, e10, e10k, h0, Bool.false_eq_true, if_false, if_true, ite_self], by unfold f_mo_seen; simp only [fa_lit, e8, e10, e10k, h0, Bool.false_eq_true, if_false, if_true, ite_self]⟩
  have k_s : f_ax_within (nI s) (nI 10) = true := by rw [z_within (by omega) (by decide)]; simp [hs]
  rcases z_range x2 8 (by decide) with h0 | ⟨t, ht, rfl⟩
  · exact opT_no (b := false) (x := nI 0) (by decide) w rc rm ⟨M, by unfold f_ax_seen; simp only [fa_lit, e8, e10, e10k, h0, k_s, Bool.false_eq_true, if_false, if_true, ite_self], by unfold f_mo_seen; simp only [fa_lit, e8, e10, e10k, h0, k_s, Bool.false_eq_true, if_false, if_true, ite_self]⟩
  have k_t : f_ax_within (nI t) (nI 8) = true := by rw [z_within (by omega) (by decide)]; simp [ht]
  rcases z_range x3 1000 (by decide) with h0 | ⟨a, ha, rfl⟩
  · exact opT_no (b := false) (x := nI 0) (by decide) w rc rm ⟨M, by unfold f_ax_seen; simp only [fa_lit, e8, e10, e10k, h0, k_s, k_t, Bool.false_eq_true, if_false, if_true, ite_self], by unfold f_mo_seen; simp only [fa_lit, e8, e10, e10k, h0, k_s, k_t, Bool.false_eq_true, if_false, if_true, ite_self]⟩
  have k_a : f_ax_within (nI a) (nI 1000) = true := by rw [z_within (by omega) (by decide)]; simp [ha]
  have n0 := w.2.2.2.1.1
  have g0 := rc.2.2.2.1.1
  have m0 := rm.2.2.2.1.1
  by_cases hn0 : 20 ≤ A 66 55
  · have e : A 66 55 = 20 := by omega
    refine opT_no (b := false) (x := nI 0) (by decide) w rc rm ⟨M, ?_, ?_⟩
    · unfold f_ax_seen f_to_tellSeen
      simp (disch := omega) only [g0, fa_lit, k_s, k_t, k_a, z_lt, e, Nat.lt_irrefl, if_false, if_true, Option.bind_some, Bool.false_eq_true]
    · unfold f_mo_seen
      simp (disch := omega) only [m0, fa_lit, e8, e10, e10k, k_s, k_t, k_a, z_eq, gI_sI, Nat.reduceEqDiff, and_false, if_false, e, if_true]
  have hn : A 66 55 < 20 := by omega
  have hc : f_ax_seen (nI s) (nI t) (nI a) M = some (true, f_ax_changed (sI (sI (sI (sI M 20 (A 66 55) (nI s)) 21 (A 66 55) (nI t)) 22 (A 66 55) (nI a)) 12 11 (nI (A 66 55 + 1)))) := by
    unfold f_ax_seen f_to_tellSeen
    simp (disch := omega) only [g0, fa_lit, k_s, k_t, k_a, z_lt, hn, if_true, z_in, z_cl, z_gdT, gI_sI, Nat.reduceEqDiff, and_false, false_and, if_false, Option.bind_some, z_add]
  revert hc
  generalize hM' : sI (sI (sI (sI M 20 (A 66 55) (nI s)) 21 (A 66 55) (nI t)) 22 (A 66 55) (nI a)) 12 11 (nI (A 66 55 + 1)) = M'
  intro hc
  have c0 : chS [20, 21, 22, 2211] M M' := by rw [← hM']; exact ((((chS.refl _ M).sI 20 _ _ rfl).sI 21 _ _ rfl).sI 22 _ _ rfl).sI 12 11 _ rfl
  have c01 : chS (20 :: 21 :: 22 :: 2211 :: kFr) M (f_ax_changed M') := chS_changed (c0.mono (by decide)) (by decide)
  have m1 : gI (f_ax_changed M') 66 55 = nI (A 66 55) := by rw [c01.I 66 55 rfl]; exact m0
  have hm : f_mo_seen (nI s) (nI t) (nI a) (f_ax_changed M') = some (true, sI (sI (sI (sI (sI (f_ax_changed M') 66 0 (nI 0)) 101 (A 66 55) (nI s)) 102 (A 66 55) (nI t)) 103 (A 66 55) (nI a)) 66 55 (nI (A 66 55 + 1))) := by
    unfold f_mo_seen
    simp (disch := omega) only [m1, fa_lit, e8, e10, e10k, k_s, k_t, k_a, if_true, z_eq, z_in, z_cl, z_gdT, gI_sI, Nat.reduceEqDiff, and_false, false_and, if_false, z_add]
    rw [if_neg (by omega)]
  generalize hM2 : sI (sI (sI (sI (sI (f_ax_changed M') 66 0 (nI 0)) 101 (A 66 55) (nI s)) 102 (A 66 55) (nI t)) 103 (A 66 55) (nI a)) 66 55 (nI (A 66 55 + 1)) = M2
  have d2 : chS [101, 102, 103, 7655, 7600] (f_ax_changed M') M2 := by rw [← hM2]; exact (((((chS.refl _ _).sI 66 0 _ rfl).sI 101 _ _ rfl).sI 102 _ _ rfl).sI 103 _ _ rfl).sI 66 55 _ rfl
  have d : chS (101 :: 102 :: 103 :: 7655 :: 7600 :: kFr) M' M2 := (chS_changed (chS.refl _ M') (by decide)).trans (d2.mono (by decide))
  have c : chS kSee M M2 := (c0.mono (by decide)).trans (d.mono (by decide))
  generalize hB : aU (aU (aU (aU A 101 (A 66 55) s) 102 (A 66 55) t) 103 (A 66 55) a) 66 55 (A 66 55 + 1) = B
  have b0 : B 66 55 = A 66 55 + 1 := by rw [← hB]; simp [aU_at]
  have b1 : ∀ j, B 101 j = if j = A 66 55 then s else A 101 j := fun j => by rw [← hB]; simp [aU_at]
  have b2 : ∀ j, B 102 j = if j = A 66 55 then t else A 102 j := fun j => by rw [← hB]; simp [aU_at]
  have b3 : ∀ j, B 103 j = if j = A 66 55 then a else A 103 j := fun j => by rw [← hB]; simp [aU_at]
  refine ⟨true, B, M2, ⟨f_ax_changed M', hc, by rw [← hM2]; exact hm⟩, ?_, ?_, ?_, c, Or.inr ⟨sfresh.use (fresh_changed M') d2 (by decide), (by rw [← hB]; simp [aU])⟩⟩
  · have hE : wfE B := by
      refine ⟨by omega, fun i hi => ?_⟩
      rw [b1, b2, b3]
      by_cases e : i = A 66 55
      · rw [if_pos e, if_pos e, if_pos e]; exact ⟨hs, ht, ha⟩
      · rw [if_neg e, if_neg e, if_neg e]; exact w.2.2.2.1.2 i (by omega)
    have hK : wfK B := by
      subst hB
      exact wfK_add w.2.2.2.2.2.2.1 (fun i _ => ⟨rfl, rfl, rfl, rfl, rfl⟩) (fun i _ => ⟨rfl, rfl, rfl, rfl⟩) (fun i _ => rfl) (fun _ => rfl) (fun _ => rfl) (Nat.le_refl _) (Nat.le_refl _) (by omega) (Nat.le_refl _) (Nat.le_refl _) rfl (cons_congr (A := A) (c0 := A 66 9) (c1 := A 66 3) (c4 := A 66 69) (fun i _ => ⟨rfl, rfl, rfl, rfl, rfl⟩) (fun i _ => ⟨rfl, rfl, rfl, rfl⟩) (fun i _ => rfl) w.2.2.2.2.2.2.1.1)
    subst hB
    exact ⟨w.1, w.2.1, w.2.2.1, hE, w.2.2.2.2.1, w.2.2.2.2.2.1, hK, w.2.2.2.2.2.2.2.1, w.2.2.2.2.2.2.2.2⟩
  · have hE : rcE B M2 := by
      refine ⟨?_, fun i hi => ?_⟩
      · rw [d.I 12 11 rfl, ← hM', gI_sI, if_pos ⟨rfl, rfl⟩, b0]
      · rw [b1, b2, b3, d.I 20 i rfl, d.I 21 i rfl, d.I 22 i rfl, ← hM']
        simp only [gI_sI, Nat.reduceEqDiff, false_and, if_false, true_and]
        by_cases e : i = A 66 55
        · simp [e]
        · have := rc.2.2.2.1.2 i (by omega)
          simp [e, this.1, this.2.1, this.2.2]
    subst hB
    refine ⟨(srcL A).use rc.1 c (by decide), (srcS A).use rc.2.1 c (by decide), (srcF A).use rc.2.2.1 c (by decide), ?_, (srcP A).use rc.2.2.2.2.1 c (by decide), (srcG A).use rc.2.2.2.2.2.1 c (by decide), (srcK A).use rc.2.2.2.2.2.2.1 c (by decide), (srcT A).use rc.2.2.2.2.2.2.2.1 c (by decide), (srcD A).use rc.2.2.2.2.2.2.2.2 c (by decide)⟩
    exact hE
  · have hE : rmE B M2 := by
      refine ⟨?_, fun i hi => ?_⟩
      · rw [← hM2, gI_sI, if_pos ⟨rfl, rfl⟩, b0]
      · rw [b1, b2, b3, ← hM2]
        simp only [gI_sI, Nat.reduceEqDiff, false_and, if_false, true_and, c01.I 101 i rfl, c01.I 102 i rfl, c01.I 103 i rfl]
        by_cases e : i = A 66 55
        · simp [e]
        · have := rm.2.2.2.1.2 i (by omega)
          simp [e, this.1, this.2.1, this.2.2]
    subst hB
    refine ⟨(srmL A).use rm.1 c (by decide), (srmS A).use rm.2.1 c (by decide), (srmF A).use rm.2.2.1 c (by decide), ?_, (srmP A).use rm.2.2.2.2.1 c (by decide), (srmG A).use rm.2.2.2.2.2.1 c (by decide), (srmK A).use rm.2.2.2.2.2.2.1 c (by decide), (srmT A).use rm.2.2.2.2.2.2.2.1 c (by decide), (srmD A).use rm.2.2.2.2.2.2.2.2 c (by decide)⟩
    exact hE
def kPap : List Nat := [2213, 23, 113, 7677, 7600] ++ kFr
theorem op_paper {A : sA} {M : dM} (w : wfA A) (rc : rcA A M) (rm : rmA A M) (x1 : Int32) : opT kPap A M (fun b M2 => ∃ M1, f_ax_paper x1 M = some (b, M1) ∧ f_mo_paper x1 M1 = some (b, M2)) := by
  have e8 : f_mo_within x1 (nI 0) (nI 999) = f_ax_within x1 (nI 1000) := z_mw0 x1 (n := 999) (by decide)
  rcases z_range x1 1000 (by decide) with h0 | ⟨a, ha, rfl⟩
  · exact opT_no (b := false) (x := nI 0) (by decide) w rc rm ⟨M, by unfold f_ax_paper; simp only [fa_lit, e8, h0, Bool.false_eq_true, if_false, if_true, ite_self], by unfold f_mo_paper; simp only [fa_lit, e8, h0, Bool.false_eq_true, if_false, if_true, ite_self]⟩
  have k_a : f_ax_within (nI a) (nI 1000) = true := by rw [z_within (by omega) (by decide)]; simp [ha]
  have n0 := w.2.2.2.2.1.1
  have g0 := rc.2.2.2.2.1.1
  have m0 := rm.2.2.2.2.1.1
  by_cases hn0 : 40 ≤ A 66 77
  · have e : A 66 77 = 40 := by omega
    refine opT_no (b := false) (x := nI 0) (by decide) w rc rm ⟨M, ?_, ?_⟩
    · unfold f_ax_paper f_to_tellPaper
      simp (disch := omega) only [g0, fa_lit, k_a, z_lt, e, Nat.lt_irrefl, if_false, if_true, Option.bind_some, Bool.false_eq_true]
    · unfold f_mo_paper
      simp (disch := omega) only [m0, fa_lit, e8, k_a, z_eq, gI_sI, Nat.reduceEqDiff, and_false, if_false, e, if_true]
  have hn : A 66 77 < 40 := by omega
  have hc : f_ax_paper (nI a) M = some (true, f_ax_changed (sI (sI M 23 (A 66 77) (nI a)) 12 13 (nI (A 66 77 + 1)))) := by
    unfold f_ax_paper f_to_tellPaper
    simp (disch := omega) only [g0, fa_lit, k_a, z_lt, hn, if_true, z_in, z_cl, z_gdT, gI_sI, Nat.reduceEqDiff, and_false, false_and, if_false, Option.bind_some, z_add]
  revert hc
  generalize hM' : sI (sI M 23 (A 66 77) (nI a)) 12 13 (nI (A 66 77 + 1)) = M'
  intro hc
  have c0 : chS [23, 2213] M M' := by rw [← hM']; exact ((chS.refl _ M).sI 23 _ _ rfl).sI 12 13 _ rfl
  have c01 : chS (23 :: 2213 :: kFr) M (f_ax_changed M') := chS_changed (c0.mono (by decide)) (by decide)
  have m1 : gI (f_ax_changed M') 66 77 = nI (A 66 77) := by rw [c01.I 66 77 rfl]; exact m0
  have hm : f_mo_paper (nI a) (f_ax_changed M') = some (true, sI (sI (sI (f_ax_changed M') 66 0 (nI 0)) 113 (A 66 77) (nI a)) 66 77 (nI (A 66 77 + 1))) := by
    unfold f_mo_paper
    simp (disch := omega) only [m1, fa_lit, e8, k_a, if_true, z_eq, z_in, z_cl, z_gdT, gI_sI, Nat.reduceEqDiff, and_false, false_and, if_false, z_add]
    rw [if_neg (by omega)]
  generalize hM2 : sI (sI (sI (f_ax_changed M') 66 0 (nI 0)) 113 (A 66 77) (nI a)) 66 77 (nI (A 66 77 + 1)) = M2
  have d2 : chS [113, 7677, 7600] (f_ax_changed M') M2 := by rw [← hM2]; exact (((chS.refl _ _).sI 66 0 _ rfl).sI 113 _ _ rfl).sI 66 77 _ rfl
  have d : chS (113 :: 7677 :: 7600 :: kFr) M' M2 := (chS_changed (chS.refl _ M') (by decide)).trans (d2.mono (by decide))
  have c : chS kPap M M2 := (c0.mono (by decide)).trans (d.mono (by decide))
  generalize hB : aU (aU A 113 (A 66 77) a) 66 77 (A 66 77 + 1) = B
  have b0 : B 66 77 = A 66 77 + 1 := by rw [← hB]; simp [aU_at]
  have b1 : ∀ j, B 113 j = if j = A 66 77 then a else A 113 j := fun j => by rw [← hB]; simp [aU_at]
  refine ⟨true, B, M2, ⟨f_ax_changed M', hc, by rw [← hM2]; exact hm⟩, ?_, ?_, ?_, c, Or.inr ⟨sfresh.use (fresh_changed M') d2 (by decide), (by rw [← hB]; simp [aU])⟩⟩
  · have hE : wfP B := by
      refine ⟨by omega, fun i hi => ?_⟩
      rw [b1]
      by_cases e : i = A 66 77
      · rw [if_pos e]; exact ha
      · rw [if_neg e]; exact w.2.2.2.2.1.2 i (by omega)
    have hK : wfK B := by
      subst hB
      exact wfK_add w.2.2.2.2.2.2.1 (fun i _ => ⟨rfl, rfl, rfl, rfl, rfl⟩) (fun i _ => ⟨rfl, rfl, rfl, rfl⟩) (fun i _ => rfl) (fun _ => rfl) (fun _ => rfl) (Nat.le_refl _) (Nat.le_refl _) (Nat.le_refl _) (by omega) (Nat.le_refl _) rfl (cons_congr (A := A) (c0 := A 66 9) (c1 := A 66 3) (c4 := A 66 69) (fun i _ => ⟨rfl, rfl, rfl, rfl, rfl⟩) (fun i _ => ⟨rfl, rfl, rfl, rfl⟩) (fun i _ => rfl) w.2.2.2.2.2.2.1.1)
    subst hB
    exact ⟨w.1, w.2.1, w.2.2.1, w.2.2.2.1, hE, w.2.2.2.2.2.1, hK, w.2.2.2.2.2.2.2.1, w.2.2.2.2.2.2.2.2⟩
  · have hE : rcP B M2 := by
      refine ⟨?_, fun i hi => ?_⟩
      · rw [d.I 12 13 rfl, ← hM', gI_sI, if_pos ⟨rfl, rfl⟩, b0]
      · rw [b1, d.I 23 i rfl, ← hM']
        simp only [gI_sI, Nat.reduceEqDiff, false_and, if_false, true_and]
        by_cases e : i = A 66 77
        · simp [e]
        · have := rc.2.2.2.2.1.2 i (by omega)
          simp [e, this]
    subst hB
    refine ⟨(srcL A).use rc.1 c (by decide), (srcS A).use rc.2.1 c (by decide), (srcF A).use rc.2.2.1 c (by decide), (srcE A).use rc.2.2.2.1 c (by decide), ?_, (srcG A).use rc.2.2.2.2.2.1 c (by decide), (srcK A).use rc.2.2.2.2.2.2.1 c (by decide), (srcT A).use rc.2.2.2.2.2.2.2.1 c (by decide), (srcD A).use rc.2.2.2.2.2.2.2.2 c (by decide)⟩
    exact hE
  · have hE : rmP B M2 := by
      refine ⟨?_, fun i hi => ?_⟩
      · rw [← hM2, gI_sI, if_pos ⟨rfl, rfl⟩, b0]
      · rw [b1, ← hM2]
        simp only [gI_sI, Nat.reduceEqDiff, false_and, if_false, true_and, c01.I 113 i rfl]
        by_cases e : i = A 66 77
        · simp [e]
        · have := rm.2.2.2.2.1.2 i (by omega)
          simp [e, this]
    subst hB
    refine ⟨(srmL A).use rm.1 c (by decide), (srmS A).use rm.2.1 c (by decide), (srmF A).use rm.2.2.1 c (by decide), (srmE A).use rm.2.2.2.1 c (by decide), ?_, (srmG A).use rm.2.2.2.2.2.1 c (by decide), (srmK A).use rm.2.2.2.2.2.2.1 c (by decide), (srmT A).use rm.2.2.2.2.2.2.2.1 c (by decide), (srmD A).use rm.2.2.2.2.2.2.2.2 c (by decide)⟩
    exact hE
