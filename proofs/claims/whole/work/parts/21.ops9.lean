/-! ===== mark as a call ===== -/
def kMar : List Nat := [25, 26, 3402, 2207, 2211, 2213, 1605, 1606, 6004, 7609, 7603, 7655, 7677, 7669, 7697, 130, 131, 7600] ++ kFr
theorem wfB {A : sA} (w : wfK A) (hl : A 66 97 < 2147483647) : ∀ q, q < 4 → A 130 q < 2147483648 := fun q hq => by have := w.2.1 q hq; omega
theorem op_lay {A : sA} {M : dM} (w : wfA A) (rc : rcA A M) (rm : rmA A M) (hla : A 66 97 < 2147483647) {p : Nat} (hp : p < 4) : ∃ A' M1 M2, f_ax_mark (nI p) (nI 0) M = some (true, M1) ∧ f_mo_mark (nI p) (nI 0) M1 = some (true, M2) ∧ wfA A' ∧ rcA A' M2 ∧ rmA A' M2 ∧ chS [25, 26, 3402, 130, 131, 7697, 7600] M M2 ∧ A' 66 97 = A 66 97 + 1 ∧ (∀ k j, k ≠ 130 → k ≠ 131 → ¬ (k = 66 ∧ j = 97) → A' k j = A k j) := by
  have e8 : f_mo_within (nI p) (nI 0) (nI 3) = f_ax_within (nI p) (nI 4) := z_mw0 _ (n := 3) (by decide)
  have k1 : f_ax_within (nI p) (nI 4) = true := by rw [z_within (by omega) (by decide)]; simp [hp]
  have hmul : p * 5 = 5 * p := Nat.mul_comm _ _
  obtain ⟨rL, rS, rF, rE, rP, rG, rK, rT, rD⟩ := id rc
  obtain ⟨mL, mS, mF, mE, mP, mG, mK, mT, mD⟩ := id rm
  have hc : f_ax_mark (nI p) (nI 0) M = some (true, sI (sI (sI (sI (sI (sI (sI M 25 (5 * p) (nI (A 66 9))) 25 (5 * p + 1) (nI (A 66 3))) 25 (5 * p + 2) (nI (A 66 55))) 25 (5 * p + 3) (nI (A 66 77))) 25 (5 * p + 4) (nI (A 66 69))) 24 2 (nI (A 66 97 + 1))) 26 p (nI (A 66 97 + 1))) := by
    unfold f_ax_mark f_pl_lay
    simp (disch := omega) only [fa_lit, k1, if_true, z_mul, z_add, z_in, z_cl, z_gdT, Option.bind_some, gI_sI, Nat.reduceEqDiff, false_and, and_false, if_false, and_self, rL.1, rF.1, rE.1, rP.1, rG.1, rK.1, hmul, Nat.add_zero, true_and]
  generalize hM' : sI (sI (sI (sI (sI (sI (sI M 25 (5 * p) (nI (A 66 9))) 25 (5 * p + 1) (nI (A 66 3))) 25 (5 * p + 2) (nI (A 66 55))) 25 (5 * p + 3) (nI (A 66 77))) 25 (5 * p + 4) (nI (A 66 69))) 24 2 (nI (A 66 97 + 1))) 26 p (nI (A 66 97 + 1)) = M' at hc
  have c0 : chS [25, 26, 3402] M M' := by rw [← hM']; exact (((((((chS.refl _ M).sI 25 _ _ rfl).sI 25 _ _ rfl).sI 25 _ _ rfl).sI 25 _ _ rfl).sI 25 _ _ rfl).sI 24 2 _ rfl).sI 26 _ _ rfl
  have hm : f_mo_mark (nI p) (nI 0) M' = some (true, sI (sI (sI (sI (sI (sI (sI (sI M' 66 0 (nI 0)) 66 97 (nI (A 66 97 + 1))) 130 p (nI (A 66 97 + 1))) 131 (5 * p) (nI (A 66 9))) 131 (5 * p + 1) (nI (A 66 3))) 131 (5 * p + 2) (nI (A 66 55))) 131 (5 * p + 3) (nI (A 66 77))) 131 (5 * p + 4) (nI (A 66 69))) := by
    unfold f_mo_mark t_mo_mark_29
    simp (disch := omega) only [fa_lit, e8, k1, if_true, z_mul, z_add, z_in, z_cl, z_gdT, gI_sI, Nat.reduceEqDiff, false_and, and_false, if_false, and_self, c0.I 66 97 rfl, c0.I 66 9 rfl, c0.I 66 3 rfl, c0.I 66 55 rfl, c0.I 66 77 rfl, c0.I 66 69 rfl, mL.1, mF.1, mE.1, mP.1, mG.1, mK.1, true_and]
  generalize hM2 : sI (sI (sI (sI (sI (sI (sI (sI M' 66 0 (nI 0)) 66 97 (nI (A 66 97 + 1))) 130 p (nI (A 66 97 + 1))) 131 (5 * p) (nI (A 66 9))) 131 (5 * p + 1) (nI (A 66 3))) 131 (5 * p + 2) (nI (A 66 55))) 131 (5 * p + 3) (nI (A 66 77))) 131 (5 * p + 4) (nI (A 66 69)) = M2 at hm
  have d : chS [130, 131, 7697, 7600] M' M2 := by rw [← hM2]; exact ((((((((chS.refl _ _).sI 66 0 _ rfl).sI 66 97 _ rfl).sI 130 _ _ rfl).sI 131 _ _ rfl).sI 131 _ _ rfl).sI 131 _ _ rfl).sI 131 _ _ rfl).sI 131 _ _ rfl
  have cc : chS [25, 26, 3402, 130, 131, 7697, 7600] M M2 := (c0.mono (by decide)).trans (d.mono (by decide))
  generalize hB : aU (aU (aU (aU (aU (aU (aU A 66 97 (A 66 97 + 1)) 130 p (A 66 97 + 1)) 131 (5 * p) (A 66 9)) 131 (5 * p + 1) (A 66 3)) 131 (5 * p + 2) (A 66 55)) 131 (5 * p + 3) (A 66 77)) 131 (5 * p + 4) (A 66 69) = B
  have b0 : B 66 97 = A 66 97 + 1 := by rw [← hB]; simp [aU_at]
  have b1 : ∀ q, B 130 q = if q = p then A 66 97 + 1 else A 130 q := fun q => by rw [← hB]; simp [aU_at]
  have b2 : ∀ j, B 131 j = if j = 5 * p + 4 then A 66 69 else if j = 5 * p + 3 then A 66 77 else if j = 5 * p + 2 then A 66 55 else if j = 5 * p + 1 then A 66 3 else if j = 5 * p then A 66 9 else A 131 j := fun j => by rw [← hB]; simp [aU_at]
  have bo : ∀ k j, k ≠ 130 → k ≠ 131 → ¬ (k = 66 ∧ j = 97) → B k j = A k j := fun k j h1 h2 h3 => by
    rw [← hB]; simp [aU_at, h1, h2, h3]
  refine ⟨B, M', M2, hc, hm, ?_, ?_, ?_, cc, b0, bo⟩
  · have hK : wfK B := by
      obtain ⟨v1, v2, v3, v4⟩ := w.2.2.2.2.2.2.1
      have cB : ∀ c0 c1 c4, cons A c0 c1 c4 → cons B c0 c1 c4 := fun c0 c1 c4 h => by
        subst hB
        exact cons_congr (A := A) (fun i _ => ⟨rfl, rfl, rfl, rfl, rfl⟩) (fun i _ => ⟨rfl, rfl, rfl, rfl⟩) (fun i _ => rfl) h
      have f9 := bo 66 9 (by decide) (by decide) (by decide)
      have f3 := bo 66 3 (by decide) (by decide) (by decide)
      have f55 := bo 66 55 (by decide) (by decide) (by decide)
      have f77 := bo 66 77 (by decide) (by decide) (by decide)
      have f69 := bo 66 69 (by decide) (by decide) (by decide)
      have bp : B 131 (5 * p) = A 66 9 ∧ B 131 (5 * p + 1) = A 66 3 ∧ B 131 (5 * p + 2) = A 66 55 ∧ B 131 (5 * p + 3) = A 66 77 ∧ B 131 (5 * p + 4) = A 66 69 := by
        refine ⟨?_, ?_, ?_, ?_, ?_⟩
        · rw [b2, if_neg (by omega), if_neg (by omega), if_neg (by omega), if_neg (by omega), if_pos rfl]
        · rw [b2, if_neg (by omega), if_neg (by omega), if_neg (by omega), if_pos rfl]
        · rw [b2, if_neg (by omega), if_neg (by omega), if_pos rfl]
        · rw [b2, if_neg (by omega), if_pos rfl]
        · rw [b2, if_pos rfl]
      have bq : ∀ q, q ≠ p → ∀ j, j < 5 → B 131 (5 * q + j) = A 131 (5 * q + j) := fun q hq j hj => by
        rw [b2, if_neg (by omega), if_neg (by omega), if_neg (by omega), if_neg (by omega), if_neg (by omega)]
      refine ⟨?_, ?_, ?_, ?_⟩
      · rw [f9, f3, f69]; exact cB _ _ _ v1
      · intro q hq
        rw [b0, b1]
        have := v2 q hq
        split <;> omega
      · intro q hq hz
        rw [f9, f3, f55, f77, f69]
        by_cases e : q = p
        · subst e
          obtain ⟨p0, p1, p2, p3, p4⟩ := bp
          rw [p0, p1, p2, p3, p4]
          exact ⟨cB _ _ _ v1, Nat.le_refl _, Nat.le_refl _, Nat.le_refl _, Nat.le_refl _, Nat.le_refl _⟩
        · rw [b1, if_neg e] at hz
          have g0 := bq q e 0 (by decide)
          rw [Nat.add_zero] at g0
          rw [g0, bq q e 1 (by decide), bq q e 2 (by decide), bq q e 3 (by decide), bq q e 4 (by decide)]
          obtain ⟨u1, u2⟩ := v3 q hq hz
          exact ⟨cB _ _ _ u1, u2⟩
      · intro a b ha hb hz hle j hj
        rw [b1] at hz hle
        rw [b1] at hle
        by_cases ea : a = p
        · subst ea
          by_cases eb : b = a
          · subst eb; exact Nat.le_refl _
          · rw [if_pos rfl, if_neg eb] at hle
            have := v2 b hb
            omega
        · rw [if_neg ea] at hz hle
          rw [bq a ea j hj]
          obtain ⟨u1, u2, u3, u4, u5, u6⟩ := v3 a ha hz
          by_cases eb : b = p
          · subst eb
            obtain ⟨p0, p1, p2, p3, p4⟩ := bp
            have hj5 : j = 0 ∨ j = 1 ∨ j = 2 ∨ j = 3 ∨ j = 4 := by omega
            rcases hj5 with rfl | rfl | rfl | rfl | rfl
            · rw [Nat.add_zero, Nat.add_zero, p0]; exact u2
            · rw [p1]; exact u3
            · rw [p2]; exact u4
            · rw [p3]; exact u5
            · rw [p4]; exact u6
          · rw [if_neg eb] at hle
            rw [bq b eb j hj]
            exact v4 a b ha hb hz hle j hj
    subst hB
    exact ⟨w.1, w.2.1, w.2.2.1, w.2.2.2.1, w.2.2.2.2.1, w.2.2.2.2.2.1, hK, w.2.2.2.2.2.2.2.1, w.2.2.2.2.2.2.2.2⟩
  · have hE : rcK B M2 := by
      refine ⟨?_, fun q hq => ?_, fun j hj => ?_⟩
      · rw [d.I 24 2 rfl, ← hM', gI_sI, if_neg (by omega), gI_sI, if_pos ⟨rfl, rfl⟩, b0]
      · rw [d.I 26 q rfl, ← hM', b1]
        simp only [gI_sI, Nat.reduceEqDiff, false_and, if_false, true_and]
        by_cases e : q = p
        · rw [if_pos e, if_pos e]
        · rw [if_neg e, if_neg e]; exact rK.2.1 q hq
      · rw [d.I 25 j rfl, ← hM', b2]
        simp only [gI_sI, Nat.reduceEqDiff, false_and, if_false, true_and]
        by_cases h4 : j = 5 * p + 4
        · rw [if_pos h4, if_pos h4]
        · rw [if_neg h4, if_neg h4]
          by_cases h3 : j = 5 * p + 3
          · rw [if_pos h3, if_pos h3]
          · rw [if_neg h3, if_neg h3]
            by_cases h2 : j = 5 * p + 2
            · rw [if_pos h2, if_pos h2]
            · rw [if_neg h2, if_neg h2]
              by_cases h1 : j = 5 * p + 1
              · rw [if_pos h1, if_pos h1]
              · rw [if_neg h1, if_neg h1]
                by_cases h0 : j = 5 * p
                · rw [if_pos h0, if_pos h0]
                · rw [if_neg h0, if_neg h0]; exact rK.2.2 j hj
    subst hB
    refine ⟨(srcL A).use rc.1 cc (by decide), (srcS A).use rc.2.1 cc (by decide), (srcF A).use rc.2.2.1 cc (by decide), (srcE A).use rc.2.2.2.1 cc (by decide), (srcP A).use rc.2.2.2.2.1 cc (by decide), (srcG A).use rc.2.2.2.2.2.1 cc (by decide), ?_, (srcT A).use rc.2.2.2.2.2.2.2.1 cc (by decide), (srcD A).use rc.2.2.2.2.2.2.2.2 cc (by decide)⟩
    exact hE
  · have hE : rmK B M2 := by
      refine ⟨?_, fun q hq => ?_, fun j hj => ?_⟩
      · rw [← hM2, b0]
        simp only [gI_sI, Nat.reduceEqDiff, false_and, and_false, if_false, true_and, if_true]
      · rw [← hM2, b1]
        simp only [gI_sI, Nat.reduceEqDiff, false_and, if_false, true_and, c0.I 130 q rfl]
        by_cases e : q = p
        · rw [if_pos e, if_pos e]
        · rw [if_neg e, if_neg e]; exact mK.2.1 q hq
      · rw [← hM2, b2]
        simp only [gI_sI, Nat.reduceEqDiff, false_and, if_false, true_and, c0.I 131 j rfl]
        by_cases h4 : j = 5 * p + 4
        · rw [if_pos h4, if_pos h4]
        · rw [if_neg h4, if_neg h4]
          by_cases h3 : j = 5 * p + 3
          · rw [if_pos h3, if_pos h3]
          · rw [if_neg h3, if_neg h3]
            by_cases h2 : j = 5 * p + 2
            · rw [if_pos h2, if_pos h2]
            · rw [if_neg h2, if_neg h2]
              by_cases h1 : j = 5 * p + 1
              · rw [if_pos h1, if_pos h1]
              · rw [if_neg h1, if_neg h1]
                by_cases h0 : j = 5 * p
                · rw [if_pos h0, if_pos h0]
                · rw [if_neg h0, if_neg h0]; exact mK.2.2 j hj
    subst hB
    refine ⟨(srmL A).use rm.1 cc (by decide), (srmS A).use rm.2.1 cc (by decide), (srmF A).use rm.2.2.1 cc (by decide), (srmE A).use rm.2.2.2.1 cc (by decide), (srmP A).use rm.2.2.2.2.1 cc (by decide), (srmG A).use rm.2.2.2.2.2.1 cc (by decide), ?_, (srmT A).use rm.2.2.2.2.2.2.2.1 cc (by decide), (srmD A).use rm.2.2.2.2.2.2.2.2 cc (by decide)⟩
    exact hE
/-- the state that mark p holds -/
def bkA (A : sA) (p : Nat) : sA := fun k j => if k = 130 then (if A 130 p < A 130 j then 0 else A 130 j) else if k = 66 ∧ j = 9 then A 131 (5 * p) else if k = 66 ∧ j = 3 then A 131 (5 * p + 1) else if k = 66 ∧ j = 55 then A 131 (5 * p + 2) else if k = 66 ∧ j = 77 then A 131 (5 * p + 3) else if k = 66 ∧ j = 69 then A 131 (5 * p + 4) else A k j
theorem wf_bk {A : sA} (w : wfA A) {p : Nat} (hp : p < 4) (hz : A 130 p ≠ 0) : wfA (bkA A p) := by
  obtain ⟨wL, wS, wF, wE, wP, wG, ⟨v1, v2, v3, v4⟩, wT, wD⟩ := w
  obtain ⟨u1, u2, u3, u4, u5, u6⟩ := v3 p hp hz
  have cB : ∀ c0 c1 c4, cons A c0 c1 c4 → cons (bkA A p) c0 c1 c4 := fun c0 c1 c4 h => cons_congr (A := A) (fun i _ => ⟨rfl, rfl, rfl, rfl, rfl⟩) (fun i _ => ⟨rfl, rfl, rfl, rfl⟩) (fun i _ => rfl) h
  refine ⟨⟨Nat.le_trans u3 wL.1, fun i hi => wL.2 i (Nat.lt_of_lt_of_le hi u3)⟩, wS, ⟨Nat.le_trans u2 wF.1, fun i hi => wF.2.1 i (Nat.lt_of_lt_of_le hi u2), fun i j h1 h2 => wF.2.2 i j h1 (Nat.lt_of_lt_of_le h2 u2)⟩, ⟨Nat.le_trans u4 wE.1, fun i hi => wE.2 i (Nat.lt_of_lt_of_le hi u4)⟩, ⟨Nat.le_trans u5 wP.1, fun i hi => wP.2 i (Nat.lt_of_lt_of_le hi u5)⟩, ⟨Nat.le_trans u6 wG.1, fun i hi => ?_, fun c hc => ?_⟩, ⟨cB _ _ _ u1, fun q hq => ?_, fun q hq hzq => ?_, fun a b ha hb hza hle j hj => ?_⟩, wT, wD⟩
  · obtain ⟨g1, g2, g3⟩ := wG.2.1 i (Nat.lt_of_lt_of_le hi u6)
    exact ⟨g1, u1.2 i hi, g3⟩
  · exact Nat.le_trans (fb_ct_mono _ u6) (wG.2.2 c hc)
  · show (if A 130 p < A 130 q then 0 else A 130 q) ≤ A 66 97
    have := v2 q hq
    split <;> omega
  · have hzq' : ¬ (if A 130 p < A 130 q then 0 else A 130 q) = 0 := hzq
    by_cases h : A 130 p < A 130 q
    · rw [if_pos h] at hzq'; exact absurd rfl hzq'
    · rw [if_neg h] at hzq'
      obtain ⟨x1, -⟩ := v3 q hq hzq'
      have m := v4 q p hq hp hzq' (by omega)
      exact ⟨cB _ _ _ x1, m 0 (by decide), m 1 (by decide), m 2 (by decide), m 3 (by decide), m 4 (by decide)⟩
  · have hza' : ¬ (if A 130 p < A 130 a then 0 else A 130 a) = 0 := hza
    have hle' : (if A 130 p < A 130 a then 0 else A 130 a) ≤ (if A 130 p < A 130 b then 0 else A 130 b) := hle
    by_cases h : A 130 p < A 130 a
    · rw [if_pos h] at hza'; exact absurd rfl hza'
    · rw [if_neg h] at hza' hle'
      by_cases h2 : A 130 p < A 130 b
      · rw [if_pos h2] at hle'; omega
      · rw [if_neg h2] at hle'
        exact v4 a b ha hb hza' hle' j hj
theorem op_mark {A : sA} {M : dM} (w : wfA A) (rc : rcA A M) (rm : rmA A M) (hla : A 66 97 < 2147483647) (x : Int32) {bk : Int32} (hbk : bk = nI 0 ∨ bk = nI 1) : ∃ (b : Bool) (A' : sA) (M1 M2 : dM), f_ax_mark x bk M = some (b, M1) ∧ f_mo_mark x bk M1 = some (b, M2) ∧ wfA A' ∧ rcA A' M2 ∧ rmA A' M2 ∧ chS kMar M M2 ∧ A' 66 97 ≤ A 66 97 + 1 ∧ ((chS [25, 26, 3402, 130, 131, 7697, 7600] M M2 ∧ ∀ k j, k ≠ 130 → k ≠ 131 → ¬ (k = 66 ∧ j = 97) → A' k j = A k j) ∨ (fresh M2 ∧ gI M2 6 6 = 0)) := by
  have e8 : f_mo_within x (nI 0) (nI 3) = f_ax_within x (nI 4) := z_mw0 x (n := 3) (by decide)
  have no : f_ax_mark x bk M = some (false, M) → f_mo_mark x bk M = some (false, sI M 66 0 (nI 0)) → ∃ (b : Bool) (A' : sA) (M1 M2 : dM), f_ax_mark x bk M = some (b, M1) ∧ f_mo_mark x bk M1 = some (b, M2) ∧ wfA A' ∧ rcA A' M2 ∧ rmA A' M2 ∧ chS kMar M M2 ∧ A' 66 97 ≤ A 66 97 + 1 ∧ ((chS [25, 26, 3402, 130, 131, 7697, 7600] M M2 ∧ ∀ k j, k ≠ 130 → k ≠ 131 → ¬ (k = 66 ∧ j = 97) → A' k j = A k j) ∨ (fresh M2 ∧ gI M2 6 6 = 0)) := fun h1 h2 => by
    obtain ⟨q1, q2, q3⟩ := thr A (nI 0) w rc rm
    exact ⟨false, A, M, _, h1, h2, w, q1, q2, q3.mono (by decide), by omega, Or.inl ⟨q3.mono (by decide), fun _ _ _ _ _ => rfl⟩⟩
  rcases z_range x 4 (by decide) with h0 | ⟨p, hp, rfl⟩
  · exact no (by unfold f_ax_mark; simp only [fa_lit, h0, Bool.false_eq_true, if_false]) (by unfold f_mo_mark; simp only [fa_lit, e8, h0, Bool.false_eq_true, if_false])
  have k1 : f_ax_within (nI p) (nI 4) = true := by rw [z_within (by omega) (by decide)]; simp [hp]
  rcases hbk with rfl | rfl
  · obtain ⟨A', M1, M2, h1, h2, h3, h4, h5, h6, h7, h8⟩ := op_lay w rc rm hla hp
    exact ⟨true, A', M1, M2, h1, h2, h3, h4, h5, h6.mono (by decide), by omega, Or.inl ⟨h6, h8⟩⟩
  have h10 : ¬ nI 1 = nI 0 := by decide
  obtain ⟨rL, rS, rF, rE, rP, rG, rK, rT, rD⟩ := id rc
  obtain ⟨mL, mS, mF, mE, mP, mG, mK, mT, mD⟩ := id rm
  have wb := wfB w.2.2.2.2.2.2.1 hla
  have cn : ∀ M : dM, chS [7600] M (sI M 66 0 (nI 0)) := fun M => (chS.refl _ M).sI 66 0 _ rfl
  have hgo := c_goBack wb rK.2.1 hp
  by_cases hz : A 130 p = 0
  · refine no ?_ ?_
    · unfold f_ax_mark
      simp only [fa_lit, k1, if_true, h10, if_false, hgo, hz, Option.bind_some, Bool.false_eq_true]
    · unfold f_mo_mark
      have := wb p hp
      simp (disch := omega) only [fa_lit, e8, k1, if_true, h10, if_false, z_in, z_cl, z_gdT, (cn M).I 130 p rfl, mK.2.1 p hp, hz]
  rw [if_neg hz] at hgo
  have c26 := chS_dz A 26 p M rfl 4
  have hmul : p * 5 = 5 * p := Nat.mul_comm _ _
  have r25 : ∀ j, j < 20 → gI (dz A 26 p M 4) 25 j = nI (A 131 j) := fun j hj => by rw [c26.I 25 j rfl]; exact rK.2.2 j hj
  have hc : f_ax_mark (nI p) (nI 1) M = some (true, f_ax_changed (sI (sI (sI (sI (sI (sI (dz A 26 p M 4) 12 7 (nI (A 131 (5 * p)))) 12 11 (nI (A 131 (5 * p + 2)))) 12 13 (nI (A 131 (5 * p + 3)))) 6 5 (nI (A 131 (5 * p + 1)))) 6 6 (nI 0)) 50 4 (nI (A 131 (5 * p + 4))))) := by
    unfold f_ax_mark f_pl_kept f_li_keepFirst
    simp (disch := omega) only [fa_lit, k1, if_true, h10, if_false, hgo, Option.bind_some, z_mul, z_add, z_in, z_cl, z_gdT, gI_sI, Nat.reduceEqDiff, false_and, hmul, Nat.add_zero, r25]
  generalize hM' : sI (sI (sI (sI (sI (sI (dz A 26 p M 4) 12 7 (nI (A 131 (5 * p)))) 12 11 (nI (A 131 (5 * p + 2)))) 12 13 (nI (A 131 (5 * p + 3)))) 6 5 (nI (A 131 (5 * p + 1)))) 6 6 (nI 0)) 50 4 (nI (A 131 (5 * p + 4))) = M' at hc
  have c0 : chS [26, 2207, 2211, 2213, 1605, 1606, 6004] M M' := by rw [← hM']; exact ((((((c26.mono (by decide)).sI 12 7 _ rfl).sI 12 11 _ rfl).sI 12 13 _ rfl).sI 6 5 _ rfl).sI 6 6 _ rfl).sI 50 4 _ rfl
  have c01 : chS ([26, 2207, 2211, 2213, 1605, 1606, 6004] ++ kFr) M (f_ax_changed M') := chS_changed (c0.mono (by decide)) (by decide)
  have c02 : chS ([26, 2207, 2211, 2213, 1605, 1606, 6004, 7600] ++ kFr) M (sI (f_ax_changed M') 66 0 (nI 0)) := (c01.mono (by decide)).trans ((cn _).mono (by decide))
  have hm : f_mo_mark (nI p) (nI 1) (f_ax_changed M') = some (true, dz A 130 p (sI (sI (sI (sI (sI (sI (f_ax_changed M') 66 0 (nI 0)) 66 9 (nI (A 131 (5 * p)))) 66 3 (nI (A 131 (5 * p + 1)))) 66 55 (nI (A 131 (5 * p + 2)))) 66 77 (nI (A 131 (5 * p + 3)))) 66 69 (nI (A 131 (5 * p + 4)))) 4) := by
    have hb := wb p hp
    have r131 : ∀ j, j < 20 → gI (f_ax_changed M') 131 j = nI (A 131 j) := fun j hj => by rw [c01.I 131 j rfl]; exact mK.2.2 j hj
    have r130 : ∀ q, q < 4 → gI (f_ax_changed M') 130 q = nI (A 130 q) := fun q hq => by rw [c01.I 130 q rfl]; exact mK.2.1 q hq
    have g130 := r130 p hp
    unfold f_mo_mark t_mo_mark_29
    have hm4 := m_goBack (M := sI (sI (sI (sI (sI (sI (f_ax_changed M') 66 0 (nI 0)) 66 9 (nI (A 131 (5 * p)))) 66 3 (nI (A 131 (5 * p + 1)))) 66 55 (nI (A 131 (5 * p + 2)))) 66 77 (nI (A 131 (5 * p + 3)))) 66 69 (nI (A 131 (5 * p + 4)))) wb (fun q hq => by simp only [gI_sI, Nat.reduceEqDiff, false_and, if_false]; exact r130 q hq) hp
    simp (disch := omega) only [fa_lit, e8, k1, if_true, h10, if_false, z_mul, z_add, z_in, z_cl, z_gdT, gI_sI, Nat.reduceEqDiff, false_and, g130, z_eq, hz, r131, hm4, Option.bind_some]
  generalize hM4 : sI (sI (sI (sI (sI (sI (f_ax_changed M') 66 0 (nI 0)) 66 9 (nI (A 131 (5 * p)))) 66 3 (nI (A 131 (5 * p + 1)))) 66 55 (nI (A 131 (5 * p + 2)))) 66 77 (nI (A 131 (5 * p + 3)))) 66 69 (nI (A 131 (5 * p + 4))) = M4 at hm
  have d4 : chS [7600, 7609, 7603, 7655, 7677, 7669] (f_ax_changed M') M4 := by rw [← hM4]; exact ((((((chS.refl _ _).sI 66 0 _ rfl).sI 66 9 _ rfl).sI 66 3 _ rfl).sI 66 55 _ rfl).sI 66 77 _ rfl).sI 66 69 _ rfl
  have d5 := chS_dz A 130 p M4 rfl 4
  have d2 : chS [130, 7600, 7609, 7603, 7655, 7677, 7669] (f_ax_changed M') (dz A 130 p M4 4) := (d4.mono (by decide)).trans (d5.mono (by decide))
  have d : chS ([130, 7600, 7609, 7603, 7655, 7677, 7669] ++ kFr) M' (dz A 130 p M4 4) := (chS_changed (chS.refl _ M') (by decide)).trans (d2.mono (by decide))
  have cc : chS kMar M (dz A 130 p M4 4) := (c0.mono (by decide)).trans (d.mono (by decide))
  obtain ⟨u1, u2, u3, u4, u5, u6⟩ := w.2.2.2.2.2.2.1.2.2.1 p hp hz
  generalize hM2 : dz A 130 p M4 4 = M2 at *
  have g66 : gI M2 66 9 = nI (A 131 (5 * p)) ∧ gI M2 66 3 = nI (A 131 (5 * p + 1)) ∧ gI M2 66 55 = nI (A 131 (5 * p + 2)) ∧ gI M2 66 77 = nI (A 131 (5 * p + 3)) ∧ gI M2 66 69 = nI (A 131 (5 * p + 4)) := by
    rw [d5.I 66 9 rfl, d5.I 66 3 rfl, d5.I 66 55 rfl, d5.I 66 77 rfl, d5.I 66 69 rfl, ← hM4]
    simp only [gI_sI, Nat.reduceEqDiff, and_false, if_false, and_self, if_true, true_and]
  have gC : gI M2 12 7 = nI (A 131 (5 * p)) ∧ gI M2 6 5 = nI (A 131 (5 * p + 1)) ∧ gI M2 12 11 = nI (A 131 (5 * p + 2)) ∧ gI M2 12 13 = nI (A 131 (5 * p + 3)) ∧ gI M2 50 4 = nI (A 131 (5 * p + 4)) ∧ gI M2 6 6 = 0 := by
    rw [d.I 12 7 rfl, d.I 6 5 rfl, d.I 12 11 rfl, d.I 12 13 rfl, d.I 50 4 rfl, d.I 6 6 rfl, ← hM']
    simp only [gI_sI, Nat.reduceEqDiff, false_and, and_false, if_false, and_self, if_true, true_and]
    rfl
  have hif : ∀ q, (nI (if A 130 p < A 130 q then 0 else A 130 q) = if q < 4 ∧ A 130 p < A 130 q then nI 0 else nI (A 130 q)) ∨ ¬ q < 4 := fun q => by
    by_cases h4 : q < 4
    · left
      by_cases h : A 130 p < A 130 q
      · rw [if_pos h, if_pos ⟨h4, h⟩]
      · rw [if_neg h, if_neg (fun z => h z.2)]
    · exact Or.inr h4
  refine ⟨true, bkA A p, f_ax_changed M', M2, hc, hm, wf_bk w hp hz, ?_, ?_, cc, by show A 66 97 ≤ _; omega, Or.inr ⟨sfresh.use (fresh_changed M') d2 (by decide), gC.2.2.2.2.2⟩⟩
  · have hL : rcL (bkA A p) M2 := ⟨gC.2.1, fun i hi => by rw [cc.I 7 i rfl, cc.I 8 i rfl, cc.I 9 i rfl, cc.I 10 i rfl]; exact rL.2 i (Nat.lt_of_lt_of_le hi u3)⟩
    have hF : rcF (bkA A p) M2 := ⟨gC.1, fun i hi => by rw [cc.I 13 i rfl, cc.I 14 i rfl, cc.I 15 i rfl, cc.I 16 i rfl, cc.I 17 i rfl, cc.I 18 i rfl, cc.I 19 i rfl]; exact rF.2 i (Nat.lt_of_lt_of_le hi u2)⟩
    have hE : rcE (bkA A p) M2 := ⟨gC.2.2.1, fun i hi => by rw [cc.I 20 i rfl, cc.I 21 i rfl, cc.I 22 i rfl]; exact rE.2 i (Nat.lt_of_lt_of_le hi u4)⟩
    have hP : rcP (bkA A p) M2 := ⟨gC.2.2.2.1, fun i hi => by rw [cc.I 23 i rfl]; exact rP.2 i (Nat.lt_of_lt_of_le hi u5)⟩
    have hG : rcG (bkA A p) M2 := ⟨gC.2.2.2.2.1, fun i hi => by rw [cc.I 51 i rfl, cc.J 52 i rfl, cc.I 53 i rfl]; exact rG.2 i (Nat.lt_of_lt_of_le hi u6)⟩
    have hK : rcK (bkA A p) M2 := by
      have e1 : chS [2207, 2211, 2213, 1605, 1606, 6004, 7600, 7609, 7603, 7655, 7677, 7669, 130, 1010, 4909, 6006, 6009, 6614, 6616] (dz A 26 p M 4) M2 := by
        have x1 : chS [2207, 2211, 2213, 1605, 1606, 6004] (dz A 26 p M 4) M' := by rw [← hM']; exact ((((((chS.refl _ _).sI 12 7 _ rfl).sI 12 11 _ rfl).sI 12 13 _ rfl).sI 6 5 _ rfl).sI 6 6 _ rfl).sI 50 4 _ rfl
        exact (x1.mono (by decide)).trans (d.mono (by decide))
      refine ⟨?_, fun q hq => ?_, fun j hj => ?_⟩
      · rw [e1.I 24 2 rfl, c26.I 24 2 rfl]; exact rK.1
      · rw [e1.I 26 q rfl, dz_at, rK.2.1 q hq]
        show _ = nI (if A 130 p < A 130 q then 0 else A 130 q)
        exact ((hif q).resolve_right (fun z => z hq)).symm
      · rw [e1.I 25 j rfl, c26.I 25 j rfl]; exact rK.2.2 j hj
    refine ⟨hL, ?_, hF, hE, hP, hG, hK, ?_, ?_⟩
    · exact (srcS A).use rS cc (by decide)
    · exact (srcT A).use rT cc (by decide)
    · exact (srcD A).use rD cc (by decide)
  · have hL : rmL (bkA A p) M2 := ⟨g66.2.1, fun i hi => by rw [cc.I 69 i rfl, cc.I 70 i rfl, cc.I 71 i rfl, cc.I 72 i rfl, cc.I 73 i rfl]; exact mL.2 i (Nat.lt_of_lt_of_le hi u3)⟩
    have hF : rmF (bkA A p) M2 := ⟨g66.1, fun i hi => by rw [cc.I 74 i rfl, cc.I 75 i rfl, cc.I 76 i rfl, cc.I 77 i rfl, cc.I 78 i rfl, cc.I 79 i rfl, cc.I 80 i rfl]; exact mF.2 i (Nat.lt_of_lt_of_le hi u2)⟩
    have hE : rmE (bkA A p) M2 := ⟨g66.2.2.1, fun i hi => by rw [cc.I 101 i rfl, cc.I 102 i rfl, cc.I 103 i rfl]; exact mE.2 i (Nat.lt_of_lt_of_le hi u4)⟩
    have hP : rmP (bkA A p) M2 := ⟨g66.2.2.2.1, fun i hi => by rw [cc.I 113 i rfl]; exact mP.2 i (Nat.lt_of_lt_of_le hi u5)⟩
    have hG : rmG (bkA A p) M2 := ⟨g66.2.2.2.2, fun i hi => by rw [cc.I 108 i rfl, cc.J 109 i rfl, cc.I 110 i rfl]; exact mG.2 i (Nat.lt_of_lt_of_le hi u6)⟩
    have x4 : chS ([26, 2207, 2211, 2213, 1605, 1606, 6004, 7600, 7609, 7603, 7655, 7677, 7669] ++ kFr) M M4 := (c01.mono (by decide)).trans (d4.mono (by decide))
    have x5 : chS ([26, 2207, 2211, 2213, 1605, 1606, 6004, 7600, 7609, 7603, 7655, 7677, 7669, 130] ++ kFr) M M2 := (x4.mono (by decide)).trans (d5.mono (by decide))
    have hK : rmK (bkA A p) M2 := by
      refine ⟨?_, fun q hq => ?_, fun j hj => ?_⟩
      · rw [x5.I 66 97 rfl]; exact mK.1
      · rw [← hM2, dz_at, x4.I 130 q rfl, mK.2.1 q hq]
        show _ = nI (if A 130 p < A 130 q then 0 else A 130 q)
        exact ((hif q).resolve_right (fun z => z hq)).symm
      · rw [x5.I 131 j rfl]; exact mK.2.2 j hj
    refine ⟨hL, ?_, hF, hE, hP, hG, hK, ?_, ?_⟩
    · exact (srmS A).use mS cc (by decide)
    · exact (srmT A).use mT cc (by decide)
    · exact (srmD A).use mD cc (by decide)
