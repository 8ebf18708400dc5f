/-! ===== present, find ===== -/
theorem m_presentAt {A : sA} {M : dM} (w : wfL A) (r : rmL A M) {s d h : Nat} (hs : s < 8) (hd : d < 1000) (hh : h < 24) : f_mo_presentAt (nI s) (nI d) (nI h) M = some (nI (pre A s d h)) := by
  have hn := w.1
  have e0 := r.1
  unfold f_mo_presentAt l_mo_presentAt_6
  simp only [fa_lit]
  have key := lpc_seq (body := fun s_1 : Int32 × Int32 => b_mo_presentAt_6_6 (nI s) (nI d) (nI h) s_1.1 s_1.2 M) (x := nI (pre A s d h)) (fun i => (nI (prs A s d h i), nI i)) (A 66 3) ?_ ?_
  · rw [show (nI 0, nI 0) = (nI (prs A s d h 0), nI 0) from rfl, key]
    rfl
  · intro i hi
    obtain ⟨h1, h2, h3, h4, h5⟩ := r.2 i hi
    obtain ⟨w1, w2, w3, w4, w5⟩ := w.2 i hi
    have hp := prs_lt w s d h i (by omega)
    show b_mo_presentAt_6_6 _ _ _ _ _ M = _
    unfold b_mo_presentAt_6_6
    simp (disch := omega) only [e0, z_le, z_lt, z_eq, z_cl, z_in, z_gdT, h1, h2, h3, h4, h5, y_1shl, z_or, z_add, fa_lit]
    rw [if_neg (by omega), prs_s]
    unfold atL
    by_cases c1 : A 70 i = s
    · by_cases c2 : A 71 i = d
      · by_cases c3 : h < A 72 i
        · have n3 : ¬ A 72 i ≤ h := by omega
          simp [c1, c2, c3, n3]
        · have n3 : A 72 i ≤ h := by omega
          by_cases c4 : A 73 i < h
          · have n4 : ¬ h ≤ A 73 i := by omega
            simp [c1, c2, c3, c4, n4]
          · have n4 : h ≤ A 73 i := by omega
            simp [c1, c2, c3, c4, n3, n4]
      · simp [c1, c2]
    · simp [c1]
  · show b_mo_presentAt_6_6 _ _ _ _ _ M = _
    unfold b_mo_presentAt_6_6
    simp (disch := omega) only [e0, z_le]
    rw [if_pos (Nat.le_refl _)]
    rfl
theorem op_present {A : sA} {M : dM} (w : wfA A) (rc : rcA A M) (rm : rmA A M) (x1 x2 x3 : Int32) : ∃ v : Int32, f_ax_present x1 x2 x3 M = some v ∧ f_mo_present x1 x2 x3 M = some (v, sI M 66 0 (nI 0)) := by
  have e8 : f_mo_isSite x1 = f_ax_within x1 (nI 8) := z_site x1
  have e10 : f_mo_within x2 (nI 0) (nI 999) = f_ax_within x2 (nI 1000) := z_mw0 x2 (n := 999) (by decide)
  have e10k : f_mo_within x3 (nI 0) (nI 23) = f_ax_within x3 (nI 24) := z_mw0 x3 (n := 23) (by decide)
  unfold f_ax_present f_mo_present
  simp only [fa_lit, e8, e10, e10k]
  rcases z_range x1 8 (by decide) with h0 | ⟨s, hs, rfl⟩
  · exact ⟨-nI 1, by simp only [h0, Bool.false_eq_true, if_false], by simp only [h0, Bool.false_eq_true, if_false]⟩
  rcases z_range x2 1000 (by decide) with h0 | ⟨d, hd, rfl⟩
  · exact ⟨-nI 1, by simp only [h0, Bool.false_eq_true, if_false, ite_self], by simp only [h0, Bool.false_eq_true, if_false, ite_self]⟩
  rcases z_range x3 24 (by decide) with h0 | ⟨h, hh, rfl⟩
  · exact ⟨-nI 1, by simp only [h0, Bool.false_eq_true, if_false, ite_self], by simp only [h0, Bool.false_eq_true, if_false, ite_self]⟩
  have k1 : f_ax_within (nI s) (nI 8) = true := by rw [z_within (by omega) (by decide)]; simp [hs]
  have k2 : f_ax_within (nI d) (nI 1000) = true := by rw [z_within (by omega) (by decide)]; simp [hd]
  have k3 : f_ax_within (nI h) (nI 24) = true := by rw [z_within (by omega) (by decide)]; simp [hh]
  have cn : chS [7600] M (sI M 66 0 (nI 0)) := (chS.refl _ M).sI 66 0 _ rfl
  refine ⟨nI (pre A s d h), ?_, ?_⟩
  · simp only [k1, k2, k3, if_true, c_whoAt w.1 rc.1 hs hd hh, Option.bind_some]
  · simp only [k1, k2, k3, if_true, m_presentAt w.1 ((srmL A).use rm.1 cn (by decide)) hs hd hh, Option.bind_some]
theorem z_bit1 {m k : Nat} (hk : k < 31) (h : m < 2147483648) : ((nI m >>> (nI k &&& nI 31)) &&& nI 1 = nI 0) = (m.testBit k = false) := by
  have h1 : m / 2 ^ k ≤ m := Nat.div_le_self _ _
  rw [y_shr (by omega) h, z_and, Nat.and_one_is_mod, z_eq (by omega) (by decide), Nat.testBit_eq_decide_div_mod_eq]
  apply propext
  simp
def kFin : List Nat := [2207, 13, 14, 15, 16, 17, 18, 19, 74, 75, 76, 77, 78, 79, 80, 7609, 7600] ++ kFr
theorem op_find {A : sA} {M : dM} (w : wfA A) (rc : rcA A M) (rm : rmA A M) (x1 x2 x3 x4 x5 x6 x7 : Int32) : opT kFin A M (fun b M2 => ∃ M1, f_ax_find x1 x2 x3 x4 x5 x6 x7 M = some (b, M1) ∧ f_mo_find x1 x2 x3 x4 x5 x6 x7 M1 = some (b, M2)) := by
  have e1 : f_mo_isSite x1 = f_ax_within x1 (nI 8) := z_site x1
  have e2 : f_mo_within x2 (nI 0) (nI 9) = f_ax_within x2 (nI 10) := z_mw0 x2 (n := 9) (by decide)
  have e3 : f_mo_within x3 (nI 0) (nI 999) = f_ax_within x3 (nI 1000) := z_mw0 x3 (n := 999) (by decide)
  have e4 : f_mo_within x4 (nI 0) (nI 23) = f_ax_within x4 (nI 24) := z_mw0 x4 (n := 23) (by decide)
  have e5 : f_mo_isHand x5 = f_ax_within x5 (nI 10) := z_hand x5
  have e6 : f_mo_within x6 (nI 0) (nI 255) = f_ax_within x6 (nI 256) := z_mw0 x6 (n := 255) (by decide)
  have e7 : f_mo_within x7 (nI 0) (nI 99) = f_ax_within x7 (nI 100) := z_mw0 x7 (n := 99) (by decide)
  have no : f_ax_find x1 x2 x3 x4 x5 x6 x7 M = some (-nI 1, M) → f_mo_find x1 x2 x3 x4 x5 x6 x7 M = some (-nI 1, sI M 66 0 (nI 0)) → opT kFin A M (fun b M2 => ∃ M1, f_ax_find x1 x2 x3 x4 x5 x6 x7 M = some (b, M1) ∧ f_mo_find x1 x2 x3 x4 x5 x6 x7 M1 = some (b, M2)) := fun h1 h2 => opT_no (b := -nI 1) (x := nI 0) (by decide) w rc rm ⟨M, h1, h2⟩
  rcases z_range x1 8 (by decide) with h0 | ⟨s, hs, rfl⟩
  · exact no (by unfold f_ax_find; simp only [fa_lit, h0, Bool.false_eq_true, if_false]) (by unfold f_mo_find; simp only [fa_lit, e1, h0, Bool.false_eq_true, if_false])
  have k1 : f_ax_within (nI s) (nI 8) = true := by rw [z_within (by omega) (by decide)]; simp [hs]
  rcases z_range x2 10 (by decide) with h0 | ⟨l, hl, rfl⟩
  · exact no (by unfold f_ax_find; simp only [fa_lit, h0, Bool.false_eq_true, if_false, ite_self]) (by unfold f_mo_find; simp only [fa_lit, e1, e2, h0, Bool.false_eq_true, if_false, ite_self])
  have k2 : f_ax_within (nI l) (nI 10) = true := by rw [z_within (by omega) (by decide)]; simp [hl]
  have w67 := (w.2.1.1 (10 * s + l) (by omega)).1
  have ha := (rm.2.1.1 (10 * s + l) (by omega)).1
  have cn : ∀ M : dM, chS [7600] M (sI M 66 0 (nI 0)) := fun M => (chS.refl _ M).sI 66 0 _ rfl
  have hm0 : ∀ M1, gI M1 67 (10 * s + l) = ageI (A 67 (10 * s + l)) → f_mo_find (nI s) (nI l) x3 x4 x5 x6 x7 M1 = if A 67 (10 * s + l) = 0 then some (-nI 1, sI M1 66 0 (nI 0)) else (if f_ax_within x3 (nI 1000) = true then (if f_ax_within x4 (nI 24) = true then (if f_ax_within x5 (nI 10) = true then (if f_ax_within x6 (nI 256) = true then (if f_ax_within x7 (nI 100) = true then (if gI (sI M1 66 0 (nI 0)) 66 9 = nI 40 then some (-nI 1, sI M1 66 0 (nI 0)) else (if gI (sI M1 66 0 (nI 0)) 66 9 ≤ nI 0 then t_mo_find_122 (nI s) (nI l) x3 x4 x5 x6 x7 (sI M1 66 0 (nI 0)) else gd (vp_in (gI (sI M1 66 0 (nI 0)) 66 9 - nI 1) 40) (if x3 < gI (sI M1 66 0 (nI 0)) 76 (gI (sI M1 66 0 (nI 0)) 66 9 - nI 1).toNatClampNeg then some (-nI 1, sI M1 66 0 (nI 0)) else t_mo_find_122 (nI s) (nI l) x3 x4 x5 x6 x7 (sI M1 66 0 (nI 0))))) else some (-nI 1, sI M1 66 0 (nI 0))) else some (-nI 1, sI M1 66 0 (nI 0))) else some (-nI 1, sI M1 66 0 (nI 0))) else some (-nI 1, sI M1 66 0 (nI 0))) else some (-nI 1, sI M1 66 0 (nI 0))) := by
    intro M1 h
    unfold f_mo_find
    simp (disch := omega) only [fa_lit, e1, e2, e3, e4, e5, e6, e7, k1, k2, if_true, z_mul, z_add, z_in, z_cl, z_gdT, (cn M1).I 67 _ rfl, h, ageI_neg' w67]
    rfl
  have hbad : (f_ax_within x3 (nI 1000) = false ∨ f_ax_within x4 (nI 24) = false ∨ f_ax_within x5 (nI 10) = false ∨ f_ax_within x6 (nI 256) = false ∨ f_ax_within x7 (nI 100) = false) → opT kFin A M (fun b M2 => ∃ M1, f_ax_find (nI s) (nI l) x3 x4 x5 x6 x7 M = some (b, M1) ∧ f_mo_find (nI s) (nI l) x3 x4 x5 x6 x7 M1 = some (b, M2)) := by
    intro h
    refine no ?_ ?_
    · unfold f_ax_find
      rcases h with h | h | h | h | h <;> simp only [fa_lit, k1, k2, h, Bool.false_eq_true, if_false, ite_self]
    · rw [hm0 M ha]
      rcases h with h | h | h | h | h <;> simp only [h, Bool.false_eq_true, if_false, ite_self]
  rcases z_range x3 1000 (by decide) with h0 | ⟨day, hd, rfl⟩
  · exact hbad (Or.inl h0)
  rcases z_range x4 24 (by decide) with h0 | ⟨hour, hh, rfl⟩
  · exact hbad (Or.inr (Or.inl h0))
  rcases z_range x5 10 (by decide) with h0 | ⟨hand, hp, rfl⟩
  · exact hbad (Or.inr (Or.inr (Or.inl h0)))
  rcases z_range x6 256 (by decide) with h0 | ⟨marks, hmk, rfl⟩
  · exact hbad (Or.inr (Or.inr (Or.inr (Or.inl h0))))
  rcases z_range x7 100 (by decide) with h0 | ⟨stone, hst, rfl⟩
  · exact hbad (Or.inr (Or.inr (Or.inr (Or.inr h0))))
  have k3 : f_ax_within (nI day) (nI 1000) = true := by rw [z_within (by omega) (by decide)]; simp [hd]
  have k4 : f_ax_within (nI hour) (nI 24) = true := by rw [z_within (by omega) (by decide)]; simp [hh]
  have k5 : f_ax_within (nI hand) (nI 10) = true := by rw [z_within (by omega) (by decide)]; simp [hp]
  have k6 : f_ax_within (nI marks) (nI 256) = true := by rw [z_within (by omega) (by decide)]; simp [hmk]
  have k7 : f_ax_within (nI stone) (nI 100) = true := by rw [z_within (by omega) (by decide)]; simp [hst]
  simp only [k3, k4, k5, k6, k7, if_true] at hm0
  have hp10 := pre_lt w.1 s day hour
  have n0 := w.2.2.1.1
  have g0 := rc.2.2.1.1
  have m0 := rm.2.2.1.1
  by_cases ht : A 67 (10 * s + l) = 0
  · refine no ?_ (by rw [hm0 M ha, if_pos ht])
    unfold f_ax_find
    simp only [fa_lit, k1, k2, k3, k4, k5, k6, k7, if_true, c_isTold rc.2.1 hs hl, Option.bind_some, ht, ne_eq, not_true, decide_false, Bool.false_eq_true, if_false]
  have hax : f_ax_find (nI s) (nI l) (nI day) (nI hour) (nI hand) (nI marks) (nI stone) M = if (pre A s day hour).testBit hand = true then (f_to_tellFind (nI s) (nI l) (nI day) (nI hour) (nI hand) (nI marks) (nI stone) M).bind (fun q5 => if q5.1 = -nI 1 then some (q5.1, q5.2) else some (q5.1, f_ax_changed q5.2)) else some (-nI 1, M) := by
    unfold f_ax_find
    have q : decide (A 67 (10 * s + l) ≠ 0) = true := by simpa using ht
    have q2 : f_ax_hasBit (nI (pre A s day hour)).toInt64 (nI hand) = (pre A s day hour).testBit hand := z_hasBit (by omega) (by omega)
    rw [fa_lit 8, fa_lit 10, fa_lit 1000, fa_lit 24, fa_lit 256, fa_lit 100, fa_lit 1]
    rw [if_pos k1, if_pos k2, if_pos k3, if_pos k4, if_pos k5, if_pos k6, if_pos k7, c_isTold rc.2.1 hs hl, Option.bind_some, if_pos q, c_whoAt w.1 rc.1 hs hd hh, Option.bind_some, q2]
  -- the reference, behind its tests of what came in
  have hmt : ∀ M1, rmL A M1 → gI M1 66 9 = nI (A 66 9) → A 66 9 < 40 → t_mo_find_122 (nI s) (nI l) (nI day) (nI hour) (nI hand) (nI marks) (nI stone) M1 = if (pre A s day hour).testBit hand = false then some (-nI 1, M1) else some (nI (A 66 9), sI (sI (sI (sI (sI (sI (sI (sI M1 74 (A 66 9) (nI s)) 75 (A 66 9) (nI l)) 76 (A 66 9) (nI day)) 77 (A 66 9) (nI hour)) 78 (A 66 9) (nI hand)) 79 (A 66 9) (nI marks)) 80 (A 66 9) (nI stone)) 66 9 (nI (A 66 9 + 1))) := by
    intro M1 r9 h9 hlt
    unfold t_mo_find_122
    simp (disch := omega) only [fa_lit, m_presentAt w.1 r9 hs hd hh, Option.bind_some, z_bit1, h9, z_in, z_cl, z_gdT, gI_sI, Nat.reduceEqDiff, and_false, false_and, if_false, and_self, true_and, if_true, z_add, z_sub, Nat.add_sub_cancel]
  have hM0 : ∀ M1, gI M1 67 (10 * s + l) = ageI (A 67 (10 * s + l)) → rmL A M1 → rmF A M1 → f_mo_find (nI s) (nI l) (nI day) (nI hour) (nI hand) (nI marks) (nI stone) M1 = if A 66 9 = 40 ∨ (0 < A 66 9 ∧ day < A 76 (A 66 9 - 1)) then some (-nI 1, sI M1 66 0 (nI 0)) else t_mo_find_122 (nI s) (nI l) (nI day) (nI hour) (nI hand) (nI marks) (nI stone) (sI M1 66 0 (nI 0)) := by
    intro M1 q1 q2 q3
    have q4 : gI (sI M1 66 0 (nI 0)) 66 9 = nI (A 66 9) := by rw [(cn M1).I 66 9 rfl]; exact q3.1
    rw [hm0 M1 q1, if_neg ht, q4]
    by_cases h40 : A 66 9 = 40
    · rw [if_pos (by rw [h40]), if_pos (Or.inl h40)]
    · simp (disch := omega) only [z_eq, h40, if_false, z_le, false_or]
      by_cases hz : A 66 9 = 0
      · rw [if_pos (by omega), if_neg (by omega)]
      · rw [if_neg (by omega)]
        have q5 : gI (sI M1 66 0 (nI 0)) 76 (A 66 9 - 1) = nI (A 76 (A 66 9 - 1)) := by rw [(cn M1).I 76 _ rfl]; exact (q3.2 _ (by omega)).2.2.1
        have w76 := (w.2.2.1.2.1 (A 66 9 - 1) (by omega)).2.2.1
        simp (disch := omega) only [z_sub, z_in, z_cl, z_gdT, q5, z_lt]
        by_cases hlt : day < A 76 (A 66 9 - 1)
        · rw [if_pos hlt, if_pos ⟨by omega, hlt⟩]
        · rw [if_neg hlt, if_neg (fun z => hlt z.2)]
  by_cases hb : (pre A s day hour).testBit hand = true
  · have hct : f_to_tellFind (nI s) (nI l) (nI day) (nI hour) (nI hand) (nI marks) (nI stone) M = if A 66 9 = 40 ∨ (0 < A 66 9 ∧ day < A 76 (A 66 9 - 1)) then some (-nI 1, M) else some (nI (A 66 9), sI (sI (sI (sI (sI (sI (sI (sI M 13 (A 66 9) (nI s)) 14 (A 66 9) (nI l)) 15 (A 66 9) (nI day)) 16 (A 66 9) (nI hour)) 17 (A 66 9) (nI hand)) 18 (A 66 9) (nI marks)) 19 (A 66 9) (nI stone)) 12 7 (nI (A 66 9 + 1))) := by
      have ht33 : A 66 9 < 40 → t_to_tellFind_33 (nI s) (nI l) (nI day) (nI hour) (nI hand) (nI marks) (nI stone) M = some (nI (A 66 9), sI (sI (sI (sI (sI (sI (sI (sI M 13 (A 66 9) (nI s)) 14 (A 66 9) (nI l)) 15 (A 66 9) (nI day)) 16 (A 66 9) (nI hour)) 17 (A 66 9) (nI hand)) 18 (A 66 9) (nI marks)) 19 (A 66 9) (nI stone)) 12 7 (nI (A 66 9 + 1))) := by
        intro hlt
        unfold t_to_tellFind_33
        simp (disch := omega) only [fa_lit, g0, z_in, z_cl, z_gdT, gI_sI, Nat.reduceEqDiff, and_false, false_and, if_false, and_self, true_and, if_true, z_add, z_sub, Nat.add_sub_cancel]
      unfold f_to_tellFind
      simp (disch := omega) only [fa_lit, g0, z_le]
      by_cases h40 : A 66 9 = 40
      · rw [if_pos (by omega), if_pos (Or.inl h40)]
      · rw [if_neg (by omega)]
        by_cases hz : A 66 9 = 0
        · rw [if_pos (by omega), if_neg (by omega), ht33 (by omega)]
        · rw [if_neg (by omega)]
          have q5 : gI M 15 (A 66 9 - 1) = nI (A 76 (A 66 9 - 1)) := (rc.2.2.1.2 _ (by omega)).2.2.1
          have w76 := (w.2.2.1.2.1 (A 66 9 - 1) (by omega)).2.2.1
          simp (disch := omega) only [z_sub, z_in, z_cl, z_gdT, q5, z_le]
          by_cases hlt : day < A 76 (A 66 9 - 1)
          · rw [if_neg (by omega), if_pos (Or.inr ⟨by omega, hlt⟩)]
          · rw [if_pos (by omega), if_neg (by omega), ht33 (by omega)]
    rw [if_pos hb, hct] at hax
    by_cases hbad2 : A 66 9 = 40 ∨ (0 < A 66 9 ∧ day < A 76 (A 66 9 - 1))
    · refine no ?_ (by rw [hM0 M ha rm.1 rm.2.2.1, if_pos hbad2])
      rw [hax, if_pos hbad2]
      simp only [Option.bind_some, if_true]
    have hlt : A 66 9 < 40 := by omega
    have hne : ¬ nI (A 66 9) = -nI 1 := by
      rw [fa_eq, nI_toInt (by omega)]
      have : (-nI 1).toInt = -1 := by decide
      omega
    rw [if_neg hbad2] at hax
    simp only [Option.bind_some, hne, if_false] at hax
    revert hax
    generalize hM' : sI (sI (sI (sI (sI (sI (sI (sI M 13 (A 66 9) (nI s)) 14 (A 66 9) (nI l)) 15 (A 66 9) (nI day)) 16 (A 66 9) (nI hour)) 17 (A 66 9) (nI hand)) 18 (A 66 9) (nI marks)) 19 (A 66 9) (nI stone)) 12 7 (nI (A 66 9 + 1)) = M'
    intro hax
    have c0 : chS [13, 14, 15, 16, 17, 18, 19, 2207] M M' := by rw [← hM']; exact ((((((((chS.refl _ M).sI 13 _ _ rfl).sI 14 _ _ rfl).sI 15 _ _ rfl).sI 16 _ _ rfl).sI 17 _ _ rfl).sI 18 _ _ rfl).sI 19 _ _ rfl).sI 12 7 _ rfl
    have c01 : chS ([13, 14, 15, 16, 17, 18, 19, 2207] ++ kFr) M (f_ax_changed M') := chS_changed (c0.mono (by decide)) (by decide)
    have c02 : chS ([7600, 13, 14, 15, 16, 17, 18, 19, 2207] ++ kFr) M (sI (f_ax_changed M') 66 0 (nI 0)) := (c01.mono (by decide)).trans ((cn _).mono (by decide))
    have hm2 := hM0 (f_ax_changed M') (by rw [c01.I 67 _ rfl]; exact ha) ((srmL A).use rm.1 c01 (by decide)) ((srmF A).use rm.2.2.1 c01 (by decide))
    rw [if_neg hbad2, hmt _ ((srmL A).use rm.1 c02 (by decide)) (by rw [c02.I 66 9 rfl]; exact m0) hlt, if_neg (by rw [hb]; decide)] at hm2
    generalize hM2 : sI (sI (sI (sI (sI (sI (sI (sI (sI (f_ax_changed M') 66 0 (nI 0)) 74 (A 66 9) (nI s)) 75 (A 66 9) (nI l)) 76 (A 66 9) (nI day)) 77 (A 66 9) (nI hour)) 78 (A 66 9) (nI hand)) 79 (A 66 9) (nI marks)) 80 (A 66 9) (nI stone)) 66 9 (nI (A 66 9 + 1)) = M2 at hm2
    have d2 : chS [74, 75, 76, 77, 78, 79, 80, 7609, 7600] (f_ax_changed M') M2 := by rw [← hM2]; exact (((((((((chS.refl _ _).sI 66 0 _ rfl).sI 74 _ _ rfl).sI 75 _ _ rfl).sI 76 _ _ rfl).sI 77 _ _ rfl).sI 78 _ _ rfl).sI 79 _ _ rfl).sI 80 _ _ rfl).sI 66 9 _ rfl
    have d : chS ([74, 75, 76, 77, 78, 79, 80, 7609, 7600] ++ kFr) M' M2 := (chS_changed (chS.refl _ M') (by decide)).trans (d2.mono (by decide))
    have cc : chS kFin M M2 := (c0.mono (by decide)).trans (d.mono (by decide))
    generalize hB : aU (aU (aU (aU (aU (aU (aU (aU A 74 (A 66 9) s) 75 (A 66 9) l) 76 (A 66 9) day) 77 (A 66 9) hour) 78 (A 66 9) hand) 79 (A 66 9) marks) 80 (A 66 9) stone) 66 9 (A 66 9 + 1) = B
    have b0 : B 66 9 = A 66 9 + 1 := by rw [← hB]; simp [aU_at]
    have b1 : ∀ j, B 74 j = if j = A 66 9 then s else A 74 j := fun j => by rw [← hB]; simp [aU_at]
    have b2 : ∀ j, B 75 j = if j = A 66 9 then l else A 75 j := fun j => by rw [← hB]; simp [aU_at]
    have b3 : ∀ j, B 76 j = if j = A 66 9 then day else A 76 j := fun j => by rw [← hB]; simp [aU_at]
    have b4 : ∀ j, B 77 j = if j = A 66 9 then hour else A 77 j := fun j => by rw [← hB]; simp [aU_at]
    have b5 : ∀ j, B 78 j = if j = A 66 9 then hand else A 78 j := fun j => by rw [← hB]; simp [aU_at]
    have b6 : ∀ j, B 79 j = if j = A 66 9 then marks else A 79 j := fun j => by rw [← hB]; simp [aU_at]
    have b7 : ∀ j, B 80 j = if j = A 66 9 then stone else A 80 j := fun j => by rw [← hB]; simp [aU_at]
    refine ⟨nI (A 66 9), B, M2, ⟨f_ax_changed M', hax, hm2⟩, ?_, ?_, ?_, cc, Or.inr ⟨sfresh.use (fresh_changed M') d2 (by decide), (by rw [← hB]; simp [aU])⟩⟩
    · have b67 : ∀ j, B 67 j = A 67 j := fun j => by subst hB; rfl
      have hF : wfF B := by
        refine ⟨by omega, fun i hi => ?_, fun i j hij hj => ?_⟩
        · rw [b1, b2, b3, b4, b5, b6, b7, b67]
          by_cases e : i = A 66 9
          · simp only [e, if_true]; exact ⟨hs, hl, hd, hh, hp, hmk, hst, ht⟩
          · simp only [e, if_false]; exact w.2.2.1.2.1 i (by omega)
        · rw [b3, b3]
          by_cases e : j = A 66 9
          · by_cases e2 : i = A 66 9
            · simp [e, e2]
            · rw [if_neg e2, if_pos e]
              have := w.2.2.1.2.2 i (A 66 9 - 1) (by omega) (by omega)
              omega
          · rw [if_neg e, if_neg (by omega)]
            exact w.2.2.1.2.2 i j hij (by omega)
      have bpr : ∀ s d h n, prs B s d h n = prs A s d h n := fun s d h n => by
        subst hB
        exact prs_congr _ _ _ _ (fun i _ => ⟨rfl, rfl, rfl, rfl, rfl⟩)
      have hG : wfG B := by
        have h1 : B 66 69 = A 66 69 := by subst hB; rfl
        have h2 : ∀ i, B 108 i = A 108 i ∧ B 109 i = A 109 i ∧ B 110 i = A 110 i := fun i => by subst hB; exact ⟨rfl, rfl, rfl⟩
        refine ⟨by rw [h1]; exact w.2.2.2.2.2.1.1, fun i hi => ?_, fun c hc => ?_⟩
        · obtain ⟨z1, z2, z3⟩ := h2 i
          rw [h1] at hi
          obtain ⟨y1, y2, y3⟩ := w.2.2.2.2.2.1.2.1 i hi
          rw [z1, z2, z3, b0]
          exact ⟨y1, Nat.lt_of_lt_of_le y2 (Nat.pow_le_pow_right (by decide) (by omega)), y3⟩
        · have : ctG B c (B 66 69) = ctG A c (A 66 69) := by
            rw [h1]
            exact fb_ct_cong (fun i _ => by rw [(h2 i).1])
          show ctG B c (B 66 69) ≤ 3
          rw [this]
          exact w.2.2.2.2.2.1.2.2 c hc
      have hK : wfK B := by
        have hcons : cons B (A 66 9 + 1) (A 66 3) (A 66 69) := by
          obtain ⟨z1, z2⟩ := w.2.2.2.2.2.2.1.1
          refine ⟨fun x hx => ?_, fun i hi => ?_⟩
          · rw [b1, b3, b4, b5, bpr]
            by_cases e : x = A 66 9
            · simp only [e, if_true]; exact hb
            · simp only [e, if_false]; exact z1 x (by omega)
          · have : B 109 i = A 109 i := by subst hB; rfl
            rw [this]
            exact Nat.lt_of_lt_of_le (z2 i hi) (Nat.pow_le_pow_right (by decide) (by omega))
        have hf2 : ∀ i, i < A 66 9 → B 74 i = A 74 i ∧ B 76 i = A 76 i ∧ B 77 i = A 77 i ∧ B 78 i = A 78 i := fun i hi => by
          rw [b1, b3, b4, b5]
          have e : ¬ i = A 66 9 := by omega
          simp only [e, if_false, and_self]
        subst hB
        exact wfK_add w.2.2.2.2.2.2.1 (fun i _ => ⟨rfl, rfl, rfl, rfl, rfl⟩) hf2 (fun i hi => rfl) (fun _ => rfl) (fun _ => rfl) (Nat.le_refl _) (by omega) (Nat.le_refl _) (Nat.le_refl _) (Nat.le_refl _) rfl (by rw [b0]; exact hcons)
      subst hB
      exact ⟨w.1, w.2.1, hF, w.2.2.2.1, w.2.2.2.2.1, hG, hK, w.2.2.2.2.2.2.2.1, w.2.2.2.2.2.2.2.2⟩
    · have hE : rcF B M2 := by
        refine ⟨?_, fun i hi => ?_⟩
        · rw [d.I 12 7 rfl, ← hM', gI_sI, if_pos ⟨rfl, rfl⟩, b0]
        · rw [b1, b2, b3, b4, b5, b6, b7, d.I 13 i rfl, d.I 14 i rfl, d.I 15 i rfl, d.I 16 i rfl, d.I 17 i rfl, d.I 18 i rfl, d.I 19 i rfl, ← hM']
          simp only [gI_sI, Nat.reduceEqDiff, false_and, if_false, true_and]
          by_cases e : i = A 66 9
          · simp [e]
          · have := rc.2.2.1.2 i (by omega)
            simp [e, this.1, this.2.1, this.2.2.1, this.2.2.2.1, this.2.2.2.2.1, this.2.2.2.2.2.1, this.2.2.2.2.2.2]
      subst hB
      refine ⟨(srcL A).use rc.1 cc (by decide), (srcS A).use rc.2.1 cc (by decide), ?_, (srcE A).use rc.2.2.2.1 cc (by decide), (srcP A).use rc.2.2.2.2.1 cc (by decide), (srcG A).use rc.2.2.2.2.2.1 cc (by decide), (srcK A).use rc.2.2.2.2.2.2.1 cc (by decide), (srcT A).use rc.2.2.2.2.2.2.2.1 cc (by decide), (srcD A).use rc.2.2.2.2.2.2.2.2 cc (by decide)⟩
      exact hE
    · have hE : rmF B M2 := by
        refine ⟨?_, fun i hi => ?_⟩
        · rw [← hM2, gI_sI, if_pos ⟨rfl, rfl⟩, b0]
        · rw [b1, b2, b3, b4, b5, b6, b7, ← hM2]
          simp only [gI_sI, Nat.reduceEqDiff, false_and, if_false, true_and, c01.I 74 i rfl, c01.I 75 i rfl, c01.I 76 i rfl, c01.I 77 i rfl, c01.I 78 i rfl, c01.I 79 i rfl, c01.I 80 i rfl]
          by_cases e : i = A 66 9
          · simp [e]
          · have := rm.2.2.1.2 i (by omega)
            simp [e, this.1, this.2.1, this.2.2.1, this.2.2.2.1, this.2.2.2.2.1, this.2.2.2.2.2.1, this.2.2.2.2.2.2]
      subst hB
      refine ⟨(srmL A).use rm.1 cc (by decide), (srmS A).use rm.2.1 cc (by decide), ?_, (srmE A).use rm.2.2.2.1 cc (by decide), (srmP A).use rm.2.2.2.2.1 cc (by decide), (srmG A).use rm.2.2.2.2.2.1 cc (by decide), (srmK A).use rm.2.2.2.2.2.2.1 cc (by decide), (srmT A).use rm.2.2.2.2.2.2.2.1 cc (by decide), (srmD A).use rm.2.2.2.2.2.2.2.2 cc (by decide)⟩
      exact hE
  · have hb' : (pre A s day hour).testBit hand = false := by simpa using hb
    refine no (by rw [hax, if_neg hb]) ?_
    rw [hM0 M ha rm.1 rm.2.2.1]
    split
    · rfl
    · rename_i h
      rw [hmt _ ((srmL A).use rm.1 (cn M) (by decide)) (by rw [(cn M).I 66 9 rfl]; exact m0) (by omega), if_pos hb']
