/-! ===== here, find, present ===== -/
theorem z_out {x : Int32} {n : Nat} (h : f_ax_within x (nI n) = false) : x < nI 0 ∨ nI n ≤ x := by
  unfold f_ax_within at h
  by_cases h1 : x < 0
  · exact Or.inl h1
  · rw [if_neg h1] at h
    by_cases h2 : nI n ≤ x
    · exact Or.inr h2
    · rw [if_neg h2] at h; cases h
theorem c_hoursFrom {f t : Nat} (hf : f ≤ t) (ht : t < 24) : f_ax_hoursFrom (nI f) (nI t) = nI (hrs f t) := by
  unfold f_ax_hoursFrom hrs
  have h1 : 2 ^ t ≤ 2 ^ 23 := Nat.pow_le_pow_right (by decide) (by omega)
  have h2 : 2 ^ f ≤ 2 ^ t := Nat.pow_le_pow_right (by decide) hf
  have h3 : 2 ^ (t + 1) = 2 ^ t * 2 := Nat.pow_succ ..
  simp (disch := omega) only [fa_lit, y_shl, z_sub, Nat.one_mul, h3]
  congr 1
  omega
theorem hrs_meet {f t f' t' : Nat} (h : f ≤ t) (ht : t < 24) (h' : f' ≤ t') (ht' : t' < 24) : (hrs f t &&& hrs f' t' = 0) = ¬ (f ≤ t' ∧ f' ≤ t) := by
  apply propext
  constructor
  · intro e ⟨h1, h2⟩
    have : (hrs f t &&& hrs f' t').testBit (max f f') = true := by
      rw [Nat.testBit_and, hrs_bit t ht f (by omega) h _ (by omega), hrs_bit t' ht' f' (by omega) h' _ (by omega)]
      simp; omega
    rw [e] at this
    simp at this
  · intro hn
    refine Nat.eq_of_testBit_eq fun i => ?_
    rw [Nat.zero_testBit, Nat.testBit_and]
    by_cases hi : i < 24
    · rw [hrs_bit t ht f (by omega) h _ hi, hrs_bit t' ht' f' (by omega) h' _ hi]
      simp; omega
    · rw [Nat.testBit_lt_two_pow (Nat.lt_of_lt_of_le (hrs_lt t ht f (by omega)) (show 2 ^ 24 ≤ 2 ^ i from Nat.pow_le_pow_right (by decide) (by omega))), Bool.false_and]
/-- the hand is elsewhere at one of these hours, by line i -/
def elsw (A : sA) (hand site day f t i : Nat) : Prop := A 69 i = hand ∧ A 71 i = day ∧ A 70 i ≠ site ∧ A 72 i ≤ t ∧ f ≤ A 73 i
theorem c_elsw {A : sA} {M : dM} (w : wfL A) (r : rcL A M) {hand site day f t : Nat} (h1 : hand < 10) (h2 : site < 8) (h3 : day < 1000) (h4 : f ≤ t) (h5 : t < 24) : ((∃ i, i < A 66 3 ∧ elsw A hand site day f t i) → f_li_isElsewhere (nI hand) (nI site) (nI day) (nI (hrs f t)) M = some true) ∧ ((¬ ∃ i, i < A 66 3 ∧ elsw A hand site day f t i) → f_li_isElsewhere (nI hand) (nI site) (nI day) (nI (hrs f t)) M = some false) := by
  have hn := w.1
  have e0 := r.1
  have hl := hrs_lt t h5 f (by omega)
  have key := lpc_find (body := fun s => b_li_isElsewhere_3_3 (nI hand) (nI site) (nI day) (nI (hrs f t)) s M) (A 66 3) (elsw A hand site day f t) true false ?_ ?_ ?_
  · unfold f_li_isElsewhere l_li_isElsewhere_3
    simp only [fa_lit]
    exact ⟨fun h => by rw [key.1 h]; rfl, fun h => by rw [key.2 h]; rfl⟩
  · intro i hi hp
    obtain ⟨q1, q2, q3, q4⟩ := r.2 i hi
    obtain ⟨w1, w2, w3, w4, w5⟩ := w.2 i hi
    have hl2 := hrs_lt _ w5 (A 72 i) (by omega)
    have ha : hrs (A 72 i) (A 73 i) &&& hrs f t ≤ hrs (A 72 i) (A 73 i) := Nat.and_le_left
    show b_li_isElsewhere_3_3 _ _ _ _ _ M = _
    unfold b_li_isElsewhere_3_3
    simp (disch := omega) only [e0, z_le, z_eq, z_cl, z_in, z_gdT, q1, q2, q3, q4, z_add, fa_lit, z_and, hrs_meet w4 w5 h4 h5]
    rw [if_neg (by omega)]
    unfold elsw at hp
    by_cases c1 : A 69 i = hand
    · rw [if_pos c1]
      by_cases c2 : A 71 i = day
      · rw [if_pos c2]
        by_cases c3 : A 70 i = site
        · rw [if_pos c3]
        · rw [if_neg c3, if_pos (fun ⟨z1, z2⟩ => hp ⟨c1, c2, c3, by omega, by omega⟩)]
      · rw [if_neg c2]
    · rw [if_neg c1]
  · intro i hi hp
    obtain ⟨q1, q2, q3, q4⟩ := r.2 i hi
    obtain ⟨w1, w2, w3, w4, w5⟩ := w.2 i hi
    have hl2 := hrs_lt _ w5 (A 72 i) (by omega)
    have ha : hrs (A 72 i) (A 73 i) &&& hrs f t ≤ hrs (A 72 i) (A 73 i) := Nat.and_le_left
    obtain ⟨p1, p2, p3, p4, p5⟩ := hp
    show b_li_isElsewhere_3_3 _ _ _ _ _ M = _
    unfold b_li_isElsewhere_3_3
    simp (disch := omega) only [e0, z_le, z_eq, z_cl, z_in, z_gdT, q1, q2, q3, q4, z_add, fa_lit, z_and, hrs_meet w4 w5 h4 h5]
    rw [if_neg (by omega), if_pos p1, if_pos p2, if_neg p3, if_neg (fun z => z ⟨by omega, by omega⟩)]
  · show b_li_isElsewhere_3_3 _ _ _ _ _ M = _
    unfold b_li_isElsewhere_3_3
    simp (disch := omega) only [e0, z_le]
    rw [if_pos (Nat.le_refl _)]
theorem m_elsw {A : sA} {M : dM} (w : wfL A) (r : rmL A M) {hand site day f t : Nat} (h1 : hand < 10) (h2 : site < 8) (h3 : day < 1000) (h4 : f ≤ t) (h5 : t < 24) : ((∃ i, i < A 66 3 ∧ elsw A hand site day f t i) → l_mo_here_63 (nI hand) (nI site) (nI day) (nI f) (nI t) (nI 0) M = some (.inr (false, M))) ∧ ((¬ ∃ i, i < A 66 3 ∧ elsw A hand site day f t i) → l_mo_here_63 (nI hand) (nI site) (nI day) (nI f) (nI t) (nI 0) M = some (.inl ())) := by
  have hn := w.1
  have e0 := r.1
  unfold l_mo_here_63
  refine lpc_find (body := fun s => b_mo_here_63_63 (nI hand) (nI site) (nI day) (nI f) (nI t) s M) (A 66 3) (elsw A hand site day f t) (.inr (false, M)) (.inl ()) ?_ ?_ ?_
  · intro i hi hp
    obtain ⟨q1, q2, q3, q4, q5⟩ := r.2 i hi
    obtain ⟨w1, w2, w3, w4, w5⟩ := w.2 i hi
    show b_mo_here_63_63 _ _ _ _ _ _ M = _
    unfold b_mo_here_63_63
    simp (disch := omega) only [e0, z_le, z_lt, z_eq, z_cl, z_in, z_gdT, q1, q2, q3, q4, q5, z_add, fa_lit]
    rw [if_neg (by omega)]
    unfold elsw at hp
    by_cases c1 : A 69 i = hand
    · rw [if_pos c1]
      by_cases c2 : A 71 i = day
      · rw [if_pos c2]
        by_cases c3 : A 70 i = site
        · rw [if_pos c3]
        · rw [if_neg c3]
          by_cases c4 : t < A 72 i
          · rw [if_pos c4]
          · rw [if_neg c4, if_pos (by
              by_cases z : A 73 i < f
              · exact z
              · exact absurd ⟨c1, c2, c3, by omega, by omega⟩ hp)]
      · rw [if_neg c2]
    · rw [if_neg c1]
  · intro i hi hp
    obtain ⟨q1, q2, q3, q4, q5⟩ := r.2 i hi
    obtain ⟨w1, w2, w3, w4, w5⟩ := w.2 i hi
    obtain ⟨p1, p2, p3, p4, p5⟩ := hp
    show b_mo_here_63_63 _ _ _ _ _ _ M = _
    unfold b_mo_here_63_63
    simp (disch := omega) only [e0, z_le, z_lt, z_eq, z_cl, z_in, z_gdT, q1, q2, q3, q4, q5, z_add, fa_lit]
    rw [if_neg (by omega), if_pos p1, if_pos p2, if_neg p3, if_neg (by omega), if_neg (by omega)]
  · show b_mo_here_63_63 _ _ _ _ _ _ M = _
    unfold b_mo_here_63_63
    simp (disch := omega) only [e0, z_le]
    rw [if_pos (Nat.le_refl _)]
def kHer : List Nat := [1605, 1606, 7, 8, 9, 10, 69, 70, 71, 72, 73, 7603, 7600] ++ kFr
theorem op_here {A : sA} {M : dM} (w : wfA A) (rc : rcA A M) (rm : rmA A M) (x1 x2 x3 x4 x5 : Int32) : opT kHer A M (fun b M2 => ∃ M1, f_ax_here x1 x2 x3 x4 x5 M = some (b, M1) ∧ f_mo_here x1 x2 x3 x4 x5 M1 = some (b, M2) ∧ (b = true → gI M2 6 6 = 0) ∧ (b = false → chS [7600] M M2)) := by
  have e8 : f_mo_isHand x1 = f_ax_within x1 (nI 10) := z_hand x1
  have e10 : f_mo_isSite x2 = f_ax_within x2 (nI 8) := z_site x2
  have e10k : f_mo_within x3 (nI 0) (nI 999) = f_ax_within x3 (nI 1000) := z_mw0 x3 (n := 999) (by decide)
  have no : f_ax_here x1 x2 x3 x4 x5 M = some (false, M) → f_mo_here x1 x2 x3 x4 x5 M = some (false, sI M 66 0 (nI 0)) → opT kHer A M (fun b M2 => ∃ M1, f_ax_here x1 x2 x3 x4 x5 M = some (b, M1) ∧ f_mo_here x1 x2 x3 x4 x5 M1 = some (b, M2) ∧ (b = true → gI M2 6 6 = 0) ∧ (b = false → chS [7600] M M2)) := fun h1 h2 => opT_no (b := false) (x := nI 0) (by decide) w rc rm ⟨M, h1, h2, (fun h => (by cases h)), (fun _ => chS_sI M 66 0 _ rfl)⟩
  rcases z_range x1 10 (by decide) with h0 | ⟨hand, hh, rfl⟩
  · exact no (by unfold f_ax_here; simp only [fa_lit, h0, Bool.false_eq_true, if_false]) (by unfold f_mo_here; simp only [fa_lit, e8, h0, Bool.false_eq_true, if_false])
  have k1 : f_ax_within (nI hand) (nI 10) = true := by rw [z_within (by omega) (by decide)]; simp [hh]
  rcases z_range x2 8 (by decide) with h0 | ⟨site, hs, rfl⟩
  · exact no (by unfold f_ax_here; simp only [fa_lit, h0, Bool.false_eq_true, if_false, ite_self]) (by unfold f_mo_here; simp only [fa_lit, e8, e10, h0, Bool.false_eq_true, if_false, ite_self])
  have k2 : f_ax_within (nI site) (nI 8) = true := by rw [z_within (by omega) (by decide)]; simp [hs]
  rcases z_range x3 1000 (by decide) with h0 | ⟨day, hd, rfl⟩
  · exact no (by unfold f_ax_here; simp only [fa_lit, h0, Bool.false_eq_true, if_false, ite_self]) (by unfold f_mo_here; simp only [fa_lit, e8, e10, e10k, h0, Bool.false_eq_true, if_false, ite_self])
  have k3 : f_ax_within (nI day) (nI 1000) = true := by rw [z_within (by omega) (by decide)]; simp [hd]
  have hbad : (x4 < nI 0 ∨ x5 < x4 ∨ nI 23 < x5) → f_mo_here (nI hand) (nI site) (nI day) x4 x5 M = some (false, sI M 66 0 (nI 0)) := by
    intro h
    unfold f_mo_here
    simp only [fa_lit, e8, e10, e10k, k1, k2, k3, if_true]
    by_cases h1 : x4 < nI 0
    · simp only [h1, if_true]
    · by_cases h2 : x5 < x4
      · simp only [h1, h2, if_true, if_false]
      · have h3 : nI 23 < x5 := h.elim (fun z => absurd z h1) (fun z => z.elim (fun z => absurd z h2) id)
        simp only [h1, h2, h3, if_true, if_false]
  have t0 : (nI 0).toInt = 0 := by decide
  have t24 : (nI 24).toInt = 24 := by decide
  have t23 : (nI 23).toInt = 23 := by decide
  rcases z_range x5 24 (by decide) with h0 | ⟨t, ht, rfl⟩
  · refine no (by unfold f_ax_here; simp only [fa_lit, h0, Bool.false_eq_true, if_false, ite_self]) (hbad ?_)
    have h1 := z_out h0
    simp only [fa_lt, fa_le, t0, t24, t23] at h1 ⊢
    omega
  have k5 : f_ax_within (nI t) (nI 24) = true := by rw [z_within (by omega) (by decide)]; simp [ht]
  have tt : (nI t).toInt = t := nI_toInt (by omega)
  rcases z_range x4 24 (by decide) with h0 | ⟨f, hf, rfl⟩
  · refine no (by unfold f_ax_here; simp only [fa_lit, h0, Bool.false_eq_true, if_false, ite_self]) (hbad ?_)
    have h1 := z_out h0
    simp only [fa_lt, fa_le, t0, t24, t23, tt] at h1 ⊢
    omega
  have k4 : f_ax_within (nI f) (nI 24) = true := by rw [z_within (by omega) (by decide)]; simp [hf]
  by_cases hft : ¬ f ≤ t
  · refine no ?_ (hbad ?_)
    · unfold f_ax_here
      simp (disch := omega) only [fa_lit, k1, k2, k3, k4, k5, if_true, z_le, hft, if_false]
    · simp (disch := omega) only [z_lt]; omega
  have hft : f ≤ t := by omega
  have n0 := w.1.1
  have g0 := rc.1.1
  have m0 := rm.1.1
  have hl := hrs_lt t ht f (by omega)
  have cn : ∀ M : dM, chS [7600] M (sI M 66 0 (nI 0)) := fun M => (chS.refl _ M).sI 66 0 _ rfl
  have hmo : ∀ M1, gI M1 66 3 = nI (A 66 3) → A 66 3 ≠ 80 → f_mo_here (nI hand) (nI site) (nI day) (nI f) (nI t) M1 = (l_mo_here_63 (nI hand) (nI site) (nI day) (nI f) (nI t) (nI 0) (sI M1 66 0 (nI 0))).bind (Sum.elim (fun _ => some (true, sI (sI (sI (sI (sI (sI (sI M1 66 0 (nI 0)) 69 (A 66 3) (nI hand)) 70 (A 66 3) (nI site)) 71 (A 66 3) (nI day)) 72 (A 66 3) (nI f)) 73 (A 66 3) (nI t)) 66 3 (nI (A 66 3 + 1)))) (fun r => some r)) := by
    intro M1 h3 h80
    unfold f_mo_here
    simp (disch := omega) only [fa_lit, e8, e10, e10k, k1, k2, k3, if_true, z_lt, (cn M1).I 66 3 rfl, h3, z_eq, h80, if_false, z_cl, z_in, z_gdT, gI_sI, Nat.reduceEqDiff, and_false, false_and, z_add]
    rw [if_neg (by omega), if_neg (by omega), if_neg (by omega)]
  by_cases h80 : A 66 3 = 80
  · refine no ?_ ?_
    · unfold f_ax_here
      simp (disch := omega) only [fa_lit, k1, k2, k3, k4, k5, if_true, z_le, hft, c_hoursFrom hft ht]
      unfold f_li_tellLine
      simp (disch := omega) only [fa_lit, g0, h80, z_le, Nat.le_refl, if_true, Option.bind_some, Bool.false_eq_true, if_false]
    · unfold f_mo_here
      simp (disch := omega) only [fa_lit, e8, e10, e10k, k1, k2, k3, if_true, z_lt, (cn M).I 66 3 rfl, m0, z_eq, h80]
      rw [if_neg (by omega), if_neg (by omega), if_neg (by omega)]
  obtain ⟨ce1, ce2⟩ := c_elsw w.1 rc.1 hh hs hd hft ht
  by_cases he : ∃ i, i < A 66 3 ∧ elsw A hand site day f t i
  · refine no ?_ ?_
    · unfold f_ax_here
      simp (disch := omega) only [fa_lit, k1, k2, k3, k4, k5, if_true, z_le, hft, c_hoursFrom hft ht]
      unfold f_li_tellLine
      simp (disch := omega) only [fa_lit, g0, z_le, ce1 he, if_true, Option.bind_some, Bool.false_eq_true, if_false]
      rw [if_neg (by omega)]
      simp only [Option.bind_some, Bool.false_eq_true, if_false]
    · have := (m_elsw w.1 ((srmL A).use rm.1 (cn M) (by decide)) hh hs hd hft ht).1 he
      rw [hmo M m0 h80, this]
      rfl
  have hc : f_ax_here (nI hand) (nI site) (nI day) (nI f) (nI t) M = some (true, f_ax_changed (sI (sI (sI (sI (sI (sI M 7 (A 66 3) (nI hand)) 8 (A 66 3) (nI site)) 9 (A 66 3) (nI day)) 10 (A 66 3) (nI (hrs f t))) 6 5 (nI (A 66 3 + 1))) 6 6 (nI 0))) := by
    unfold f_ax_here
    simp (disch := omega) only [fa_lit, k1, k2, k3, k4, k5, if_true, z_le, hft, c_hoursFrom hft ht]
    unfold f_li_tellLine
    simp (disch := omega) only [fa_lit, g0, z_le, ce2 he, if_true, Option.bind_some, Bool.false_eq_true, if_false, z_in, z_cl, z_gdT, gI_sI, Nat.reduceEqDiff, and_false, false_and, z_add]
    rw [if_neg (by omega)]
    simp only [Option.bind_some, if_true]
  revert hc
  generalize hM' : sI (sI (sI (sI (sI (sI M 7 (A 66 3) (nI hand)) 8 (A 66 3) (nI site)) 9 (A 66 3) (nI day)) 10 (A 66 3) (nI (hrs f t))) 6 5 (nI (A 66 3 + 1))) 6 6 (nI 0) = M'
  intro hc
  have c0 : chS [7, 8, 9, 10, 1605, 1606] M M' := by rw [← hM']; exact ((((((chS.refl _ M).sI 7 _ _ rfl).sI 8 _ _ rfl).sI 9 _ _ rfl).sI 10 _ _ rfl).sI 6 5 _ rfl).sI 6 6 _ rfl
  have c01 : chS ([7, 8, 9, 10, 1605, 1606] ++ kFr) M (f_ax_changed M') := chS_changed (c0.mono (by decide)) (by decide)
  have cM := c01.mono (S' := [7600, 7, 8, 9, 10, 1605, 1606] ++ kFr) (by decide)
  have hm := hmo (f_ax_changed M') (by rw [c01.I 66 3 rfl]; exact m0) h80
  have h9 := (m_elsw w.1 ((srmL A).use rm.1 (cM.trans ((cn (f_ax_changed M')).mono (by decide))) (by decide)) hh hs hd hft ht).2 he
  rw [h9] at hm
  have hm2 : f_mo_here (nI hand) (nI site) (nI day) (nI f) (nI t) (f_ax_changed M') = some (true, sI (sI (sI (sI (sI (sI (sI (f_ax_changed M') 66 0 (nI 0)) 69 (A 66 3) (nI hand)) 70 (A 66 3) (nI site)) 71 (A 66 3) (nI day)) 72 (A 66 3) (nI f)) 73 (A 66 3) (nI t)) 66 3 (nI (A 66 3 + 1))) := hm
  generalize hM2 : sI (sI (sI (sI (sI (sI (sI (f_ax_changed M') 66 0 (nI 0)) 69 (A 66 3) (nI hand)) 70 (A 66 3) (nI site)) 71 (A 66 3) (nI day)) 72 (A 66 3) (nI f)) 73 (A 66 3) (nI t)) 66 3 (nI (A 66 3 + 1)) = M2 at hm2
  have d2 : chS [69, 70, 71, 72, 73, 7603, 7600] (f_ax_changed M') M2 := by rw [← hM2]; exact (((((((chS.refl _ _).sI 66 0 _ rfl).sI 69 _ _ rfl).sI 70 _ _ rfl).sI 71 _ _ rfl).sI 72 _ _ rfl).sI 73 _ _ rfl).sI 66 3 _ rfl
  have d : chS ([69, 70, 71, 72, 73, 7603, 7600] ++ kFr) M' M2 := (chS_changed (chS.refl _ M') (by decide)).trans (d2.mono (by decide))
  have cc : chS kHer M M2 := (c0.mono (by decide)).trans (d.mono (by decide))
  generalize hB : aU (aU (aU (aU (aU (aU A 69 (A 66 3) hand) 70 (A 66 3) site) 71 (A 66 3) day) 72 (A 66 3) f) 73 (A 66 3) t) 66 3 (A 66 3 + 1) = B
  have b0 : B 66 3 = A 66 3 + 1 := by rw [← hB]; simp [aU_at]
  have b1 : ∀ j, B 69 j = if j = A 66 3 then hand else A 69 j := fun j => by rw [← hB]; simp [aU_at]
  have b2 : ∀ j, B 70 j = if j = A 66 3 then site else A 70 j := fun j => by rw [← hB]; simp [aU_at]
  have b3 : ∀ j, B 71 j = if j = A 66 3 then day else A 71 j := fun j => by rw [← hB]; simp [aU_at]
  have b4 : ∀ j, B 72 j = if j = A 66 3 then f else A 72 j := fun j => by rw [← hB]; simp [aU_at]
  have b5 : ∀ j, B 73 j = if j = A 66 3 then t else A 73 j := fun j => by rw [← hB]; simp [aU_at]
  refine ⟨true, B, M2, ⟨f_ax_changed M', hc, hm2, fun _ => ?_, (fun h => (by cases h))⟩, ?_, ?_, ?_, cc, Or.inr ⟨sfresh.use (fresh_changed M') d2 (by decide), (by rw [← hB]; simp [aU])⟩⟩
  · rw [d.I 6 6 rfl, ← hM', gI_sI, if_pos ⟨rfl, rfl⟩]; rfl
  · have hL : wfL B := by
      refine ⟨by omega, fun i hi => ?_⟩
      rw [b1, b2, b3, b4, b5]
      by_cases e : i = A 66 3
      · simp only [e, if_true]; exact ⟨hh, hs, hd, hft, ht⟩
      · simp only [e, if_false]; exact w.1.2 i (by omega)
    have hpr : ∀ s d h, prs B s d h (A 66 3) = prs A s d h (A 66 3) := fun s d h => prs_congr s d h _ (fun i hi => by
      rw [b1, b2, b3, b4, b5]
      have e : ¬ i = A 66 3 := by omega
      simp only [e, if_false, and_self])
    have hK : wfK B := by
      have hcons : cons B (A 66 9) (A 66 3 + 1) (A 66 69) := by
        obtain ⟨k1, k2⟩ := w.2.2.2.2.2.2.1.1
        have f1 : ∀ i, B 74 i = A 74 i ∧ B 76 i = A 76 i ∧ B 77 i = A 77 i ∧ B 78 i = A 78 i ∧ B 109 i = A 109 i := fun i => by subst hB; exact ⟨rfl, rfl, rfl, rfl, rfl⟩
        refine ⟨fun x hx => ?_, fun i hi => ?_⟩
        · obtain ⟨f2, f3, f4, f5, -⟩ := f1 x
          have := k1 x hx
          rw [f2, f3, f4, f5, prs_s, hpr]
          split
          · rw [Nat.testBit_or, this, Bool.true_or]
          · exact this
        · rw [(f1 i).2.2.2.2]; exact k2 i hi
      have hl2 : ∀ i, i < A 66 3 → B 69 i = A 69 i ∧ B 70 i = A 70 i ∧ B 71 i = A 71 i ∧ B 72 i = A 72 i ∧ B 73 i = A 73 i := fun i hi => by
        rw [b1, b2, b3, b4, b5]
        have e : ¬ i = A 66 3 := by omega
        simp only [e, if_false, and_self]
      subst hB
      exact wfK_add w.2.2.2.2.2.2.1 hl2 (fun i _ => ⟨rfl, rfl, rfl, rfl⟩) (fun i hi => rfl) (fun _ => rfl) (fun _ => rfl) (by omega) (Nat.le_refl _) (Nat.le_refl _) (Nat.le_refl _) (Nat.le_refl _) rfl (by rw [b0]; exact hcons)
    subst hB
    exact ⟨hL, w.2.1, w.2.2.1, w.2.2.2.1, w.2.2.2.2.1, w.2.2.2.2.2.1, hK, w.2.2.2.2.2.2.2.1, w.2.2.2.2.2.2.2.2⟩
  · have hE : rcL B M2 := by
      refine ⟨?_, fun i hi => ?_⟩
      · rw [d.I 6 5 rfl, ← hM', gI_sI, if_neg (by omega), gI_sI, if_pos ⟨rfl, rfl⟩, b0]
      · rw [b1, b2, b3, b4, b5, d.I 7 i rfl, d.I 8 i rfl, d.I 9 i rfl, d.I 10 i rfl, ← hM']
        simp only [gI_sI, Nat.reduceEqDiff, false_and, if_false, true_and]
        by_cases e : i = A 66 3
        · simp [e]
        · have := rc.1.2 i (by omega)
          simp [e, this.1, this.2.1, this.2.2.1, this.2.2.2]
    subst hB
    refine ⟨?_, (srcS A).use rc.2.1 cc (by decide), (srcF A).use rc.2.2.1 cc (by decide), (srcE A).use rc.2.2.2.1 cc (by decide), (srcP A).use rc.2.2.2.2.1 cc (by decide), (srcG A).use rc.2.2.2.2.2.1 cc (by decide), (srcK A).use rc.2.2.2.2.2.2.1 cc (by decide), (srcT A).use rc.2.2.2.2.2.2.2.1 cc (by decide), (srcD A).use rc.2.2.2.2.2.2.2.2 cc (by decide)⟩
    exact hE
  · have hE : rmL B M2 := by
      refine ⟨?_, fun i hi => ?_⟩
      · rw [← hM2, gI_sI, if_pos ⟨rfl, rfl⟩, b0]
      · rw [b1, b2, b3, b4, b5, ← hM2]
        simp only [gI_sI, Nat.reduceEqDiff, false_and, if_false, true_and, c01.I 69 i rfl, c01.I 70 i rfl, c01.I 71 i rfl, c01.I 72 i rfl, c01.I 73 i rfl]
        by_cases e : i = A 66 3
        · simp [e]
        · have := rm.1.2 i (by omega)
          simp [e, this.1, this.2.1, this.2.2.1, this.2.2.2.1, this.2.2.2.2]
    subst hB
    refine ⟨?_, (srmS A).use rm.2.1 cc (by decide), (srmF A).use rm.2.2.1 cc (by decide), (srmE A).use rm.2.2.2.1 cc (by decide), (srmP A).use rm.2.2.2.2.1 cc (by decide), (srmG A).use rm.2.2.2.2.2.1 cc (by decide), (srmK A).use rm.2.2.2.2.2.2.1 cc (by decide), (srmT A).use rm.2.2.2.2.2.2.2.1 cc (by decide), (srmD A).use rm.2.2.2.2.2.2.2.2 cc (by decide)⟩
    exact hE
