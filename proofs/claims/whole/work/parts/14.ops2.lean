/-! ===== way, skill, wealth, shows ===== -/
def kWay : List Nat := [5, 68, 7600] ++ kFr
theorem op_way {A : sA} {M : dM} (w : wfA A) (rc : rcA A M) (rm : rmA A M) (x1 x2 x3 : Int32) : opT kWay A M (fun b M2 => ∃ M1, f_ax_way x1 x2 x3 M = some (b, M1) ∧ f_mo_way x1 x2 x3 M1 = some (b, M2)) := by
  have e8 : f_mo_isSite x1 = f_ax_within x1 8 := z_site x1
  have e10 : f_mo_isSite x2 = f_ax_within x2 8 := z_site x2
  have e10k : f_mo_within x3 0 999 = f_ax_within x3 1000 := z_mw0 x3 (n := 999) (by decide)
  unfold f_ax_way f_mo_way
  simp only [e8, e10, e10k]
  rcases z_range x1 8 (by decide) with h0 | ⟨s, hs, rfl⟩
  · have h0' : f_ax_within x1 8 = false := h0
    simp only [h0', Bool.false_eq_true, if_false, ite_self]
    exact opT_no (by decide) w rc rm ⟨M, rfl, rfl⟩
  have k_s : f_ax_within (nI s) 8 = true := by rw [fa_lit 8, z_within (by omega) (by decide)]; simp [hs]
  rcases z_range x2 8 (by decide) with h0 | ⟨t, ht, rfl⟩
  · have h0' : f_ax_within x2 8 = false := h0
    simp only [h0', Bool.false_eq_true, if_false, ite_self]
    exact opT_no (by decide) w rc rm ⟨M, rfl, rfl⟩
  have k_t : f_ax_within (nI t) 8 = true := by rw [fa_lit 8, z_within (by omega) (by decide)]; simp [ht]
  by_cases hst : s = t
  · subst hst
    simp only [k_s, if_true]
    exact opT_no (by decide) w rc rm ⟨M, rfl, rfl⟩
  have hne : ¬ nI s = nI t := by rw [z_eq (by omega) (by omega)]; exact hst
  simp only [hne, if_false]
  rcases z_range x3 1000 (by decide) with h0 | ⟨a, ha, rfl⟩
  · have h0' : f_ax_within x3 1000 = false := h0
    simp only [h0', Bool.false_eq_true, if_false, ite_self]
    exact opT_no (by decide) w rc rm ⟨M, rfl, rfl⟩
  have k_a : f_ax_within (nI a) 1000 = true := by rw [fa_lit 1000, z_within (by omega) (by decide)]; simp [ha]
  simp only [k_s, k_t, k_a, if_true]
  unfold f_si_tellWay
  simp (disch := omega) only [fa_lit, z_mul, z_add, z_in, z_cl, z_gdT, Option.bind_some]
  generalize hM' : sI (sI M 5 (s * 8 + t) (nI a)) 5 (t * 8 + s) (nI a) = M'
  generalize hM2 : sI (sI (sI (f_ax_changed M') 66 0 (nI 0)) 68 (8 * s + t) (nI a)) 68 (8 * t + s) (nI a) = M2
  have c0 : chS [5] M M' := by rw [← hM']; exact ((chS.refl _ M).sI 5 _ _ rfl).sI 5 _ _ rfl
  have d2 : chS [68, 7600] (f_ax_changed M') M2 := by rw [← hM2]; exact (((chS.refl _ _).sI 66 0 _ rfl).sI 68 _ _ rfl).sI 68 _ _ rfl
  have d : chS (68 :: 7600 :: kFr) M' M2 := (chS_changed (chS.refl _ M') (by decide)).trans (d2.mono (by decide))
  have c : chS kWay M M2 := (c0.mono (by decide)).trans (d.mono (by decide))
  have hA : ∀ j, aU (aU A 68 (8 * s + t) a) 68 (8 * t + s) a 68 j = if j = 8 * t + s then a else if j = 8 * s + t then a else A 68 j := fun j => by
    rw [aU_at, aU_at]; simp only [true_and]
  refine ⟨true, aU (aU A 68 (8 * s + t) a) 68 (8 * t + s) a, M2, ⟨f_ax_changed M', rfl, by rw [← hM2]⟩, ?_, ?_, ?_, c, Or.inr ⟨sfresh.use (fresh_changed M') d2 (by decide), (by simp [aU])⟩⟩
  · refine ⟨w.1, ?_, w.2.2.1, w.2.2.2.1, w.2.2.2.2.1, w.2.2.2.2.2.1, wfK_aU _ _ rfl (wfK_aU _ _ rfl w.2.2.2.2.2.2.1), w.2.2.2.2.2.2.2.1, w.2.2.2.2.2.2.2.2⟩
    refine ⟨w.2.1.1, fun x hx => ?_⟩
    obtain ⟨q1, q2⟩ := w.2.1.2 x hx
    rw [hA]
    refine ⟨by rw [if_neg (by omega), if_neg (by omega)]; exact q1, fun y hy => ?_⟩
    rw [hA, hA]
    obtain ⟨q3, q4⟩ := q2 y hy
    split
    · rename_i h1
      refine ⟨by omega, ?_⟩
      by_cases h2 : 8 * y + x = 8 * t + s
      · rw [if_pos h2]
      · rw [if_neg h2, if_pos (by omega)]
    · split
      · rename_i h1 h2
        refine ⟨by omega, ?_⟩
        rw [if_pos (by omega)]
      · rename_i h1 h2
        refine ⟨q3, ?_⟩
        rw [if_neg (by omega), if_neg (by omega)]
        exact q4
  · refine ⟨(srcL A).use rc.1 c (by decide), ?_, (srcF A).use rc.2.2.1 c (by decide), (srcE A).use rc.2.2.2.1 c (by decide), (srcP A).use rc.2.2.2.2.1 c (by decide), (srcG A).use rc.2.2.2.2.2.1 c (by decide), (srcK A).use rc.2.2.2.2.2.2.1 c (by decide), (srcT A).use rc.2.2.2.2.2.2.2.1 c (by decide), (srcD A).use rc.2.2.2.2.2.2.2.2 c (by decide)⟩
    refine ⟨fun s' hs' => ?_, fun j hj => ?_, fun j hj => ?_⟩
    · rw [c.I 4 s' rfl]; exact rc.2.1.1 s' hs'
    · rw [c.I 2 j rfl, c.I 3 j rfl]; exact rc.2.1.2.1 j hj
    · rw [hA, d.I 5 j rfl, ← hM', gI_sI, gI_sI]
      by_cases e1 : j = 8 * t + s
      · rw [if_pos e1, if_pos ⟨rfl, by omega⟩]
      · rw [if_neg e1, if_neg (by omega)]
        by_cases e2 : j = 8 * s + t
        · rw [if_pos e2, if_pos ⟨rfl, by omega⟩]
        · rw [if_neg e2, if_neg (by omega)]
          exact rc.2.1.2.2 j hj
  · refine ⟨(srmL A).use rm.1 c (by decide), ?_, (srmF A).use rm.2.2.1 c (by decide), (srmE A).use rm.2.2.2.1 c (by decide), (srmP A).use rm.2.2.2.2.1 c (by decide), (srmG A).use rm.2.2.2.2.2.1 c (by decide), (srmK A).use rm.2.2.2.2.2.2.1 c (by decide), (srmT A).use rm.2.2.2.2.2.2.2.1 c (by decide), (srmD A).use rm.2.2.2.2.2.2.2.2 c (by decide)⟩
    refine ⟨fun j hj => ?_, fun j hj => ?_⟩
    · rw [c.I 67 j rfl, c.I 117 j rfl]; exact rm.2.1.1 j hj
    · rw [hA, ← hM2, gI_sI, gI_sI, gI_sI]
      by_cases e1 : j = 8 * t + s
      · rw [if_pos e1, if_pos ⟨rfl, by omega⟩]
      · rw [if_neg e1, if_neg (by omega)]
        by_cases e2 : j = 8 * s + t
        · rw [if_pos e2, if_pos ⟨rfl, by omega⟩]
        · rw [if_neg e2, if_neg (by omega), if_neg (by omega), (chS_changed (S := 5 :: kFr) (c0.mono (by decide)) (by decide)).I 68 j rfl]
          exact rm.2.1.2 j hj
def kSki : List Nat := [57, 58, 115, 116, 7600] ++ kFr
theorem op_skill {A : sA} {M : dM} (w : wfA A) (rc : rcA A M) (rm : rmA A M) (x1 x2 x3 : Int32) : opT kSki A M (fun b M2 => ∃ M1, f_ax_skill x1 x2 x3 M = some (b, M1) ∧ f_mo_skill x1 x2 x3 M1 = some (b, M2)) := by
  have e8 : f_mo_isHand x1 = f_ax_within x1 10 := z_hand x1
  have e10 : f_mo_within x2 0 9 = f_ax_within x2 10 := z_mw0 x2 (n := 9) (by decide)
  have e10k : f_mo_within x3 0 9 = f_ax_within x3 10 := z_mw0 x3 (n := 9) (by decide)
  unfold f_ax_skill f_mo_skill
  simp only [e8, e10, e10k]
  rcases z_range x1 10 (by decide) with h0 | ⟨s, hs, rfl⟩
  · have h0' : f_ax_within x1 10 = false := h0
    simp only [h0', Bool.false_eq_true, if_false, ite_self]
    exact opT_no (by decide) w rc rm ⟨M, rfl, rfl⟩
  have k_s : f_ax_within (nI s) 10 = true := by rw [fa_lit 10, z_within (by omega) (by decide)]; simp [hs]
  rcases z_range x2 10 (by decide) with h0 | ⟨t, ht, rfl⟩
  · have h0' : f_ax_within x2 10 = false := h0
    simp only [h0', Bool.false_eq_true, if_false, ite_self]
    exact opT_no (by decide) w rc rm ⟨M, rfl, rfl⟩
  have k_t : f_ax_within (nI t) 10 = true := by rw [fa_lit 10, z_within (by omega) (by decide)]; simp [ht]
  rcases z_range x3 10 (by decide) with h0 | ⟨a, ha, rfl⟩
  · have h0' : f_ax_within x3 10 = false := h0
    simp only [h0', Bool.false_eq_true, if_false, ite_self]
    exact opT_no (by decide) w rc rm ⟨M, rfl, rfl⟩
  have k_a : f_ax_within (nI a) 10 = true := by rw [fa_lit 10, z_within (by omega) (by decide)]; simp [ha]
  simp only [k_s, k_t, k_a, if_true]
  simp (disch := omega) only [fa_lit, z_mul, z_add, z_in, z_cl, z_gdT, Option.bind_some]
  generalize hM' : sI (sI M 57 s (nI t)) 58 s (nI a) = M'
  generalize hM2 : sI (sI (sI (f_ax_changed M') 66 0 (nI 0)) 115 s (nI t)) 116 s (nI a) = M2
  have c0 : chS [57, 58] M M' := by rw [← hM']; exact ((chS.refl _ M).sI 57 _ _ rfl).sI 58 _ _ rfl
  have d2 : chS [115, 116, 7600] (f_ax_changed M') M2 := by rw [← hM2]; exact (((chS.refl _ _).sI 66 0 _ rfl).sI 115 _ _ rfl).sI 116 _ _ rfl
  have d : chS (115 :: 116 :: 7600 :: kFr) M' M2 := (chS_changed (chS.refl _ M') (by decide)).trans (d2.mono (by decide))
  have c : chS kSki M M2 := (c0.mono (by decide)).trans (d.mono (by decide))
  have hA : ∀ j, aU (aU A 115 s t) 116 s a 115 j = if j = s then t else A 115 j := fun j => by
    rw [aU_at, aU_at]; simp
  have hA2 : ∀ j, aU (aU A 115 s t) 116 s a 116 j = if j = s then a else A 116 j := fun j => by
    rw [aU_at, aU_at]; simp
  refine ⟨true, aU (aU A 115 s t) 116 s a, M2, ⟨f_ax_changed M', rfl, by rw [← hM2]⟩, ?_, ?_, ?_, c, Or.inr ⟨sfresh.use (fresh_changed M') d2 (by decide), (by simp [aU])⟩⟩
  · refine ⟨w.1, w.2.1, w.2.2.1, w.2.2.2.1, w.2.2.2.2.1, w.2.2.2.2.2.1, wfK_aU _ _ rfl (wfK_aU _ _ rfl w.2.2.2.2.2.2.1), w.2.2.2.2.2.2.2.1, ?_⟩
    refine ⟨fun i hi => ?_, w.2.2.2.2.2.2.2.2.2⟩
    rw [hA, hA2]
    have := w.2.2.2.2.2.2.2.2.1 i hi
    split <;> omega
  · refine ⟨(srcL A).use rc.1 c (by decide), (srcS A).use rc.2.1 c (by decide), (srcF A).use rc.2.2.1 c (by decide), (srcE A).use rc.2.2.2.1 c (by decide), (srcP A).use rc.2.2.2.2.1 c (by decide), (srcG A).use rc.2.2.2.2.2.1 c (by decide), (srcK A).use rc.2.2.2.2.2.2.1 c (by decide), (srcT A).use rc.2.2.2.2.2.2.2.1 c (by decide), ?_⟩
    refine ⟨fun i hi => ?_, fun i hi => ?_⟩
    · rw [hA, hA2, d.I 57 i rfl, d.I 58 i rfl, ← hM', gI_sI, gI_sI, gI_sI, gI_sI]
      have := rc.2.2.2.2.2.2.2.2.1 i hi
      by_cases e : i = s
      · simp [e]
      · simp [e, this.1, this.2]
    · rw [c.I 59 i rfl, c.I 59 (8 + i) rfl]; exact rc.2.2.2.2.2.2.2.2.2 i hi
  · refine ⟨(srmL A).use rm.1 c (by decide), (srmS A).use rm.2.1 c (by decide), (srmF A).use rm.2.2.1 c (by decide), (srmE A).use rm.2.2.2.1 c (by decide), (srmP A).use rm.2.2.2.2.1 c (by decide), (srmG A).use rm.2.2.2.2.2.1 c (by decide), (srmK A).use rm.2.2.2.2.2.2.1 c (by decide), (srmT A).use rm.2.2.2.2.2.2.2.1 c (by decide), ?_⟩
    refine ⟨fun i hi => ?_, fun i hi => ?_⟩
    · have d0 := chS_changed (S := 57 :: 58 :: kFr) (c0.mono (by decide)) (by decide)
      rw [hA, hA2, ← hM2]
      have := rm.2.2.2.2.2.2.2.2.1 i hi
      simp only [gI_sI, d0.I 115 i rfl, d0.I 116 i rfl]
      by_cases e : i = s
      · simp [e]
      · simp [e, this.1, this.2]
    · rw [c.I 118 i rfl, c.I 119 i rfl]; exact rm.2.2.2.2.2.2.2.2.2 i hi
def kSho : List Nat := [59, 118, 119, 7600] ++ kFr
theorem op_shows {A : sA} {M : dM} (w : wfA A) (rc : rcA A M) (rm : rmA A M) (x1 x2 x3 : Int32) : opT kSho A M (fun b M2 => ∃ M1, f_ax_shows x1 x2 x3 M = some (b, M1) ∧ f_mo_shows x1 x2 x3 M1 = some (b, M2)) := by
  have e8 : f_mo_within x1 0 7 = f_ax_within x1 8 := z_mw0 x1 (n := 7) (by decide)
  have e10 : f_mo_within x2 0 9 = f_ax_within x2 10 := z_mw0 x2 (n := 9) (by decide)
  have e10k : f_mo_within x3 0 9 = f_ax_within x3 10 := z_mw0 x3 (n := 9) (by decide)
  unfold f_ax_shows f_mo_shows
  simp only [e8, e10, e10k]
  rcases z_range x1 8 (by decide) with h0 | ⟨s, hs, rfl⟩
  · have h0' : f_ax_within x1 8 = false := h0
    simp only [h0', Bool.false_eq_true, if_false, ite_self]
    exact opT_no (by decide) w rc rm ⟨M, rfl, rfl⟩
  have k_s : f_ax_within (nI s) 8 = true := by rw [fa_lit 8, z_within (by omega) (by decide)]; simp [hs]
  rcases z_range x2 10 (by decide) with h0 | ⟨t, ht, rfl⟩
  · have h0' : f_ax_within x2 10 = false := h0
    simp only [h0', Bool.false_eq_true, if_false, ite_self]
    exact opT_no (by decide) w rc rm ⟨M, rfl, rfl⟩
  have k_t : f_ax_within (nI t) 10 = true := by rw [fa_lit 10, z_within (by omega) (by decide)]; simp [ht]
  rcases z_range x3 10 (by decide) with h0 | ⟨a, ha, rfl⟩
  · have h0' : f_ax_within x3 10 = false := h0
    simp only [h0', Bool.false_eq_true, if_false, ite_self]
    exact opT_no (by decide) w rc rm ⟨M, rfl, rfl⟩
  have k_a : f_ax_within (nI a) 10 = true := by rw [fa_lit 10, z_within (by omega) (by decide)]; simp [ha]
  simp only [k_s, k_t, k_a, if_true]
  simp (disch := omega) only [fa_lit, z_mul, z_add, z_in, z_cl, z_gdT, Option.bind_some]
  generalize hM' : sI (sI M 59 s (nI t)) 59 (8 + s) (nI a) = M'
  generalize hM2 : sI (sI (sI (f_ax_changed M') 66 0 (nI 0)) 118 s (nI t)) 119 s (nI a) = M2
  have c0 : chS [59] M M' := by rw [← hM']; exact ((chS.refl _ M).sI 59 _ _ rfl).sI 59 _ _ rfl
  have d2 : chS [118, 119, 7600] (f_ax_changed M') M2 := by rw [← hM2]; exact (((chS.refl _ _).sI 66 0 _ rfl).sI 118 _ _ rfl).sI 119 _ _ rfl
  have d : chS (118 :: 119 :: 7600 :: kFr) M' M2 := (chS_changed (chS.refl _ M') (by decide)).trans (d2.mono (by decide))
  have c : chS kSho M M2 := (c0.mono (by decide)).trans (d.mono (by decide))
  have hA : ∀ j, aU (aU A 118 s t) 119 s a 118 j = if j = s then t else A 118 j := fun j => by
    rw [aU_at, aU_at]; simp
  have hA2 : ∀ j, aU (aU A 118 s t) 119 s a 119 j = if j = s then a else A 119 j := fun j => by
    rw [aU_at, aU_at]; simp
  refine ⟨true, aU (aU A 118 s t) 119 s a, M2, ⟨f_ax_changed M', rfl, by rw [← hM2]⟩, ?_, ?_, ?_, c, Or.inr ⟨sfresh.use (fresh_changed M') d2 (by decide), (by simp [aU])⟩⟩
  · refine ⟨w.1, w.2.1, w.2.2.1, w.2.2.2.1, w.2.2.2.2.1, w.2.2.2.2.2.1, wfK_aU _ _ rfl (wfK_aU _ _ rfl w.2.2.2.2.2.2.1), w.2.2.2.2.2.2.2.1, ?_⟩
    refine ⟨w.2.2.2.2.2.2.2.2.1, fun i hi => ?_⟩
    rw [hA, hA2]
    have := w.2.2.2.2.2.2.2.2.2 i hi
    split <;> omega
  · refine ⟨(srcL A).use rc.1 c (by decide), (srcS A).use rc.2.1 c (by decide), (srcF A).use rc.2.2.1 c (by decide), (srcE A).use rc.2.2.2.1 c (by decide), (srcP A).use rc.2.2.2.2.1 c (by decide), (srcG A).use rc.2.2.2.2.2.1 c (by decide), (srcK A).use rc.2.2.2.2.2.2.1 c (by decide), (srcT A).use rc.2.2.2.2.2.2.2.1 c (by decide), ?_⟩
    refine ⟨fun i hi => ?_, fun i hi => ?_⟩
    · rw [c.I 57 i rfl, c.I 58 i rfl]; exact rc.2.2.2.2.2.2.2.2.1 i hi
    · rw [hA, hA2, d.I 59 i rfl, d.I 59 (8 + i) rfl, ← hM', gI_sI, gI_sI, gI_sI, gI_sI]
      have := rc.2.2.2.2.2.2.2.2.2 i hi
      by_cases e : i = s
      · subst e
        have n1 : ¬ i = 8 + i := by omega
        simp [n1]
      · have n1 : ¬ i = 8 + s := by omega
        have n2 : ¬ 8 + i = s := by omega
        simp [e, n1, n2, this.1, this.2]
  · refine ⟨(srmL A).use rm.1 c (by decide), (srmS A).use rm.2.1 c (by decide), (srmF A).use rm.2.2.1 c (by decide), (srmE A).use rm.2.2.2.1 c (by decide), (srmP A).use rm.2.2.2.2.1 c (by decide), (srmG A).use rm.2.2.2.2.2.1 c (by decide), (srmK A).use rm.2.2.2.2.2.2.1 c (by decide), (srmT A).use rm.2.2.2.2.2.2.2.1 c (by decide), ?_⟩
    refine ⟨fun i hi => ?_, fun i hi => ?_⟩
    · rw [c.I 115 i rfl, c.I 116 i rfl]; exact rm.2.2.2.2.2.2.2.2.1 i hi
    · have d0 := chS_changed (S := 59 :: kFr) (c0.mono (by decide)) (by decide)
      rw [hA, hA2, ← hM2]
      have := rm.2.2.2.2.2.2.2.2.2 i hi
      simp only [gI_sI, d0.I 118 i rfl, d0.I 119 i rfl]
      by_cases e : i = s
      · simp [e]
      · simp [e, this.1, this.2]
