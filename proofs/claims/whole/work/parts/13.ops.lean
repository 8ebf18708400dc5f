/-! ===== the calls that tell ===== -/
/-- nothing is known any more -/
def fresh (M : dM) : Prop := gI M 0 10 = 0 ∧ gI M 39 9 = -2 ∧ gI M 50 6 = -1 ∧ gI M 50 9 = 0 ∧ gI M 56 14 = -1 ∧ gI M 56 16 = 0
def kFr : List Nat := [1010, 4909, 6006, 6009, 6614, 6616]
theorem fresh_changed (M : dM) : fresh (f_ax_changed M) := by
  unfold f_ax_changed f_wo_forget f_cl_forget f_ju_forget
  refine ⟨?_, ?_, ?_, ?_, ?_, ?_⟩ <;> simp [gI_sI]
theorem chS_changed {S : List Nat} {M M' : dM} (h : chS S M M') (hs : kFr.all (fun x => S.contains x) = true) : chS S M (f_ax_changed M') := by
  unfold f_ax_changed f_wo_forget f_cl_forget f_ju_forget
  have g := fun x hx => List.all_eq_true.mp hs x hx
  exact (((((h.sI 0 10 0 (g 1010 (by decide))).sI 39 9 (-2) (g 4909 (by decide))).sI 50 6 (-1) (g 6006 (by decide))).sI 50 9 0 (g 6009 (by decide))).sI 56 14 (-1) (g 6614 (by decide))).sI 56 16 0 (g 6616 (by decide))
theorem sfresh : supp kFr fresh := by
  intro M M' h _ ⟨h1, h2, h3, h4, h5, h6⟩
  refine ⟨?_, ?_, ?_, ?_, ?_, ?_⟩
  · rw [(h 0 10 rfl).1]; exact h1
  · rw [(h 39 9 rfl).1]; exact h2
  · rw [(h 50 6 rfl).1]; exact h3
  · rw [(h 50 9 rfl).1]; exact h4
  · rw [(h 56 14 rfl).1]; exact h5
  · rw [(h 56 16 rfl).1]; exact h6
/-- a telling call: both sides answer alike; S holds the keys of all cells that are other ones -/
def opT {β : Type} (S : List Nat) (A : sA) (M : dM) (r : β → dM → Prop) : Prop :=
  ∃ (b : β) (A' : sA) (M2 : dM), r b M2 ∧ wfA A' ∧ rcA A' M2 ∧ rmA A' M2 ∧ chS S M M2 ∧ ((A' = A ∧ chS [7600] M M2) ∨ (fresh M2 ∧ A' 66 97 = A 66 97))
theorem thr (A : sA) {M : dM} (x : Int32) (w : wfA A) (rc : rcA A M) (rm : rmA A M) : rcA A (sI M 66 0 x) ∧ rmA A (sI M 66 0 x) ∧ chS [7600] M (sI M 66 0 x) := by
  have c : chS [7600] M (sI M 66 0 x) := (chS.refl _ M).sI 66 0 x rfl
  exact ⟨(srcA A).use rc c (by decide +kernel), (srmA A).use rm c (by decide +kernel), c⟩
theorem opT_no {β : Type} {S : List Nat} {A : sA} {M : dM} {r : β → dM → Prop} (hS : S.contains 7600 = true) (w : wfA A) (rc : rcA A M) (rm : rmA A M) {b : β} {x : Int32} (h : r b (sI M 66 0 x)) : opT S A M r := by
  obtain ⟨h1, h2, h3⟩ := thr A x w rc rm
  exact ⟨b, A, _, h, w, h1, h2, h3.mono (by simpa using hS), Or.inl ⟨rfl, h3⟩⟩
theorem layN_bit (A : sA) (s b : Nat) : ∀ n, (layN A s n).testBit b = true ↔ b < n ∧ A 67 (10 * s + b) ≠ 0
  | 0 => by simp [layN]
  | n + 1 => by
    have ih := layN_bit A s b n
    show (if A 67 (10 * s + n) = 0 then layN A s n else layN A s n ||| 2 ^ n).testBit b = true ↔ _
    split
    · rename_i h
      rw [ih]
      constructor
      · rintro ⟨h1, h2⟩; exact ⟨by omega, h2⟩
      · rintro ⟨h1, h2⟩
        by_cases e : b = n
        · subst e; exact absurd h h2
        · exact ⟨by omega, h2⟩
    · rename_i h
      rw [fb_bit_set, Bool.or_eq_true, ih, decide_eq_true_iff]
      constructor
      · rintro (⟨h1, h2⟩ | rfl)
        · exact ⟨by omega, h2⟩
        · exact ⟨by omega, h⟩
      · rintro ⟨h1, h2⟩
        by_cases e : b = n
        · exact Or.inr e
        · exact Or.inl ⟨by omega, h2⟩
theorem layN_lt (A : sA) (s : Nat) : ∀ n, layN A s n < 2 ^ n
  | 0 => by show 0 < 2 ^ 0; decide
  | n + 1 => by
    have ih := layN_lt A s n
    have : (2 : Nat) ^ (n + 1) = 2 ^ n * 2 := Nat.pow_succ ..
    show (if A 67 (10 * s + n) = 0 then layN A s n else layN A s n ||| 2 ^ n) < _
    split
    · omega
    · exact Nat.or_lt_two_pow (by omega) (by rw [this]; have := Nat.two_pow_pos n; omega)
theorem layN10 (A : sA) (s : Nat) : layN A s 10 < 1024 := layN_lt A s 10
theorem nat_bits {a b : Nat} (h : ∀ i, a.testBit i = b.testBit i) : a = b := Nat.eq_of_testBit_eq h
theorem prs_congr {A B : sA} (s d h : Nat) : ∀ n, (∀ i, i < n → B 69 i = A 69 i ∧ B 70 i = A 70 i ∧ B 71 i = A 71 i ∧ B 72 i = A 72 i ∧ B 73 i = A 73 i) → prs B s d h n = prs A s d h n
  | 0, _ => rfl
  | n + 1, e => by
    have ih := prs_congr s d h n (fun i hi => e i (by omega))
    obtain ⟨e1, e2, e3, e4, e5⟩ := e n (by omega)
    rw [prs_s, prs_s, ih, e1]
    unfold atL
    rw [e2, e3, e4, e5]
theorem cons_congr {A B : sA} {c0 c1 c4 : Nat} (hl : ∀ i, i < c1 → B 69 i = A 69 i ∧ B 70 i = A 70 i ∧ B 71 i = A 71 i ∧ B 72 i = A 72 i ∧ B 73 i = A 73 i) (hf : ∀ i, i < c0 → B 74 i = A 74 i ∧ B 76 i = A 76 i ∧ B 77 i = A 77 i ∧ B 78 i = A 78 i) (hg : ∀ i, i < c4 → B 109 i = A 109 i) (h : cons A c0 c1 c4) : cons B c0 c1 c4 := by
  refine ⟨fun f hf' => ?_, fun i hi => ?_⟩
  · obtain ⟨e1, e2, e3, e4⟩ := hf f hf'
    rw [prs_congr _ _ _ _ hl, e1, e2, e3, e4]
    exact h.1 f hf'
  · rw [hg i hi]
    exact h.2 i hi
/-- other places don't matter to the marks -/
theorem wfK_aU {A : sA} {k : Nat} (j x : Nat) (hk : [66, 69, 70, 71, 72, 73, 74, 76, 77, 78, 109, 130, 131].contains k = false) (w : wfK A) : wfK (aU A k j x) := by
  have e : ∀ q, [66, 69, 70, 71, 72, 73, 74, 76, 77, 78, 109, 130, 131].contains q = true → ∀ i, aU A k j x q i = A q i := by
    intro q hq i
    rw [aU_at, if_neg]
    rintro ⟨rfl, -⟩
    rw [hk] at hq
    cases hq
  have c : ∀ c0 c1 c4, cons A c0 c1 c4 → cons (aU A k j x) c0 c1 c4 := fun c0 c1 c4 h => cons_congr (fun i _ => ⟨e 69 rfl i, e 70 rfl i, e 71 rfl i, e 72 rfl i, e 73 rfl i⟩) (fun i _ => ⟨e 74 rfl i, e 76 rfl i, e 77 rfl i, e 78 rfl i⟩) (fun i _ => e 109 rfl i) h
  obtain ⟨w1, w2, w3, w4⟩ := w
  refine ⟨?_, ?_, ?_, ?_⟩
  · rw [e 66 rfl, e 66 rfl, e 66 rfl]; exact c _ _ _ w1
  · intro p hp; rw [e 130 rfl, e 66 rfl]; exact w2 p hp
  · intro p hp
    rw [e 130 rfl, e 131 rfl, e 131 rfl, e 131 rfl, e 131 rfl, e 131 rfl, e 66 rfl, e 66 rfl, e 66 rfl, e 66 rfl, e 66 rfl]
    intro h
    exact ⟨c _ _ _ (w3 p hp h).1, (w3 p hp h).2⟩
  · intro p q hp hq
    rw [e 130 rfl, e 130 rfl]
    intro h1 h2 i hi
    rw [e 131 rfl, e 131 rfl]
    exact w4 p q hp hq h1 h2 i hi
def kLay : List Nat := [2, 4, 67, 7600] ++ kFr
theorem op_layer {A : sA} {M : dM} (w : wfA A) (rc : rcA A M) (rm : rmA A M) (x1 x2 x3 : Int32) : opT kLay A M (fun b M2 => ∃ M1, f_ax_layer x1 x2 x3 M = some (b, M1) ∧ f_mo_layer x1 x2 x3 M1 = some (b, M2)) := by
  have e8 : f_mo_isSite x1 = f_ax_within x1 8 := z_site x1
  have e10 : f_mo_within x2 0 9 = f_ax_within x2 10 := z_mw0 x2 (n := 9) (by decide)
  have e10k : f_mo_within x3 0 9999 = f_ax_within x3 10000 := z_mw0 x3 (n := 9999) (by decide)
  unfold f_ax_layer f_mo_layer
  simp only [e8, e10, e10k]
  rcases z_range x1 8 (by decide) with h1 | ⟨s, hs, rfl⟩
  · have h1' : f_ax_within x1 8 = false := h1
    simp only [h1', Bool.false_eq_true, if_false]
    exact opT_no (by decide) w rc rm ⟨M, rfl, rfl⟩
  rcases z_range x2 10 (by decide) with h2 | ⟨l, hl, rfl⟩
  · have h2' : f_ax_within x2 10 = false := h2
    simp only [h2', Bool.false_eq_true, if_false, ite_self]
    exact opT_no (by decide) w rc rm ⟨M, rfl, rfl⟩
  rcases z_range x3 10000 (by decide) with h3 | ⟨a, ha, rfl⟩
  · have h3' : f_ax_within x3 10000 = false := h3
    simp only [h3', Bool.false_eq_true, if_false, ite_self]
    exact opT_no (by decide) w rc rm ⟨M, rfl, rfl⟩
  have k1 : f_ax_within (nI s) 8 = true := by rw [fa_lit 8, z_within (by omega) (by decide)]; simp [hs]
  have k2 : f_ax_within (nI l) 10 = true := by rw [fa_lit 10, z_within (by omega) (by decide)]; simp [hl]
  have k3 : f_ax_within (nI a) 10000 = true := by rw [fa_lit 10000, z_within (by omega) (by decide)]; simp [ha]
  simp only [k1, k2, k3, if_true]
  unfold f_si_tellLayer
  have g4 := rc.2.1.1 s hs
  have g41 := layN10 A s
  simp (disch := omega) only [fa_lit, z_mul, z_add, z_in, z_cl, z_gdT, gI_sI, g4, z_or, y_1shl, Option.bind_some, Nat.reduceEqDiff, false_and, and_false, if_false, if_true]
  generalize hM' : sI (sI M 2 (s * 10 + l) (nI a)) 4 s (nI (layN A s 10 ||| 2 ^ l)) = M'
  generalize hM2 : sI (sI (f_ax_changed M') 66 0 (nI 0)) 67 (10 * s + l) (nI a) = M2
  have c0 : chS [2, 4] M M' := by rw [← hM']; exact ((chS.refl _ M).sI 2 _ _ rfl).sI 4 _ _ rfl
  have c1 : chS kLay M M' := c0.mono (by decide)
  have d : chS (67 :: 7600 :: kFr) M' M2 := by rw [← hM2]; exact ((chS_changed (chS.refl _ M') (by decide)).sI 66 0 _ rfl).sI 67 _ _ rfl
  have c : chS kLay M M2 := c1.trans (d.mono (by decide))
  have d2 : chS [67, 7600] (f_ax_changed M') M2 := by rw [← hM2]; exact ((chS.refl _ _).sI 66 0 _ rfl).sI 67 _ _ rfl
  have hA : ∀ j, aU A 67 (10 * s + l) (a + 1) 67 j = if j = 10 * s + l then a + 1 else A 67 j := fun j => by
    rw [aU_at]; simp only [true_and]
  refine ⟨true, aU A 67 (10 * s + l) (a + 1), M2, ⟨f_ax_changed M', rfl, by rw [← hM2]⟩, ?_, ?_, ?_, c, Or.inr ⟨sfresh.use (fresh_changed M') d2 (by decide), (by simp [aU])⟩⟩
  · refine ⟨w.1, ⟨fun j hj => ?_, w.2.1.2⟩, ⟨w.2.2.1.1, fun i hi => ?_, w.2.2.1.2.2⟩, w.2.2.2.1, w.2.2.2.2.1, w.2.2.2.2.2.1, wfK_aU _ _ rfl w.2.2.2.2.2.2.1, w.2.2.2.2.2.2.2.1, w.2.2.2.2.2.2.2.2⟩
    · rw [hA]
      refine ⟨?_, (w.2.1.1 j hj).2⟩
      split
      · omega
      · exact (w.2.1.1 j hj).1
    · obtain ⟨q1, q2, q3, q4, q5, q6, q7, q8⟩ := w.2.2.1.2.1 i hi
      refine ⟨q1, q2, q3, q4, q5, q6, q7, ?_⟩
      show aU A 67 (10 * s + l) (a + 1) 67 (10 * A 74 i + A 75 i) ≠ 0
      rw [hA]
      split
      · omega
      · exact q8
  · refine ⟨(srcL A).use rc.1 c (by decide), ⟨fun s' hs' => ?_, fun j hj => ⟨fun hne => ?_, ?_⟩, fun j hj => ?_⟩, (srcF A).use rc.2.2.1 c (by decide), (srcE A).use rc.2.2.2.1 c (by decide), (srcP A).use rc.2.2.2.2.1 c (by decide), (srcG A).use rc.2.2.2.2.2.1 c (by decide), (srcK A).use rc.2.2.2.2.2.2.1 c (by decide), (srcT A).use rc.2.2.2.2.2.2.2.1 c (by decide), (srcD A).use rc.2.2.2.2.2.2.2.2 c (by decide)⟩
    · rw [d.I 4 s' rfl, ← hM', gI_sI]
      by_cases e : s' = s
      · subst e
        rw [if_pos ⟨rfl, rfl⟩]
        congr 1
        refine nat_bits fun i => ?_
        rw [Bool.eq_iff_iff, fb_bit_set, Bool.or_eq_true, layN_bit, layN_bit, hA, decide_eq_true_iff]
        constructor
        · rintro (⟨h1, h2⟩ | rfl)
          · refine ⟨h1, ?_⟩
            split
            · omega
            · exact h2
          · exact ⟨hl, by rw [if_pos rfl]; omega⟩
        · rintro ⟨h1, h2⟩
          by_cases e : i = l
          · exact Or.inr e
          · rw [if_neg (by omega)] at h2
            exact Or.inl ⟨h1, h2⟩
      · rw [if_neg (by omega), gI_sI, if_neg (by omega), rc.2.1.1 s' hs']
        congr 1
        refine nat_bits fun i => ?_
        rw [Bool.eq_iff_iff, layN_bit, layN_bit, hA]
        constructor
        · rintro ⟨h1, h2⟩
          exact ⟨h1, by rw [if_neg (by omega)]; exact h2⟩
        · rintro ⟨h1, h2⟩
          rw [if_neg (by omega)] at h2
          exact ⟨h1, h2⟩
    · rw [hA] at hne ⊢
      rw [d.I 2 j rfl, ← hM', gI_sI, if_neg (by omega), gI_sI]
      by_cases e : j = 10 * s + l
      · rw [if_pos e, if_pos ⟨rfl, by omega⟩]
        rfl
      · rw [if_neg e] at hne ⊢
        rw [if_neg (by omega)]
        exact (rc.2.1.2.1 j hj).1 hne
    · rw [d.I 3 j rfl, ← hM', gI_sI, if_neg (by omega), gI_sI, if_neg (by omega)]
      exact (rc.2.1.2.1 j hj).2
    · rw [c.I 5 j rfl]
      exact rc.2.1.2.2 j hj
  · refine ⟨(srmL A).use rm.1 c (by decide), ⟨fun j hj => ⟨?_, ?_⟩, fun j hj => ?_⟩, (srmF A).use rm.2.2.1 c (by decide), (srmE A).use rm.2.2.2.1 c (by decide), (srmP A).use rm.2.2.2.2.1 c (by decide), (srmG A).use rm.2.2.2.2.2.1 c (by decide), (srmK A).use rm.2.2.2.2.2.2.1 c (by decide), (srmT A).use rm.2.2.2.2.2.2.2.1 c (by decide), (srmD A).use rm.2.2.2.2.2.2.2.2 c (by decide)⟩
    · rw [hA, ← hM2, gI_sI]
      by_cases e : j = 10 * s + l
      · rw [if_pos ⟨rfl, e⟩, if_pos e]
        rfl
      · rw [if_neg (by omega), if_neg e, gI_sI, if_neg (by omega)]
        have : gI (f_ax_changed M') 67 j = gI M 67 j := (chS_changed (S := 2 :: 4 :: kFr) (c0.mono (by decide)) (by decide)).I 67 j rfl
        rw [this]
        exact (rm.2.1.1 j hj).1
    · rw [c.I 117 j rfl]
      exact (rm.2.1.1 j hj).2
    · rw [c.I 68 j rfl]
      exact rm.2.1.2 j hj
