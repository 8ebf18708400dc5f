/-! ===== feed as a call; mark ===== -/
theorem op_feed {A : sA} {M : dM} (w : wfA A) (rc : rcA A M) (rm : rmA A M) (a b c : Int64) : ∃ v M1 M2, f_ax_feed a b c M = some (v, M1) ∧ f_mo_feed a b c M1 = some (v, M2) ∧ wfA (addsS A (byt3 a b c) 24) ∧ rcA (addsS A (byt3 a b c) 24) M2 ∧ rmA (addsS A (byt3 a b c) 24) M2 ∧ chS [33, 4201, 81, 7617, 7600] M M2 := by
  have off : ∀ k j, k ≠ 81 → ¬ (k = 66 ∧ j = 17) → addsS A (byt3 a b c) 24 k j = A k j := fun k j h1 h2 => addsS_off A _ k j h1 h2 24
  have wT := wfT_adds w.2.2.2.2.2.2.2.1 (byt3 a b c) 24
  obtain ⟨M1, h1, h2, h3⟩ := c_feed w.2.2.2.2.2.2.2.1 rc.2.2.2.2.2.2.2.1 a b c
  obtain ⟨M2, g1, g2, g3⟩ := m_feed w.2.2.2.2.2.2.2.1 ((srmT A).use rm.2.2.2.2.2.2.2.1 h3 (by decide)) a b c
  have cc : chS [33, 4201, 81, 7617, 7600] M M2 := (h3.mono (by decide)).trans (g3.mono (by decide))
  have rT := (srcT _).use h2 g3 (by decide)
  refine ⟨_, M1, M2, h1, g1, ?_, ?_, ?_, cc⟩
  · generalize hB : addsS A (byt3 a b c) 24 = B at *
    have o1 : ∀ j, j ≠ 17 → B 66 j = A 66 j := fun j h => off 66 j (by decide) (fun z => h z.2)
    have o2 : ∀ k, k ≠ 81 → k ≠ 66 → B k = A k := fun k h1 h2 => funext fun j => off k j h1 (fun z => h2 z.1)
    refine ⟨?_, ?_, ?_, ?_, ?_, ?_, ?_, wT, ?_⟩
    · unfold wfL; rw [o1 3 (by decide), o2 69 (by decide) (by decide), o2 70 (by decide) (by decide), o2 71 (by decide) (by decide), o2 72 (by decide) (by decide), o2 73 (by decide) (by decide)]; exact w.1
    · unfold wfS; rw [o2 67 (by decide) (by decide), o2 117 (by decide) (by decide), o2 68 (by decide) (by decide)]; exact w.2.1
    · unfold wfF; rw [o1 9 (by decide), o2 74 (by decide) (by decide), o2 75 (by decide) (by decide), o2 76 (by decide) (by decide), o2 77 (by decide) (by decide), o2 78 (by decide) (by decide), o2 79 (by decide) (by decide), o2 80 (by decide) (by decide), o2 67 (by decide) (by decide)]; exact w.2.2.1
    · unfold wfE; rw [o1 55 (by decide), o2 101 (by decide) (by decide), o2 102 (by decide) (by decide), o2 103 (by decide) (by decide)]; exact w.2.2.2.1
    · unfold wfP; rw [o1 77 (by decide), o2 113 (by decide) (by decide)]; exact w.2.2.2.2.1
    · unfold wfG; rw [o1 69 (by decide), o1 9 (by decide), o2 108 (by decide) (by decide), o2 109 (by decide) (by decide), o2 110 (by decide) (by decide)]; exact w.2.2.2.2.2.1
    · have k := w.2.2.2.2.2.2.1
      exact wfK_add k (fun i _ => by rw [o2 69 (by decide) (by decide), o2 70 (by decide) (by decide), o2 71 (by decide) (by decide), o2 72 (by decide) (by decide), o2 73 (by decide) (by decide)]; exact ⟨rfl, rfl, rfl, rfl, rfl⟩) (fun i _ => by rw [o2 74 (by decide) (by decide), o2 76 (by decide) (by decide), o2 77 (by decide) (by decide), o2 78 (by decide) (by decide)]; exact ⟨rfl, rfl, rfl, rfl⟩) (fun i _ => by rw [o2 109 (by decide) (by decide)]) (fun i => by rw [o2 130 (by decide) (by decide)]) (fun i => by rw [o2 131 (by decide) (by decide)]) (by rw [o1 3 (by decide)]; exact Nat.le_refl _) (by rw [o1 9 (by decide)]; exact Nat.le_refl _) (by rw [o1 55 (by decide)]; exact Nat.le_refl _) (by rw [o1 77 (by decide)]; exact Nat.le_refl _) (by rw [o1 69 (by decide)]; exact Nat.le_refl _) (o1 97 (by decide)) (by
        rw [o1 9 (by decide), o1 3 (by decide), o1 69 (by decide)]
        exact cons_congr (fun i _ => by rw [o2 69 (by decide) (by decide), o2 70 (by decide) (by decide), o2 71 (by decide) (by decide), o2 72 (by decide) (by decide), o2 73 (by decide) (by decide)]; exact ⟨rfl, rfl, rfl, rfl, rfl⟩) (fun i _ => by rw [o2 74 (by decide) (by decide), o2 76 (by decide) (by decide), o2 77 (by decide) (by decide), o2 78 (by decide) (by decide)]; exact ⟨rfl, rfl, rfl, rfl⟩) (fun i _ => by rw [o2 109 (by decide) (by decide)]) k.1)
    · unfold wfD; rw [o2 115 (by decide) (by decide), o2 116 (by decide) (by decide), o2 118 (by decide) (by decide), o2 119 (by decide) (by decide)]; exact w.2.2.2.2.2.2.2.2
  · generalize hB : addsS A (byt3 a b c) 24 = B at *
    have o1 : ∀ j, j ≠ 17 → B 66 j = A 66 j := fun j h => off 66 j (by decide) (fun z => h z.2)
    have o2 : ∀ k, k ≠ 81 → k ≠ 66 → B k = A k := fun k h1 h2 => funext fun j => off k j h1 (fun z => h2 z.1)
    have r : rcA A M → rcL B M ∧ rcS B M ∧ rcF B M ∧ rcE B M ∧ rcP B M ∧ rcG B M ∧ rcK B M ∧ rcD B M := by
      rintro ⟨q1, q2, q3, q4, q5, q6, q7, -, q9⟩
      have hl : ∀ s, layN B s 10 = layN A s 10 := fun s => nat_bits fun i => by rw [Bool.eq_iff_iff, layN_bit, layN_bit, o2 67 (by decide) (by decide)]
      refine ⟨?_, ?_, ?_, ?_, ?_, ?_, ?_, ?_⟩
      · unfold rcL; rw [o1 3 (by decide), o2 69 (by decide) (by decide), o2 70 (by decide) (by decide), o2 71 (by decide) (by decide), o2 72 (by decide) (by decide), o2 73 (by decide) (by decide)]; exact q1
      · unfold rcS; simp only [hl]; rw [o2 67 (by decide) (by decide), o2 117 (by decide) (by decide), o2 68 (by decide) (by decide)]; exact q2
      · unfold rcF; rw [o1 9 (by decide), o2 74 (by decide) (by decide), o2 75 (by decide) (by decide), o2 76 (by decide) (by decide), o2 77 (by decide) (by decide), o2 78 (by decide) (by decide), o2 79 (by decide) (by decide), o2 80 (by decide) (by decide)]; exact q3
      · unfold rcE; rw [o1 55 (by decide), o2 101 (by decide) (by decide), o2 102 (by decide) (by decide), o2 103 (by decide) (by decide)]; exact q4
      · unfold rcP; rw [o1 77 (by decide), o2 113 (by decide) (by decide)]; exact q5
      · unfold rcG; rw [o1 69 (by decide), o2 108 (by decide) (by decide), o2 109 (by decide) (by decide), o2 110 (by decide) (by decide)]; exact q6
      · unfold rcK; rw [o1 97 (by decide), o2 130 (by decide) (by decide), o2 131 (by decide) (by decide)]; exact q7
      · unfold rcD; rw [o2 115 (by decide) (by decide), o2 116 (by decide) (by decide), o2 118 (by decide) (by decide), o2 119 (by decide) (by decide)]; exact q9
    obtain ⟨q1, q2, q3, q4, q5, q6, q7, q9⟩ := r rc
    exact ⟨(srcL B).use q1 cc (by decide), (srcS B).use q2 cc (by decide), (srcF B).use q3 cc (by decide), (srcE B).use q4 cc (by decide), (srcP B).use q5 cc (by decide), (srcG B).use q6 cc (by decide), (srcK B).use q7 cc (by decide), rT, (srcD B).use q9 cc (by decide)⟩
  · generalize hB : addsS A (byt3 a b c) 24 = B at *
    have o1 : ∀ j, j ≠ 17 → B 66 j = A 66 j := fun j h => off 66 j (by decide) (fun z => h z.2)
    have o2 : ∀ k, k ≠ 81 → k ≠ 66 → B k = A k := fun k h1 h2 => funext fun j => off k j h1 (fun z => h2 z.1)
    have r : rmA A M → rmL B M ∧ rmS B M ∧ rmF B M ∧ rmE B M ∧ rmP B M ∧ rmG B M ∧ rmK B M ∧ rmD B M := by
      rintro ⟨q1, q2, q3, q4, q5, q6, q7, -, q9⟩
      refine ⟨?_, ?_, ?_, ?_, ?_, ?_, ?_, ?_⟩
      · unfold rmL; rw [o1 3 (by decide), o2 69 (by decide) (by decide), o2 70 (by decide) (by decide), o2 71 (by decide) (by decide), o2 72 (by decide) (by decide), o2 73 (by decide) (by decide)]; exact q1
      · unfold rmS; rw [o2 67 (by decide) (by decide), o2 117 (by decide) (by decide), o2 68 (by decide) (by decide)]; exact q2
      · unfold rmF; rw [o1 9 (by decide), o2 74 (by decide) (by decide), o2 75 (by decide) (by decide), o2 76 (by decide) (by decide), o2 77 (by decide) (by decide), o2 78 (by decide) (by decide), o2 79 (by decide) (by decide), o2 80 (by decide) (by decide)]; exact q3
      · unfold rmE; rw [o1 55 (by decide), o2 101 (by decide) (by decide), o2 102 (by decide) (by decide), o2 103 (by decide) (by decide)]; exact q4
      · unfold rmP; rw [o1 77 (by decide), o2 113 (by decide) (by decide)]; exact q5
      · unfold rmG; rw [o1 69 (by decide), o2 108 (by decide) (by decide), o2 109 (by decide) (by decide), o2 110 (by decide) (by decide)]; exact q6
      · unfold rmK; rw [o1 97 (by decide), o2 130 (by decide) (by decide), o2 131 (by decide) (by decide)]; exact q7
      · unfold rmD; rw [o2 115 (by decide) (by decide), o2 116 (by decide) (by decide), o2 118 (by decide) (by decide), o2 119 (by decide) (by decide)]; exact q9
    obtain ⟨q1, q2, q3, q4, q5, q6, q7, q9⟩ := r rm
    exact ⟨(srmL B).use q1 cc (by decide), (srmS B).use q2 cc (by decide), (srmF B).use q3 cc (by decide), (srmE B).use q4 cc (by decide), (srmP B).use q5 cc (by decide), (srmG B).use q6 cc (by decide), (srmK B).use q7 cc (by decide), g2, (srmD B).use q9 cc (by decide)⟩
/-- the later marks fall: their cells at k, for the first n of them -/
def dz (A : sA) (k p : Nat) (M : dM) : Nat → dM
  | 0 => M
  | n + 1 => if A 130 n ≤ A 130 p then dz A k p M n else sI (dz A k p M n) k n (nI 0)
theorem dz_s (A : sA) (k p : Nat) (M : dM) (n : Nat) : dz A k p M (n + 1) = if A 130 n ≤ A 130 p then dz A k p M n else sI (dz A k p M n) k n (nI 0) := rfl
theorem dz_at (A : sA) (k p : Nat) (M : dM) (q : Nat) : ∀ n, gI (dz A k p M n) k q = if q < n ∧ A 130 p < A 130 q then nI 0 else gI M k q
  | 0 => by rw [if_neg (by omega)]; rfl
  | n + 1 => by
    have ih := dz_at A k p M q n
    rw [dz_s]
    by_cases h : A 130 n ≤ A 130 p
    · rw [if_pos h, ih]
      by_cases e : q = n
      · subst e; rw [if_neg (by omega), if_neg (by omega)]
      · by_cases h2 : q < n ∧ A 130 p < A 130 q
        · rw [if_pos h2, if_pos ⟨by omega, h2.2⟩]
        · rw [if_neg h2, if_neg (by omega)]
    · rw [if_neg h, gI_sI]
      by_cases e : q = n
      · subst e; rw [if_pos ⟨rfl, rfl⟩, if_pos ⟨by omega, by omega⟩]
      · rw [if_neg (by omega), ih]
        by_cases h2 : q < n ∧ A 130 p < A 130 q
        · rw [if_pos h2, if_pos ⟨by omega, h2.2⟩]
        · rw [if_neg h2, if_neg (by omega)]
theorem chS_dz (A : sA) (k p : Nat) (M : dM) (hk : isObj k = false) : ∀ n, chS [k] M (dz A k p M n)
  | 0 => chS.refl _ M
  | n + 1 => by
    rw [dz_s]
    have h1 : ∀ j, ([k] : List Nat).contains (ky k j) = true := fun j => by unfold ky; rw [hk]; simp
    split
    · exact chS_dz A k p M hk n
    · exact (chS_dz A k p M hk n).sI k n _ (h1 n)
theorem c_goBack {A : sA} {M : dM} (hb : ∀ q, q < 4 → A 130 q < 2147483648) (r : ∀ q, q < 4 → gI M 26 q = nI (A 130 q)) {p : Nat} (hp : p < 4) : f_pl_goBack (nI p) M = if A 130 p = 0 then some (false, M) else some (true, dz A 26 p M 4) := by
  have h0 := hb p hp
  unfold f_pl_goBack
  simp (disch := omega) only [fa_lit, z_in, z_cl, z_gdT, r p hp, z_eq]
  by_cases hz : A 130 p = 0
  · rw [if_pos hz, if_pos hz]
  · rw [if_neg hz, if_neg hz]
    unfold l_pl_goBack_13
    have key := lpc_seq (body := fun s : Int32 × dM => b_pl_goBack_13_13 (nI p) s.1 s.2) (x := (true, dz A 26 p M 4)) (fun i => (nI i, dz A 26 p M i)) 4 ?_ ?_
    · have e : (nI 0, M) = (nI 0, dz A 26 p M 0) := rfl
      rw [e, key]
      rfl
    · intro i hi
      have hi' := hb i hi
      show b_pl_goBack_13_13 (nI p) (nI i) (dz A 26 p M i) = _
      unfold b_pl_goBack_13_13
      have e1 : gI (dz A 26 p M i) 26 i = nI (A 130 i) := by rw [dz_at, if_neg (by omega), r i hi]
      have e2 : gI (dz A 26 p M i) 26 p = nI (A 130 p) := by rw [dz_at, if_neg (by omega), r p hp]
      simp (disch := omega) only [fa_lit, z_le, z_in, z_cl, z_gdT, e1, e2, z_add]
      rw [if_neg (by omega), dz_s]
      by_cases h : A 130 i ≤ A 130 p
      · rw [if_pos h, if_pos h]
      · rw [if_neg h, if_neg h]
    · show b_pl_goBack_13_13 (nI p) (nI 4) (dz A 26 p M 4) = _
      unfold b_pl_goBack_13_13
      rw [if_pos (by decide)]
theorem m_goBack {A : sA} {M : dM} (hb : ∀ q, q < 4 → A 130 q < 2147483648) (r : ∀ q, q < 4 → gI M 130 q = nI (A 130 q)) {p : Nat} (hp : p < 4) : l_mo_mark_178 (nI p) (nI 0) M = some (true, dz A 130 p M 4) := by
  have h0 := hb p hp
  unfold l_mo_mark_178
  have key := lpc_seq (body := fun s : Int32 × dM => b_mo_mark_178_178 (nI p) s.1 s.2) (x := (true, dz A 130 p M 4)) (fun i => (nI i, dz A 130 p M i)) 4 ?_ ?_
  · have e : (nI 0, M) = (nI 0, dz A 130 p M 0) := rfl
    rw [e, key]
  · intro i hi
    have hi' := hb i hi
    show b_mo_mark_178_178 (nI p) (nI i) (dz A 130 p M i) = _
    unfold b_mo_mark_178_178
    have e1 : gI (dz A 130 p M i) 130 i = nI (A 130 i) := by rw [dz_at, if_neg (by omega), r i hi]
    have e2 : gI (dz A 130 p M i) 130 p = nI (A 130 p) := by rw [dz_at, if_neg (by omega), r p hp]
    simp (disch := omega) only [fa_lit, z_le, z_in, z_cl, z_gdT, e1, e2, z_add]
    rw [if_neg (by omega), dz_s]
    by_cases h : A 130 i ≤ A 130 p
    · rw [if_pos h, if_pos h]
    · rw [if_neg h, if_neg h]
  · show b_mo_mark_178_178 (nI p) (nI 4) (dz A 130 p M 4) = _
    unfold b_mo_mark_178_178
    rw [if_pos (by decide)]
