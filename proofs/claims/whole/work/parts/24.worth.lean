/-! ===== the reference's evaluator ===== -/
def sumV (M : dM) (l : Nat) : Int32 := if gI M 96 l = nI 21 then gI M 95 l - gI M 97 l else gI M 95 l + gI M 97 l
def tstV (M : dM) (l : Nat) : Int32 := if gI M 94 l = nI 24 then (if gI M 93 l < sumV M l then nI 1 else nI 0) else if gI M 94 l = nI 25 then (if gI M 93 l = sumV M l then nI 1 else nI 0) else sumV M l
def eV (M : dM) (l : Nat) : Int32 := if gI M 92 l = nI 26 then (if gI M 91 l = nI 0 then nI 0 else if tstV M l = nI 0 then nI 0 else nI 1) else if gI M 92 l = nI 27 then (if gI M 91 l = nI 0 then (if tstV M l = nI 0 then nI 0 else nI 1) else nI 1) else tstV M l
theorem m_opens {l : Nat} (hl : l < 7) (M : dM) : f_mo_opens (nI l) M = some (sI (sI (sI (sI (sI M 92 l (nI 0)) 94 l (nI 0)) 95 l (nI 0)) 96 l (nI 20)) 98 l (nI 0)) := by
  unfold f_mo_opens
  simp (disch := omega) only [fa_lit, z_in, z_cl, z_gdT]
theorem m_sums {l : Nat} (hl : l < 7) (M : dM) : f_mo_sums (nI l) M = some (sI (sI M 95 l (sumV M l)) 98 l (nI 0)) := by
  unfold f_mo_sums t_mo_sums_45 sumV
  simp (disch := omega) only [fa_lit, z_in, z_cl, z_gdT]
  by_cases h : gI M 96 l = nI 21
  · simp only [h, if_true]
  · simp only [h, if_false]
theorem t136 {l : Nat} (hl : l < 7) (v : Int32) (M : dM) : t_mo_tests_136 (nI l) v M = some (sI (sI (sI (sI M 91 l v) 94 l (nI 0)) 95 l (nI 0)) 96 l (nI 20)) := by
  unfold t_mo_tests_136
  simp (disch := omega) only [fa_lit, z_in, z_cl, z_gdT]
theorem t106 {l : Nat} (hl : l < 7) (v : Int32) (M : dM) : t_mo_tests_106 (nI l) v M = t_mo_tests_136 (nI l) (if gI M 92 l = nI 27 then (if gI M 91 l = nI 0 then (if v = nI 0 then nI 0 else nI 1) else nI 1) else v) M := by
  unfold t_mo_tests_106 t_mo_tests_130 t_mo_tests_135
  simp (disch := omega) only [fa_lit, z_in, z_cl, z_gdT]
  by_cases h : gI M 92 l = nI 27
  · simp only [h, if_true]
    by_cases h2 : gI M 91 l = nI 0
    · simp only [h2, if_true]
      by_cases h3 : v = nI 0
      · simp only [h3, if_true]
      · simp only [h3, if_false]
    · simp only [h2, if_false]
  · simp only [h, if_false]
theorem t76 {l : Nat} (hl : l < 7) (v : Int32) (M : dM) : t_mo_tests_76 (nI l) v M = t_mo_tests_136 (nI l) (if gI M 92 l = nI 26 then (if gI M 91 l = nI 0 then nI 0 else if v = nI 0 then nI 0 else nI 1) else if gI M 92 l = nI 27 then (if gI M 91 l = nI 0 then (if v = nI 0 then nI 0 else nI 1) else nI 1) else v) M := by
  unfold t_mo_tests_76 t_mo_tests_104 t_mo_tests_105
  simp (disch := omega) only [fa_lit, z_in, z_cl, z_gdT, t106]
  by_cases h : gI M 92 l = nI 26
  · have n27 : ¬ nI 26 = nI 27 := by decide
    simp only [h, n27, if_true, if_false]
    by_cases h2 : gI M 91 l = nI 0
    · simp only [h2, if_true]
    · simp only [h2, if_false]
      by_cases h3 : v = nI 0
      · simp only [h3, if_true]
      · simp only [h3, if_false]
  · simp only [h, if_false]
theorem t44 {l : Nat} (hl : l < 7) (v : Int32) (M : dM) : t_mo_tests_44 (nI l) v M = t_mo_tests_76 (nI l) (if gI M 94 l = nI 25 then (if gI M 93 l = gI M 95 l then nI 1 else nI 0) else v) M := by
  unfold t_mo_tests_44 t_mo_tests_75
  simp (disch := omega) only [fa_lit, z_in, z_cl, z_gdT]
  by_cases h : gI M 94 l = nI 25
  · simp only [h, if_true]
    by_cases h2 : gI M 93 l = gI M 95 l
    · simp only [h2, if_true]
    · simp only [h2, if_false]
  · simp only [h, if_false]
theorem t43 (x v : Int32) (M : dM) : t_mo_tests_43 x v M = t_mo_tests_44 x v M := rfl
/-- tests: the value so far is kept -/
theorem m_tests {l : Nat} (hl : l < 7) (M : dM) : ∃ M', f_mo_tests (nI l) M = some M' ∧ gI M' 91 l = eV M l ∧ gI M' 92 l = gI M 92 l ∧ gI M' 94 l = nI 0 ∧ gI M' 95 l = nI 0 ∧ gI M' 96 l = nI 20 ∧ gI M' 98 l = nI 0 ∧ (∀ k j, ¬ (91 ≤ k ∧ k ≤ 98 ∧ j = l) → gI M' k j = gI M k j ∧ gJ M' k j = gJ M k j) ∧ M'.2.2 = M.2.2 := by
  have key : f_mo_tests (nI l) M = t_mo_tests_136 (nI l) (eV M l) (sI (sI M 95 l (sumV M l)) 98 l (nI 0)) := by
    unfold f_mo_tests
    rw [m_sums hl M, Option.bind_some]
    simp (disch := omega) only [fa_lit, z_in, z_cl, z_gdT, t43, t44 hl]
    simp only [t76 hl, gI_sI, Nat.reduceEqDiff, false_and, if_false, and_self, if_true]
    unfold eV tstV
    by_cases h : gI M 94 l = nI 24
    · have n25 : ¬ nI 24 = nI 25 := by decide
      simp only [h, n25, if_true, if_false]
      by_cases h2 : gI M 93 l < sumV M l
      · simp only [h2, Int32.not_le.mpr h2, if_true, if_false]
      · simp only [h2, Int32.not_lt.mp h2, if_true, if_false]
    · simp only [h, if_false]
  rw [key, t136 hl]
  refine ⟨_, rfl, ?_, ?_, ?_, ?_, ?_, ?_, ?_, rfl⟩
  · simp only [gI_sI, Nat.reduceEqDiff, false_and, if_false, and_self, if_true]
  · simp only [gI_sI, Nat.reduceEqDiff, false_and, if_false]
  · simp only [gI_sI, Nat.reduceEqDiff, false_and, if_false, and_self, if_true]
  · simp only [gI_sI, Nat.reduceEqDiff, false_and, if_false, and_self, if_true]
  · simp only [gI_sI, and_self, if_true]
  · simp only [gI_sI, Nat.reduceEqDiff, false_and, if_false, and_self, if_true]
  · intro k j h
    refine ⟨?_, rfl⟩
    have n91 : ¬ (k = 91 ∧ j = l) := fun z => h (by omega)
    have n94 : ¬ (k = 94 ∧ j = l) := fun z => h (by omega)
    have n95 : ¬ (k = 95 ∧ j = l) := fun z => h (by omega)
    have n96 : ¬ (k = 96 ∧ j = l) := fun z => h (by omega)
    have n98 : ¬ (k = 98 ∧ j = l) := fun z => h (by omega)
    simp only [gI_sI, n91, n94, n95, n96, n98, if_false]
/-- levels behind d may change -/
def chL (d : Nat) (M M' : dM) : Prop := (∀ k j, ¬ (91 ≤ k ∧ k ≤ 99 ∧ d < j) → gI M' k j = gI M k j ∧ gJ M' k j = gJ M k j) ∧ M'.2.2 = M.2.2
/-- and level d itself, but whether it is a not -/
def chM (d : Nat) (M M' : dM) : Prop := (∀ k j, ¬ (91 ≤ k ∧ k ≤ 99 ∧ (d < j ∨ (j = d ∧ k ≠ 99))) → gI M' k j = gI M k j ∧ gJ M' k j = gJ M k j) ∧ M'.2.2 = M.2.2
theorem chL.refl (d : Nat) (M : dM) : chL d M M := ⟨fun _ _ _ => ⟨rfl, rfl⟩, rfl⟩
theorem chL.trans {d : Nat} {M M' M'' : dM} (h : chL d M M') (h' : chL d M' M'') : chL d M M'' := ⟨fun k j z => ⟨((h'.1 k j z).1).trans (h.1 k j z).1, ((h'.1 k j z).2).trans (h.1 k j z).2⟩, h'.2.trans h.2⟩
theorem chM.refl (d : Nat) (M : dM) : chM d M M := ⟨fun _ _ _ => ⟨rfl, rfl⟩, rfl⟩
theorem chM.trans {d : Nat} {M M' M'' : dM} (h : chM d M M') (h' : chM d M' M'') : chM d M M'' := ⟨fun k j z => ⟨((h'.1 k j z).1).trans (h.1 k j z).1, ((h'.1 k j z).2).trans (h.1 k j z).2⟩, h'.2.trans h.2⟩
theorem chL.toM {d : Nat} {M M' : dM} (h : chL d M M') : chM d M M' := ⟨fun k j z => h.1 k j (fun y => z ⟨y.1, y.2.1, Or.inl y.2.2⟩), h.2⟩
theorem chL.up {d d' : Nat} {M M' : dM} (h : chL d' M M') (hd : d ≤ d') : chL d M M' := ⟨fun k j z => h.1 k j (fun y => z ⟨y.1, y.2.1, by omega⟩), h.2⟩
theorem chM.toL {d : Nat} {M M' : dM} (h : chM (d + 1) M M') : chL d M M' := ⟨fun k j z => h.1 k j (fun y => z ⟨y.1, y.2.1, by omega⟩), h.2⟩
theorem chM.sI {d : Nat} {M M' : dM} (h : chM d M M') (k j : Nat) (x : Int32) (hk : 91 ≤ k ∧ k ≤ 99 ∧ (d < j ∨ (j = d ∧ k ≠ 99))) : chM d M (sI M' k j x) := by
  refine ⟨fun a b z => ⟨?_, (h.1 a b z).2⟩, h.2⟩
  rw [gI_sI, if_neg (by rintro ⟨rfl, rfl⟩; exact z hk)]
  exact (h.1 a b z).1
theorem chL.sI {d : Nat} {M M' : dM} (h : chL d M M') (k j : Nat) (x : Int32) (hk : 91 ≤ k ∧ k ≤ 99 ∧ d < j) : chL d M (sI M' k j x) := by
  refine ⟨fun a b z => ⟨?_, (h.1 a b z).2⟩, h.2⟩
  rw [gI_sI, if_neg (by rintro ⟨rfl, rfl⟩; exact z hk)]
  exact (h.1 a b z).1
/-- a value that is ready goes down through the nots -/
def col (M : dM) : Nat → Int32 → Nat × Int32
  | 0, v => (0, v)
  | n + 1, v => if gI M 99 (n + 1) = nI 1 then col M n (if v = nI 0 then nI 1 else nI 0) else (n + 1, v)
theorem m_col (M : dM) (x1 x3 : Int32) : ∀ (d : Nat) (v : Int32), d < 7 → l_mo_worth_268 x1 (nI d) x3 v M = some (nI (col M d v).1, (col M d v).2)
  | 0, v, _ => by
    unfold l_mo_worth_268
    refine lpc_out ?_
    show b_mo_worth_268_268 x1 (nI 0) x3 v M = _
    unfold b_mo_worth_268_268
    rw [if_pos (by decide)]
    rfl
  | d + 1, v, hd => by
    unfold l_mo_worth_268
    show lpc _ _ = some (nI (if gI M 99 (d + 1) = nI 1 then col M d (if v = nI 0 then nI 1 else nI 0) else (d + 1, v)).1, (if gI M 99 (d + 1) = nI 1 then col M d (if v = nI 0 then nI 1 else nI 0) else (d + 1, v)).2)
    have m1 : nI (d + 1) + -nI 1 = nI d := pk_m1 d
    have hb : b_mo_worth_268_268 x1 (nI (d + 1)) x3 v M = if gI M 99 (d + 1) = nI 1 then some (.inl (nI d, if v = nI 0 then nI 1 else nI 0)) else some (.inr (nI (d + 1), v)) := by
      unfold b_mo_worth_268_268
      simp (disch := omega) only [fa_lit, z_le, z_in, z_cl, z_gdT, m1]
      rw [if_neg (by omega)]
      by_cases h : gI M 99 (d + 1) = nI 1
      · simp only [h, if_true]
        by_cases h2 : v = nI 0
        · simp only [h2, if_true]
        · simp only [h2, if_false]
      · simp only [h, if_false]
    by_cases h : gI M 99 (d + 1) = nI 1
    · rw [if_pos h]
      refine lpc_step (s' := (nI d, if v = nI 0 then nI 1 else nI 0)) ?_ ?_
      · show b_mo_worth_268_268 x1 (nI (d + 1)) x3 v M = _
        rw [hb, if_pos h]
      · exact m_col M x1 x3 d _ (by omega)
    · rw [if_neg h]
      refine lpc_out ?_
      show b_mo_worth_268_268 x1 (nI (d + 1)) x3 v M = _
      rw [hb, if_neg h]
theorem col_le (M : dM) : ∀ (d : Nat) (v : Int32), (col M d v).1 ≤ d
  | 0, _ => Nat.le_refl 0
  | d + 1, v => by
    unfold col
    split
    · exact Nat.le_succ_of_le (col_le M d _)
    · exact Nat.le_refl _
theorem col_ch {M M' : dM} : ∀ (d : Nat) (v : Int32), (∀ j, j ≤ d → gI M' 99 j = gI M 99 j) → col M' d v = col M d v
  | 0, _, _ => rfl
  | d + 1, v, h => by
    unfold col
    rw [h (d + 1) (Nat.le_refl _), col_ch d _ (fun j hj => h j (by omega))]
noncomputable def bW (line : Nat) : Int32 × Int32 × dM → Option ((Int32 × Int32 × dM) ⊕ (Int32 × dM)) := fun s => b_mo_worth_14_14 (nI line) s.1 s.2.1 s.2.2
/-- the state behind a PART at level d with value w -/
def fin (d : Nat) (w : Int32) (i : Nat) (M : dM) : Int32 × Int32 × dM := (nI (col M d w).1, nI i, sI M 97 (col M d w).1 (if gI M 98 (col M d w).1 = nI 0 then (col M d w).2 else gI M 97 (col M d w).1 * (col M d w).2))
def vM (M : dM) : Nat → Int32 := fun f => gI M 100 (1 + f)
theorem m_300 {d i : Nat} (hd : d < 7) (w : Int32) (M : dM) (x1 : Int32) : (l_mo_worth_268 x1 (nI d) (nI i) w M).bind (fun t => b_mo_worth_14_300 x1 t.1 (nI i) t.2 M) = some (.inl (fin d w (i + 1) M)) := by
  rw [m_col M x1 (nI i) d w hd, Option.bind_some]
  have hl := col_le M d w
  unfold b_mo_worth_14_300 b_mo_worth_14_328 fin
  simp (disch := omega) only [fa_lit, z_in, z_cl, z_gdT, z_add]
  by_cases h : gI M 98 (col M d w).1 = nI 0
  · simp only [h, if_true]
  · simp only [h, if_false]
def rl (M : dM) (d : Nat) : Prop := d = 0 ∨ ¬ gI M 99 d = nI 1
theorem col_rl {M : dM} {d : Nat} (h : rl M d) (v : Int32) : col M d v = (d, v) := by
  cases d with
  | zero => rfl
  | succ d =>
    unfold col
    rw [if_neg (h.resolve_left (Nat.succ_ne_zero d))]
theorem rl_ch {M M' : dM} {d : Nat} (c : chM d M M') (h : rl M d) : rl M' d := by
  unfold rl
  rw [(c.1 99 d (by omega)).1]
  exact h
theorem fin_rl0 {M : dM} {d i : Nat} {w : Int32} (h : rl M d) (h0 : gI M 98 d = nI 0) : fin d w i M = (nI d, nI i, sI M 97 d w) := by
  unfold fin
  rw [col_rl h]
  show (nI d, nI i, sI M 97 d (if gI M 98 d = nI 0 then w else gI M 97 d * w)) = _
  rw [if_pos h0]
theorem fin_rl1 {M : dM} {d i : Nat} {w : Int32} (h : rl M d) (h0 : ¬ gI M 98 d = nI 0) : fin d w i M = (nI d, nI i, sI M 97 d (gI M 97 d * w)) := by
  unfold fin
  rw [col_rl h]
  show (nI d, nI i, sI M 97 d (if gI M 98 d = nI 0 then w else gI M 97 d * w)) = _
  rw [if_neg h0]
theorem vM_ch {M M' : dM} {d : Nat} (h : chM d M M') : vM M' = vM M := by
  funext f
  exact (h.1 100 (1 + f) (by omega)).1
theorem z_ne {a b : Nat} (ha : a < 2147483648) (hb : b < 2147483648) (h : a ≠ b) : ¬ nI a = nI b := by
  rw [z_eq ha hb]; exact h
theorem z_nlt {a b : Nat} (ha : a < 2147483648) (hb : b < 2147483648) (h : b ≤ a) : ¬ nI a < nI b := by
  rw [z_lt ha hb]; omega
theorem z_ylt {a b : Nat} (ha : a < 2147483648) (hb : b < 2147483648) (h : a < b) : nI a < nI b := by
  rw [z_lt ha hb]; exact h
theorem z_nle {a b : Nat} (ha : a < 2147483648) (hb : b < 2147483648) (h : b < a) : ¬ nI a ≤ nI b := by
  rw [z_le ha hb]; omega
theorem z_yle {a b : Nat} (ha : a < 2147483648) (hb : b < 2147483648) (h : a ≤ b) : nI a ≤ nI b := by
  rw [z_le ha hb]; exact h
theorem sw_num {line e d i : Nat} {M : dM} (hl : line < 21) (he : gI M 84 line = nI e) (he2 : e ≤ 2000) (hi : i < e) (hd : d < 6) {n : Nat} (hst : gI M 88 i = nI (100 + n)) (hn : n < 10000) : bW line (nI d, nI i, M) = some (.inl (fin d (nI n) (i + 1) M)) := by
  show b_mo_worth_14_14 (nI line) (nI d) (nI i) M = _
  unfold b_mo_worth_14_14
  rw [z_cl (n := line) (by omega), he, z_gd (z_in (n := line) (by omega) (by omega)), if_neg (show ¬ nI e ≤ nI i by rw [z_le (by omega) (by omega)]; omega), z_gd (z_in (n := i) (by omega) (by omega)), z_cl (n := i) (by omega), hst]
  rw [if_neg (show ¬ nI (100 + n) = (28 : Int32) from z_ne (b := 28) (by omega) (by omega) (by omega)), if_neg (show ¬ nI (100 + n) = (30 : Int32) from z_ne (b := 30) (by omega) (by omega) (by omega)), if_neg (show ¬ nI (100 + n) = (20 : Int32) from z_ne (b := 20) (by omega) (by omega) (by omega)), if_neg (show ¬ nI (100 + n) = (21 : Int32) from z_ne (b := 21) (by omega) (by omega) (by omega)), if_neg (show ¬ nI (100 + n) = (22 : Int32) from z_ne (b := 22) (by omega) (by omega) (by omega)), if_neg (show ¬ nI (100 + n) = (24 : Int32) from z_ne (b := 24) (by omega) (by omega) (by omega)), if_neg (show ¬ nI (100 + n) = (25 : Int32) from z_ne (b := 25) (by omega) (by omega) (by omega)), if_neg (show ¬ nI (100 + n) = (26 : Int32) from z_ne (b := 26) (by omega) (by omega) (by omega)), if_neg (show ¬ nI (100 + n) = (27 : Int32) from z_ne (b := 27) (by omega) (by omega) (by omega))]
  rw [if_neg (show ¬ nI (100 + n) < (100 : Int32) from z_nlt (b := 100) (by omega) (by omega) (by omega)), show nI (100 + n) - (100 : Int32) = nI n from by rw [show nI (100 + n) - (100 : Int32) = nI (100 + n - 100) from z_sub (b := 100) (by omega), Nat.add_sub_cancel_left]]
  unfold b_mo_worth_14_243
  rw [if_neg (show ¬ nI (100 + n) = (29 : Int32) from z_ne (b := 29) (by omega) (by omega) (by omega))]
  exact m_300 (by omega) _ M _
theorem sw_fact {line e d i : Nat} {M : dM} (hl : line < 21) (he : gI M 84 line = nI e) (he2 : e ≤ 2000) (hi : i < e) (hd : d < 6) {f : Nat} (hst : gI M 88 i = nI (1 + f)) (hf : f < 17) : bW line (nI d, nI i, M) = some (.inl (fin d (vM M f) (i + 1) M)) := by
  show b_mo_worth_14_14 (nI line) (nI d) (nI i) M = _
  unfold b_mo_worth_14_14
  rw [z_cl (n := line) (by omega), he, z_gd (z_in (n := line) (by omega) (by omega)), if_neg (show ¬ nI e ≤ nI i by rw [z_le (by omega) (by omega)]; omega), z_gd (z_in (n := i) (by omega) (by omega)), z_cl (n := i) (by omega), hst]
  rw [if_neg (show ¬ nI (1 + f) = (28 : Int32) from z_ne (b := 28) (by omega) (by omega) (by omega)), if_neg (show ¬ nI (1 + f) = (30 : Int32) from z_ne (b := 30) (by omega) (by omega) (by omega)), if_neg (show ¬ nI (1 + f) = (20 : Int32) from z_ne (b := 20) (by omega) (by omega) (by omega)), if_neg (show ¬ nI (1 + f) = (21 : Int32) from z_ne (b := 21) (by omega) (by omega) (by omega)), if_neg (show ¬ nI (1 + f) = (22 : Int32) from z_ne (b := 22) (by omega) (by omega) (by omega)), if_neg (show ¬ nI (1 + f) = (24 : Int32) from z_ne (b := 24) (by omega) (by omega) (by omega)), if_neg (show ¬ nI (1 + f) = (25 : Int32) from z_ne (b := 25) (by omega) (by omega) (by omega)), if_neg (show ¬ nI (1 + f) = (26 : Int32) from z_ne (b := 26) (by omega) (by omega) (by omega)), if_neg (show ¬ nI (1 + f) = (27 : Int32) from z_ne (b := 27) (by omega) (by omega) (by omega))]
  rw [if_pos (show nI (1 + f) < (100 : Int32) from z_ylt (b := 100) (by omega) (by omega) (by omega)), if_neg (show ¬ (20 : Int32) ≤ nI (1 + f) from z_nle (a := 20) (by omega) (by omega) (by omega)), z_gd (z_in (by omega) (by omega)), z_cl (n := 1 + f) (by omega)]
  unfold b_mo_worth_14_243
  rw [if_neg (show ¬ nI (1 + f) = (29 : Int32) from z_ne (b := 29) (by omega) (by omega) (by omega))]
  exact m_300 (by omega) _ M _
theorem sw_par {line e d i : Nat} {M : dM} (hl : line < 21) (he : gI M 84 line = nI e) (he2 : e ≤ 2000) (hi : i < e) (hd : d < 6) (hst : gI M 88 i = nI 28) : bW line (nI d, nI i, M) = some (.inl (nI (d + 1), nI (i + 1), sI (sI (sI (sI (sI (sI M 99 (d + 1) (nI 0)) 92 (d + 1) (nI 0)) 94 (d + 1) (nI 0)) 95 (d + 1) (nI 0)) 96 (d + 1) (nI 20)) 98 (d + 1) (nI 0))) := by
  show b_mo_worth_14_14 (nI line) (nI d) (nI i) M = _
  unfold b_mo_worth_14_14
  rw [z_cl (n := line) (by omega), he, z_gd (z_in (n := line) (by omega) (by omega)), if_neg (show ¬ nI e ≤ nI i by rw [z_le (by omega) (by omega)]; omega), z_gd (z_in (n := i) (by omega) (by omega)), z_cl (n := i) (by omega), hst]
  rw [if_pos (show nI 28 = (28 : Int32) from rfl)]
  unfold b_mo_worth_14_46 b_mo_worth_14_66
  have n30 : ¬ nI 28 = nI 30 := by decide
  simp (disch := omega) only [fa_lit, n30, if_false, z_add, z_in, z_cl, z_gdT, m_opens, Option.bind_some]
theorem sw_not {line e d i : Nat} {M : dM} (hl : line < 21) (he : gI M 84 line = nI e) (he2 : e ≤ 2000) (hi : i < e) (hd : d < 6) (hst : gI M 88 i = nI 30) : bW line (nI d, nI i, M) = some (.inl (nI (d + 1), nI (i + 1), sI (sI (sI (sI (sI (sI M 99 (d + 1) (nI 1)) 92 (d + 1) (nI 0)) 94 (d + 1) (nI 0)) 95 (d + 1) (nI 0)) 96 (d + 1) (nI 20)) 98 (d + 1) (nI 0))) := by
  show b_mo_worth_14_14 (nI line) (nI d) (nI i) M = _
  unfold b_mo_worth_14_14
  rw [z_cl (n := line) (by omega), he, z_gd (z_in (n := line) (by omega) (by omega)), if_neg (show ¬ nI e ≤ nI i by rw [z_le (by omega) (by omega)]; omega), z_gd (z_in (n := i) (by omega) (by omega)), z_cl (n := i) (by omega), hst]
  rw [if_neg (show ¬ nI (30) = (28 : Int32) from z_ne (b := 28) (by omega) (by omega) (by omega)), if_pos (show nI 30 = (30 : Int32) from rfl)]
  unfold b_mo_worth_14_46 b_mo_worth_14_66
  simp (disch := omega) only [fa_lit, if_true, z_add, z_in, z_cl, z_gdT, m_opens, Option.bind_some]
theorem sw_mul {line e d i : Nat} {M : dM} (hl : line < 21) (he : gI M 84 line = nI e) (he2 : e ≤ 2000) (hi : i < e) (hd : d < 6) (hst : gI M 88 i = nI 22) : bW line (nI d, nI i, M) = some (.inl (nI d, nI (i + 1), sI M 98 d (nI 22))) := by
  show b_mo_worth_14_14 (nI line) (nI d) (nI i) M = _
  unfold b_mo_worth_14_14
  rw [z_cl (n := line) (by omega), he, z_gd (z_in (n := line) (by omega) (by omega)), if_neg (show ¬ nI e ≤ nI i by rw [z_le (by omega) (by omega)]; omega), z_gd (z_in (n := i) (by omega) (by omega)), z_cl (n := i) (by omega), hst]
  rw [if_neg (show ¬ nI (22) = (28 : Int32) from z_ne (b := 28) (by omega) (by omega) (by omega)), if_neg (show ¬ nI (22) = (30 : Int32) from z_ne (b := 30) (by omega) (by omega) (by omega)), if_neg (show ¬ nI (22) = (20 : Int32) from z_ne (b := 20) (by omega) (by omega) (by omega)), if_neg (show ¬ nI (22) = (21 : Int32) from z_ne (b := 21) (by omega) (by omega) (by omega))]
  rw [if_pos (show nI 22 = (22 : Int32) from rfl)]
  simp (disch := omega) only [fa_lit, z_in, z_cl, z_gdT, z_add]
theorem sw_sum {line e d i : Nat} {M : dM} (hl : line < 21) (he : gI M 84 line = nI e) (he2 : e ≤ 2000) (hi : i < e) (hd : d < 6) {o : Nat} (ho : o < 2) (hst : gI M 88 i = nI (20 + o)) : bW line (nI d, nI i, M) = some (.inl (nI d, nI (i + 1), sI (sI (sI M 95 d (sumV M d)) 98 d (nI 0)) 96 d (nI (20 + o)))) := by
  show b_mo_worth_14_14 (nI line) (nI d) (nI i) M = _
  have hb : b_mo_worth_14_89 (nI line) (nI d) (nI i) (nI (20 + o)) M = some (.inl (nI d, nI (i + 1), sI (sI (sI M 95 d (sumV M d)) 98 d (nI 0)) 96 d (nI (20 + o)))) := by
    unfold b_mo_worth_14_89
    simp (disch := omega) only [fa_lit, z_in, z_cl, z_gdT, m_sums, Option.bind_some, z_add, gI_sI, Nat.reduceEqDiff, false_and, if_false, and_self, if_true]
  unfold b_mo_worth_14_14
  rw [z_cl (n := line) (by omega), he, z_gd (z_in (n := line) (by omega) (by omega)), if_neg (show ¬ nI e ≤ nI i by rw [z_le (by omega) (by omega)]; omega), z_gd (z_in (n := i) (by omega) (by omega)), z_cl (n := i) (by omega), hst]
  rw [if_neg (show ¬ nI (20 + o) = (28 : Int32) from z_ne (b := 28) (by omega) (by omega) (by omega)), if_neg (show ¬ nI (20 + o) = (30 : Int32) from z_ne (b := 30) (by omega) (by omega) (by omega))]
  by_cases h : o = 0
  · rw [if_pos (show nI (20 + o) = (20 : Int32) from (z_eq (b := 20) (by omega) (by omega)).mpr (by omega))]
    exact hb
  · rw [if_neg (show ¬ nI (20 + o) = (20 : Int32) from z_ne (b := 20) (by omega) (by omega) (by omega)), if_pos (show nI (20 + o) = (21 : Int32) from (z_eq (b := 21) (by omega) (by omega)).mpr (by omega))]
    exact hb
theorem sw_tst {line e d i : Nat} {M : dM} (hl : line < 21) (he : gI M 84 line = nI e) (he2 : e ≤ 2000) (hi : i < e) (hd : d < 6) {o : Nat} (ho : o < 2) (hst : gI M 88 i = nI (24 + o)) : bW line (nI d, nI i, M) = some (.inl (nI d, nI (i + 1), sI (sI (sI (sI (sI (sI M 95 d (sumV M d)) 98 d (nI 0)) 93 d (sumV M d)) 94 d (nI (24 + o))) 95 d (nI 0)) 96 d (nI 20))) := by
  show b_mo_worth_14_14 (nI line) (nI d) (nI i) M = _
  have hb : b_mo_worth_14_137 (nI line) (nI d) (nI i) (nI (24 + o)) M = some (.inl (nI d, nI (i + 1), sI (sI (sI (sI (sI (sI M 95 d (sumV M d)) 98 d (nI 0)) 93 d (sumV M d)) 94 d (nI (24 + o))) 95 d (nI 0)) 96 d (nI 20))) := by
    unfold b_mo_worth_14_137
    simp (disch := omega) only [fa_lit, z_in, z_cl, z_gdT, m_sums, Option.bind_some, z_add, gI_sI, Nat.reduceEqDiff, false_and, if_false, and_self, if_true]
  unfold b_mo_worth_14_14
  rw [z_cl (n := line) (by omega), he, z_gd (z_in (n := line) (by omega) (by omega)), if_neg (show ¬ nI e ≤ nI i by rw [z_le (by omega) (by omega)]; omega), z_gd (z_in (n := i) (by omega) (by omega)), z_cl (n := i) (by omega), hst]
  rw [if_neg (show ¬ nI (24 + o) = (28 : Int32) from z_ne (b := 28) (by omega) (by omega) (by omega)), if_neg (show ¬ nI (24 + o) = (30 : Int32) from z_ne (b := 30) (by omega) (by omega) (by omega)), if_neg (show ¬ nI (24 + o) = (20 : Int32) from z_ne (b := 20) (by omega) (by omega) (by omega)), if_neg (show ¬ nI (24 + o) = (21 : Int32) from z_ne (b := 21) (by omega) (by omega) (by omega)), if_neg (show ¬ nI (24 + o) = (22 : Int32) from z_ne (b := 22) (by omega) (by omega) (by omega))]
  by_cases h : o = 0
  · rw [if_pos (show nI (24 + o) = (24 : Int32) from (z_eq (b := 24) (by omega) (by omega)).mpr (by omega))]
    exact hb
  · rw [if_neg (show ¬ nI (24 + o) = (24 : Int32) from z_ne (b := 24) (by omega) (by omega) (by omega)), if_pos (show nI (24 + o) = (25 : Int32) from (z_eq (b := 25) (by omega) (by omega)).mpr (by omega))]
    exact hb
theorem sw_log {line e d i : Nat} {M : dM} (hl : line < 21) (he : gI M 84 line = nI e) (he2 : e ≤ 2000) (hi : i < e) (hd : d < 6) {o : Nat} (ho : o < 2) (hst : gI M 88 i = nI (26 + o)) {M' : dM} (ht : f_mo_tests (nI d) M = some M') : bW line (nI d, nI i, M) = some (.inl (nI d, nI (i + 1), sI M' 92 d (nI (26 + o)))) := by
  show b_mo_worth_14_14 (nI line) (nI d) (nI i) M = _
  have hb : b_mo_worth_14_194 (nI line) (nI d) (nI i) (nI (26 + o)) M = some (.inl (nI d, nI (i + 1), sI M' 92 d (nI (26 + o)))) := by
    unfold b_mo_worth_14_194
    simp (disch := omega) only [fa_lit, z_in, z_cl, z_gdT, m_sums, ht, Option.bind_some, z_add, gI_sI, Nat.reduceEqDiff, false_and, if_false, and_self, if_true]
  unfold b_mo_worth_14_14
  rw [z_cl (n := line) (by omega), he, z_gd (z_in (n := line) (by omega) (by omega)), if_neg (show ¬ nI e ≤ nI i by rw [z_le (by omega) (by omega)]; omega), z_gd (z_in (n := i) (by omega) (by omega)), z_cl (n := i) (by omega), hst]
  rw [if_neg (show ¬ nI (26 + o) = (28 : Int32) from z_ne (b := 28) (by omega) (by omega) (by omega)), if_neg (show ¬ nI (26 + o) = (30 : Int32) from z_ne (b := 30) (by omega) (by omega) (by omega)), if_neg (show ¬ nI (26 + o) = (20 : Int32) from z_ne (b := 20) (by omega) (by omega) (by omega)), if_neg (show ¬ nI (26 + o) = (21 : Int32) from z_ne (b := 21) (by omega) (by omega) (by omega)), if_neg (show ¬ nI (26 + o) = (22 : Int32) from z_ne (b := 22) (by omega) (by omega) (by omega)), if_neg (show ¬ nI (26 + o) = (24 : Int32) from z_ne (b := 24) (by omega) (by omega) (by omega)), if_neg (show ¬ nI (26 + o) = (25 : Int32) from z_ne (b := 25) (by omega) (by omega) (by omega))]
  by_cases h : o = 0
  · rw [if_pos (show nI (26 + o) = (26 : Int32) from (z_eq (b := 26) (by omega) (by omega)).mpr (by omega))]
    exact hb
  · rw [if_neg (show ¬ nI (26 + o) = (26 : Int32) from z_ne (b := 26) (by omega) (by omega) (by omega)), if_pos (show nI (26 + o) = (27 : Int32) from (z_eq (b := 27) (by omega) (by omega)).mpr (by omega))]
    exact hb
theorem sw_end {line e d i : Nat} {M M' : dM} (hl : line < 21) (he : gI M 84 line = nI e) (he2 : e ≤ 2000) (hi : i < e) (hd : d < 5) (hst : gI M 88 i = nI 29) (ht : f_mo_tests (nI (d + 1)) M = some M') : bW line (nI (d + 1), nI i, M) = some (.inl (fin d (gI M' 91 (d + 1)) (i + 1) M')) := by
  show b_mo_worth_14_14 (nI line) (nI (d + 1)) (nI i) M = _
  have m1 : nI (d + 1) + -nI 1 = nI d := pk_m1 d
  have h243 : ∀ y, b_mo_worth_14_243 (nI line) (nI (d + 1)) (nI i) (nI 29) y M = some (.inl (fin d (gI M' 91 (d + 1)) (i + 1) M')) := by
    intro y
    unfold b_mo_worth_14_243
    simp (disch := omega) only [fa_lit, z_in, z_cl, z_gdT, if_true, ht, Option.bind_some, m1]
    exact m_300 (by omega) _ M' _
  unfold b_mo_worth_14_14
  rw [z_cl (n := line) (by omega), he, z_gd (z_in (n := line) (by omega) (by omega)), if_neg (show ¬ nI e ≤ nI i by rw [z_le (by omega) (by omega)]; omega), z_gd (z_in (n := i) (by omega) (by omega)), z_cl (n := i) (by omega), hst]
  rw [if_neg (show ¬ nI (29) = (28 : Int32) from z_ne (b := 28) (by omega) (by omega) (by omega)), if_neg (show ¬ nI (29) = (30 : Int32) from z_ne (b := 30) (by omega) (by omega) (by omega)), if_neg (show ¬ nI (29) = (20 : Int32) from z_ne (b := 20) (by omega) (by omega) (by omega)), if_neg (show ¬ nI (29) = (21 : Int32) from z_ne (b := 21) (by omega) (by omega) (by omega)), if_neg (show ¬ nI (29) = (22 : Int32) from z_ne (b := 22) (by omega) (by omega) (by omega)), if_neg (show ¬ nI (29) = (24 : Int32) from z_ne (b := 24) (by omega) (by omega) (by omega)), if_neg (show ¬ nI (29) = (25 : Int32) from z_ne (b := 25) (by omega) (by omega) (by omega)), if_neg (show ¬ nI (29) = (26 : Int32) from z_ne (b := 26) (by omega) (by omega) (by omega)), if_neg (show ¬ nI (29) = (27 : Int32) from z_ne (b := 27) (by omega) (by omega) (by omega))]
  rw [if_pos (show nI 29 < (100 : Int32) from z_ylt (b := 100) (by omega) (by omega) (by omega)), if_pos (show (20 : Int32) ≤ nI 29 from z_yle (a := 20) (by omega) (by omega) (by omega))]
  exact h243 _
