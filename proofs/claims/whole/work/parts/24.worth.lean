/-! ===== the reference's evaluator ===== -/
def sumV (M : dM) (l : Nat) : Int32 := if gI M 96 l = nI 21 then gI M 95 l - gI M 97 l else gI M 95 l + gI M 97 l
def tstV (M : dM) (l : Nat) : Int32 := if gI M 94 l = nI 24 then (if gI M 93 l < sumV M l then nI 1 else nI 0) else if gI M 94 l = nI 25 then (if gI M 93 l = sumV M l then nI 1 else nI 0) else sumV M l
def eV (M : dM) (l : Nat) : Int32 := if gI M 92 l = nI 26 then (if gI M 91 l = nI 0 then nI 0 else if tstV M l = nI 0 then nI 0 else nI 1) else if gI M 92 l = nI 27 then (if gI M 91 l = nI 0 then (if tstV M l = nI 0 then nI 0 else nI 1) else nI 1) else tstV M l
theorem m_opens {l : Nat} (hl : l < 7) (M : dM) : f_mo_opens (nI l) M = some (sI (sI (sI (sI (sI M 92 l (nI 0)) 94 l (nI 0)) 95 l (nI 0)) 96 l (nI 20)) 98 l (nI 0)) := by
  unfold f_mo_opens
  simp (disch := omega) only [fa_lit, z_in, z_cl, z_gdT]
theorem m_sums {l : Nat} (hl : l < 7) (M : dM) : f_mo_sums (nI l) M = some (sI (sI M 95 l (sumV M l)) 98 l (nI 0)) := by
  unfold f_mo_sums t_mo_sums_45 sumV
  simp (disch := omega) only [fa_lit, z_in, z_cl, z_gdT]
  by_cases h : gI M 96 l = nI 21
  · simp only [h, if_true]
  · simp only [h, if_false]
theorem t136 {l : Nat} (hl : l < 7) (v : Int32) (M : dM) : t_mo_tests_136 (nI l) v M = some (sI (sI (sI (sI M 91 l v) 94 l (nI 0)) 95 l (nI 0)) 96 l (nI 20)) := by
  unfold t_mo_tests_136
  simp (disch := omega) only [fa_lit, z_in, z_cl, z_gdT]
theorem t106 {l : Nat} (hl : l < 7) (v : Int32) (M : dM) : t_mo_tests_106 (nI l) v M = t_mo_tests_136 (nI l) (if gI M 92 l = nI 27 then (if gI M 91 l = nI 0 then (if v = nI 0 then nI 0 else nI 1) else nI 1) else v) M := by
  unfold t_mo_tests_106 t_mo_tests_130 t_mo_tests_135
  simp (disch := omega) only [fa_lit, z_in, z_cl, z_gdT]
  by_cases h : gI M 92 l = nI 27
  · simp only [h, if_true]
    by_cases h2 : gI M 91 l = nI 0
    · simp only [h2, if_true]
      by_cases h3 : v = nI 0
      · simp only [h3, if_true]
      · simp only [h3, if_false]
    · simp only [h2, if_false]
  · simp only [h, if_false]
theorem t76 {l : Nat} (hl : l < 7) (v : Int32) (M : dM) : t_mo_tests_76 (nI l) v M = t_mo_tests_136 (nI l) (if gI M 92 l = nI 26 then (if gI M 91 l = nI 0 then nI 0 else if v = nI 0 then nI 0 else nI 1) else if gI M 92 l = nI 27 then (if gI M 91 l = nI 0 then (if v = nI 0 then nI 0 else nI 1) else nI 1) else v) M := by
  unfold t_mo_tests_76 t_mo_tests_104 t_mo_tests_105
  simp (disch := omega) only [fa_lit, z_in, z_cl, z_gdT, t106]
  by_cases h : gI M 92 l = nI 26
  · have n27 : ¬ nI 26 = nI 27 := by decide
    simp only [h, n27, if_true, if_false]
    by_cases h2 : gI M 91 l = nI 0
    · simp only [h2, if_true]
    · simp only [h2, if_false]
      by_cases h3 : v = nI 0
      · simp only [h3, if_true]
      · simp only [h3, if_false]
  · simp only [h, if_false]
theorem t44 {l : Nat} (hl : l < 7) (v : Int32) (M : dM) : t_mo_tests_44 (nI l) v M = t_mo_tests_76 (nI l) (if gI M 94 l = nI 25 then (if gI M 93 l = gI M 95 l then nI 1 else nI 0) else v) M := by
  unfold t_mo_tests_44 t_mo_tests_75
  simp (disch := omega) only [fa_lit, z_in, z_cl, z_gdT]
  by_cases h : gI M 94 l = nI 25
  · simp only [h, if_true]
    by_cases h2 : gI M 93 l = gI M 95 l
    · simp only [h2, if_true]
    · simp only [h2, if_false]
  · simp only [h, if_false]
theorem t43 (x v : Int32) (M : dM) : t_mo_tests_43 x v M = t_mo_tests_44 x v M := rfl
/-- tests: the value so far is kept -/
theorem m_tests {l : Nat} (hl : l < 7) (M : dM) : ∃ M', f_mo_tests (nI l) M = some M' ∧ gI M' 91 l = eV M l ∧ gI M' 92 l = gI M 92 l ∧ gI M' 94 l = nI 0 ∧ gI M' 95 l = nI 0 ∧ gI M' 96 l = nI 20 ∧ gI M' 98 l = nI 0 ∧ (∀ k j, ¬ (91 ≤ k ∧ k ≤ 98 ∧ j = l) → gI M' k j = gI M k j ∧ gJ M' k j = gJ M k j) ∧ M'.2.2 = M.2.2 := by
  have key : f_mo_tests (nI l) M = t_mo_tests_136 (nI l) (eV M l) (sI (sI M 95 l (sumV M l)) 98 l (nI 0)) := by
    unfold f_mo_tests
    rw [m_sums hl M, Option.bind_some]
    simp (disch := omega) only [fa_lit, z_in, z_cl, z_gdT, t43, t44 hl]
    simp only [t76 hl, gI_sI, Nat.reduceEqDiff, false_and, if_false, and_self, if_true]
    unfold eV tstV
    by_cases h : gI M 94 l = nI 24
    · have n25 : ¬ nI 24 = nI 25 := by decide
      simp only [h, n25, if_true, if_false]
      by_cases h2 : gI M 93 l < sumV M l
      · simp only [h2, Int32.not_le.mpr h2, if_true, if_false]
      · simp only [h2, Int32.not_lt.mp h2, if_true, if_false]
    · simp only [h, if_false]
  rw [key, t136 hl]
  refine ⟨_, rfl, ?_, ?_, ?_, ?_, ?_, ?_, ?_, rfl⟩
  · simp only [gI_sI, Nat.reduceEqDiff, false_and, if_false, and_self, if_true]
  · simp only [gI_sI, Nat.reduceEqDiff, false_and, if_false]
  · simp only [gI_sI, Nat.reduceEqDiff, false_and, if_false, and_self, if_true]
  · simp only [gI_sI, Nat.reduceEqDiff, false_and, if_false, and_self, if_true]
  · simp only [gI_sI, and_self, if_true]
  · simp only [gI_sI, Nat.reduceEqDiff, false_and, if_false, and_self, if_true]
  · intro k j h
    refine ⟨?_, rfl⟩
    have n91 : ¬ (k = 91 ∧ j = l) := fun z => h (by omega)
    have n94 : ¬ (k = 94 ∧ j = l) := fun z => h (by omega)
    have n95 : ¬ (k = 95 ∧ j = l) := fun z => h (by omega)
    have n96 : ¬ (k = 96 ∧ j = l) := fun z => h (by omega)
    have n98 : ¬ (k = 98 ∧ j = l) := fun z => h (by omega)
    simp only [gI_sI, n91, n94, n95, n96, n98, if_false]
/-- levels behind d may change -/
def chL (d : Nat) (M M' : dM) : Prop := (∀ k j, ¬ (91 ≤ k ∧ k ≤ 99 ∧ d < j) → gI M' k j = gI M k j ∧ gJ M' k j = gJ M k j) ∧ M'.2.2 = M.2.2
/-- and level d itself, but whether it is a not -/
def chM (d : Nat) (M M' : dM) : Prop := (∀ k j, ¬ (91 ≤ k ∧ k ≤ 99 ∧ (d < j ∨ (j = d ∧ k ≠ 99))) → gI M' k j = gI M k j ∧ gJ M' k j = gJ M k j) ∧ M'.2.2 = M.2.2
theorem chL.refl (d : Nat) (M : dM) : chL d M M := ⟨fun _ _ _ => ⟨rfl, rfl⟩, rfl⟩
theorem chL.trans {d : Nat} {M M' M'' : dM} (h : chL d M M') (h' : chL d M' M'') : chL d M M'' := ⟨fun k j z => ⟨((h'.1 k j z).1).trans (h.1 k j z).1, ((h'.1 k j z).2).trans (h.1 k j z).2⟩, h'.2.trans h.2⟩
theorem chM.refl (d : Nat) (M : dM) : chM d M M := ⟨fun _ _ _ => ⟨rfl, rfl⟩, rfl⟩
theorem chM.trans {d : Nat} {M M' M'' : dM} (h : chM d M M') (h' : chM d M' M'') : chM d M M'' := ⟨fun k j z => ⟨((h'.1 k j z).1).trans (h.1 k j z).1, ((h'.1 k j z).2).trans (h.1 k j z).2⟩, h'.2.trans h.2⟩
theorem chL.toM {d : Nat} {M M' : dM} (h : chL d M M') : chM d M M' := ⟨fun k j z => h.1 k j (fun y => z ⟨y.1, y.2.1, Or.inl y.2.2⟩), h.2⟩
theorem chL.up {d d' : Nat} {M M' : dM} (h : chL d' M M') (hd : d ≤ d') : chL d M M' := ⟨fun k j z => h.1 k j (fun y => z ⟨y.1, y.2.1, by omega⟩), h.2⟩
theorem chM.toL {d : Nat} {M M' : dM} (h : chM (d + 1) M M') : chL d M M' := ⟨fun k j z => h.1 k j (fun y => z ⟨y.1, y.2.1, by omega⟩), h.2⟩
theorem chM.sI {d : Nat} {M M' : dM} (h : chM d M M') (k j : Nat) (x : Int32) (hk : 91 ≤ k ∧ k ≤ 99 ∧ (d < j ∨ (j = d ∧ k ≠ 99))) : chM d M (sI M' k j x) := by
  refine ⟨fun a b z => ⟨?_, (h.1 a b z).2⟩, h.2⟩
  rw [gI_sI, if_neg (by rintro ⟨rfl, rfl⟩; exact z hk)]
  exact (h.1 a b z).1
theorem chL.sI {d : Nat} {M M' : dM} (h : chL d M M') (k j : Nat) (x : Int32) (hk : 91 ≤ k ∧ k ≤ 99 ∧ d < j) : chL d M (sI M' k j x) := by
  refine ⟨fun a b z => ⟨?_, (h.1 a b z).2⟩, h.2⟩
  rw [gI_sI, if_neg (by rintro ⟨rfl, rfl⟩; exact z hk)]
  exact (h.1 a b z).1
/-- a value that is ready goes down through the nots -/
def col (M : dM) : Nat → Int32 → Nat × Int32
  | 0, v => (0, v)
  | n + 1, v => if gI M 99 (n + 1) = nI 1 then col M n (if v = nI 0 then nI 1 else nI 0) else (n + 1, v)
theorem m_col (M : dM) (x1 x3 : Int32) : ∀ (d : Nat) (v : Int32), d < 7 → l_mo_worth_268 x1 (nI d) x3 v M = some (nI (col M d v).1, (col M d v).2)
  | 0, v, _ => by
    unfold l_mo_worth_268
    refine lpc_out ?_
    show b_mo_worth_268_268 x1 (nI 0) x3 v M = _
    unfold b_mo_worth_268_268
    rw [if_pos (by decide)]
    rfl
  | d + 1, v, hd => by
    unfold l_mo_worth_268
    show lpc _ _ = some (nI (if gI M 99 (d + 1) = nI 1 then col M d (if v = nI 0 then nI 1 else nI 0) else (d + 1, v)).1, (if gI M 99 (d + 1) = nI 1 then col M d (if v = nI 0 then nI 1 else nI 0) else (d + 1, v)).2)
    have m1 : nI (d + 1) + -nI 1 = nI d := pk_m1 d
    have hb : b_mo_worth_268_268 x1 (nI (d + 1)) x3 v M = if gI M 99 (d + 1) = nI 1 then some (.inl (nI d, if v = nI 0 then nI 1 else nI 0)) else some (.inr (nI (d + 1), v)) := by
      unfold b_mo_worth_268_268
      simp (disch := omega) only [fa_lit, z_le, z_in, z_cl, z_gdT, m1]
      rw [if_neg (by omega)]
      by_cases h : gI M 99 (d + 1) = nI 1
      · simp only [h, if_true]
        by_cases h2 : v = nI 0
        · simp only [h2, if_true]
        · simp only [h2, if_false]
      · simp only [h, if_false]
    by_cases h : gI M 99 (d + 1) = nI 1
    · rw [if_pos h]
      refine lpc_step (s' := (nI d, if v = nI 0 then nI 1 else nI 0)) ?_ ?_
      · show b_mo_worth_268_268 x1 (nI (d + 1)) x3 v M = _
        rw [hb, if_pos h]
      · exact m_col M x1 x3 d _ (by omega)
    · rw [if_neg h]
      refine lpc_out ?_
      show b_mo_worth_268_268 x1 (nI (d + 1)) x3 v M = _
      rw [hb, if_neg h]
theorem col_le (M : dM) : ∀ (d : Nat) (v : Int32), (col M d v).1 ≤ d
  | 0, _ => Nat.le_refl 0
  | d + 1, v => by
    unfold col
    split
    · exact Nat.le_succ_of_le (col_le M d _)
    · exact Nat.le_refl _
theorem col_ch {M M' : dM} : ∀ (d : Nat) (v : Int32), (∀ j, j ≤ d → gI M' 99 j = gI M 99 j) → col M' d v = col M d v
  | 0, _, _ => rfl
  | d + 1, v, h => by
    unfold col
    rw [h (d + 1) (Nat.le_refl _), col_ch d _ (fun j hj => h j (by omega))]
noncomputable def bW (line : Nat) : Int32 × Int32 × dM → Option ((Int32 × Int32 × dM) ⊕ (Int32 × dM)) := fun s => b_mo_worth_14_14 (nI line) s.1 s.2.1 s.2.2
/-- the state behind a PART at level d with value w -/
def fin (d : Nat) (w : Int32) (i : Nat) (M : dM) : Int32 × Int32 × dM := (nI (col M d w).1, nI i, sI M 97 (col M d w).1 (if gI M 98 (col M d w).1 = nI 0 then (col M d w).2 else gI M 97 (col M d w).1 * (col M d w).2))
def vM (M : dM) : Nat → Int32 := fun f => gI M 100 (1 + f)
theorem m_300 {d i : Nat} (hd : d < 7) (w : Int32) (M : dM) (x1 : Int32) : (l_mo_worth_268 x1 (nI d) (nI i) w M).bind (fun t => b_mo_worth_14_300 x1 t.1 (nI i) t.2 M) = some (.inl (fin d w (i + 1) M)) := by
  rw [m_col M x1 (nI i) d w hd, Option.bind_some]
  have hl := col_le M d w
  unfold b_mo_worth_14_300 b_mo_worth_14_328 fin
  simp (disch := omega) only [fa_lit, z_in, z_cl, z_gdT, z_add]
  by_cases h : gI M 98 (col M d w).1 = nI 0
  · simp only [h, if_true]
  · simp only [h, if_false]
def rl (M : dM) (d : Nat) : Prop := d = 0 ∨ ¬ gI M 99 d = nI 1
theorem col_rl {M : dM} {d : Nat} (h : rl M d) (v : Int32) : col M d v = (d, v) := by
  cases d with
  | zero => rfl
  | succ d =>
    unfold col
    rw [if_neg (h.resolve_left (Nat.succ_ne_zero d))]
theorem rl_ch {M M' : dM} {d : Nat} (c : chM d M M') (h : rl M d) : rl M' d := by
  unfold rl
  rw [(c.1 99 d (by omega)).1]
  exact h
theorem fin_rl0 {M : dM} {d i : Nat} {w : Int32} (h : rl M d) (h0 : gI M 98 d = nI 0) : fin d w i M = (nI d, nI i, sI M 97 d w) := by
  unfold fin
  rw [col_rl h]
  show (nI d, nI i, sI M 97 d (if gI M 98 d = nI 0 then w else gI M 97 d * w)) = _
  rw [if_pos h0]
theorem fin_rl1 {M : dM} {d i : Nat} {w : Int32} (h : rl M d) (h0 : ¬ gI M 98 d = nI 0) : fin d w i M = (nI d, nI i, sI M 97 d (gI M 97 d * w)) := by
  unfold fin
  rw [col_rl h]
  show (nI d, nI i, sI M 97 d (if gI M 98 d = nI 0 then w else gI M 97 d * w)) = _
  rw [if_neg h0]
theorem vM_ch {M M' : dM} {d : Nat} (h : chM d M M') : vM M' = vM M := by
  funext f
  exact (h.1 100 (1 + f) (by omega)).1
theorem z_ne {a b : Nat} (ha : a < 2147483648) (hb : b < 2147483648) (h : a ≠ b) : ¬ nI a = nI b := by
  rw [z_eq ha hb]; exact h
theorem z_nlt {a b : Nat} (ha : a < 2147483648) (hb : b < 2147483648) (h : b ≤ a) : ¬ nI a < nI b := by
  rw [z_lt ha hb]; omega
theorem z_ylt {a b : Nat} (ha : a < 2147483648) (hb : b < 2147483648) (h : a < b) : nI a < nI b := by
  rw [z_lt ha hb]; exact h
theorem z_nle {a b : Nat} (ha : a < 2147483648) (hb : b < 2147483648) (h : b < a) : ¬ nI a ≤ nI b := by
  rw [z_le ha hb]; omega
theorem z_yle {a b : Nat} (ha : a < 2147483648) (hb : b < 2147483648) (h : a ≤ b) : nI a ≤ nI b := by
  rw [z_le ha hb]; exact h
theorem sw_num {line e d i : Nat} {M : dM} (hl : line < 21) (he : gI M 84 line = nI e) (he2 : e ≤ 2000) (hi : i < e) (hd : d < 6) {n : Nat} (hst : gI M 88 i = nI (100 + n)) (hn : n < 10000) : bW line (nI d, nI i, M) = some (.inl (fin d (nI n) (i + 1) M)) := by
  show b_mo_worth_14_14 (nI line) (nI d) (nI i) M = _
  unfold b_mo_worth_14_14
  rw [z_cl (n := line) (by omega), he, z_gd (z_in (n := line) (by omega) (by omega)), if_neg (show ¬ nI e ≤ nI i by rw [z_le (by omega) (by omega)]; omega), z_gd (z_in (n := i) (by omega) (by omega)), z_cl (n := i) (by omega), hst]
  rw [if_neg (show ¬ nI (100 + n) = (28 : Int32) from z_ne (b := 28) (by omega) (by omega) (by omega)), if_neg (show ¬ nI (100 + n) = (30 : Int32) from z_ne (b := 30) (by omega) (by omega) (by omega)), if_neg (show ¬ nI (100 + n) = (20 : Int32) from z_ne (b := 20) (by omega) (by omega) (by omega)), if_neg (show ¬ nI (100 + n) = (21 : Int32) from z_ne (b := 21) (by omega) (by omega) (by omega)), if_neg (show ¬ nI (100 + n) = (22 : Int32) from z_ne (b := 22) (by omega) (by omega) (by omega)), if_neg (show ¬ nI (100 + n) = (24 : Int32) from z_ne (b := 24) (by omega) (by omega) (by omega)), if_neg (show ¬ nI (100 + n) = (25 : Int32) from z_ne (b := 25) (by omega) (by omega) (by omega)), if_neg (show ¬ nI (100 + n) = (26 : Int32) from z_ne (b := 26) (by omega) (by omega) (by omega)), if_neg (show ¬ nI (100 + n) = (27 : Int32) from z_ne (b := 27) (by omega) (by omega) (by omega))]
  rw [if_neg (show ¬ nI (100 + n) < (100 : Int32) from z_nlt (b := 100) (by omega) (by omega) (by omega)), show nI (100 + n) - (100 : Int32) = nI n from by rw [show nI (100 + n) - (100 : Int32) = nI (100 + n - 100) from z_sub (b := 100) (by omega), Nat.add_sub_cancel_left]]
  unfold b_mo_worth_14_243
  rw [if_neg (show ¬ nI (100 + n) = (29 : Int32) from z_ne (b := 29) (by omega) (by omega) (by omega))]
  exact m_300 (by omega) _ M _
theorem sw_fact {line e d i : Nat} {M : dM} (hl : line < 21) (he : gI M 84 line = nI e) (he2 : e ≤ 2000) (hi : i < e) (hd : d < 6) {f : Nat} (hst : gI M 88 i = nI (1 + f)) (hf : f < 17) : bW line (nI d, nI i, M) = some (.inl (fin d (vM M f) (i + 1) M)) := by
  show b_mo_worth_14_14 (nI line) (nI d) (nI i) M = _
  unfold b_mo_worth_14_14
  rw [z_cl (n := line) (by omega), he, z_gd (z_in (n := line) (by omega) (by omega)), if_neg (show ¬ nI e ≤ nI i by rw [z_le (by omega) (by omega)]; omega), z_gd (z_in (n := i) (by omega) (by omega)), z_cl (n := i) (by omega), hst]
  rw [if_neg (show ¬ nI (1 + f) = (28 : Int32) from z_ne (b := 28) (by omega) (by omega) (by omega)), if_neg (show ¬ nI (1 + f) = (30 : Int32) from z_ne (b := 30) (by omega) (by omega) (by omega)), if_neg (show ¬ nI (1 + f) = (20 : Int32) from z_ne (b := 20) (by omega) (by omega) (by omega)), if_neg (show ¬ nI (1 + f) = (21 : Int32) from z_ne (b := 21) (by omega) (by omega) (by omega)), if_neg (show ¬ nI (1 + f) = (22 : Int32) from z_ne (b := 22) (by omega) (by omega) (by omega)), if_neg (show ¬ nI (1 + f) = (24 : Int32) from z_ne (b := 24) (by omega) (by omega) (by omega)), if_neg (show ¬ nI (1 + f) = (25 : Int32) from z_ne (b := 25) (by omega) (by omega) (by omega)), if_neg (show ¬ nI (1 + f) = (26 : Int32) from z_ne (b := 26) (by omega) (by omega) (by omega)), if_neg (show ¬ nI (1 + f) = (27 : Int32) from z_ne (b := 27) (by omega) (by omega) (by omega))]
  rw [if_pos (show nI (1 + f) < (100 : Int32) from z_ylt (b := 100) (by omega) (by omega) (by omega)), if_neg (show ¬ (20 : Int32) ≤ nI (1 + f) from z_nle (a := 20) (by omega) (by omega) (by omega)), z_gd (z_in (by omega) (by omega)), z_cl (n := 1 + f) (by omega)]
  unfold b_mo_worth_14_243
  rw [if_neg (show ¬ nI (1 + f) = (29 : Int32) from z_ne (b := 29) (by omega) (by omega) (by omega))]
  exact m_300 (by omega) _ M _
theorem sw_par {line e d i : Nat} {M : dM} (hl : line < 21) (he : gI M 84 line = nI e) (he2 : e ≤ 2000) (hi : i < e) (hd : d < 6) (hst : gI M 88 i = nI 28) : bW line (nI d, nI i, M) = some (.inl (nI (d + 1), nI (i + 1), sI (sI (sI (sI (sI (sI M 99 (d + 1) (nI 0)) 92 (d + 1) (nI 0)) 94 (d + 1) (nI 0)) 95 (d + 1) (nI 0)) 96 (d + 1) (nI 20)) 98 (d + 1) (nI 0))) := by
  show b_mo_worth_14_14 (nI line) (nI d) (nI i) M = _
  unfold b_mo_worth_14_14
  rw [z_cl (n := line) (by omega), he, z_gd (z_in (n := line) (by omega) (by omega)), if_neg (show ¬ nI e ≤ nI i by rw [z_le (by omega) (by omega)]; omega), z_gd (z_in (n := i) (by omega) (by omega)), z_cl (n := i) (by omega), hst]
  rw [if_pos (show nI 28 = (28 : Int32) from rfl)]
  unfold b_mo_worth_14_46 b_mo_worth_14_66
  have n30 : ¬ nI 28 = nI 30 := by decide
  simp (disch := omega) only [fa_lit, n30, if_false, z_add, z_in, z_cl, z_gdT, m_opens, Option.bind_some]
theorem sw_not {line e d i : Nat} {M : dM} (hl : line < 21) (he : gI M 84 line = nI e) (he2 : e ≤ 2000) (hi : i < e) (hd : d < 6) (hst : gI M 88 i = nI 30) : bW line (nI d, nI i, M) = some (.inl (nI (d + 1), nI (i + 1), sI (sI (sI (sI (sI (sI M 99 (d + 1) (nI 1)) 92 (d + 1) (nI 0)) 94 (d + 1) (nI 0)) 95 (d + 1) (nI 0)) 96 (d + 1) (nI 20)) 98 (d + 1) (nI 0))) := by
  show b_mo_worth_14_14 (nI line) (nI d) (nI i) M = _
  unfold b_mo_worth_14_14
  rw [z_cl (n := line) (by omega), he, z_gd (z_in (n := line) (by omega) (by omega)), if_neg (show ¬ nI e ≤ nI i by rw [z_le (by omega) (by omega)]; omega), z_gd (z_in (n := i) (by omega) (by omega)), z_cl (n := i) (by omega), hst]
  rw [if_neg (show ¬ nI (30) = (28 : Int32) from z_ne (b := 28) (by omega) (by omega) (by omega)), if_pos (show nI 30 = (30 : Int32) from rfl)]
  unfold b_mo_worth_14_46 b_mo_worth_14_66
  simp (disch := omega) only [fa_lit, if_true, z_add, z_in, z_cl, z_gdT, m_opens, Option.bind_some]
theorem sw_mul {line e d i : Nat} {M : dM} (hl : line < 21) (he : gI M 84 line = nI e) (he2 : e ≤ 2000) (hi : i < e) (hd : d < 6) (hst : gI M 88 i = nI 22) : bW line (nI d, nI i, M) = some (.inl (nI d, nI (i + 1), sI M 98 d (nI 22))) := by
  show b_mo_worth_14_14 (nI line) (nI d) (nI i) M = _
  unfold b_mo_worth_14_14
  rw [z_cl (n := line) (by omega), he, z_gd (z_in (n := line) (by omega) (by omega)), if_neg (show ¬ nI e ≤ nI i by rw [z_le (by omega) (by omega)]; omega), z_gd (z_in (n := i) (by omega) (by omega)), z_cl (n := i) (by omega), hst]
  rw [if_neg (show ¬ nI (22) = (28 : Int32) from z_ne (b := 28) (by omega) (by omega) (by omega)), if_neg (show ¬ nI (22) = (30 : Int32) from z_ne (b := 30) (by omega) (by omega) (by omega)), if_neg (show ¬ nI (22) = (20 : Int32) from z_ne (b := 20) (by omega) (by omega) (by omega)), if_neg (show ¬ nI (22) = (21 : Int32) from z_ne (b := 21) (by omega) (by omega) (by omega))]
  rw [if_pos (show nI 22 = (22 : Int32) from rfl)]
  simp (disch := omega) only [fa_lit, z_in, z_cl, z_gdT, z_add]
theorem sw_sum {line e d i : Nat} {M : dM} (hl : line < 21) (he : gI M 84 line = nI e) (he2 : e ≤ 2000) (hi : i < e) (hd : d < 6) {o : Nat} (ho : o < 2) (hst : gI M 88 i = nI (20 + o)) : bW line (nI d, nI i, M) = some (.inl (nI d, nI (i + 1), sI (sI (sI M 95 d (sumV M d)) 98 d (nI 0)) 96 d (nI (20 + o)))) := by
  show b_mo_worth_14_14 (nI line) (nI d) (nI i) M = _
  have hb : b_mo_worth_14_89 (nI line) (nI d) (nI i) (nI (20 + o)) M = some (.inl (nI d, nI (i + 1), sI (sI (sI M 95 d (sumV M d)) 98 d (nI 0)) 96 d (nI (20 + o)))) := by
    unfold b_mo_worth_14_89
    simp (disch := omega) only [fa_lit, z_in, z_cl, z_gdT, m_sums, Option.bind_some, z_add, gI_sI, Nat.reduceEqDiff, false_and, if_false, and_self, if_true]
  unfold b_mo_worth_14_14
  rw [z_cl (n := line) (by omega), he, z_gd (z_in (n := line) (by omega) (by omega)), if_neg (show ¬ nI e ≤ nI i by rw [z_le (by omega) (by omega)]; omega), z_gd (z_in (n := i) (by omega) (by omega)), z_cl (n := i) (by omega), hst]
  rw [if_neg (show ¬ nI (20 + o) = (28 : Int32) from z_ne (b := 28) (by omega) (by omega) (by omega)), if_neg (show ¬ nI (20 + o) = (30 : Int32) from z_ne (b := 30) (by omega) (by omega) (by omega))]
  by_cases h : o = 0
  · rw [if_pos (show nI (20 + o) = (20 : Int32) from (z_eq (b := 20) (by omega) (by omega)).mpr (by omega))]
    exact hb
  · rw [if_neg (show ¬ nI (20 + o) = (20 : Int32) from z_ne (b := 20) (by omega) (by omega) (by omega)), if_pos (show nI (20 + o) = (21 : Int32) from (z_eq (b := 21) (by omega) (by omega)).mpr (by omega))]
    exact hb
theorem sw_tst {line e d i : Nat} {M : dM} (hl : line < 21) (he : gI M 84 line = nI e) (he2 : e ≤ 2000) (hi : i < e) (hd : d < 6) {o : Nat} (ho : o < 2) (hst : gI M 88 i = nI (24 + o)) : bW line (nI d, nI i, M) = some (.inl (nI d, nI (i + 1), sI (sI (sI (sI (sI (sI M 95 d (sumV M d)) 98 d (nI 0)) 93 d (sumV M d)) 94 d (nI (24 + o))) 95 d (nI 0)) 96 d (nI 20))) := by
  show b_mo_worth_14_14 (nI line) (nI d) (nI i) M = _
  have hb : b_mo_worth_14_137 (nI line) (nI d) (nI i) (nI (24 + o)) M = some (.inl (nI d, nI (i + 1), sI (sI (sI (sI (sI (sI M 95 d (sumV M d)) 98 d (nI 0)) 93 d (sumV M d)) 94 d (nI (24 + o))) 95 d (nI 0)) 96 d (nI 20))) := by
    unfold b_mo_worth_14_137
    simp (disch := omega) only [fa_lit, z_in, z_cl, z_gdT, m_sums, Option.bind_some, z_add, gI_sI, Nat.reduceEqDiff, false_and, if_false, and_self, if_true]
  unfold b_mo_worth_14_14
  rw [z_cl (n := line) (by omega), he, z_gd (z_in (n := line) (by omega) (by omega)), if_neg (show ¬ nI e ≤ nI i by rw [z_le (by omega) (by omega)]; omega), z_gd (z_in (n := i) (by omega) (by omega)), z_cl (n := i) (by omega), hst]
  rw [if_neg (show ¬ nI (24 + o) = (28 : Int32) from z_ne (b := 28) (by omega) (by omega) (by omega)), if_neg (show ¬ nI (24 + o) = (30 : Int32) from z_ne (b := 30) (by omega) (by omega) (by omega)), if_neg (show ¬ nI (24 + o) = (20 : Int32) from z_ne (b := 20) (by omega) (by omega) (by omega)), if_neg (show ¬ nI (24 + o) = (21 : Int32) from z_ne (b := 21) (by omega) (by omega) (by omega)), if_neg (show ¬ nI (24 + o) = (22 : Int32) from z_ne (b := 22) (by omega) (by omega) (by omega))]
  by_cases h : o = 0
  · rw [if_pos (show nI (24 + o) = (24 : Int32) from (z_eq (b := 24) (by omega) (by omega)).mpr (by omega))]
    exact hb
  · rw [if_neg (show ¬ nI (24 + o) = (24 : Int32) from z_ne (b := 24) (by omega) (by omega) (by omega)), if_pos (show nI (24 + o) = (25 : Int32) from (z_eq (b := 25) (by omega) (by omega)).mpr (by omega))]
    exact hb
theorem sw_log {line e d i : Nat} {M : dM} (hl : line < 21) (he : gI M 84 line = nI e) (he2 : e ≤ 2000) (hi : i < e) (hd : d < 6) {o : Nat} (ho : o < 2) (hst : gI M 88 i = nI (26 + o)) {M' : dM} (ht : f_mo_tests (nI d) M = some M') : bW line (nI d, nI i, M) = some (.inl (nI d, nI (i + 1), sI M' 92 d (nI (26 + o)))) := by
  show b_mo_worth_14_14 (nI line) (nI d) (nI i) M = _
  have hb : b_mo_worth_14_194 (nI line) (nI d) (nI i) (nI (26 + o)) M = some (.inl (nI d, nI (i + 1), sI M' 92 d (nI (26 + o)))) := by
    unfold b_mo_worth_14_194
    simp (disch := omega) only [fa_lit, z_in, z_cl, z_gdT, m_sums, ht, Option.bind_some, z_add, gI_sI, Nat.reduceEqDiff, false_and, if_false, and_self, if_true]
  unfold b_mo_worth_14_14
  rw [z_cl (n := line) (by omega), he, z_gd (z_in (n := line) (by omega) (by omega)), if_neg (show ¬ nI e ≤ nI i by rw [z_le (by omega) (by omega)]; omega), z_gd (z_in (n := i) (by omega) (by omega)), z_cl (n := i) (by omega), hst]
  rw [if_neg (show ¬ nI (26 + o) = (28 : Int32) from z_ne (b := 28) (by omega) (by omega) (by omega)), if_neg (show ¬ nI (26 + o) = (30 : Int32) from z_ne (b := 30) (by omega) (by omega) (by omega)), if_neg (show ¬ nI (26 + o) = (20 : Int32) from z_ne (b := 20) (by omega) (by omega) (by omega)), if_neg (show ¬ nI (26 + o) = (21 : Int32) from z_ne (b := 21) (by omega) (by omega) (by omega)), if_neg (show ¬ nI (26 + o) = (22 : Int32) from z_ne (b := 22) (by omega) (by omega) (by omega)), if_neg (show ¬ nI (26 + o) = (24 : Int32) from z_ne (b := 24) (by omega) (by omega) (by omega)), if_neg (show ¬ nI (26 + o) = (25 : Int32) from z_ne (b := 25) (by omega) (by omega) (by omega))]
  by_cases h : o = 0
  · rw [if_pos (show nI (26 + o) = (26 : Int32) from (z_eq (b := 26) (by omega) (by omega)).mpr (by omega))]
    exact hb
  · rw [if_neg (show ¬ nI (26 + o) = (26 : Int32) from z_ne (b := 26) (by omega) (by omega) (by omega)), if_pos (show nI (26 + o) = (27 : Int32) from (z_eq (b := 27) (by omega) (by omega)).mpr (by omega))]
    exact hb
theorem sw_end {line e d i : Nat} {M M' : dM} (hl : line < 21) (he : gI M 84 line = nI e) (he2 : e ≤ 2000) (hi : i < e) (hd : d < 5) (hst : gI M 88 i = nI 29) (ht : f_mo_tests (nI (d + 1)) M = some M') : bW line (nI (d + 1), nI i, M) = some (.inl (fin d (gI M' 91 (d + 1)) (i + 1) M')) := by
  show b_mo_worth_14_14 (nI line) (nI (d + 1)) (nI i) M = _
  have m1 : nI (d + 1) + -nI 1 = nI d := pk_m1 d
  have h243 : ∀ y, b_mo_worth_14_243 (nI line) (nI (d + 1)) (nI i) (nI 29) y M = some (.inl (fin d (gI M' 91 (d + 1)) (i + 1) M')) := by
    intro y
    unfold b_mo_worth_14_243
    simp (disch := omega) only [fa_lit, z_in, z_cl, z_gdT, if_true, ht, Option.bind_some, m1]
    exact m_300 (by omega) _ M' _
  unfold b_mo_worth_14_14
  rw [z_cl (n := line) (by omega), he, z_gd (z_in (n := line) (by omega) (by omega)), if_neg (show ¬ nI e ≤ nI i by rw [z_le (by omega) (by omega)]; omega), z_gd (z_in (n := i) (by omega) (by omega)), z_cl (n := i) (by omega), hst]
  rw [if_neg (show ¬ nI (29) = (28 : Int32) from z_ne (b := 28) (by omega) (by omega) (by omega)), if_neg (show ¬ nI (29) = (30 : Int32) from z_ne (b := 30) (by omega) (by omega) (by omega)), if_neg (show ¬ nI (29) = (20 : Int32) from z_ne (b := 20) (by omega) (by omega) (by omega)), if_neg (show ¬ nI (29) = (21 : Int32) from z_ne (b := 21) (by omega) (by omega) (by omega)), if_neg (show ¬ nI (29) = (22 : Int32) from z_ne (b := 22) (by omega) (by omega) (by omega)), if_neg (show ¬ nI (29) = (24 : Int32) from z_ne (b := 24) (by omega) (by omega) (by omega)), if_neg (show ¬ nI (29) = (25 : Int32) from z_ne (b := 25) (by omega) (by omega) (by omega)), if_neg (show ¬ nI (29) = (26 : Int32) from z_ne (b := 26) (by omega) (by omega) (by omega)), if_neg (show ¬ nI (29) = (27 : Int32) from z_ne (b := 27) (by omega) (by omega) (by omega))]
  rw [if_pos (show nI 29 < (100 : Int32) from z_ylt (b := 100) (by omega) (by omega) (by omega)), if_pos (show (20 : Int32) ≤ nI 29 from z_yle (a := 20) (by omega) (by omega) (by omega))]
  exact h243 _
def w4 (line d : Nat) (c : List Nat) (D : gD) : Prop := ∀ (i : Nat) (M : dM) (e : Nat), gI M 84 line = nI e → e ≤ 2000 → i + c.length ≤ e → hold M 88 i c → ∃ M', chL d M M' ∧ comes (bW line) (nI d, nI i, M) (fin d (D (vM M)) (i + c.length) M')
def w3 (line d : Nat) (c : List Nat) (D : gD) : Prop := ∀ (i : Nat) (M : dM) (e : Nat), gI M 84 line = nI e → e ≤ 2000 → i + c.length ≤ e → hold M 88 i c → rl M d → gI M 98 d = nI 0 → ∃ M', chM d M M' ∧ comes (bW line) (nI d, nI i, M) (nI d, nI (i + c.length), M') ∧ gI M' 97 d = D (vM M) ∧ ∀ k, 91 ≤ k → k ≤ 96 → gI M' k d = gI M k d
def w2 (line d : Nat) (c : List Nat) (D : gD) : Prop := ∀ (i : Nat) (M : dM) (e : Nat), gI M 84 line = nI e → e ≤ 2000 → i + c.length ≤ e → hold M 88 i c → rl M d → gI M 98 d = nI 0 → gI M 95 d = nI 0 → gI M 96 d = nI 20 → ∃ M', chM d M M' ∧ comes (bW line) (nI d, nI i, M) (nI d, nI (i + c.length), M') ∧ sumV M' d = D (vM M) ∧ ∀ k, 91 ≤ k → k ≤ 94 → gI M' k d = gI M k d
def w1 (line d : Nat) (c : List Nat) (D : gD) : Prop := ∀ (i : Nat) (M : dM) (e : Nat), gI M 84 line = nI e → e ≤ 2000 → i + c.length ≤ e → hold M 88 i c → rl M d → gI M 98 d = nI 0 → gI M 95 d = nI 0 → gI M 96 d = nI 20 → gI M 94 d = nI 0 → ∃ M', chM d M M' ∧ comes (bW line) (nI d, nI i, M) (nI d, nI (i + c.length), M') ∧ tstV M' d = D (vM M) ∧ ∀ k, 91 ≤ k → k ≤ 92 → gI M' k d = gI M k d
def w0 (line d : Nat) (c : List Nat) (D : gD) : Prop := ∀ (i : Nat) (M : dM) (e : Nat), gI M 84 line = nI e → e ≤ 2000 → i + c.length ≤ e → hold M 88 i c → rl M d → gI M 98 d = nI 0 → gI M 95 d = nI 0 → gI M 96 d = nI 20 → gI M 94 d = nI 0 → gI M 92 d = nI 0 → ∃ M', chM d M M' ∧ comes (bW line) (nI d, nI i, M) (nI d, nI (i + c.length), M') ∧ eV M' d = D (vM M)
def wC (line : Nat) (cat d : Nat) (c _r : List Nat) (D : gD) : Prop := d < 5 ∧ (cat = 4 → w4 line d c D) ∧ (cat = 3 → w3 line d c D) ∧ (cat = 2 → w2 line d c D) ∧ (cat = 1 → w1 line d c D) ∧ (cat = 0 → w0 line d c D)
theorem zero_1 : ¬ nI 0 = nI 1 := by decide
theorem w3_of4 {line d : Nat} {c : List Nat} {D : gD} (h : w4 line d c D) : w3 line d c D := by
  intro i M e he he2 hle hh hr h98
  obtain ⟨M1, a1, a2⟩ := h i M e he he2 hle hh
  have n98 : gI M1 98 d = nI 0 := ((a1.1 98 d (by omega)).1).trans h98
  rw [fin_rl0 (rl_ch a1.toM hr) n98] at a2
  refine ⟨sI M1 97 d (D (vM M)), (a1.toM).sI 97 d _ (by omega), a2, ?_, fun k h1 h2 => ?_⟩
  · rw [gI_sI, if_pos ⟨rfl, rfl⟩]
  · rw [gI_sI, if_neg (by omega)]
    exact (a1.1 k d (by omega)).1
theorem w3_mul {line d : Nat} {c c' : List Nat} {D D' : gD} (hl : line < 21) (hd : d < 5) (h : w3 line d c D) (h' : w4 line d c' D') : w3 line d (c ++ 22 :: c') (gMul D D') := by
  intro i M e he he2 hle hh hr h98
  rw [hold_app, hold_cons] at hh
  obtain ⟨g1, g2, g3⟩ := hh
  simp only [List.length_append, List.length_cons] at hle ⊢
  obtain ⟨M1, a1, a2, a3, a4⟩ := h i M e he he2 (by omega) g1 hr h98
  have st := sw_mul (M := M1) (d := d) (i := i + c.length) hl ((a1.1 84 line (by omega)).1.trans he) he2 (by omega) (by omega) ((a1.1 88 _ (by omega)).1.trans g2)
  have c2 : chM d M (sI M1 98 d (nI 22)) := a1.sI 98 d _ (by omega)
  obtain ⟨M3, b1, b2⟩ := h' (i + c.length + 1) (sI M1 98 d (nI 22)) e ((c2.1 84 line (by omega)).1.trans he) he2 (by omega) (hold_of g3 (fun j => (c2.1 88 j (by omega)).1))
  have n98 : gI M3 98 d = nI 22 := by
    rw [(b1.1 98 d (by omega)).1, gI_sI, if_pos ⟨rfl, rfl⟩]
  have n97 : gI M3 97 d = D (vM M) := by
    rw [(b1.1 97 d (by omega)).1, gI_sI, if_neg (by omega)]
    exact a3
  have c3 : chM d M M3 := c2.trans b1.toM
  rw [fin_rl1 (rl_ch c3 hr) (by rw [n98]; decide), n97, vM_ch c2] at b2
  refine ⟨sI M3 97 d (D (vM M) * D' (vM M)), c3.sI 97 d _ (by omega), ?_, ?_, fun k h1 h2 => ?_⟩
  · rw [show i + (c.length + (c'.length + 1)) = i + c.length + 1 + c'.length by omega]
    exact a2.trans ((comes.step st).trans b2)
  · rw [gI_sI, if_pos ⟨rfl, rfl⟩]
    rfl
  · rw [gI_sI, if_neg (by omega), (b1.1 k d (by omega)).1, gI_sI, if_neg (by omega)]
    exact a4 k h1 h2
theorem w2_of3 {line d : Nat} {c : List Nat} {D : gD} (h : w3 line d c D) : w2 line d c D := by
  intro i M e he he2 hle hh hr h98 h95 h96
  obtain ⟨M1, a1, a2, a3, a4⟩ := h i M e he he2 hle hh hr h98
  refine ⟨M1, a1, a2, ?_, fun k h1 h2 => a4 k h1 (by omega)⟩
  unfold sumV
  rw [a4 96 (by omega) (by omega), a4 95 (by omega) (by omega), h96, h95, a3, if_neg (by decide)]
  exact Int32.zero_add _
theorem w2_sum {line d o : Nat} {c c' : List Nat} {D D' : gD} (ho : o < 2) (hl : line < 21) (hd : d < 5) (h : w2 line d c D) (h' : w3 line d c' D') : w2 line d (c ++ (20 + o) :: c') (gSum o D D') := by
  intro i M e he he2 hle hh hr h98 h95 h96
  rw [hold_app, hold_cons] at hh
  obtain ⟨g1, g2, g3⟩ := hh
  simp only [List.length_append, List.length_cons] at hle ⊢
  obtain ⟨M1, a1, a2, a3, a4⟩ := h i M e he he2 (by omega) g1 hr h98 h95 h96
  have st := sw_sum (M := M1) (d := d) (i := i + c.length) hl ((a1.1 84 line (by omega)).1.trans he) he2 (by omega) (by omega) ho ((a1.1 88 _ (by omega)).1.trans g2)
  have c2 : chM d M (sI (sI (sI M1 95 d (sumV M1 d)) 98 d (nI 0)) 96 d (nI (20 + o))) := ((a1.sI 95 d _ (by omega)).sI 98 d _ (by omega)).sI 96 d _ (by omega)
  obtain ⟨M3, b1, b2, b3, b4⟩ := h' (i + c.length + 1) (sI (sI (sI M1 95 d (sumV M1 d)) 98 d (nI 0)) 96 d (nI (20 + o))) e ((c2.1 84 line (by omega)).1.trans he) he2 (by omega) (hold_of g3 (fun j => (c2.1 88 j (by omega)).1)) (rl_ch c2 hr) (by rw [gI_sI, if_neg (by omega), gI_sI, if_pos ⟨rfl, rfl⟩])
  refine ⟨M3, c2.trans b1, ?_, ?_, fun k h1 h2 => ?_⟩
  · rw [show i + (c.length + (c'.length + 1)) = i + c.length + 1 + c'.length by omega]
    exact a2.trans ((comes.step st).trans b2)
  · unfold sumV
    rw [b4 96 (by omega) (by omega), b4 95 (by omega) (by omega), b3, vM_ch c2]
    simp only [gI_sI, Nat.reduceEqDiff, false_and, if_false, and_self, if_true, a3]
    show _ = if o = 0 then D (vM M) + D' (vM M) else D (vM M) - D' (vM M)
    match o, ho with
    | 0, _ => rw [if_neg (by decide), if_pos rfl]
    | 1, _ => rw [if_pos (by decide), if_neg (by decide)]
  · rw [b4 k h1 (by omega), gI_sI, if_neg (by omega), gI_sI, if_neg (by omega), gI_sI, if_neg (by omega)]
    exact a4 k h1 h2
theorem w1_of2 {line d : Nat} {c : List Nat} {D : gD} (h : w2 line d c D) : w1 line d c D := by
  intro i M e he he2 hle hh hr h98 h95 h96 h94
  obtain ⟨M1, a1, a2, a3, a4⟩ := h i M e he he2 hle hh hr h98 h95 h96
  refine ⟨M1, a1, a2, ?_, fun k h1 h2 => a4 k h1 (by omega)⟩
  unfold tstV
  rw [a4 94 (by omega) (by omega), h94, if_neg (by decide), if_neg (by decide)]
  exact a3
theorem w1_tst {line d o : Nat} {c c' : List Nat} {D D' : gD} (ho : o < 2) (hl : line < 21) (hd : d < 5) (h : w2 line d c D) (h' : w2 line d c' D') : w1 line d (c ++ (24 + o) :: c') (gTst o D D') := by
  intro i M e he he2 hle hh hr h98 h95 h96 h94
  rw [hold_app, hold_cons] at hh
  obtain ⟨g1, g2, g3⟩ := hh
  simp only [List.length_append, List.length_cons] at hle ⊢
  obtain ⟨M1, a1, a2, a3, a4⟩ := h i M e he he2 (by omega) g1 hr h98 h95 h96
  have st := sw_tst (M := M1) (d := d) (i := i + c.length) hl ((a1.1 84 line (by omega)).1.trans he) he2 (by omega) (by omega) ho ((a1.1 88 _ (by omega)).1.trans g2)
  have c2 : chM d M (sI (sI (sI (sI (sI (sI M1 95 d (sumV M1 d)) 98 d (nI 0)) 93 d (sumV M1 d)) 94 d (nI (24 + o))) 95 d (nI 0)) 96 d (nI 20)) := (((((a1.sI 95 d _ (by omega)).sI 98 d _ (by omega)).sI 93 d _ (by omega)).sI 94 d _ (by omega)).sI 95 d _ (by omega)).sI 96 d _ (by omega)
  obtain ⟨M3, b1, b2, b3, b4⟩ := h' (i + c.length + 1) (sI (sI (sI (sI (sI (sI M1 95 d (sumV M1 d)) 98 d (nI 0)) 93 d (sumV M1 d)) 94 d (nI (24 + o))) 95 d (nI 0)) 96 d (nI 20)) e ((c2.1 84 line (by omega)).1.trans he) he2 (by omega) (hold_of g3 (fun j => (c2.1 88 j (by omega)).1)) (rl_ch c2 hr) (by simp only [gI_sI, Nat.reduceEqDiff, false_and, if_false, and_self, if_true]) (by simp only [gI_sI, Nat.reduceEqDiff, false_and, if_false, and_self, if_true]) (by simp only [gI_sI, and_self, if_true])
  refine ⟨M3, c2.trans b1, ?_, ?_, fun k h1 h2 => ?_⟩
  · rw [show i + (c.length + (c'.length + 1)) = i + c.length + 1 + c'.length by omega]
    exact a2.trans ((comes.step st).trans b2)
  · unfold tstV
    rw [b4 94 (by omega) (by omega), b4 93 (by omega) (by omega), b3, vM_ch c2]
    simp only [gI_sI, Nat.reduceEqDiff, false_and, if_false, and_self, if_true, a3]
    show _ = if o = 0 then (if D (vM M) < D' (vM M) then nI 1 else nI 0) else (if D (vM M) = D' (vM M) then nI 1 else nI 0)
    match o, ho with
    | 0, _ => rw [if_pos (by decide), if_pos rfl]
    | 1, _ => rw [if_neg (show ¬ nI (24 + 1) = nI 24 by decide), if_pos (show nI (24 + 1) = nI 25 by decide), if_neg (show ¬ (1 : Nat) = 0 by decide)]
  · rw [b4 k h1 (by omega)]
    have e93 : ¬ k = 93 := by omega
    have e94 : ¬ k = 94 := by omega
    have e95 : ¬ k = 95 := by omega
    have e96 : ¬ k = 96 := by omega
    have e98 : ¬ k = 98 := by omega
    simp only [gI_sI, e93, e94, e95, e96, e98, false_and, if_false]
    exact a4 k h1 (by omega)
theorem w0_of1 {line d : Nat} {c : List Nat} {D : gD} (h : w1 line d c D) : w0 line d c D := by
  intro i M e he he2 hle hh hr h98 h95 h96 h94 h92
  obtain ⟨M1, a1, a2, a3, a4⟩ := h i M e he he2 hle hh hr h98 h95 h96 h94
  refine ⟨M1, a1, a2, ?_⟩
  unfold eV
  rw [a4 92 (by omega) (by omega), h92, if_neg (by decide), if_neg (by decide)]
  exact a3
theorem w0_log {line d o : Nat} {c c' : List Nat} {D D' : gD} (ho : o < 2) (hl : line < 21) (hd : d < 5) (h : w0 line d c D) (h' : w1 line d c' D') : w0 line d (c ++ (26 + o) :: c') (gLog o D D') := by
  intro i M e he he2 hle hh hr h98 h95 h96 h94 h92
  rw [hold_app, hold_cons] at hh
  obtain ⟨g1, g2, g3⟩ := hh
  simp only [List.length_append, List.length_cons] at hle ⊢
  obtain ⟨M1, a1, a2, a3⟩ := h i M e he he2 (by omega) g1 hr h98 h95 h96 h94 h92
  obtain ⟨M2, t0, t1, t2, t3, t4, t5, t6, t7, t8⟩ := m_tests (l := d) (by omega) M1
  have st := sw_log (M := M1) (d := d) (i := i + c.length) hl ((a1.1 84 line (by omega)).1.trans he) he2 (by omega) (by omega) ho ((a1.1 88 _ (by omega)).1.trans g2) t0
  have cT : chM d M1 M2 := ⟨fun k j z => t7 k j (fun y => z ⟨y.1, by omega, Or.inr ⟨y.2.2, by omega⟩⟩), t8⟩
  have c2 : chM d M (sI M2 92 d (nI (26 + o))) := (a1.trans cT).sI 92 d _ (by omega)
  obtain ⟨M3, b1, b2, b3, b4⟩ := h' (i + c.length + 1) (sI M2 92 d (nI (26 + o))) e ((c2.1 84 line (by omega)).1.trans he) he2 (by omega) (hold_of g3 (fun j => (c2.1 88 j (by omega)).1)) (rl_ch c2 hr) (by rw [gI_sI, if_neg (by omega)]; exact t6) (by rw [gI_sI, if_neg (by omega)]; exact t4) (by rw [gI_sI, if_neg (by omega)]; exact t5) (by rw [gI_sI, if_neg (by omega)]; exact t3)
  refine ⟨M3, c2.trans b1, ?_, ?_⟩
  · rw [show i + (c.length + (c'.length + 1)) = i + c.length + 1 + c'.length by omega]
    exact a2.trans ((comes.step st).trans b2)
  · unfold eV
    rw [b4 92 (by omega) (by omega), b4 91 (by omega) (by omega), b3, vM_ch c2]
    simp only [gI_sI, Nat.reduceEqDiff, false_and, if_false, and_self, if_true, t1, a3]
    show _ = if o = 0 then (if D (vM M) = nI 0 then nI 0 else if D' (vM M) = nI 0 then nI 0 else nI 1) else (if D (vM M) = nI 0 then (if D' (vM M) = nI 0 then nI 0 else nI 1) else nI 1)
    match o, ho with
    | 0, _ => rw [if_pos (by decide), if_pos rfl]
    | 1, _ => rw [if_neg (show ¬ nI (26 + 1) = nI 26 by decide), if_pos (show nI (26 + 1) = nI 27 by decide), if_neg (show ¬ (1 : Nat) = 0 by decide)]
/-- what a push leaves: an open level -/
def pu (M : dM) (l : Nat) (b : Int32) : dM := sI (sI (sI (sI (sI (sI M 99 l b) 92 l (nI 0)) 94 l (nI 0)) 95 l (nI 0)) 96 l (nI 20)) 98 l (nI 0)
theorem pu_ch (M : dM) (d : Nat) (b : Int32) : chL d M (pu M (d + 1) b) := ((((((chL.refl d M).sI 99 (d + 1) _ (by omega)).sI 92 (d + 1) _ (by omega)).sI 94 (d + 1) _ (by omega)).sI 95 (d + 1) _ (by omega)).sI 96 (d + 1) _ (by omega)).sI 98 (d + 1) _ (by omega)
theorem pu_99 (M : dM) (l : Nat) (b : Int32) : gI (pu M l b) 99 l = b := by
  unfold pu
  simp only [gI_sI, Nat.reduceEqDiff, false_and, if_false, and_self, if_true]
theorem w4_par {line d : Nat} {c : List Nat} {D : gD} (hl : line < 21) (hd : d < 5) (hd1 : d + 1 < 5) (h : w0 line (d + 1) c D) : w4 line d (28 :: (c ++ [29])) D := by
  intro i M e he he2 hle hh
  rw [hold_cons, hold_app, hold_one] at hh
  obtain ⟨g1, g2, g3⟩ := hh
  simp only [List.length_append, List.length_cons, List.length_nil] at hle ⊢
  have st := sw_par (M := M) (d := d) (i := i) hl he he2 (by omega) (by omega) g1
  have c1 := pu_ch M d (nI 0)
  have p99 := pu_99 M (d + 1) (nI 0)
  obtain ⟨M1, a1, a2, a3⟩ := h (i + 1) (pu M (d + 1) (nI 0)) e ((c1.1 84 line (by omega)).1.trans he) he2 (by omega) (hold_of g2 (fun j => (c1.1 88 j (by omega)).1)) (Or.inr (by rw [p99]; decide)) (by unfold pu; simp only [gI_sI, and_self, if_true]) (by unfold pu; simp only [gI_sI, Nat.reduceEqDiff, false_and, if_false, and_self, if_true]) (by unfold pu; simp only [gI_sI, Nat.reduceEqDiff, false_and, if_false, and_self, if_true]) (by unfold pu; simp only [gI_sI, Nat.reduceEqDiff, false_and, if_false, and_self, if_true]) (by unfold pu; simp only [gI_sI, Nat.reduceEqDiff, false_and, if_false, and_self, if_true])
  have c2 : chL d M M1 := c1.trans a1.toL
  obtain ⟨M2, t0, t1, t2, t3, t4, t5, t6, t7, t8⟩ := m_tests (l := d + 1) (by omega) M1
  have cT : chL d M1 M2 := ⟨fun k j z => t7 k j (fun y => z ⟨y.1, by omega, by omega⟩), t8⟩
  have st2 := sw_end (M := M1) (d := d) (i := i + 1 + c.length) hl ((c2.1 84 line (by omega)).1.trans he) he2 (by omega) hd ((c2.1 88 _ (by omega)).1.trans g3) t0
  refine ⟨M2, c2.trans cT, ?_⟩
  rw [t1, a3, vM_ch c1.toM] at st2
  rw [show i + (c.length + (0 + 1) + 1) = i + 1 + c.length + 1 by omega]
  exact (comes.step st).trans (a2.trans (comes.step st2))
theorem w4_not {line d : Nat} {c : List Nat} {D : gD} (hl : line < 21) (hd : d < 5) (hd1 : d + 1 < 5) (h : w4 line (d + 1) c D) : w4 line d (30 :: c) (gNot D) := by
  intro i M e he he2 hle hh
  rw [hold_cons] at hh
  obtain ⟨g1, g2⟩ := hh
  simp only [List.length_cons] at hle ⊢
  have st := sw_not (M := M) (d := d) (i := i) hl he he2 (by omega) (by omega) g1
  have c1 := pu_ch M d (nI 1)
  have p99 := pu_99 M (d + 1) (nI 1)
  obtain ⟨M1, a1, a2⟩ := h (i + 1) (pu M (d + 1) (nI 1)) e ((c1.1 84 line (by omega)).1.trans he) he2 (by omega) (hold_of g2 (fun j => (c1.1 88 j (by omega)).1))
  refine ⟨M1, c1.trans (a1.up (by omega)), ?_⟩
  rw [show i + (c.length + 1) = i + 1 + c.length by omega]
  have hf : fin (d + 1) (D (vM (pu M (d + 1) (nI 1)))) (i + 1 + c.length) M1 = fin d (gNot D (vM M)) (i + 1 + c.length) M1 := by
    have hc : col M1 (d + 1) (D (vM (pu M (d + 1) (nI 1)))) = col M1 d (gNot D (vM M)) := by
      show (if gI M1 99 (d + 1) = nI 1 then col M1 d (if D (vM (pu M (d + 1) (nI 1))) = nI 0 then nI 1 else nI 0) else (d + 1, D (vM (pu M (d + 1) (nI 1))))) = _
      rw [if_pos ((a1.1 99 (d + 1) (by omega)).1.trans p99), vM_ch c1.toM]
      rfl
    unfold fin
    rw [hc]
  rw [hf] at a2
  exact (comes.step st).trans a2
theorem w4_num {line d n : Nat} (hl : line < 21) (hd : d < 5) (hn : n < 10000) : w4 line d [100 + n] (fun _ => nI n) := by
  intro i M e he he2 hle hh
  rw [hold_one] at hh
  simp only [List.length_cons, List.length_nil] at hle ⊢
  exact ⟨M, chL.refl d M, comes.step (sw_num hl he he2 (by omega) (by omega) hh hn)⟩
theorem w4_fact {line d f : Nat} (hl : line < 21) (hd : d < 5) (hf : f < 17) : w4 line d [1 + f] (fun v => v f) := by
  intro i M e he he2 hle hh
  rw [hold_one] at hh
  simp only [List.length_cons, List.length_nil] at hle ⊢
  exact ⟨M, chL.refl d M, comes.step (sw_fact hl he he2 (by omega) (by omega) hh hf)⟩
theorem evM {line K : Nat} (hl : line < 21) (hK : K ≤ 17) {cat d : Nat} {c r : List Nat} {D : gD} (g : G K cat d c r D) : wC line cat d c r D := by
  refine g (wC line) ⟨?_, ?_, ?_, ?_, ?_, ?_, ?_, ?_, ?_, ?_, ?_, ?_⟩
  · intro d n hd hn
    exact ⟨hd, fun _ => w4_num hl hd hn, fun h => absurd h (by decide), fun h => absurd h (by decide), fun h => absurd h (by decide), fun h => absurd h (by decide)⟩
  · intro d f hd hf
    exact ⟨hd, fun _ => w4_fact hl hd (by omega), fun h => absurd h (by decide), fun h => absurd h (by decide), fun h => absurd h (by decide), fun h => absurd h (by decide)⟩
  · rintro d c r D hd ⟨hd1, h4, _⟩
    exact ⟨hd, fun _ => w4_not hl hd hd1 (h4 rfl), fun h => absurd h (by decide), fun h => absurd h (by decide), fun h => absurd h (by decide), fun h => absurd h (by decide)⟩
  · rintro d c r D hd ⟨hd1, _, _, _, _, h0⟩
    exact ⟨hd, fun _ => w4_par hl hd hd1 (h0 rfl), fun h => absurd h (by decide), fun h => absurd h (by decide), fun h => absurd h (by decide), fun h => absurd h (by decide)⟩
  · rintro d c r D ⟨hd, h4, _⟩
    exact ⟨hd, fun h => absurd h (by decide), fun _ => w3_of4 (h4 rfl), fun h => absurd h (by decide), fun h => absurd h (by decide), fun h => absurd h (by decide)⟩
  · rintro d c r D c' r' D' ⟨hd, _, h3, _⟩ ⟨_, h4, _⟩
    exact ⟨hd, fun h => absurd h (by decide), fun _ => w3_mul hl hd (h3 rfl) (h4 rfl), fun h => absurd h (by decide), fun h => absurd h (by decide), fun h => absurd h (by decide)⟩
  · rintro d c r D ⟨hd, _, h3, _⟩
    exact ⟨hd, fun h => absurd h (by decide), fun h => absurd h (by decide), fun _ => w2_of3 (h3 rfl), fun h => absurd h (by decide), fun h => absurd h (by decide)⟩
  · rintro o d c r D c' r' D' ho ⟨hd, _, _, h2, _⟩ ⟨_, _, h3, _⟩
    exact ⟨hd, fun h => absurd h (by decide), fun h => absurd h (by decide), fun _ => w2_sum ho hl hd (h2 rfl) (h3 rfl), fun h => absurd h (by decide), fun h => absurd h (by decide)⟩
  · rintro d c r D ⟨hd, _, _, h2, _⟩
    exact ⟨hd, fun h => absurd h (by decide), fun h => absurd h (by decide), fun h => absurd h (by decide), fun _ => w1_of2 (h2 rfl), fun h => absurd h (by decide)⟩
  · rintro o d c r D c' r' D' ho ⟨hd, _, _, h2, _⟩ ⟨_, _, _, h2', _⟩
    exact ⟨hd, fun h => absurd h (by decide), fun h => absurd h (by decide), fun h => absurd h (by decide), fun _ => w1_tst ho hl hd (h2 rfl) (h2' rfl), fun h => absurd h (by decide)⟩
  · rintro d c r D ⟨hd, _, _, _, h1, _⟩
    exact ⟨hd, fun h => absurd h (by decide), fun h => absurd h (by decide), fun h => absurd h (by decide), fun h => absurd h (by decide), fun _ => w0_of1 (h1 rfl)⟩
  · rintro o d c r D c' r' D' ho ⟨hd, _, _, _, _, h0⟩ ⟨_, _, _, _, h1, _⟩
    exact ⟨hd, fun h => absurd h (by decide), fun h => absurd h (by decide), fun h => absurd h (by decide), fun h => absurd h (by decide), fun _ => w0_log ho hl hd (h0 rfl) (h1 rfl)⟩
/-- the reference works out a line's value -/
theorem m_worth {M : dM} {line K a e : Nat} {c r : List Nat} {D : gD} (g : G K 0 0 c r D) (hK : K ≤ 17) (hl : line < 21) (ha : gI M 83 line = nI a) (he : gI M 84 line = nI e) (he2 : e ≤ 2000) (hle : a + c.length = e) (hh : hold M 88 a c) : ∃ M', f_mo_worth (nI line) M = some (D (vM M), M') ∧ chS [91, 92, 93, 94, 95, 96, 97, 98, 99] M M' := by
  have h0 := (evM hl hK g).2.2.2.2.2 rfl
  have c1 : chM 0 M (sI (sI (sI (sI (sI M 92 0 (nI 0)) 94 0 (nI 0)) 95 0 (nI 0)) 96 0 (nI 20)) 98 0 (nI 0)) := (((((chM.refl 0 M).sI 92 0 _ (by omega)).sI 94 0 _ (by omega)).sI 95 0 _ (by omega)).sI 96 0 _ (by omega)).sI 98 0 _ (by omega)
  obtain ⟨M1, a1, a2, a3⟩ := h0 a _ e ((c1.1 84 line (by omega)).1.trans he) he2 (by omega) (hold_of hh (fun j => (c1.1 88 j (by omega)).1)) (Or.inl rfl) (by simp only [gI_sI, and_self, if_true]) (by simp only [gI_sI, Nat.reduceEqDiff, false_and, if_false, and_self, if_true]) (by simp only [gI_sI, Nat.reduceEqDiff, false_and, if_false, and_self, if_true]) (by simp only [gI_sI, Nat.reduceEqDiff, false_and, if_false, and_self, if_true]) (by simp only [gI_sI, Nat.reduceEqDiff, false_and, if_false, and_self, if_true])
  have c2 := c1.trans a1
  obtain ⟨M2, t0, t1, t2, t3, t4, t5, t6, t7, t8⟩ := m_tests (l := 0) (by omega) M1
  have cT : chM 0 M1 M2 := ⟨fun k j z => t7 k j (fun y => z ⟨y.1, by omega, by omega⟩), t8⟩
  have c3 := c2.trans cT
  refine ⟨M2, ?_, ?_⟩
  · have hend : bW line (nI 0, nI (a + c.length), M1) = some (.inr (D (vM M), M2)) := by
      show b_mo_worth_14_14 (nI line) (nI 0) (nI (a + c.length)) M1 = _
      unfold b_mo_worth_14_14
      rw [z_cl (n := line) (by omega), (c2.1 84 line (by omega)).1, he, z_gd (z_in (n := line) (by omega) (by omega)), if_pos (show nI e ≤ nI (a + c.length) from z_yle (by omega) (by omega) (by omega))]
      show (f_mo_tests (nI 0) M1).bind _ = _
      rw [t0, Option.bind_some]
      show some (Sum.inr (gI M2 91 0, M2)) = _
      rw [t1, a3, vM_ch c1]
    have h5 := a2 _ (lpc_out hend)
    unfold f_mo_worth l_mo_worth_14
    show (f_mo_opens (nI 0) M).bind _ = _
    rw [m_opens (by omega) M, Option.bind_some, z_gd (z_in (n := line) (by omega) (by omega)), z_cl (n := line) (by omega), (c1.1 83 line (by omega)).1, ha]
    have h6 : lpc (fun s : Int32 × Int32 × dM => b_mo_worth_14_14 (nI line) s.1 s.2.1 s.2.2) (nI 0, nI a, sI (sI (sI (sI (sI M 92 0 (nI 0)) 94 0 (nI 0)) 95 0 (nI 0)) 96 0 (nI 20)) 98 0 (nI 0)) = some (D (vM M), M2) := h5
    show (lpc (fun s : Int32 × Int32 × dM => b_mo_worth_14_14 (nI line) s.1 s.2.1 s.2.2) (nI 0, nI a, sI (sI (sI (sI (sI M 92 0 (nI 0)) 94 0 (nI 0)) 95 0 (nI 0)) 96 0 (nI 20)) 98 0 (nI 0))).bind _ = _
    rw [h6]
    rfl
  · refine ⟨fun k j hk => c3.1 k j (fun z => ?_), c3.2⟩
    have hmem : k ∈ [91, 92, 93, 94, 95, 96, 97, 98, 99] := by
      simp only [List.mem_cons, List.not_mem_nil, or_false]
      omega
    have hky : ky k j = k := by
      have : isObj k = false := by
        simp only [List.mem_cons, List.not_mem_nil, or_false] at hmem
        rcases hmem with rfl | rfl | rfl | rfl | rfl | rfl | rfl | rfl | rfl <;> rfl
      unfold ky
      rw [this]
      rfl
    rw [hky, List.contains_iff_mem.mpr hmem] at hk
    exact Bool.noConfusion hk
