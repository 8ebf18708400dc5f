/-! ===== the lines of a law ===== -/
theorem cIx_at (w : Nat) : ∀ (L : List Nat) (j : Nat), (cIx w j L = -1 ∧ ∀ e, e ∈ L → e ≠ w) ∨ ∃ f, f < L.length ∧ cIx w j L = nI (j + f) ∧ L.getD f 0 = w
  | [], j => Or.inl ⟨rfl, fun e h => absurd h (List.not_mem_nil)⟩
  | a :: es, j => by
    show ((if a = w then nI j else cIx w (j + 1) es) = -1 ∧ ∀ e, e ∈ a :: es → e ≠ w) ∨ ∃ f, f < es.length + 1 ∧ (if a = w then nI j else cIx w (j + 1) es) = nI (j + f) ∧ (a :: es).getD f 0 = w
    by_cases h : a = w
    · rw [if_pos h]
      exact Or.inr ⟨0, by omega, rfl, h⟩
    · rw [if_neg h]
      rcases cIx_at w es (j + 1) with ⟨x, y⟩ | ⟨f, x, y, z⟩
      · refine Or.inl ⟨x, fun e he => ?_⟩
        rcases List.mem_cons.mp he with rfl | he
        · exact h
        · exact y e he
      · exact Or.inr ⟨f + 1, by omega, by rw [y, Nat.add_assoc, Nat.add_comm 1 f], z⟩
theorem wIx_2 {T : Nat → Nat} {n p : Nat} : (wIx T n p 2 = -1 ∧ ∀ e, e ∈ lE 2 → ¬ (kd T n p = 1 ∧ wv T n p = e)) ∨ ∃ j, j < 6 ∧ wIx T n p 2 = nI j ∧ kd T n p = 1 ∧ wv T n p = (lE 2).getD j 0 := by
  unfold wIx
  by_cases h1 : kd T n p = 1
  · rw [if_pos h1]
    rcases cIx_at (wv T n p) (lE 2) 0 with ⟨x, y⟩ | ⟨f, x, y, z⟩
    · exact Or.inl ⟨x, fun e he q => y e he q.2.symm⟩
    · exact Or.inr ⟨f, x, by rw [y, Nat.zero_add], h1, z.symm⟩
  · rw [if_neg h1]
    exact Or.inl ⟨rfl, fun e _ q => h1 q.1⟩
noncomputable def bA : Int32 × Int32 × Int32 × Int32 × dM → Option ((Int32 × Int32 × Int32 × Int32 × dM) ⊕ (Bool × dM)) := fun s => b_mo_readsAll_73_73 s.1 s.2.1 s.2.2.1 s.2.2.2.1 s.2.2.2.2
theorem bI_z (b : Bool) : (bI b = 0) = (b = false) := by cases b <;> simp [bI]
theorem nI_z1 : (nI 1 = (0 : Int32)) = False := eq_false (by decide)
theorem nI_z0 : (nI 0 = (0 : Int32)) = True := eq_true rfl
theorem bA_en {T : Nat → Nat} {n p q : Nat} {M : dM} (h : rs0 T n q p M) (k : kd T n p = 0) (x1 x2 x3 x4 : Int32) : bA (x1, x2, x3, x4, M) = some (.inr (true, M)) := by
  show b_mo_readsAll_73_73 _ _ _ _ M = _
  unfold b_mo_readsAll_73_73
  rw [if_pos (show gI M 66 22 = (0 : Int32) from by rw [h.2.1.2.2.2.1, k]; rfl)]
theorem m_w2 {T : Nat → Nat} {n p : Nat} {M : dM} (t : tkm T n p M) : f_mo_isWord 1503 M = decide (kd T n p = 1 ∧ wv T n p = 1503) ∧ f_mo_isWord 11047 M = decide (kd T n p = 1 ∧ wv T n p = 11047) ∧ f_mo_isWord 369932 M = decide (kd T n p = 1 ∧ wv T n p = 369932) ∧ f_mo_isWord 10284818 M = decide (kd T n p = 1 ∧ wv T n p = 10284818) ∧ f_mo_isWord 4419 M = decide (kd T n p = 1 ∧ wv T n p = 4419) ∧ f_mo_isWord 79495460 M = decide (kd T n p = 1 ∧ wv T n p = 79495460) :=
  ⟨m_isWord (w := 1503) t (by decide), m_isWord (w := 11047) t (by decide), m_isWord (w := 369932) t (by decide), m_isWord (w := 10284818) t (by decide), m_isWord (w := 4419) t (by decide), m_isWord (w := 79495460) t (by decide)⟩
theorem bA_no {T : Nat → Nat} {n p q : Nat} {M : dM} (h : rs0 T n q p M) (k0 : kd T n p ≠ 0) (k : ∀ e, e ∈ lE 2 → ¬ (kd T n p = 1 ∧ wv T n p = e)) (x1 x2 x3 x4 : Int32) : bA (x1, x2, x3, x4, M) = some (.inr (f_mo_fails (nI 1) M)) := by
  have hl := kd_lt (T := T) (n := n) (p := p)
  obtain ⟨w0, w1, w2, w3, w4, w5⟩ := m_w2 h.2.1
  rw [decide_eq_false (k 1503 (by decide))] at w0
  rw [decide_eq_false (k 11047 (by decide))] at w1
  rw [decide_eq_false (k 369932 (by decide))] at w2
  rw [decide_eq_false (k 10284818 (by decide))] at w3
  rw [decide_eq_false (k 4419 (by decide))] at w4
  rw [decide_eq_false (k 79495460 (by decide))] at w5
  show b_mo_readsAll_73_73 _ _ _ _ M = _
  unfold b_mo_readsAll_73_73
  rw [if_neg (show ¬ gI M 66 22 = (0 : Int32) from by rw [h.2.1.2.2.2.1]; exact z_ne (b := 0) (by omega) (by omega) k0), w0, w1, w2, w3, w4, w5]
  rw [if_neg Bool.false_ne_true, if_neg Bool.false_ne_true, if_neg Bool.false_ne_true, if_neg Bool.false_ne_true, if_neg Bool.false_ne_true, if_neg Bool.false_ne_true]
  rfl
theorem fails_eq (k : Int32) (M : dM) : ((f_mo_fails k M).1, (f_mo_fails k M).2) = f_mo_fails k M := rfl
theorem bA_0 {T : Nat → Nat} {n p q a o st ft : Nat} {M : dM} (h : rs0 T n q p M) (h1 : kd T n p = 1) (hw : wv T n p = 1503) (ha : a ≤ 6) (ho : o ≤ 6) (hs : st ≤ 1) (hf : ft ≤ 1) : bA (nI a, nI o, nI st, nI ft, M) = if a = 6 then some (.inr (f_mo_fails (nI 5) M)) else (f_mo_nextToken M).bind fun q7 => (f_mo_readsWhen (nI a) q7).bind fun q9 => if q9.1 = false then some (.inr (false, q9.2)) else some (.inl (nI (a + 1), nI o, nI st, nI ft, q9.2)) := by
  obtain ⟨w0, w1, w2, w3, w4, w5⟩ := m_w2 h.2.1
  rw [decide_eq_true ⟨h1, hw⟩] at w0
  rw [decide_eq_false (fun z => by have := z.2; omega)] at w1
  rw [decide_eq_false (fun z => by have := z.2; omega)] at w2
  rw [decide_eq_false (fun z => by have := z.2; omega)] at w3
  rw [decide_eq_false (fun z => by have := z.2; omega)] at w4
  rw [decide_eq_false (fun z => by have := z.2; omega)] at w5
  have a1 : nI a + 1 = nI (a + 1) := z_add a 1
  have o1 : nI o + 1 = nI (o + 1) := z_add o 1
  have a0 : nI a + 0 = nI a := z_add a 0
  have o0 : nI o + 0 = nI o := z_add o 0
  have o6 : 6 + nI o = nI (6 + o) := z_add 6 o
  have ea : (nI a = (6 : Int32)) = (a = 6) := z_eq (b := 6) (by omega) (by decide)
  have eo : (nI o = (6 : Int32)) = (o = 6) := z_eq (b := 6) (by omega) (by decide)
  have es : (nI st = (0 : Int32)) = (st = 0) := z_eq (b := 0) (by omega) (by decide)
  have ef : (nI ft = (0 : Int32)) = (ft = 0) := z_eq (b := 0) (by omega) (by decide)
  show b_mo_readsAll_73_73 _ _ _ _ M = _
  unfold b_mo_readsAll_73_73
  rw [if_neg (show ¬ gI M 66 22 = (0 : Int32) from by rw [h.2.1.2.2.2.1, h1]; decide), w0, w1, w2, w3, w4, w5]
  have e170 : ∀ x1 x2 x3 x4 x5 x6 x7 x8 x9 x10, b_mo_readsAll_73_170 x1 x2 x3 x4 x5 x6 x7 x8 x9 x10 M = b_mo_readsAll_73_170 x1 x2 x3 x4 x5 x6 x7 x8 x9 x10 M := fun _ _ _ _ _ _ _ _ _ _ => rfl
  simp only [Bool.false_eq_true, if_false, if_true]
  unfold b_mo_readsAll_73_170 b_mo_readsAll_73_179 b_mo_readsAll_73_189 b_mo_readsAll_73_210 b_mo_readsAll_73_221 b_mo_readsAll_73_204 b_mo_readsAll_73_232 b_mo_readsAll_73_238
  unfold b_mo_readsAll_73_251 b_mo_readsAll_73_256 b_mo_readsAll_73_267 b_mo_readsAll_73_272 b_mo_readsAll_73_296 b_mo_readsAll_73_329 b_mo_readsAll_73_332 b_mo_readsAll_73_352
  simp only [bI_z, Bool.true_eq_false, if_false, if_true, ea, eo, es, ef, a1, o1, a0, o0, o6, fails_eq, ite_self]
  by_cases g : a = 6
  · rw [if_pos g, if_pos g]
    rfl
  · rw [if_neg g, if_neg g]
    by_cases c1 : st = 0 <;> by_cases c2 : ft = 0 <;> (try have c1' : st = 1 := by omega) <;> (try have c2' : ft = 1 := by omega) <;> (try subst c1) <;> (try subst c1') <;> (try subst c2) <;> (try subst c2') <;> rfl
theorem bA_1 {T : Nat → Nat} {n p q a o st ft : Nat} {M : dM} (h : rs0 T n q p M) (h1 : kd T n p = 1) (hw : wv T n p = 11047) (ha : a ≤ 6) (ho : o ≤ 6) (hs : st ≤ 1) (hf : ft ≤ 1) : bA (nI a, nI o, nI st, nI ft, M) = if o = 6 then some (.inr (f_mo_fails (nI 5) M)) else (f_mo_nextToken M).bind fun q7 => (f_mo_readsWhen (nI (6 + o)) q7).bind fun q9 => if q9.1 = false then some (.inr (false, q9.2)) else some (.inl (nI a, nI (o + 1), nI st, nI ft, q9.2)) := by
  obtain ⟨w0, w1, w2, w3, w4, w5⟩ := m_w2 h.2.1
  rw [decide_eq_false (fun z => by have := z.2; omega)] at w0
  rw [decide_eq_true ⟨h1, hw⟩] at w1
  rw [decide_eq_false (fun z => by have := z.2; omega)] at w2
  rw [decide_eq_false (fun z => by have := z.2; omega)] at w3
  rw [decide_eq_false (fun z => by have := z.2; omega)] at w4
  rw [decide_eq_false (fun z => by have := z.2; omega)] at w5
  have a1 : nI a + 1 = nI (a + 1) := z_add a 1
  have o1 : nI o + 1 = nI (o + 1) := z_add o 1
  have a0 : nI a + 0 = nI a := z_add a 0
  have o0 : nI o + 0 = nI o := z_add o 0
  have o6 : 6 + nI o = nI (6 + o) := z_add 6 o
  have ea : (nI a = (6 : Int32)) = (a = 6) := z_eq (b := 6) (by omega) (by decide)
  have eo : (nI o = (6 : Int32)) = (o = 6) := z_eq (b := 6) (by omega) (by decide)
  have es : (nI st = (0 : Int32)) = (st = 0) := z_eq (b := 0) (by omega) (by decide)
  have ef : (nI ft = (0 : Int32)) = (ft = 0) := z_eq (b := 0) (by omega) (by decide)
  show b_mo_readsAll_73_73 _ _ _ _ M = _
  unfold b_mo_readsAll_73_73
  rw [if_neg (show ¬ gI M 66 22 = (0 : Int32) from by rw [h.2.1.2.2.2.1, h1]; decide), w0, w1, w2, w3, w4, w5]
  have e170 : ∀ x1 x2 x3 x4 x5 x6 x7 x8 x9 x10, b_mo_readsAll_73_170 x1 x2 x3 x4 x5 x6 x7 x8 x9 x10 M = b_mo_readsAll_73_170 x1 x2 x3 x4 x5 x6 x7 x8 x9 x10 M := fun _ _ _ _ _ _ _ _ _ _ => rfl
  simp only [Bool.false_eq_true, if_false, if_true]
  unfold b_mo_readsAll_73_170 b_mo_readsAll_73_179 b_mo_readsAll_73_189 b_mo_readsAll_73_210 b_mo_readsAll_73_221 b_mo_readsAll_73_204 b_mo_readsAll_73_232 b_mo_readsAll_73_238
  unfold b_mo_readsAll_73_251 b_mo_readsAll_73_256 b_mo_readsAll_73_267 b_mo_readsAll_73_272 b_mo_readsAll_73_296 b_mo_readsAll_73_329 b_mo_readsAll_73_332 b_mo_readsAll_73_352
  simp only [bI_z, Bool.true_eq_false, if_false, if_true, ea, eo, es, ef, a1, o1, a0, o0, o6, fails_eq, ite_self]
  by_cases g : o = 6
  · rw [if_pos g, if_pos g]
    rfl
  · rw [if_neg g, if_neg g]
    by_cases c1 : st = 0 <;> by_cases c2 : ft = 0 <;> (try have c1' : st = 1 := by omega) <;> (try have c2' : ft = 1 := by omega) <;> (try subst c1) <;> (try subst c1') <;> (try subst c2) <;> (try subst c2') <;> rfl
theorem bA_2 {T : Nat → Nat} {n p q a o st ft : Nat} {M : dM} (h : rs0 T n q p M) (h1 : kd T n p = 1) (hw : wv T n p = 369932) (ha : a ≤ 6) (ho : o ≤ 6) (hs : st ≤ 1) (hf : ft ≤ 1) : bA (nI a, nI o, nI st, nI ft, M) = (f_mo_nextToken M).bind fun q7 => (f_mo_readsRule q7).bind fun q9 => if q9.1 = false then some (.inr (false, q9.2)) else some (.inl (nI a, nI o, nI st, nI ft, q9.2)) := by
  obtain ⟨w0, w1, w2, w3, w4, w5⟩ := m_w2 h.2.1
  rw [decide_eq_false (fun z => by have := z.2; omega)] at w0
  rw [decide_eq_false (fun z => by have := z.2; omega)] at w1
  rw [decide_eq_true ⟨h1, hw⟩] at w2
  rw [decide_eq_false (fun z => by have := z.2; omega)] at w3
  rw [decide_eq_false (fun z => by have := z.2; omega)] at w4
  rw [decide_eq_false (fun z => by have := z.2; omega)] at w5
  have a1 : nI a + 1 = nI (a + 1) := z_add a 1
  have o1 : nI o + 1 = nI (o + 1) := z_add o 1
  have a0 : nI a + 0 = nI a := z_add a 0
  have o0 : nI o + 0 = nI o := z_add o 0
  have o6 : 6 + nI o = nI (6 + o) := z_add 6 o
  have ea : (nI a = (6 : Int32)) = (a = 6) := z_eq (b := 6) (by omega) (by decide)
  have eo : (nI o = (6 : Int32)) = (o = 6) := z_eq (b := 6) (by omega) (by decide)
  have es : (nI st = (0 : Int32)) = (st = 0) := z_eq (b := 0) (by omega) (by decide)
  have ef : (nI ft = (0 : Int32)) = (ft = 0) := z_eq (b := 0) (by omega) (by decide)
  show b_mo_readsAll_73_73 _ _ _ _ M = _
  unfold b_mo_readsAll_73_73
  rw [if_neg (show ¬ gI M 66 22 = (0 : Int32) from by rw [h.2.1.2.2.2.1, h1]; decide), w0, w1, w2, w3, w4, w5]
  have e170 : ∀ x1 x2 x3 x4 x5 x6 x7 x8 x9 x10, b_mo_readsAll_73_170 x1 x2 x3 x4 x5 x6 x7 x8 x9 x10 M = b_mo_readsAll_73_170 x1 x2 x3 x4 x5 x6 x7 x8 x9 x10 M := fun _ _ _ _ _ _ _ _ _ _ => rfl
  simp only [Bool.false_eq_true, if_false, if_true]
  unfold b_mo_readsAll_73_170 b_mo_readsAll_73_179 b_mo_readsAll_73_189 b_mo_readsAll_73_210 b_mo_readsAll_73_221 b_mo_readsAll_73_204 b_mo_readsAll_73_232 b_mo_readsAll_73_238
  unfold b_mo_readsAll_73_251 b_mo_readsAll_73_256 b_mo_readsAll_73_267 b_mo_readsAll_73_272 b_mo_readsAll_73_296 b_mo_readsAll_73_329 b_mo_readsAll_73_332 b_mo_readsAll_73_352
  simp only [bI_z, Bool.true_eq_false, if_false, if_true, ea, eo, es, ef, a1, o1, a0, o0, o6, fails_eq, ite_self]
  by_cases c1 : st = 0 <;> by_cases c2 : ft = 0 <;> (try have c1' : st = 1 := by omega) <;> (try have c2' : ft = 1 := by omega) <;> (try subst c1) <;> (try subst c1') <;> (try subst c2) <;> (try subst c2') <;> rfl
theorem bA_3 {T : Nat → Nat} {n p q a o st ft : Nat} {M : dM} (h : rs0 T n q p M) (h1 : kd T n p = 1) (hw : wv T n p = 10284818) (ha : a ≤ 6) (ho : o ≤ 6) (hs : st ≤ 1) (hf : ft ≤ 1) : bA (nI a, nI o, nI st, nI ft, M) = if st = 1 then some (.inr (f_mo_fails (nI 3) M)) else (f_mo_nextToken M).bind fun q7 => (f_mo_readsNumber (nI 1) q7).bind fun q9 => if q9.1 = false then some (.inr (false, q9.2)) else some (.inl (nI a, nI o, nI 1, nI ft, q9.2)) := by
  obtain ⟨w0, w1, w2, w3, w4, w5⟩ := m_w2 h.2.1
  rw [decide_eq_false (fun z => by have := z.2; omega)] at w0
  rw [decide_eq_false (fun z => by have := z.2; omega)] at w1
  rw [decide_eq_false (fun z => by have := z.2; omega)] at w2
  rw [decide_eq_true ⟨h1, hw⟩] at w3
  rw [decide_eq_false (fun z => by have := z.2; omega)] at w4
  rw [decide_eq_false (fun z => by have := z.2; omega)] at w5
  have a1 : nI a + 1 = nI (a + 1) := z_add a 1
  have o1 : nI o + 1 = nI (o + 1) := z_add o 1
  have a0 : nI a + 0 = nI a := z_add a 0
  have o0 : nI o + 0 = nI o := z_add o 0
  have o6 : 6 + nI o = nI (6 + o) := z_add 6 o
  have ea : (nI a = (6 : Int32)) = (a = 6) := z_eq (b := 6) (by omega) (by decide)
  have eo : (nI o = (6 : Int32)) = (o = 6) := z_eq (b := 6) (by omega) (by decide)
  have es : (nI st = (0 : Int32)) = (st = 0) := z_eq (b := 0) (by omega) (by decide)
  have ef : (nI ft = (0 : Int32)) = (ft = 0) := z_eq (b := 0) (by omega) (by decide)
  show b_mo_readsAll_73_73 _ _ _ _ M = _
  unfold b_mo_readsAll_73_73
  rw [if_neg (show ¬ gI M 66 22 = (0 : Int32) from by rw [h.2.1.2.2.2.1, h1]; decide), w0, w1, w2, w3, w4, w5]
  have e170 : ∀ x1 x2 x3 x4 x5 x6 x7 x8 x9 x10, b_mo_readsAll_73_170 x1 x2 x3 x4 x5 x6 x7 x8 x9 x10 M = b_mo_readsAll_73_170 x1 x2 x3 x4 x5 x6 x7 x8 x9 x10 M := fun _ _ _ _ _ _ _ _ _ _ => rfl
  simp only [Bool.false_eq_true, if_false, if_true]
  unfold b_mo_readsAll_73_170 b_mo_readsAll_73_179 b_mo_readsAll_73_189 b_mo_readsAll_73_210 b_mo_readsAll_73_221 b_mo_readsAll_73_204 b_mo_readsAll_73_232 b_mo_readsAll_73_238
  unfold b_mo_readsAll_73_251 b_mo_readsAll_73_256 b_mo_readsAll_73_267 b_mo_readsAll_73_272 b_mo_readsAll_73_296 b_mo_readsAll_73_329 b_mo_readsAll_73_332 b_mo_readsAll_73_352
  simp only [bI_z, Bool.true_eq_false, if_false, if_true, ea, eo, es, ef, a1, o1, a0, o0, o6, fails_eq, ite_self]
  by_cases g : st = 1
  · rw [if_neg (show ¬ st = 0 by omega), if_pos g]
    rfl
  · have g0 : st = 0 := by omega
    rw [if_pos g0, if_neg g]
    by_cases c2 : ft = 0
    · subst g0; subst c2; rfl
    · have c2' : ft = 1 := by omega
      subst g0; subst c2'; rfl
theorem bA_4 {T : Nat → Nat} {n p q a o st ft : Nat} {M : dM} (h : rs0 T n q p M) (h1 : kd T n p = 1) (hw : wv T n p = 4419) (ha : a ≤ 6) (ho : o ≤ 6) (hs : st ≤ 1) (hf : ft ≤ 1) : bA (nI a, nI o, nI st, nI ft, M) = if ft = 1 then some (.inr (f_mo_fails (nI 3) M)) else (f_mo_nextToken M).bind fun q7 => (f_mo_readsNumber (nI 0) q7).bind fun q9 => if q9.1 = false then some (.inr (false, q9.2)) else some (.inl (nI a, nI o, nI st, nI 1, q9.2)) := by
  obtain ⟨w0, w1, w2, w3, w4, w5⟩ := m_w2 h.2.1
  rw [decide_eq_false (fun z => by have := z.2; omega)] at w0
  rw [decide_eq_false (fun z => by have := z.2; omega)] at w1
  rw [decide_eq_false (fun z => by have := z.2; omega)] at w2
  rw [decide_eq_false (fun z => by have := z.2; omega)] at w3
  rw [decide_eq_true ⟨h1, hw⟩] at w4
  rw [decide_eq_false (fun z => by have := z.2; omega)] at w5
  have a1 : nI a + 1 = nI (a + 1) := z_add a 1
  have o1 : nI o + 1 = nI (o + 1) := z_add o 1
  have a0 : nI a + 0 = nI a := z_add a 0
  have o0 : nI o + 0 = nI o := z_add o 0
  have o6 : 6 + nI o = nI (6 + o) := z_add 6 o
  have ea : (nI a = (6 : Int32)) = (a = 6) := z_eq (b := 6) (by omega) (by decide)
  have eo : (nI o = (6 : Int32)) = (o = 6) := z_eq (b := 6) (by omega) (by decide)
  have es : (nI st = (0 : Int32)) = (st = 0) := z_eq (b := 0) (by omega) (by decide)
  have ef : (nI ft = (0 : Int32)) = (ft = 0) := z_eq (b := 0) (by omega) (by decide)
  show b_mo_readsAll_73_73 _ _ _ _ M = _
  unfold b_mo_readsAll_73_73
  rw [if_neg (show ¬ gI M 66 22 = (0 : Int32) from by rw [h.2.1.2.2.2.1, h1]; decide), w0, w1, w2, w3, w4, w5]
  have e170 : ∀ x1 x2 x3 x4 x5 x6 x7 x8 x9 x10, b_mo_readsAll_73_170 x1 x2 x3 x4 x5 x6 x7 x8 x9 x10 M = b_mo_readsAll_73_170 x1 x2 x3 x4 x5 x6 x7 x8 x9 x10 M := fun _ _ _ _ _ _ _ _ _ _ => rfl
  simp only [Bool.false_eq_true, if_false, if_true]
  unfold b_mo_readsAll_73_170 b_mo_readsAll_73_179 b_mo_readsAll_73_189 b_mo_readsAll_73_210 b_mo_readsAll_73_221 b_mo_readsAll_73_204 b_mo_readsAll_73_232 b_mo_readsAll_73_238
  unfold b_mo_readsAll_73_251 b_mo_readsAll_73_256 b_mo_readsAll_73_267 b_mo_readsAll_73_272 b_mo_readsAll_73_296 b_mo_readsAll_73_329 b_mo_readsAll_73_332 b_mo_readsAll_73_352
  simp only [bI_z, Bool.true_eq_false, if_false, if_true, ea, eo, es, ef, a1, o1, a0, o0, o6, fails_eq, ite_self]
  by_cases g : ft = 1
  · rw [if_neg (show ¬ ft = 0 by omega), if_pos g]
    rfl
  · have g0 : ft = 0 := by omega
    rw [if_pos g0, if_neg g]
    by_cases c2 : st = 0
    · subst g0; subst c2; rfl
    · have c2' : st = 1 := by omega
      subst g0; subst c2'; rfl
theorem bA_5 {T : Nat → Nat} {n p q a o st ft : Nat} {M : dM} (h : rs0 T n q p M) (h1 : kd T n p = 1) (hw : wv T n p = 79495460) (ha : a ≤ 6) (ho : o ≤ 6) (hs : st ≤ 1) (hf : ft ≤ 1) : bA (nI a, nI o, nI st, nI ft, M) = if gI M 85 20 ≠ nI 0 then some (.inr (f_mo_fails (nI 3) M)) else (f_mo_nextToken M).bind fun q7 => (f_mo_readsWhen (nI 20) q7).bind fun q9 => if q9.1 = false then some (.inr (false, q9.2)) else some (.inl (nI a, nI o, nI st, nI ft, q9.2)) := by
  obtain ⟨w0, w1, w2, w3, w4, w5⟩ := m_w2 h.2.1
  rw [decide_eq_false (fun z => by have := z.2; omega)] at w0
  rw [decide_eq_false (fun z => by have := z.2; omega)] at w1
  rw [decide_eq_false (fun z => by have := z.2; omega)] at w2
  rw [decide_eq_false (fun z => by have := z.2; omega)] at w3
  rw [decide_eq_false (fun z => by have := z.2; omega)] at w4
  rw [decide_eq_true ⟨h1, hw⟩] at w5
  have a1 : nI a + 1 = nI (a + 1) := z_add a 1
  have o1 : nI o + 1 = nI (o + 1) := z_add o 1
  have a0 : nI a + 0 = nI a := z_add a 0
  have o0 : nI o + 0 = nI o := z_add o 0
  have o6 : 6 + nI o = nI (6 + o) := z_add 6 o
  have ea : (nI a = (6 : Int32)) = (a = 6) := z_eq (b := 6) (by omega) (by decide)
  have eo : (nI o = (6 : Int32)) = (o = 6) := z_eq (b := 6) (by omega) (by decide)
  have es : (nI st = (0 : Int32)) = (st = 0) := z_eq (b := 0) (by omega) (by decide)
  have ef : (nI ft = (0 : Int32)) = (ft = 0) := z_eq (b := 0) (by omega) (by decide)
  show b_mo_readsAll_73_73 _ _ _ _ M = _
  unfold b_mo_readsAll_73_73
  rw [if_neg (show ¬ gI M 66 22 = (0 : Int32) from by rw [h.2.1.2.2.2.1, h1]; decide), w0, w1, w2, w3, w4, w5]
  have e170 : ∀ x1 x2 x3 x4 x5 x6 x7 x8 x9 x10, b_mo_readsAll_73_170 x1 x2 x3 x4 x5 x6 x7 x8 x9 x10 M = b_mo_readsAll_73_170 x1 x2 x3 x4 x5 x6 x7 x8 x9 x10 M := fun _ _ _ _ _ _ _ _ _ _ => rfl
  simp only [Bool.false_eq_true, if_false, if_true]
  unfold b_mo_readsAll_73_170 b_mo_readsAll_73_179 b_mo_readsAll_73_189 b_mo_readsAll_73_210 b_mo_readsAll_73_221 b_mo_readsAll_73_204 b_mo_readsAll_73_232 b_mo_readsAll_73_238
  unfold b_mo_readsAll_73_251 b_mo_readsAll_73_256 b_mo_readsAll_73_267 b_mo_readsAll_73_272 b_mo_readsAll_73_296 b_mo_readsAll_73_329 b_mo_readsAll_73_332 b_mo_readsAll_73_352
  simp only [bI_z, Bool.true_eq_false, if_false, if_true, ea, eo, es, ef, a1, o1, a0, o0, o6, fails_eq, ite_self]
  by_cases g : gI M 85 20 = nI 0
  · rw [if_pos (show gI M 85 20 = (0 : Int32) from g), if_neg (fun z => z g)]
    by_cases c1 : st = 0 <;> by_cases c2 : ft = 0 <;> (try have c1' : st = 1 := by omega) <;> (try have c2' : ft = 1 := by omega) <;> (try subst c1) <;> (try subst c1') <;> (try subst c2) <;> (try subst c2') <;> rfl
  · rw [if_neg (show ¬ gI M 85 20 = (0 : Int32) from g), if_pos g]
    rfl
