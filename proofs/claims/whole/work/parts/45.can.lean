/-! ===== who can, who was seen ===== -/
theorem z_subneg {a b : Nat} (ha : a < 2147483648) (hb : b < 2147483648) (h : a < b) : nI a - nI b < 0 := by
  have e1 := nI_toInt ha
  have e2 := nI_toInt hb
  rw [fa_lt, fb_subI (by rw [e1, e2]; omega) (by rw [e1, e2]; omega), e1, e2]
  have : ((0 : Int32)).toInt = 0 := by decide
  omega
theorem pc_one : ∀ x, x < 1024 → pc x 12 = 1 → ∃ b, b < 10 ∧ x = 2 ^ b := by decide +kernel
theorem pc_two : ∀ b, b < 10 → pc (2 ^ b) 12 = 1 := by decide +kernel
def limF (A : sA) (f back : Nat) : Nat := if back = 0 then A 77 f else 24
def canP (A : sA) (since f b : Nat) : Prop := ∃ back, back ≤ since ∧ back ≤ A 76 f ∧ ∃ h, h < limF A f back ∧ pre A (A 74 f) (A 76 f - back) h = 2 ^ b
def canL (A : sA) (since f i : Nat) : Prop := A 70 i = A 74 f ∧ A 71 i ≤ A 76 f ∧ A 76 f - A 71 i ≤ since ∧ alL A i % 2 ^ limF A f (A 76 f - A 71 i) ≠ 0
noncomputable def canLB (A : sA) (since f i : Nat) : Bool := @decide (canL A since f i) (Classical.propDecidable _)
theorem canLB_iff (A : sA) (since f i : Nat) : canLB A since f i = true ↔ canL A since f i := by
  unfold canLB
  exact @decide_eq_true_iff _ (Classical.propDecidable _)
noncomputable def canN (A : sA) (since f : Nat) : Nat → Nat
  | 0 => 0
  | n + 1 => if canLB A since f n = true then canN A since f n ||| 2 ^ A 69 n else canN A since f n
theorem canN_s (A : sA) (since f n : Nat) : canN A since f (n + 1) = if canLB A since f n = true then canN A since f n ||| 2 ^ A 69 n else canN A since f n := rfl
theorem canN_bit (A : sA) (since f b : Nat) : ∀ n, (canN A since f n).testBit b = true ↔ ∃ i, i < n ∧ canL A since f i ∧ A 69 i = b
  | 0 => by simp [canN]
  | n + 1 => by
    have ih := canN_bit A since f b n
    rw [canN_s]
    by_cases c : canL A since f n
    · rw [if_pos ((canLB_iff _ _ _ _).mpr c), fb_bit_set, Bool.or_eq_true, ih, decide_eq_true_iff]
      constructor
      · rintro (⟨i, h1, h2, h3⟩ | e)
        · exact ⟨i, by omega, h2, h3⟩
        · exact ⟨n, by omega, c, e.symm⟩
      · rintro ⟨i, h1, h2, h3⟩
        by_cases e : i = n
        · subst e; exact Or.inr h3.symm
        · exact Or.inl ⟨i, by omega, h2, h3⟩
    · rw [if_neg (fun z => c ((canLB_iff _ _ _ _).mp z)), ih]
      constructor
      · rintro ⟨i, h1, h2, h3⟩
        exact ⟨i, by omega, h2, h3⟩
      · rintro ⟨i, h1, h2, h3⟩
        by_cases e : i = n
        · subst e; exact absurd h2 c
        · exact ⟨i, by omega, h2, h3⟩
theorem canN_lt {A : sA} (w : wfL A) (since f : Nat) : ∀ n, n ≤ A 66 3 → canN A since f n < 2 ^ 10
  | 0, _ => by show 0 < 2 ^ 10; decide
  | n + 1, h => by
    have ih := canN_lt w since f n (by omega)
    rw [canN_s]
    split
    · exact Nat.or_lt_two_pow ih (Nat.pow_lt_pow_right (by decide) (w.2 n (by omega)).1)
    · exact ih
noncomputable def canF (A : sA) (since f : Nat) : Nat := canN A since f (A 66 3)
theorem mod_ne {x n : Nat} : x % 2 ^ n ≠ 0 ↔ ∃ h, h < n ∧ x.testBit h = true := by
  constructor
  · intro hne
    by_cases e : ∃ h, h < n ∧ x.testBit h = true
    · exact e
    · exfalso
      apply hne
      refine nat_bits fun i => ?_
      rw [Nat.testBit_mod_two_pow, Nat.zero_testBit]
      by_cases hi : i < n
      · rw [decide_eq_true hi, Bool.true_and]
        exact Bool.eq_false_iff.mpr (fun z => e ⟨i, hi, z⟩)
      · rw [decide_eq_false hi, Bool.false_and]
  · rintro ⟨h, h1, h2⟩ z
    have : (x % 2 ^ n).testBit h = true := by rw [Nat.testBit_mod_two_pow, decide_eq_true h1, h2]; rfl
    rw [z, Nat.zero_testBit] at this
    cases this
theorem limF_le {A : sA} (w : wfA A) {f : Nat} (hf : f < A 66 9) (back : Nat) : limF A f back ≤ 24 := by
  obtain ⟨q1, q2, q3, q4, q5, q6, q7, q8⟩ := w.2.2.1.2.1 f hf
  unfold limF
  split <;> omega
theorem canF_bit {A : sA} (w : wfA A) {f : Nat} (hf : f < A 66 9) (since b : Nat) : (canF A since f).testBit b = true ↔ canP A since f b := by
  unfold canF
  rw [canN_bit]
  constructor
  · rintro ⟨i, h1, ⟨c1, c2, c3, c4⟩, rfl⟩
    obtain ⟨h, hh, hb⟩ := mod_ne.mp c4
    have hl := limF_le w hf (A 76 f - A 71 i)
    refine ⟨A 76 f - A 71 i, c3, by omega, h, hh, ?_⟩
    unfold alL at hb
    rw [al_bit, Bool.and_eq_true, c1] at hb
    rw [show A 76 f - (A 76 f - A 71 i) = A 71 i by omega]
    exact of_decide_eq_true hb.2
  · rintro ⟨back, h1, h2, h, hh, hp⟩
    have hl := limF_le w hf back
    obtain ⟨i, a1, a2, a3⟩ := ((pre_eq (A 74 f) (A 76 f - back) h b).mp hp).1
    have a2' := a2
    unfold atL at a2'
    rw [Bool.and_eq_true, Bool.and_eq_true, decide_eq_true_iff, decide_eq_true_iff] at a2'
    obtain ⟨b1, b2, b3⟩ := a2'
    have eb : A 76 f - A 71 i = back := by omega
    refine ⟨i, a1, ⟨b1, by omega, by omega, ?_⟩, a3⟩
    rw [eb]
    refine mod_ne.mpr ⟨h, hh, ?_⟩
    unfold alL
    rw [al_bit, decide_eq_true (show h < 24 by omega), Bool.true_and, b1, b2, a3]
    exact decide_eq_true hp
theorem c_whoCan {A : sA} {M : dM} {since : Nat} (w : wfA A) (rc : rcA A M) (o : rcO A M) (h6 : gI M 27 6 = nI since) (hs : since ≤ 9) {f : Nat} (hf : f < A 66 9) : f_sy_whoCan (nI f) M = some (nI (canF A since f)) := by
  have hn := w.1.1
  have hfn := w.2.2.1.1
  obtain ⟨q1, q2, q3, q4, q5, q6, q7, q8⟩ := w.2.2.1.2.1 f hf
  obtain ⟨e1, e2, e3, e4, e5, e6, e7⟩ := rc.2.2.1.2 f hf
  unfold f_sy_whoCan l_sy_whoCan_4 canF
  have key := lpc_seq (body := fun s : Int32 × Int32 => b_sy_whoCan_4_4 (nI f) s.1 s.2 M) (x := nI (canN A since f (A 66 3))) (fun i => (nI (canN A since f i), nI i)) (A 66 3) ?_ ?_
  · rw [show ((0 : Int32), (0 : Int32)) = (nI (canN A since f 0), nI 0) from rfl, key]
    rfl
  · intro i hi
    obtain ⟨j1, j2, j3, j4⟩ := rc.1.2 i hi
    obtain ⟨v1, v2, v3, v4, v5⟩ := w.1.2 i hi
    have hal := al_lt A (A 70 i) (A 71 i) (A 69 i)
    have ei : nI i + 1 = nI (i + 1) := z_add i 1
    show b_sy_whoCan_4_4 (nI f) (nI (canN A since f i)) (nI i) M = some (.inl (nI (canN A since f (i + 1)), nI (i + 1)))
    have e102 : ∀ L, L ≤ 24 → (canL A since f i ↔ alL A i % 2 ^ L ≠ 0) → b_sy_whoCan_4_102 (nI f) (nI (canN A since f i)) (nI i) (f_ax_hoursAhead (nI L)) M = some (.inl (nI (canN A since f (i + 1)), nI (i + 1))) := fun L hL hc => by
      unfold b_sy_whoCan_4_102
      have hm : alL A i % 2 ^ L ≤ alL A i := Nat.mod_le _ _
      have hal' : alL A i < 16777216 := hal
      rw [z_gd (z_in (n := i) (by omega) (by omega)), z_cl (n := i) (by omega), o i hi, z_ahead L (by omega), fa_mask, j1, ei, canN_s]
      by_cases c : alL A i % 2 ^ L = 0
      · rw [if_pos (show nI _ = (0 : Int32) from by rw [c]; rfl), if_neg (fun z => (hc.mp ((canLB_iff _ _ _ _).mp z)) c)]
      · rw [if_neg (show ¬ nI _ = (0 : Int32) from z_ne (b := 0) (by omega) (by omega) c), if_pos ((canLB_iff _ _ _ _).mpr (hc.mpr c)), z_1shl (by omega), z_or]
    have no : ¬ canL A since f i → some (Sum.inl (nI (canN A since f i), nI (i + 1))) = some (.inl (nI (canN A since f (i + 1)), nI (i + 1)) : (Int32 × Int32) ⊕ Int32) := fun hc => by
      rw [canN_s, if_neg (fun z => hc ((canLB_iff _ _ _ _).mp z))]
    unfold b_sy_whoCan_4_4
    rw [rc.1.1, if_neg (z_nle (by omega) (by omega) hi), z_gd (z_in (n := f) (by omega) (by omega)), z_gd (z_in (n := i) (by omega) (by omega)), z_cl (n := f) (by omega), z_cl (n := i) (by omega), j2, j3, e1, e3, e4, h6, ei]
    by_cases c1 : A 70 i = A 74 f
    · rw [if_pos (by rw [c1])]
      by_cases c2 : A 71 i ≤ A 76 f
      · rw [z_sub c2, if_neg (show ¬ nI (A 76 f - A 71 i) < (0 : Int32) from z_nlt (b := 0) (by omega) (by omega) (by omega))]
        by_cases c3 : A 76 f - A 71 i ≤ since
        · rw [if_pos (z_yle (by omega) (by omega) c3)]
          by_cases c4 : A 76 f - A 71 i = 0
          · rw [if_pos (show nI (A 76 f - A 71 i) = (0 : Int32) from by rw [c4]; rfl)]
            refine e102 (A 77 f) (by omega) ⟨fun z => ?_, fun z => ⟨c1, c2, c3, ?_⟩⟩
            · have := z.2.2.2
              rw [c4] at this
              exact this
            · rw [c4]
              exact z
          · rw [if_neg (show ¬ nI (A 76 f - A 71 i) = (0 : Int32) from z_ne (b := 0) (by omega) (by omega) c4)]
            have el : limF A f (A 76 f - A 71 i) = 24 := by unfold limF; rw [if_neg c4]
            refine e102 24 (by omega) ⟨fun z => ?_, fun z => ⟨c1, c2, c3, ?_⟩⟩
            · have := z.2.2.2
              rw [el] at this
              exact this
            · rw [el]
              exact z
        · rw [if_neg (z_nle (by omega) (by omega) (by omega))]
          exact no (fun z => c3 z.2.2.1)
      · rw [if_pos (z_subneg (by omega) (by omega) (by omega))]
        exact no (fun z => c2 z.2.1)
    · rw [if_neg (z_ne (by omega) (by omega) c1)]
      exact no (fun z => c1 z.1)
  · show b_sy_whoCan_4_4 (nI f) (nI (canN A since f (A 66 3))) (nI (A 66 3)) M = _
    unfold b_sy_whoCan_4_4
    rw [rc.1.1, if_pos (z_yle (by omega) (by omega) (Nat.le_refl _))]
/-- the reference, over the hours of a day -/
theorem m_canI {A : sA} {M : dM} (w : wfA A) (rm : rmA A M) {f back : Nat} (hf : f < A 66 9) (hb : back ≤ 9) : ∀ (m h a : Nat), h + m = limF A f back → a < 1024 → ∃ y, y < 1024 ∧ l_mo_canOf_25 (nI f) (nI a) (nI back) (nI (A 76 f) - nI back) (nI h) M = some (nI y) ∧ ∀ b, y.testBit b = true ↔ (a.testBit b = true ∨ (back ≤ A 76 f ∧ ∃ h', h ≤ h' ∧ h' < limF A f back ∧ pre A (A 74 f) (A 76 f - back) h' = 2 ^ b)) := by
  have hfn := w.2.2.1.1
  obtain ⟨q1, q2, q3, q4, q5, q6, q7, q8⟩ := w.2.2.1.2.1 f hf
  obtain ⟨e1, e2, e3, e4, e5, e6, e7⟩ := rm.2.2.1.2 f hf
  have hL := limF_le w hf back
  have e42 : ∀ a h, b_mo_canOf_25_25 (nI f) (nI a) (nI back) (nI (A 76 f) - nI back) (nI h) M = b_mo_canOf_25_42 (nI f) (nI a) (nI back) (nI (A 76 f) - nI back) (nI h) (nI h) (nI (limF A f back)) M := fun a h => by
    unfold b_mo_canOf_25_25 limF
    by_cases c : back = 0
    · rw [if_pos (show nI back = (0 : Int32) from by rw [c]; rfl), if_pos c, z_gd (z_in (n := f) (by omega) (by omega)), z_cl (n := f) (by omega), e4]
    · rw [if_neg (show ¬ nI back = (0 : Int32) from z_ne (b := 0) (by omega) (by omega) c), if_neg c]
      rfl
  intro m
  induction m with
  | zero =>
    intro h a hh ha
    refine ⟨a, ha, ?_, fun b => ⟨Or.inl, fun z => z.elim id (fun ⟨_, h', g1, g2, _⟩ => by omega)⟩⟩
    unfold l_mo_canOf_25
    refine lpc_out ?_
    show b_mo_canOf_25_25 (nI f) (nI a) (nI back) _ (nI h) M = _
    rw [e42]
    unfold b_mo_canOf_25_42
    rw [if_pos (z_yle (by omega) (by omega) (by omega))]
  | succ m ih =>
    intro h a hh ha
    by_cases c : back ≤ A 76 f
    · have hp := pre_lt w.1 (A 74 f) (A 76 f - back) h
      have hb : b_mo_canOf_25_25 (nI f) (nI a) (nI back) (nI (A 76 f) - nI back) (nI h) M = if pc (pre A (A 74 f) (A 76 f - back) h) 12 = 1 then some (.inl (nI (a ||| pre A (A 74 f) (A 76 f - back) h), nI (h + 1))) else some (.inl (nI a, nI (h + 1))) := by
        have hpc := pc_le (pre A (A 74 f) (A 76 f - back) h) 12
        rw [e42]
        unfold b_mo_canOf_25_42
        rw [if_neg (z_nle (by omega) (by omega) (by omega)), z_sub c, if_neg (show ¬ nI (A 76 f - back) < (0 : Int32) from z_nlt (b := 0) (by omega) (by omega) (by omega)), z_gd (z_in (n := f) (by omega) (by omega)), z_cl (n := f) (by omega), e1, m_presentAt w.1 rm.1 q1 (by omega) (by omega), Option.bind_some, m_bits (by omega), Option.bind_some, show nI h + 1 = nI (h + 1) from z_add h 1, z_or]
        by_cases c1 : pc (pre A (A 74 f) (A 76 f - back) h) 12 = 1
        · rw [if_pos (show nI _ = (1 : Int32) from by rw [c1]; rfl), if_pos c1]
        · rw [if_neg (show ¬ nI _ = (1 : Int32) from z_ne (b := 1) (by omega) (by omega) c1), if_neg c1]
      by_cases c1 : pc (pre A (A 74 f) (A 76 f - back) h) 12 = 1
      · rw [if_pos c1] at hb
        obtain ⟨b0, hb0, eb0⟩ := pc_one _ hp c1
        obtain ⟨y, y1, y2, y3⟩ := ih (h + 1) (a ||| pre A (A 74 f) (A 76 f - back) h) (by omega) (Nat.or_lt_two_pow (n := 10) ha hp)
        refine ⟨y, y1, ?_, fun b => ?_⟩
        · unfold l_mo_canOf_25 at y2 ⊢
          exact lpc_step (s' := (nI (a ||| pre A (A 74 f) (A 76 f - back) h), nI (h + 1))) hb y2
        · rw [y3, Nat.testBit_or, Bool.or_eq_true]
          constructor
          · rintro ((z | z) | ⟨_, h', g1, g2, g3⟩)
            · exact Or.inl z
            · rw [eb0, Nat.testBit_two_pow, decide_eq_true_iff] at z
              exact Or.inr ⟨c, h, Nat.le_refl _, by omega, by rw [eb0, z]⟩
            · exact Or.inr ⟨c, h', by omega, g2, g3⟩
          · rintro (z | ⟨_, h', g1, g2, g3⟩)
            · exact Or.inl (Or.inl z)
            · by_cases e : h' = h
              · subst e
                refine Or.inl (Or.inr ?_)
                rw [g3, Nat.testBit_two_pow]
                exact decide_eq_true rfl
              · exact Or.inr ⟨c, h', by omega, g2, g3⟩
      · rw [if_neg c1] at hb
        obtain ⟨y, y1, y2, y3⟩ := ih (h + 1) a (by omega) ha
        refine ⟨y, y1, ?_, fun b => ?_⟩
        · unfold l_mo_canOf_25 at y2 ⊢
          exact lpc_step (s' := (nI a, nI (h + 1))) hb y2
        · rw [y3]
          constructor
          · rintro (z | ⟨_, h', g1, g2, g3⟩)
            · exact Or.inl z
            · exact Or.inr ⟨c, h', by omega, g2, g3⟩
          · rintro (z | ⟨_, h', g1, g2, g3⟩)
            · exact Or.inl z
            · by_cases e : h' = h
              · subst e
                exfalso
                have hb10 : b < 10 := by
                  by_cases q : b < 10
                  · exact q
                  · have : (2 : Nat) ^ 10 ≤ 2 ^ b := Nat.pow_le_pow_right (by decide) (by omega)
                    omega
                rw [g3] at c1
                exact c1 (pc_two b hb10)
              · exact Or.inr ⟨c, h', by omega, g2, g3⟩
    · refine ⟨a, ha, ?_, fun b => ⟨Or.inl, fun z => z.elim id (fun ⟨g, _⟩ => absurd g c)⟩⟩
      unfold l_mo_canOf_25
      refine lpc_out ?_
      show b_mo_canOf_25_25 (nI f) (nI a) (nI back) _ (nI h) M = _
      rw [e42]
      unfold b_mo_canOf_25_42
      rw [if_neg (z_nle (by omega) (by omega) (by omega)), if_pos (z_subneg (by omega) (by omega) (by omega))]
theorem m_canO {A : sA} {M : dM} {since : Nat} (w : wfA A) (rm : rmA A M) (h32 : gI M 66 32 = nI since) (hs : since ≤ 9) {f : Nat} (hf : f < A 66 9) : ∀ (m back a : Nat), back + m = since + 1 → a < 1024 → ∃ y, y < 1024 ∧ l_mo_canOf_4 (nI f) (nI a) (nI back) M = some (nI y) ∧ ∀ b, y.testBit b = true ↔ (a.testBit b = true ∨ ∃ k, back ≤ k ∧ k ≤ since ∧ k ≤ A 76 f ∧ ∃ h', h' < limF A f k ∧ pre A (A 74 f) (A 76 f - k) h' = 2 ^ b) := by
  have hfn := w.2.2.1.1
  obtain ⟨q1, q2, q3, q4, q5, q6, q7, q8⟩ := w.2.2.1.2.1 f hf
  obtain ⟨e1, e2, e3, e4, e5, e6, e7⟩ := rm.2.2.1.2 f hf
  intro m
  induction m with
  | zero =>
    intro back a hb ha
    refine ⟨a, ha, ?_, fun b => ⟨Or.inl, fun z => z.elim id (fun ⟨k, g1, g2, _⟩ => by omega)⟩⟩
    unfold l_mo_canOf_4
    refine lpc_out ?_
    show b_mo_canOf_4_4 (nI f) (nI a) (nI back) M = _
    unfold b_mo_canOf_4_4
    rw [h32, if_pos (z_ylt (by omega) (by omega) (by omega))]
  | succ m ih =>
    intro back a hb ha
    obtain ⟨y, y1, y2, y3⟩ := m_canI w rm (back := back) hf (by omega) (limF A f back) 0 a (by omega) ha
    obtain ⟨z, z1, z2, z3⟩ := ih (back + 1) y (by omega) y1
    refine ⟨z, z1, ?_, fun b => ?_⟩
    · unfold l_mo_canOf_4 at z2 ⊢
      refine lpc_step (s' := (nI y, nI (back + 1))) ?_ z2
      show b_mo_canOf_4_4 (nI f) (nI a) (nI back) M = _
      unfold b_mo_canOf_4_4
      have y2' : l_mo_canOf_25 (nI f) (nI a) (nI back) (nI (A 76 f) - nI back) 0 M = some (nI y) := y2
      rw [h32, if_neg (z_nlt (by omega) (by omega) (by omega)), z_gd (z_in (n := f) (by omega) (by omega)), z_cl (n := f) (by omega), e3, y2', Option.bind_some, show nI back + 1 = nI (back + 1) from z_add back 1]
    · rw [z3, y3]
      constructor
      · rintro ((g | ⟨g1, h', g2, g3, g4⟩) | ⟨k, g1, g2, g3, h', g4, g5⟩)
        · exact Or.inl g
        · exact Or.inr ⟨back, Nat.le_refl _, by omega, g1, h', g3, g4⟩
        · exact Or.inr ⟨k, by omega, g2, g3, h', g4, g5⟩
      · rintro (g | ⟨k, g1, g2, g3, h', g4, g5⟩)
        · exact Or.inl (Or.inl g)
        · by_cases e : k = back
          · subst e
            exact Or.inl (Or.inr ⟨g3, h', Nat.zero_le _, g4, g5⟩)
          · exact Or.inr ⟨k, by omega, g2, g3, h', g4, g5⟩
theorem m_canOf {A : sA} {M : dM} {since : Nat} (w : wfA A) (rm : rmA A M) (h32 : gI M 66 32 = nI since) (hs : since ≤ 9) {f : Nat} (hf : f < A 66 9) : f_mo_canOf (nI f) M = some (nI (canF A since f)) := by
  obtain ⟨y, y1, y2, y3⟩ := m_canO w rm h32 hs hf (since + 1) 0 0 (by omega) (by decide)
  have y2' : l_mo_canOf_4 (nI f) 0 0 M = some (nI y) := y2
  have e : y = canF A since f := by
    refine nat_bits fun b => ?_
    rw [Bool.eq_iff_iff, y3, canF_bit w hf, Nat.zero_testBit]
    constructor
    · rintro (z | ⟨k, _, g2, g3, g4⟩)
      · cases z
      · exact ⟨k, g2, g3, g4⟩
    · rintro ⟨k, g2, g3, g4⟩
      exact Or.inr ⟨k, Nat.zero_le _, g2, g3, g4⟩
  unfold f_mo_canOf
  rw [y2', e]
  rfl
/-! seen -/
def seL (A : sA) (since f i : Nat) : Bool := decide (A 102 i = A 74 f) && (decide (A 103 i ≤ A 76 f) && decide (A 76 f ≤ A 103 i + since))
def seN (A : sA) (since f : Nat) : Nat → Nat
  | 0 => 0
  | n + 1 => if seL A since f n = true then seN A since f n ||| 2 ^ A 101 n else seN A since f n
theorem seN_s (A : sA) (since f n : Nat) : seN A since f (n + 1) = if seL A since f n = true then seN A since f n ||| 2 ^ A 101 n else seN A since f n := rfl
theorem seN_lt {A : sA} (w : wfE A) (since f : Nat) : ∀ n, n ≤ A 66 55 → seN A since f n < 2 ^ 10
  | 0, _ => by show 0 < 2 ^ 10; decide
  | n + 1, h => by
    have ih := seN_lt w since f n (by omega)
    rw [seN_s]
    split
    · exact Nat.or_lt_two_pow ih (Nat.pow_lt_pow_right (by decide) (w.2 n (by omega)).1)
    · exact ih
def seF (A : sA) (since f : Nat) : Nat := seN A since f (A 66 55)
theorem c_seen {A : sA} {M : dM} {since : Nat} (w : wfA A) (rc : rcA A M) (h6 : gI M 27 6 = nI since) (hs : since ≤ 9) {f : Nat} (hf : f < A 66 9) : f_sy_whoWasSeen (nI f) M = some (nI (seF A since f)) := by
  have hn := w.2.2.2.1.1
  have hfn := w.2.2.1.1
  obtain ⟨q1, q2, q3, q4, q5, q6, q7, q8⟩ := w.2.2.1.2.1 f hf
  obtain ⟨e1, e2, e3, e4, e5, e6, e7⟩ := rc.2.2.1.2 f hf
  unfold f_sy_whoWasSeen l_sy_whoWasSeen_4 seF
  have key := lpc_seq (body := fun s : Int32 × Int32 => b_sy_whoWasSeen_4_4 (nI f) s.1 s.2 M) (x := nI (seN A since f (A 66 55))) (fun i => (nI (seN A since f i), nI i)) (A 66 55) ?_ ?_
  · rw [show ((0 : Int32), (0 : Int32)) = (nI (seN A since f 0), nI 0) from rfl, key]
    rfl
  · intro i hi
    obtain ⟨j1, j2, j3⟩ := rc.2.2.2.1.2 i hi
    obtain ⟨v1, v2, v3⟩ := w.2.2.2.1.2 i hi
    show b_sy_whoWasSeen_4_4 (nI f) (nI (seN A since f i)) (nI i) M = some (.inl (nI (seN A since f (i + 1)), nI (i + 1)))
    unfold b_sy_whoWasSeen_4_4
    rw [rc.2.2.2.1.1, if_neg (z_nle (by omega) (by omega) hi), z_gd (z_in (n := f) (by omega) (by omega)), z_gd (z_in (n := i) (by omega) (by omega)), z_cl (n := f) (by omega), z_cl (n := i) (by omega), j1, j2, j3, e1, e3, h6, show nI i + 1 = nI (i + 1) from z_add i 1, seN_s]
    unfold seL
    by_cases c1 : A 102 i = A 74 f
    · rw [if_pos (by rw [c1]), decide_eq_true c1, Bool.true_and]
      by_cases c2 : A 103 i ≤ A 76 f
      · rw [z_sub c2, if_neg (show ¬ nI (A 76 f - A 103 i) < (0 : Int32) from z_nlt (b := 0) (by omega) (by omega) (by omega)), decide_eq_true c2, Bool.true_and]
        by_cases c3 : A 76 f ≤ A 103 i + since
        · rw [if_neg (z_nlt (by omega) (by omega) (by omega)), if_pos (decide_eq_true c3), z_1shl (by omega), z_or]
        · rw [if_pos (z_ylt (by omega) (by omega) (by omega)), if_neg (by rw [decide_eq_true_iff]; exact c3)]
      · rw [if_pos (z_subneg (by omega) (by omega) (by omega)), decide_eq_false c2, Bool.false_and, if_neg Bool.false_ne_true]
    · rw [if_neg (z_ne (by omega) (by omega) c1), decide_eq_false c1, Bool.false_and, if_neg Bool.false_ne_true]
  · show b_sy_whoWasSeen_4_4 (nI f) (nI (seN A since f (A 66 55))) (nI (A 66 55)) M = _
    unfold b_sy_whoWasSeen_4_4
    rw [rc.2.2.2.1.1, if_pos (z_yle (by omega) (by omega) (Nat.le_refl _))]
theorem m_seenOf {A : sA} {M : dM} {since : Nat} (w : wfA A) (rm : rmA A M) (h32 : gI M 66 32 = nI since) (hs : since ≤ 9) {f : Nat} (hf : f < A 66 9) (c : Nat) : f_mo_seenOf (nI f) (nI c) M = some (nI (c &&& seF A since f)) := by
  have hn := w.2.2.2.1.1
  have hfn := w.2.2.1.1
  obtain ⟨q1, q2, q3, q4, q5, q6, q7, q8⟩ := w.2.2.1.2.1 f hf
  obtain ⟨e1, e2, e3, e4, e5, e6, e7⟩ := rm.2.2.1.2 f hf
  unfold f_mo_seenOf l_mo_seenOf_5 seF
  have key := lpc_seq (body := fun s : Int32 × Int32 => b_mo_seenOf_5_5 (nI f) (nI c) s.1 s.2 M) (x := nI (c &&& seN A since f (A 66 55))) (fun i => (nI (c &&& seN A since f i), nI i)) (A 66 55) ?_ ?_
  · rw [show ((0 : Int32), (0 : Int32)) = (nI (c &&& seN A since f 0), nI 0) from by rw [show seN A since f 0 = 0 from rfl, Nat.and_zero]; rfl, key]
    rfl
  · intro i hi
    obtain ⟨j1, j2, j3⟩ := rm.2.2.2.1.2 i hi
    obtain ⟨v1, v2, v3⟩ := w.2.2.2.1.2 i hi
    show b_mo_seenOf_5_5 (nI f) (nI c) (nI (c &&& seN A since f i)) (nI i) M = some (.inl (nI (c &&& seN A since f (i + 1)), nI (i + 1)))
    unfold b_mo_seenOf_5_5
    rw [rm.2.2.2.1.1, if_neg (z_nle (by omega) (by omega) hi), z_gd (z_in (n := i) (by omega) (by omega)), z_gd (z_in (n := f) (by omega) (by omega)), z_cl (n := f) (by omega), z_cl (n := i) (by omega), j1, j2, j3, e1, e3, h32, show nI i + 1 = nI (i + 1) from z_add i 1, z_add, seN_s]
    unfold seL
    by_cases c1 : A 102 i = A 74 f
    · rw [if_pos (by rw [c1]), decide_eq_true c1, Bool.true_and]
      by_cases c2 : A 103 i ≤ A 76 f
      · rw [if_neg (z_nlt (by omega) (by omega) (by omega)), decide_eq_true c2, Bool.true_and]
        by_cases c3 : A 76 f ≤ A 103 i + since
        · rw [if_neg (z_nlt (by omega) (by omega) (by omega)), if_pos (decide_eq_true c3), z_1shl (by omega), z_and, z_or, Nat.and_or_distrib_left]
        · rw [if_pos (z_ylt (by omega) (by omega) (by omega)), if_neg (by rw [decide_eq_true_iff]; exact c3)]
      · rw [if_pos (z_ylt (by omega) (by omega) (by omega)), decide_eq_false c2, Bool.false_and, if_neg Bool.false_ne_true]
    · rw [if_neg (z_ne (by omega) (by omega) c1), decide_eq_false c1, Bool.false_and, if_neg Bool.false_ne_true]
  · show b_mo_seenOf_5_5 (nI f) (nI c) _ (nI (A 66 55)) M = _
    unfold b_mo_seenOf_5_5
    rw [rm.2.2.2.1.1, if_pos (z_yle (by omega) (by omega) (Nat.le_refl _))]
