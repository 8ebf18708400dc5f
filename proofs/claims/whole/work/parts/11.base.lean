/-! ===== pure base: memory, numbers ===== -/
abbrev sA : Type := Nat → Nat → Nat
theorem gI_sI (M : dM) (k j : Nat) (x : Int32) (a b : Nat) : gI (sI M k j x) a b = if a = k ∧ b = j then x else gI M a b := by
  show (if a = k then upd (M.1 k) j x else M.1 a) b = _
  by_cases h : a = k
  · subst h
    by_cases h2 : b = j
    · subst h2
      simp only [upd, if_true, and_self]
    · simp only [upd, if_true, h2, and_false, if_false]
      rfl
  · simp only [h, if_false, false_and]
    rfl
theorem gJ_sI (M : dM) (k j : Nat) (x : Int32) (a b : Nat) : gJ (sI M k j x) a b = gJ M a b := rfl
theorem gJ_sJ (M : dM) (k j : Nat) (x : Int64) (a b : Nat) : gJ (sJ M k j x) a b = if a = k ∧ b = j then x else gJ M a b := by
  show (if a = k then vp_updL (M.2.1 k) j x else M.2.1 a) b = _
  by_cases h : a = k
  · subst h
    by_cases h2 : b = j
    · subst h2
      simp only [vp_updL, if_true, and_self]
    · simp only [vp_updL, if_true, h2, and_false, if_false]
      rfl
  · simp only [h, if_false, false_and]
    rfl
theorem gI_sJ (M : dM) (k j : Nat) (x : Int64) (a b : Nat) : gI (sJ M k j x) a b = gI M a b := rfl
theorem gI_sW (M : dM) (w a b : Nat) : gI (sW M w) a b = gI M a b := rfl
theorem gJ_sW (M : dM) (w a b : Nat) : gJ (sW M w) a b = gJ M a b := rfl
theorem gJ_cI (M : dM) (k q sp dp n a b : Nat) : gJ (cI M k q sp dp n) a b = gJ M a b := rfl
theorem gI_cI (M : dM) (k q sp dp n a b : Nat) : gI (cI M k q sp dp n) a b = if a = q ∧ dp ≤ b ∧ b < dp + n then gI M k (sp + (b - dp)) else gI M a b := by
  show (if a = q then va_cpy (M.1 k) (M.1 q) sp dp n else M.1 a) b = _
  by_cases h : a = q
  · subst h
    simp only [if_true, va_cpy, true_and]
    rfl
  · simp only [h, if_false, false_and]
    rfl
theorem w_sI (M : dM) (k j : Nat) (x : Int32) : (sI M k j x).2.2 = M.2.2 := rfl
theorem w_sJ (M : dM) (k j : Nat) (x : Int64) : (sJ M k j x).2.2 = M.2.2 := rfl
theorem w_cI (M : dM) (k q sp dp n : Nat) : (cI M k q sp dp n).2.2 = M.2.2 := rfl
/-- only the cells of P are other ones -/
def ch (P : Nat → Nat → Bool) (M M' : dM) : Prop := (∀ k j, P k j = false → gI M' k j = gI M k j ∧ gJ M' k j = gJ M k j) ∧ M'.2.2 = M.2.2
theorem ch.i {P : Nat → Nat → Bool} {M M' : dM} (h : ch P M M') (k j : Nat) (hp : P k j = false) : gI M' k j = gI M k j := (h.1 k j hp).1
theorem ch.j {P : Nat → Nat → Bool} {M M' : dM} (h : ch P M M') (k j : Nat) (hp : P k j = false) : gJ M' k j = gJ M k j := (h.1 k j hp).2
theorem ch.refl (P : Nat → Nat → Bool) (M : dM) : ch P M M := ⟨fun _ _ _ => ⟨rfl, rfl⟩, rfl⟩
theorem ch.trans {P : Nat → Nat → Bool} {M M' M'' : dM} (h : ch P M M') (h' : ch P M' M'') : ch P M M'' :=
  ⟨fun k j hp => ⟨((h'.1 k j hp).1).trans (h.1 k j hp).1, ((h'.1 k j hp).2).trans (h.1 k j hp).2⟩, h'.2.trans h.2⟩
theorem ch.mono {P P' : Nat → Nat → Bool} {M M' : dM} (h : ch P M M') (hp : ∀ k j, P' k j = false → P k j = false) : ch P' M M' :=
  ⟨fun k j q => h.1 k j (hp k j q), h.2⟩
theorem ch_sI {P : Nat → Nat → Bool} (M : dM) {k j : Nat} (x : Int32) (hp : P k j = true) : ch P M (sI M k j x) := by
  refine ⟨fun a b q => ⟨?_, rfl⟩, rfl⟩
  rw [gI_sI, if_neg]
  rintro ⟨rfl, rfl⟩
  rw [hp] at q
  cases q
theorem ch_sJ {P : Nat → Nat → Bool} (M : dM) {k j : Nat} (x : Int64) (hp : P k j = true) : ch P M (sJ M k j x) := by
  refine ⟨fun a b q => ⟨rfl, ?_⟩, rfl⟩
  rw [gJ_sJ, if_neg]
  rintro ⟨rfl, rfl⟩
  rw [hp] at q
  cases q
theorem ch_cI {P : Nat → Nat → Bool} (M : dM) {k q sp dp n : Nat} (hp : ∀ j, P q j = true) : ch P M (cI M k q sp dp n) := by
  refine ⟨fun a b z => ⟨?_, rfl⟩, rfl⟩
  rw [gI_cI, if_neg]
  rintro ⟨rfl, -, -⟩
  rw [hp] at z
  cases z
def aU (A : sA) (k j x : Nat) : sA := fun a b => if a = k ∧ b = j then x else A a b
theorem aU_at (A : sA) (k j x a b : Nat) : aU A k j x a b = if a = k ∧ b = j then x else A a b := rfl
/-! numbers -/
theorem z_le {a b : Nat} (ha : a < 2147483648) (hb : b < 2147483648) : (nI a ≤ nI b) = (a ≤ b) := propext (nI_leI ha hb)
theorem z_lt {a b : Nat} (ha : a < 2147483648) (hb : b < 2147483648) : (nI a < nI b) = (a < b) := propext (nI_ltI ha hb)
theorem z_eq {a b : Nat} (ha : a < 2147483648) (hb : b < 2147483648) : (nI a = nI b) = (a = b) := propext (nI_eq ha hb)
theorem z_cl {n : Nat} (h : n < 2147483648) : (nI n).toNatClampNeg = n := nI_clamp h
theorem z_in {n N : Nat} (h : n < N) (hN : N < 2147483648) : vp_in (nI n) N = True := eq_true (nI_in h hN)
theorem z_gd {α : Type} {p : Prop} {x : Option α} (h : p = True) : gd p x = x := gd_t (of_eq_true h)
theorem z_gdT {α : Type} {x : Option α} : gd True x = x := gd_t trivial
theorem z_add (a b : Nat) : nI a + nI b = nI (a + b) := nI_add a b
theorem z_mul (a b : Nat) : nI a * nI b = nI (a * b) := pk_mul a b
theorem z_sub {a b : Nat} (h : b ≤ a) : nI a - nI b = nI (a - b) := pk_sub h
theorem z_or (a b : Nat) : nI a ||| nI b = nI (a ||| b) := fa_or a b
theorem z_and (a b : Nat) : nI a &&& nI b = nI (a &&& b) := fa_and a b
theorem z_31 : ∀ k, k < 32 → nI k &&& 31 = nI k := by decide +kernel
theorem z_s31 : ∀ k, k < 32 → ((nI k).toBitVec.smod 32).toNat = k := by decide +kernel
theorem z_shl {a k : Nat} (hk : k < 32) (h : a * 2 ^ k < 4294967296) : nI a <<< (nI k &&& 31) = nI (a * 2 ^ k) := by
  rw [z_31 k hk]
  exact pk_shlN _ _ (z_s31 k hk) h
theorem z_shr {a k : Nat} (hk : k < 32) (h : a < 2147483648) : nI a >>> (nI k &&& 31) = nI (a / 2 ^ k) := by
  rw [z_31 k hk]
  exact pk_shrN h _ _ (z_s31 k hk)
theorem z_1shl {k : Nat} (hk : k < 31) : (1 : Int32) <<< (nI k &&& 31) = nI (2 ^ k) := by
  have := z_shl (a := 1) (k := k) (by omega) (by
    have : 2 ^ k ≤ 2 ^ 30 := Nat.pow_le_pow_right (by decide) (by omega)
    omega)
  rw [Nat.one_mul] at this
  exact this
theorem y_shl {a k : Nat} (hk : k < 32) (h : a * 2 ^ k < 4294967296) : nI a <<< (nI k &&& nI 31) = nI (a * 2 ^ k) := z_shl hk h
theorem y_shr {a k : Nat} (hk : k < 32) (h : a < 2147483648) : nI a >>> (nI k &&& nI 31) = nI (a / 2 ^ k) := z_shr hk h
theorem y_1shl {k : Nat} (hk : k < 31) : nI 1 <<< (nI k &&& nI 31) = nI (2 ^ k) := z_1shl hk
theorem z_i2l {n : Nat} (h : n < 2147483648) : (nI n).toInt64 = lN n := nI_l h
theorem z_63 : ∀ k, k < 64 → ((nI k).toInt64 &&& 63) = lN k := wb_c
theorem z_lshr {a k : Nat} (hk : k < 64) (h : a < 4611686018427387904) : lN a >>> ((nI k).toInt64 &&& 63) = lN (a / 2 ^ k) := by
  rw [z_63 k hk]
  refine pf_shr ?_ h
  rw [lN_bv, wb_sm k hk, BitVec.toNat_ofNat]
  exact Nat.mod_eq_of_lt (by omega)
theorem z_leq {a b : Nat} (ha : a < 9223372036854775808) (hb : b < 9223372036854775808) : (lN a = lN b) = (a = b) := propext (pk_lEQ ha hb)
theorem z_land {a b : Nat} (ha : a < 18446744073709551616) (hb : b < 18446744073709551616) : lN a &&& lN b = lN (a &&& b) := wb_and ha hb
theorem z_hasBitL {m k : Nat} (hk : k < 64) (h : m < 4611686018427387904) : f_ax_hasBit (lN m) (nI k) = m.testBit k := by
  unfold f_ax_hasBit
  rw [z_lshr hk h, fa_litL 1, fa_litL 0]
  have h1 : m / 2 ^ k ≤ m := Nat.div_le_self _ _
  rw [wb_and (by omega) (by decide), Nat.and_one_is_mod]
  simp only [z_leq (a := m / 2 ^ k % 2) (b := 0) (by omega) (by decide)]
  rw [Nat.testBit_eq_decide_div_mod_eq]
  by_cases hz : m / 2 ^ k % 2 = 0
  · rw [if_pos hz, hz]
    rfl
  · rw [if_neg hz, show m / 2 ^ k % 2 = 1 by omega]
    rfl
theorem z_hasBit {m k : Nat} (hk : k < 64) (h : m < 2147483648) : f_ax_hasBit (nI m).toInt64 (nI k) = m.testBit k := by
  rw [z_i2l h]
  exact z_hasBitL hk (by omega)
theorem z_within {a b : Nat} (ha : a < 2147483648) (hb : b < 2147483648) : f_ax_within (nI a) (nI b) = decide (a < b) := by
  unfold f_ax_within
  rw [fa_lit 0]
  simp only [z_lt (b := 0) ha (by decide), z_le hb ha]
  rw [if_neg (by omega)]
  by_cases h : b ≤ a
  · rw [if_pos h]; simp; omega
  · rw [if_neg h]; simp; omega
/-- a call's number: out of its range, or a small one -/
theorem z_range (x : Int32) (n : Nat) (hn : n < 2147483648) : f_ax_within x (nI n) = false ∨ ∃ k, k < n ∧ x = nI k := by
  rcases pk_ix x hn with h | h | ⟨j, h1, h2⟩
  · left; unfold f_ax_within; rw [if_pos h]
  · left; unfold f_ax_within
    by_cases h0 : x < 0
    · rw [if_pos h0]
    · rw [if_neg h0, if_pos h]
  · exact Or.inr ⟨j, h1, h2⟩
theorem z_mwithin {a b c : Nat} (ha : a < 2147483648) (hb : b < 2147483648) (hc : c < 2147483648) : f_mo_within (nI a) (nI b) (nI c) = decide (b ≤ a ∧ a ≤ c) := by
  unfold f_mo_within
  simp only [z_lt ha hb, z_lt hc ha]
  by_cases h : a < b
  · rw [if_pos h]; simp; omega
  · rw [if_neg h]
    by_cases h2 : c < a
    · rw [if_pos h2]; simp; omega
    · rw [if_neg h2]; simp; omega
/-- the reference's own test of a range, from 0 on -/
theorem z_mw0 (x : Int32) {n : Nat} (hn : n + 1 < 2147483648) : f_mo_within x 0 (nI n) = f_ax_within x (nI (n + 1)) := by
  unfold f_mo_within f_ax_within
  by_cases h : x < 0
  · rw [if_pos h, if_pos h]
  · rw [if_neg h, if_neg h]
    rcases pk_ix x (n := n + 1) hn with h1 | h1 | ⟨j, h1, rfl⟩
    · exact absurd h1 h
    · rw [if_pos (show nI n < x from ?_), if_pos h1]
      rw [fa_lt]
      rw [fa_le, nI_toInt hn] at h1
      rw [nI_toInt (by omega)]
      omega
    · simp only [z_lt (a := n) (b := j) (by omega) (by omega), z_le (a := n + 1) (b := j) (by omega) (by omega)]
      rw [if_neg (by omega), if_neg (by omega)]
theorem z_site (x : Int32) : f_mo_isSite x = f_ax_within x (nI 8) := by
  unfold f_mo_isSite f_ax_within
  rw [fa_lit 8]
theorem z_hand (x : Int32) : f_mo_isHand x = f_ax_within x (nI 10) := by
  unfold f_mo_isHand f_ax_within
  rw [fa_lit 10]
/-! ===== lines ===== -/
def hrs (f t : Nat) : Nat := 2 ^ (t + 1) - 2 ^ f
theorem hrs_bit : ∀ t, t < 24 → ∀ f, f < 24 → f ≤ t → ∀ h, h < 24 → (hrs f t).testBit h = (decide (f ≤ h) && decide (h ≤ t)) := by decide +kernel
theorem hrs_lt : ∀ t, t < 24 → ∀ f, f < 24 → hrs f t < 16777216 := by decide +kernel
/-- bounds of the lines of HERE -/
def wfL (A : sA) : Prop := A 66 3 ≤ 80 ∧ ∀ i, i < A 66 3 → A 69 i < 10 ∧ A 70 i < 8 ∧ A 71 i < 1000 ∧ A 72 i ≤ A 73 i ∧ A 73 i < 24
def rcL (A : sA) (M : dM) : Prop := gI M 6 5 = nI (A 66 3) ∧ ∀ i, i < A 66 3 → gI M 7 i = nI (A 69 i) ∧ gI M 8 i = nI (A 70 i) ∧ gI M 9 i = nI (A 71 i) ∧ gI M 10 i = nI (hrs (A 72 i) (A 73 i))
def rmL (A : sA) (M : dM) : Prop := gI M 66 3 = nI (A 66 3) ∧ ∀ i, i < A 66 3 → gI M 69 i = nI (A 69 i) ∧ gI M 70 i = nI (A 70 i) ∧ gI M 71 i = nI (A 71 i) ∧ gI M 72 i = nI (A 72 i) ∧ gI M 73 i = nI (A 73 i)
/-- a line holds at a place, a day and an hour -/
def atL (A : sA) (s d h i : Nat) : Bool := decide (A 70 i = s) && (decide (A 71 i = d) && (decide (A 72 i ≤ h) && decide (h ≤ A 73 i)))
/-- who is HERE by the first n lines, as bits -/
def prs (A : sA) (s d h : Nat) : Nat → Nat
  | 0 => 0
  | n + 1 => if atL A s d h n then prs A s d h n ||| 2 ^ A 69 n else prs A s d h n
def pre (A : sA) (s d h : Nat) : Nat := prs A s d h (A 66 3)
theorem prs_0 (A : sA) (s d h : Nat) : prs A s d h 0 = 0 := rfl
theorem prs_s (A : sA) (s d h n : Nat) : prs A s d h (n + 1) = if atL A s d h n then prs A s d h n ||| 2 ^ A 69 n else prs A s d h n := rfl
theorem prs_lt {A : sA} (w : wfL A) (s d h : Nat) : ∀ n, n ≤ A 66 3 → prs A s d h n < 1024
  | 0, _ => by rw [prs_0]; decide
  | n + 1, hn => by
    have ih := prs_lt w s d h n (by omega)
    rw [prs_s]
    split
    · exact Nat.or_lt_two_pow (n := 10) ih (Nat.pow_lt_pow_right (by decide) (w.2 n (by omega)).1)
    · exact ih
theorem prs_bit {A : sA} (s d h b : Nat) : ∀ n, (prs A s d h n).testBit b = true ↔ ∃ i, i < n ∧ atL A s d h i = true ∧ A 69 i = b
  | 0 => by simp [prs]
  | n + 1 => by
    have ih := prs_bit (A := A) s d h b n
    rw [prs_s]
    split
    · rename_i hat
      rw [fb_bit_set, Bool.or_eq_true, ih, decide_eq_true_iff]
      constructor
      · rintro (⟨i, h1, h2, h3⟩ | e)
        · exact ⟨i, by omega, h2, h3⟩
        · exact ⟨n, by omega, hat, e.symm⟩
      · rintro ⟨i, h1, h2, h3⟩
        by_cases e : i = n
        · subst e; exact Or.inr h3.symm
        · exact Or.inl ⟨i, by omega, h2, h3⟩
    · rename_i hat
      rw [ih]
      constructor
      · rintro ⟨i, h1, h2, h3⟩
        exact ⟨i, by omega, h2, h3⟩
      · rintro ⟨i, h1, h2, h3⟩
        by_cases e : i = n
        · subst e; exact absurd h2 hat
        · exact ⟨i, by omega, h2, h3⟩
theorem pre_lt {A : sA} (w : wfL A) (s d h : Nat) : pre A s d h < 1024 := prs_lt w s d h _ (Nat.le_refl _)
theorem c_whoAt {A : sA} {M : dM} (w : wfL A) (r : rcL A M) {s d h : Nat} (hs : s < 8) (hd : d < 1000) (hh : h < 24) : f_li_whoAt (nI s) (nI d) (nI h) M = some (nI (pre A s d h)) := by
  have hn := w.1
  have e0 := r.1
  unfold f_li_whoAt l_li_whoAt_6
  have key := lpc_seq (body := fun s_1 : Int32 × Int32 => b_li_whoAt_6_6 (nI s) (nI d) (nI h) s_1.1 s_1.2 M) (x := nI (pre A s d h)) (fun i => (nI (prs A s d h i), nI i)) (A 66 3) ?_ ?_
  · rw [show ((0 : Int32), (0 : Int32)) = (nI (prs A s d h 0), nI 0) from rfl, key]
    rfl
  · intro i hi
    obtain ⟨h1, h2, h3, h4⟩ := r.2 i hi
    obtain ⟨w1, w2, w3, w4, w5⟩ := w.2 i hi
    have hp := prs_lt w s d h i (by omega)
    have hl := hrs_lt _ w5 (A 72 i) (by omega)
    show b_li_whoAt_6_6 _ _ _ _ _ M = _
    unfold b_li_whoAt_6_6
    have b1 := hrs_bit _ w5 (A 72 i) (by omega) w4 h hh
    simp (disch := omega) only [e0, z_le, z_eq, z_cl, z_in, z_gdT, h1, h2, h3, h4, z_hasBit, y_1shl, z_or, z_add, fa_lit, b1]
    rw [if_neg (by omega)]
    rw [prs_s]
    unfold atL
    by_cases c1 : A 70 i = s <;> by_cases c2 : A 71 i = d <;> by_cases c3 : (decide (A 72 i ≤ h) && decide (h ≤ A 73 i)) = true <;> simp [c1, c2, c3]
  · show b_li_whoAt_6_6 _ _ _ _ _ M = _
    unfold b_li_whoAt_6_6
    simp (disch := omega) only [e0, z_le]
    rw [if_pos (Nat.le_refl _)]
    rfl
