/-! ===== hours alone ===== -/
def andn (a b : Nat) : Nat := a ^^^ (a &&& b)
theorem andn_bit (a b i : Nat) : (andn a b).testBit i = (a.testBit i && !b.testBit i) := by
  unfold andn
  rw [Nat.testBit_xor, Nat.testBit_and]
  cases a.testBit i <;> cases b.testBit i <;> rfl
theorem m1_bits : ∀ i, i < 32 → ((-1 : Int32).toBitVec).getLsbD i = true := by decide +kernel
theorem m1_bitsL : ∀ i, i < 64 → ((-1 : Int64).toBitVec).getLsbD i = true := by decide +kernel
theorem z_andn (a b : Nat) : nI a &&& (nI b ^^^ (-1)) = nI (andn a b) := by
  apply Int32.toBitVec_inj.mp
  apply BitVec.eq_of_getLsbD_eq
  intro i hi
  show (BitVec.ofNat 32 a &&& (BitVec.ofNat 32 b ^^^ (-1 : Int32).toBitVec)).getLsbD i = (BitVec.ofNat 32 (andn a b)).getLsbD i
  rw [BitVec.getLsbD_and, BitVec.getLsbD_xor, m1_bits i hi, BitVec.getLsbD_ofNat, BitVec.getLsbD_ofNat, BitVec.getLsbD_ofNat, andn_bit]
  simp [hi]
theorem z_andnL (a b : Nat) : lN a &&& (lN b ^^^ (-1)) = lN (andn a b) := by
  apply Int64.toBitVec_inj.mp
  apply BitVec.eq_of_getLsbD_eq
  intro i hi
  show (BitVec.ofNat 64 a &&& (BitVec.ofNat 64 b ^^^ (-1 : Int64).toBitVec)).getLsbD i = (BitVec.ofNat 64 (andn a b)).getLsbD i
  rw [BitVec.getLsbD_and, BitVec.getLsbD_xor, m1_bitsL i hi, BitVec.getLsbD_ofNat, BitVec.getLsbD_ofNat, BitVec.getLsbD_ofNat, andn_bit]
  simp [hi]
theorem pre_eq {A : sA} (s d h b : Nat) : pre A s d h = 2 ^ b ↔ (∃ i, i < A 66 3 ∧ atL A s d h i = true ∧ A 69 i = b) ∧ ∀ i, i < A 66 3 → atL A s d h i = true → A 69 i = b := by
  constructor
  · intro e
    have hb : ∀ x, (pre A s d h).testBit x = decide (b = x) := fun x => by rw [e, Nat.testBit_two_pow]
    refine ⟨(prs_bit s d h b _).mp (by show (pre A s d h).testBit b = true; rw [hb]; simp), fun i hi ha => ?_⟩
    have h1 : (pre A s d h).testBit (A 69 i) = true := (prs_bit s d h _ _).mpr ⟨i, hi, ha, rfl⟩
    rw [hb] at h1
    exact (of_decide_eq_true h1).symm
  · rintro ⟨h1, h2⟩
    refine nat_bits fun x => ?_
    rw [Nat.testBit_two_pow]
    by_cases e : b = x
    · rw [decide_eq_true e, ← e]
      exact (prs_bit s d h b _).mpr h1
    · rw [decide_eq_false e]
      refine Bool.eq_false_iff.mpr (fun z => ?_)
      obtain ⟨i, a1, a2, a3⟩ := (prs_bit s d h x _).mp z
      exact e ((h2 i a1 a2).symm.trans a3)
/-- a hand is alone at a place, a day and an hour -/
def alb (A : sA) (s d b h : Nat) : Bool := decide (pre A s d h = 2 ^ b)
def alN (A : sA) (s d b : Nat) : Nat → Nat
  | 0 => 0
  | n + 1 => if alb A s d b n = true then alN A s d b n ||| 2 ^ n else alN A s d b n
theorem alN_bit (A : sA) (s d b h : Nat) : ∀ n, (alN A s d b n).testBit h = true ↔ h < n ∧ alb A s d b h = true
  | 0 => by simp [alN]
  | n + 1 => by
    have ih := alN_bit A s d b h n
    show (if alb A s d b n = true then alN A s d b n ||| 2 ^ n else alN A s d b n).testBit h = true ↔ _
    split
    · rename_i hh
      rw [fb_bit_set, Bool.or_eq_true, ih, decide_eq_true_iff]
      constructor
      · rintro (⟨h1, h2⟩ | rfl)
        · exact ⟨by omega, h2⟩
        · exact ⟨by omega, hh⟩
      · rintro ⟨h1, h2⟩
        by_cases e : h = n
        · exact Or.inr e
        · exact Or.inl ⟨by omega, h2⟩
    · rename_i hh
      rw [ih]
      constructor
      · rintro ⟨h1, h2⟩; exact ⟨by omega, h2⟩
      · rintro ⟨h1, h2⟩
        by_cases e : h = n
        · rw [e] at h2; exact absurd h2 hh
        · exact ⟨by omega, h2⟩
theorem alN_lt (A : sA) (s d b : Nat) : ∀ n, alN A s d b n < 2 ^ n
  | 0 => by show 0 < 2 ^ 0; decide
  | n + 1 => by
    have ih := alN_lt A s d b n
    have h2 : (2 : Nat) ^ (n + 1) = 2 ^ n * 2 := Nat.pow_succ ..
    show (if alb A s d b n = true then alN A s d b n ||| 2 ^ n else alN A s d b n) < _
    split
    · exact Nat.or_lt_two_pow (by omega) (by rw [h2]; have := Nat.two_pow_pos n; omega)
    · omega
def al (A : sA) (s d b : Nat) : Nat := alN A s d b 24
theorem al_lt (A : sA) (s d b : Nat) : al A s d b < 16777216 := alN_lt A s d b 24
theorem al_bit (A : sA) (s d b h : Nat) : (al A s d b).testBit h = (decide (h < 24) && alb A s d b h) := by
  rw [Bool.eq_iff_iff]
  unfold al
  rw [alN_bit, Bool.and_eq_true, decide_eq_true_iff]
theorem al_none {A : sA} {s d b : Nat} (h : ∀ i, i < A 66 3 → ¬ (A 69 i = b ∧ A 70 i = s ∧ A 71 i = d)) : al A s d b = 0 := by
  refine nat_bits fun x => ?_
  rw [al_bit, Nat.zero_testBit]
  refine Bool.eq_false_iff.mpr (fun z => ?_)
  rw [Bool.and_eq_true] at z
  obtain ⟨i, a1, a2, a3⟩ := ((pre_eq s d x b).mp (of_decide_eq_true z.2)).1
  unfold atL at a2
  rw [Bool.and_eq_true, Bool.and_eq_true, decide_eq_true_iff, decide_eq_true_iff] at a2
  exact h i a1 ⟨a3, a2.1, a2.2.1⟩
/-- own hours, others' hours: over the first n lines, at line i's place and day -/
def owN (A : sA) (i : Nat) : Nat → Nat
  | 0 => 0
  | n + 1 => if A 70 n = A 70 i ∧ A 71 n = A 71 i ∧ A 69 n = A 69 i then owN A i n ||| hrs (A 72 n) (A 73 n) else owN A i n
def otN (A : sA) (i : Nat) : Nat → Nat
  | 0 => 0
  | n + 1 => if A 70 n = A 70 i ∧ A 71 n = A 71 i ∧ A 69 n ≠ A 69 i then otN A i n ||| hrs (A 72 n) (A 73 n) else otN A i n
theorem owN_s (A : sA) (i n : Nat) : owN A i (n + 1) = if A 70 n = A 70 i ∧ A 71 n = A 71 i ∧ A 69 n = A 69 i then owN A i n ||| hrs (A 72 n) (A 73 n) else owN A i n := rfl
theorem otN_s (A : sA) (i n : Nat) : otN A i (n + 1) = if A 70 n = A 70 i ∧ A 71 n = A 71 i ∧ A 69 n ≠ A 69 i then otN A i n ||| hrs (A 72 n) (A 73 n) else otN A i n := rfl
theorem owN_lt {A : sA} (w : wfL A) (i : Nat) : ∀ n, n ≤ A 66 3 → owN A i n < 2 ^ 24
  | 0, _ => by show 0 < 2 ^ 24; decide
  | n + 1, hn => by
    have ih := owN_lt w i n (by omega)
    obtain ⟨w1, w2, w3, w4, w5⟩ := w.2 n (by omega)
    rw [owN_s]
    split
    · exact Nat.or_lt_two_pow ih (hrs_lt _ w5 _ (by omega))
    · exact ih
theorem otN_lt {A : sA} (w : wfL A) (i : Nat) : ∀ n, n ≤ A 66 3 → otN A i n < 2 ^ 24
  | 0, _ => by show 0 < 2 ^ 24; decide
  | n + 1, hn => by
    have ih := otN_lt w i n (by omega)
    obtain ⟨w1, w2, w3, w4, w5⟩ := w.2 n (by omega)
    rw [otN_s]
    split
    · exact Nat.or_lt_two_pow ih (hrs_lt _ w5 _ (by omega))
    · exact ih
theorem owN_bit {A : sA} (w : wfL A) (i : Nat) {h : Nat} (hh : h < 24) : ∀ n, n ≤ A 66 3 → ((owN A i n).testBit h = true ↔ ∃ k, k < n ∧ atL A (A 70 i) (A 71 i) h k = true ∧ A 69 k = A 69 i)
  | 0, _ => by simp [owN]
  | n + 1, hn => by
    have ih := owN_bit w i hh n (by omega)
    obtain ⟨w1, w2, w3, w4, w5⟩ := w.2 n (by omega)
    have hb := hrs_bit _ w5 (A 72 n) (by omega) w4 h hh
    rw [owN_s]
    by_cases c : A 70 n = A 70 i ∧ A 71 n = A 71 i ∧ A 69 n = A 69 i
    · rw [if_pos c, Nat.testBit_or, Bool.or_eq_true, ih, hb]
      constructor
      · rintro (⟨k, h1, h2, h3⟩ | z)
        · exact ⟨k, by omega, h2, h3⟩
        · refine ⟨n, by omega, ?_, c.2.2⟩
          unfold atL
          rw [decide_eq_true c.1, decide_eq_true c.2.1, Bool.true_and, Bool.true_and]
          exact z
      · rintro ⟨k, h1, h2, h3⟩
        by_cases e : k = n
        · subst e
          right
          unfold atL at h2
          rw [Bool.and_eq_true, Bool.and_eq_true] at h2
          exact h2.2.2
        · exact Or.inl ⟨k, by omega, h2, h3⟩
    · rw [if_neg c, ih]
      constructor
      · rintro ⟨k, h1, h2, h3⟩
        exact ⟨k, by omega, h2, h3⟩
      · rintro ⟨k, h1, h2, h3⟩
        by_cases e : k = n
        · subst e
          unfold atL at h2
          rw [Bool.and_eq_true, Bool.and_eq_true, decide_eq_true_iff, decide_eq_true_iff] at h2
          exact absurd ⟨h2.1, h2.2.1, h3⟩ c
        · exact ⟨k, by omega, h2, h3⟩
theorem otN_bit {A : sA} (w : wfL A) (i : Nat) {h : Nat} (hh : h < 24) : ∀ n, n ≤ A 66 3 → ((otN A i n).testBit h = true ↔ ∃ k, k < n ∧ atL A (A 70 i) (A 71 i) h k = true ∧ A 69 k ≠ A 69 i)
  | 0, _ => by simp [otN]
  | n + 1, hn => by
    have ih := otN_bit w i hh n (by omega)
    obtain ⟨w1, w2, w3, w4, w5⟩ := w.2 n (by omega)
    have hb := hrs_bit _ w5 (A 72 n) (by omega) w4 h hh
    rw [otN_s]
    by_cases c : A 70 n = A 70 i ∧ A 71 n = A 71 i ∧ A 69 n ≠ A 69 i
    · rw [if_pos c, Nat.testBit_or, Bool.or_eq_true, ih, hb]
      constructor
      · rintro (⟨k, h1, h2, h3⟩ | z)
        · exact ⟨k, by omega, h2, h3⟩
        · refine ⟨n, by omega, ?_, c.2.2⟩
          unfold atL
          rw [decide_eq_true c.1, decide_eq_true c.2.1, Bool.true_and, Bool.true_and]
          exact z
      · rintro ⟨k, h1, h2, h3⟩
        by_cases e : k = n
        · subst e
          right
          unfold atL at h2
          rw [Bool.and_eq_true, Bool.and_eq_true] at h2
          exact h2.2.2
        · exact Or.inl ⟨k, by omega, h2, h3⟩
    · rw [if_neg c, ih]
      constructor
      · rintro ⟨k, h1, h2, h3⟩
        exact ⟨k, by omega, h2, h3⟩
      · rintro ⟨k, h1, h2, h3⟩
        by_cases e : k = n
        · subst e
          unfold atL at h2
          rw [Bool.and_eq_true, Bool.and_eq_true, decide_eq_true_iff, decide_eq_true_iff] at h2
          exact absurd ⟨h2.1, h2.2.1, h3⟩ c
        · exact ⟨k, by omega, h2, h3⟩
def alL (A : sA) (i : Nat) : Nat := al A (A 70 i) (A 71 i) (A 69 i)
theorem alL_eq {A : sA} (w : wfL A) (i : Nat) : andn (owN A i (A 66 3)) (otN A i (A 66 3)) = alL A i := by
  refine nat_bits fun h => ?_
  unfold alL
  rw [andn_bit, al_bit]
  by_cases hh : h < 24
  · rw [decide_eq_true hh, Bool.true_and, Bool.eq_iff_iff, Bool.and_eq_true, owN_bit w i hh _ (Nat.le_refl _)]
    unfold alb
    rw [decide_eq_true_iff, pre_eq]
    constructor
    · rintro ⟨h1, h2⟩
      refine ⟨h1, fun k hk ha => ?_⟩
      by_cases e : A 69 k = A 69 i
      · exact e
      · have := (otN_bit w i hh _ (Nat.le_refl _)).mpr ⟨k, hk, ha, e⟩
        rw [this] at h2
        cases h2
    · rintro ⟨h1, h2⟩
      refine ⟨h1, ?_⟩
      cases hc : (otN A i (A 66 3)).testBit h with
      | false => rfl
      | true =>
        obtain ⟨k, a1, a2, a3⟩ := (otN_bit w i hh _ (Nat.le_refl _)).mp hc
        exact absurd (h2 k a1 a2) a3
  · rw [decide_eq_false hh, Bool.false_and]
    have h1 : (owN A i (A 66 3)).testBit h = false := Nat.testBit_lt_two_pow (Nat.lt_of_lt_of_le (owN_lt w i _ (Nat.le_refl _)) (Nat.pow_le_pow_right (by decide) (by omega)))
    rw [h1, Bool.false_and]
theorem c_weighI {A : sA} {M : dM} (w : wfL A) (r : rcL A M) {i : Nat} (hi : i < A 66 3) : l_li_weigh_25 (nI i) (nI 0) (nI 0) (nI 0) M = some (nI (owN A i (A 66 3)), nI (otN A i (A 66 3))) := by
  have hn := w.1
  obtain ⟨j1, j2, j3, j4⟩ := r.2 i hi
  obtain ⟨v1, v2, v3, v4, v5⟩ := w.2 i hi
  unfold l_li_weigh_25
  refine lpc_seq (body := fun s : Int32 × Int32 × Int32 => b_li_weigh_25_25 (nI i) s.1 s.2.1 s.2.2 M) (fun k => (nI (owN A i k), nI (otN A i k), nI k)) (A 66 3) ?_ ?_
  · intro k hk
    obtain ⟨h1, h2, h3, h4⟩ := r.2 k hk
    obtain ⟨w1, w2, w3, w4, w5⟩ := w.2 k hk
    show b_li_weigh_25_25 (nI i) (nI (owN A i k)) (nI (otN A i k)) (nI k) M = some (.inl (nI (owN A i (k + 1)), nI (otN A i (k + 1)), nI (k + 1)))
    unfold b_li_weigh_25_25
    rw [r.1, if_neg (z_nle (by omega) (by omega) hk), z_gd (z_in (n := k) (by omega) (by omega)), z_gd (z_in (n := i) (by omega) (by omega)), z_cl (n := k) (by omega), z_cl (n := i) (by omega), h1, h2, h3, h4, j1, j2, j3, show nI k + 1 = nI (k + 1) from z_add k 1, owN_s, otN_s]
    by_cases c1 : A 70 k = A 70 i
    · rw [if_pos (by rw [c1])]
      by_cases c2 : A 71 k = A 71 i
      · rw [if_pos (by rw [c2])]
        by_cases c3 : A 69 k = A 69 i
        · rw [if_pos (by rw [c3]), if_pos ⟨c1, c2, c3⟩, if_neg (fun z => z.2.2 c3), z_or]
        · rw [if_neg (z_ne (by omega) (by omega) c3), if_neg (fun z => c3 z.2.2), if_pos ⟨c1, c2, c3⟩, z_or]
      · rw [if_neg (z_ne (by omega) (by omega) c2), if_neg (fun z => c2 z.2.1), if_neg (fun z => c2 z.2.1)]
    · rw [if_neg (z_ne (by omega) (by omega) c1), if_neg (fun z => c1 z.1), if_neg (fun z => c1 z.1)]
  · show b_li_weigh_25_25 (nI i) (nI (owN A i (A 66 3))) (nI (otN A i (A 66 3))) (nI (A 66 3)) M = _
    unfold b_li_weigh_25_25
    rw [r.1, if_pos (z_yle (by omega) (by omega) (Nat.le_refl _))]
/-- the lines are weighed -/
def rcO (A : sA) (M : dM) : Prop := ∀ i, i < A 66 3 → gI M 11 i = nI (alL A i)
theorem c_weighL {A : sA} (w : wfL A) : ∀ (m i : Nat) (M : dM), i + m = A 66 3 → rcL A M → (∀ k, k < i → gI M 11 k = nI (alL A k)) → ∃ M', l_li_weigh_10 (nI i) M = some M' ∧ rcO A M' ∧ gI M' 6 6 = nI 1 ∧ chS [11, 1606] M M' := by
  have hn := w.1
  intro m
  induction m with
  | zero =>
    intro i M hi r h
    refine ⟨sI M 6 6 1, ?_, fun k hk => ?_, by rw [gI_sI, if_pos ⟨rfl, rfl⟩]; rfl, chS_sI M 6 6 _ rfl⟩
    · unfold l_li_weigh_10
      refine lpc_out ?_
      show b_li_weigh_10_10 (nI i) M = _
      unfold b_li_weigh_10_10
      rw [r.1, if_pos (z_yle (by omega) (by omega) (by omega))]
    · rw [gI_sI, if_neg (by omega)]
      exact h k (by omega)
  | succ m ih =>
    intro i M hi r h
    have c : chS [11, 1606] M (sI M 11 i (nI (alL A i))) := chS_sI M 11 i _ rfl
    obtain ⟨M', a1, a2, a3, a4⟩ := ih (i + 1) (sI M 11 i (nI (alL A i))) (by omega) ((srcL A).use r c (by decide)) (fun k hk => by
      rw [gI_sI]
      by_cases e : k = i
      · rw [if_pos ⟨rfl, e⟩, e]
      · rw [if_neg (fun z => e z.2)]
        exact h k (by omega))
    refine ⟨M', ?_, a2, a3, c.trans a4⟩
    unfold l_li_weigh_10 at a1 ⊢
    refine lpc_step (s' := (nI (i + 1), sI M 11 i (nI (alL A i)))) ?_ a1
    show b_li_weigh_10_10 (nI i) M = _
    unfold b_li_weigh_10_10
    have e25 : l_li_weigh_25 (nI i) 0 0 0 M = some (nI (owN A i (A 66 3)), nI (otN A i (A 66 3))) := c_weighI w r (by omega)
    rw [r.1, if_neg (z_nle (by omega) (by omega) (by omega)), e25, Option.bind_some, z_gd (z_in (n := i) (by omega) (by omega)), z_cl (n := i) (by omega), show nI i + 1 = nI (i + 1) from z_add i 1]
    show some (Sum.inl (nI (i + 1), sI M 11 i (nI (owN A i (A 66 3)) &&& (nI (otN A i (A 66 3)) ^^^ (-1))))) = _
    rw [z_andn, alL_eq w]
theorem c_weigh {A : sA} {M : dM} (w : wfL A) (r : rcL A M) (h : gI M 6 6 = 0 ∨ rcO A M) : ∃ M', f_li_weigh M = some M' ∧ rcO A M' ∧ chS [11, 1606] M M' := by
  unfold f_li_weigh
  by_cases c : gI M 6 6 = 0
  · rw [if_pos c]
    obtain ⟨M', a1, a2, a3, a4⟩ := c_weighL w (A 66 3) 0 M (by omega) r (fun k hk => by omega)
    have a1' : l_li_weigh_10 0 M = some M' := a1
    rw [a1']
    exact ⟨M', rfl, a2, a4⟩
  · rw [if_neg c]
    exact ⟨M, rfl, h.resolve_left c, chS.refl _ _⟩
theorem c_aloneHours {A : sA} {M : dM} (w : wfL A) (r : rcL A M) (o : rcO A M) {b s d : Nat} (hb : b < 10) (hs : s < 8) (hd : d < 1000) : f_li_aloneHours (nI b) (nI s) (nI d) M = some (nI (al A s d b)) := by
  have hn := w.1
  have go : ∀ m i, i + m = A 66 3 → (∀ k, k < i → ¬ (A 69 k = b ∧ A 70 k = s ∧ A 71 k = d)) → l_li_aloneHours_3 (nI b) (nI s) (nI d) (nI i) M = some (nI (al A s d b)) := by
    intro m
    induction m with
    | zero =>
      intro i hi h
      unfold l_li_aloneHours_3
      refine lpc_out ?_
      show b_li_aloneHours_3_3 (nI b) (nI s) (nI d) (nI i) M = _
      unfold b_li_aloneHours_3_3
      rw [r.1, if_pos (z_yle (by omega) (by omega) (by omega)), al_none (fun k hk => h k (by omega))]
      rfl
    | succ m ih =>
      intro i hi h
      obtain ⟨h1, h2, h3, h4⟩ := r.2 i (by omega)
      obtain ⟨w1, w2, w3, w4, w5⟩ := w.2 i (by omega)
      have hb : b_li_aloneHours_3_3 (nI b) (nI s) (nI d) (nI i) M = if A 69 i = b ∧ A 70 i = s ∧ A 71 i = d then some (.inr (nI (alL A i))) else some (.inl (nI (i + 1))) := by
        unfold b_li_aloneHours_3_3
        rw [r.1, if_neg (z_nle (by omega) (by omega) (by omega)), z_gd (z_in (n := i) (by omega) (by omega)), z_cl (n := i) (by omega), h1, h2, h3, o i (by omega), show nI i + 1 = nI (i + 1) from z_add i 1]
        by_cases c1 : A 69 i = b
        · rw [if_pos (by rw [c1])]
          by_cases c2 : A 70 i = s
          · rw [if_pos (by rw [c2])]
            by_cases c3 : A 71 i = d
            · rw [if_pos (by rw [c3]), if_pos ⟨c1, c2, c3⟩]
            · rw [if_neg (z_ne (by omega) (by omega) c3), if_neg (fun z => c3 z.2.2)]
          · rw [if_neg (z_ne (by omega) (by omega) c2), if_neg (fun z => c2 z.2.1)]
        · rw [if_neg (z_ne (by omega) (by omega) c1), if_neg (fun z => c1 z.1)]
      unfold l_li_aloneHours_3 at ih ⊢
      by_cases c : A 69 i = b ∧ A 70 i = s ∧ A 71 i = d
      · rw [if_pos c] at hb
        refine lpc_out ?_
        show b_li_aloneHours_3_3 (nI b) (nI s) (nI d) (nI i) M = _
        rw [hb]
        unfold alL
        rw [c.1, c.2.1, c.2.2]
      · rw [if_neg c] at hb
        refine lpc_step (s' := nI (i + 1)) hb (ih (i + 1) (by omega) (fun k hk => ?_))
        by_cases e : k = i
        · rw [e]; exact c
        · exact h k (by omega)
  unfold f_li_aloneHours
  have := go (A 66 3) 0 (by omega) (fun k hk => by omega)
  have this' : l_li_aloneHours_3 (nI b) (nI s) (nI d) 0 M = some (nI (al A s d b)) := this
  rw [this']
  rfl
