/-! ===== words, signs, facts ===== -/
theorem whl_in (f : Nat → Bool) (T : Nat → Nat) (n p i : Nat) (h1 : p ≤ i) (h2 : i < whl f T n p) : f (T i) = true := by
  by_cases h : p < n ∧ f (T p) = true
  · by_cases e : i = p
    · rw [e]; exact h.2
    · rw [whl_go h.1 h.2] at h2
      exact whl_in f T n (p + 1) i (by omega) h2
  · rw [whl_no h] at h2
    omega
termination_by n - p
theorem ev_lt (T : Nat → Nat) (p : Nat) : ∀ L, (∀ i, i < L → isLo (T (p + i)) = true) → ev T p L < 27 ^ L
  | 0, _ => by show 0 < 27 ^ 0; decide
  | L + 1, h => by
    have ih := ev_lt T p L (fun i hi => h i (by omega))
    have hl := (isLo_iff _).mp (h L (by omega))
    show ev T p L * 27 + T (p + L) - 96 < _
    rw [Nat.pow_succ]
    omega
theorem ev_inj (T T' : Nat → Nat) (p p' : Nat) : ∀ L L', (∀ i, i < L → isLo (T (p + i)) = true) → (∀ i, i < L' → isLo (T' (p' + i)) = true) → (ev T p L = ev T' p' L' ↔ L = L' ∧ ∀ i, i < L → T (p + i) = T' (p' + i))
  | 0, 0, _, _ => by simp [ev]
  | 0, L' + 1, _, h' => by
    have hl := (isLo_iff _).mp (h' L' (by omega))
    show 0 = ev T' p' L' * 27 + T' (p' + L') - 96 ↔ _
    constructor
    · intro q; omega
    · rintro ⟨q, _⟩; omega
  | L + 1, 0, h, _ => by
    have hl := (isLo_iff _).mp (h L (by omega))
    show ev T p L * 27 + T (p + L) - 96 = 0 ↔ _
    constructor
    · intro q; omega
    · rintro ⟨q, _⟩; omega
  | L + 1, L' + 1, h, h' => by
    have ih := ev_inj T T' p p' L L' (fun i hi => h i (by omega)) (fun i hi => h' i (by omega))
    have hl := (isLo_iff _).mp (h L (by omega))
    have hl' := (isLo_iff _).mp (h' L' (by omega))
    show ev T p L * 27 + T (p + L) - 96 = ev T' p' L' * 27 + T' (p' + L') - 96 ↔ _
    constructor
    · intro q
      have q1 : ev T p L = ev T' p' L' := by omega
      have q2 : T (p + L) = T' (p' + L') := by omega
      obtain ⟨e1, e2⟩ := ih.mp q1
      subst e1
      refine ⟨rfl, fun i hi => ?_⟩
      by_cases e : i = L
      · rw [e]; exact q2
      · exact e2 i (by omega)
    · rintro ⟨e1, e2⟩
      have e1' : L = L' := by omega
      subst e1'
      have q1 := ih.mpr ⟨rfl, fun i hi => e2 i (by omega)⟩
      have q2 := e2 L (by omega)
      omega
theorem kd_1 {T : Nat → Nat} {n p : Nat} (h : kd T n p = 1) : p < n ∧ nx T n p ≤ n ∧ p ≤ nx T n p ∧ nx T n p - p ≤ 8 ∧ ∀ i, i < nx T n p - p → isLo (T (p + i)) = true := by
  by_cases hp : p < n
  · by_cases l : isLo (T p) = true
    · rw [kd_lo hp l] at h
      rw [nx_lo hp l]
      have hw := whl_ge isLo T n p (by omega)
      by_cases h8 : whl isLo T n p - p ≤ 8
      · exact ⟨hp, hw.2, hw.1, h8, fun i hi => whl_in isLo T n p (p + i) (by omega) (by omega)⟩
      · rw [if_neg h8] at h; cases h
    · by_cases d : isDg (T p) = true
      · rw [kd_dg hp l d] at h
        split at h <;> cases h
      · rw [kd_ot hp l d] at h
        split at h <;> cases h
  · rw [kd_en hp] at h; cases h
theorem wv_lt {T : Nat → Nat} {n p : Nat} (h : kd T n p = 1) : wv T n p < 282429536481 := by
  obtain ⟨_, _, _, h8, hl⟩ := kd_1 h
  have := ev_lt T p _ hl
  have h2 : (27 : Nat) ^ (nx T n p - p) ≤ 27 ^ 8 := Nat.pow_le_pow_right (by decide) h8
  unfold wv
  have h3 : (27 : Nat) ^ 8 = 282429536481 := by decide
  omega
theorem nx_gt {T : Nat → Nat} {n p : Nat} (h : p < n) : p < nx T n p ∧ nx T n p ≤ n := by
  by_cases l : isLo (T p) = true
  · rw [nx_lo h l, whl_go h l]
    have := whl_ge isLo T n (p + 1) (by omega)
    omega
  · by_cases d : isDg (T p) = true
    · rw [nx_dg h l d, whl_go h d]
      have := whl_ge isDg T n (p + 1) (by omega)
      omega
    · rw [nx_ot h l d]
      omega
theorem nx_le {T : Nat → Nat} {n p : Nat} (h : p ≤ n) : p ≤ nx T n p ∧ nx T n p ≤ n := by
  by_cases hp : p < n
  · have := nx_gt (T := T) hp
    omega
  · rw [nx_en hp]
    omega
/-- letters of a part of a constant and those of the token -/
theorem c_hasL {T : Nat → Nat} {n p : Nat} {M : dM} (h : tpc T n M) (t : tkc T n p M) (h1 : kd T n p = 1) {k f : Nat} (hk : k < 10) (hf : f + (nx T n p - p) ≤ sl k) : f_re_hasLetters k (nI f) M = some (decide (∀ i, i < nx T n p - p → T (p + i) = sb k (f + i))) := by
  obtain ⟨q1, q2, q3, q4, q5⟩ := kd_1 h1
  obtain ⟨t1, t2, t3, t4, t5⟩ := t
  have hn := h.1
  have hs := sl_lt k hk
  have go : ∀ m j, j + m = nx T n p - p → ∃ b, l_re_hasLetters_5 k (nI f) (nI (p + j)) M = some b ∧ (b = true ↔ ∀ i, j ≤ i → i < nx T n p - p → T (p + i) = sb k (f + i)) := by
    intro m
    induction m with
    | zero =>
      intro j hj
      refine ⟨true, ?_, fun _ i h1 h2 => by omega, fun _ => rfl⟩
      unfold l_re_hasLetters_5
      refine lpc_out ?_
      show b_re_hasLetters_5_5 k (nI f) (nI (p + j)) M = _
      unfold b_re_hasLetters_5_5
      rw [t3, if_pos (z_yle (by omega) (by omega) (by omega))]
    | succ m ih =>
      intro j hj
      obtain ⟨s1, s2⟩ := sb_ok k hk (f + j) (by omega)
      have hT := h.2.1 (p + j) (by omega)
      have hb : b_re_hasLetters_5_5 k (nI f) (nI (p + j)) M = if T (p + j) = sb k (f + j) then some (.inl (nI (p + (j + 1)))) else some (.inr false) := by
        unfold b_re_hasLetters_5_5
        rw [t3, if_neg (z_nle (by omega) (by omega) (by omega)), z_gd (z_in (n := p + j) (by omega) (by omega)), z_gd (eq_true hk), t2, z_add, z_sub (by omega), show f + (p + j) - p = f + j by omega, z_chr hk (by omega), Option.bind_some, z_cl (n := p + j) (by omega), h.2.2.2 (p + j) (by omega)]
        by_cases e : T (p + j) = sb k (f + j)
        · rw [if_pos (by rw [e]), if_pos e]
          show some (Sum.inl (nI (p + j) + nI 1)) = _
          rw [z_add]
          rfl
        · rw [if_neg (z_ne (by omega) (by omega) e), if_neg e]
      unfold l_re_hasLetters_5
      by_cases e : T (p + j) = sb k (f + j)
      · rw [if_pos e] at hb
        obtain ⟨b, i1, i2⟩ := ih (j + 1) (by omega)
        refine ⟨b, lpc_step (s' := nI (p + (j + 1))) hb i1, ?_⟩
        rw [i2]
        constructor
        · intro q i a1 a2
          by_cases ei : i = j
          · rw [ei]; exact e
          · exact q i (by omega) a2
        · intro q i a1 a2
          exact q i (by omega) a2
      · rw [if_neg e] at hb
        exact ⟨false, lpc_out hb, fun z => (by cases z), fun q => absurd (q j (Nat.le_refl _) (by omega)) e⟩
  obtain ⟨b, i1, i2⟩ := go (nx T n p - p) 0 (by omega)
  unfold f_re_hasLetters
  rw [t2]
  rw [Nat.add_zero] at i1
  rw [i1, Option.bind_some]
  congr 1
  have i3 : (b = true) ↔ ∀ i, i < nx T n p - p → T (p + i) = sb k (f + i) := by
    rw [i2]
    constructor
    · intro q i hi
      exact q i (Nat.zero_le _) hi
    · intro q i _ hi
      exact q i hi
  by_cases c : ∀ i, i < nx T n p - p → T (p + i) = sb k (f + i)
  · rw [decide_eq_true c]; exact i3.mpr c
  · rw [decide_eq_false c]
    exact Bool.eq_false_iff.mpr (fun z => c (i3.mp z))
/-- the words of a constant: where each starts, what it is worth -/
def wsB (k f : Nat) : List Nat → Bool
  | [] => decide (f = sl k + 1)
  | l :: ls => (List.range l).all (fun i => isLo (sb k (f + i))) && (decide (f + l ≤ sl k) && ((decide (f + l = sl k) || decide (sb k (f + l) = 32)) && wsB k (f + l + 1) ls))
def encs (k f : Nat) : List Nat → List Nat
  | [] => []
  | l :: ls => ev (sb k) f l :: encs k (f + l + 1) ls
def cIx (w j : Nat) : List Nat → Int32
  | [] => -1
  | e :: es => if e = w then nI j else cIx w (j + 1) es
def lw (k : Nat) : List Nat := [[4, 5, 4, 4, 4, 5, 6, 5, 3, 5, 4, 5, 5, 5, 4, 6, 5], [3, 5, 6, 3, 5, 4, 5, 6], [3, 3, 4, 5, 3, 6], [4], [5], [3, 2], [3]].getD k []
def lE (k : Nat) : List Nat := [[370136, 11438892, 385167, 168728, 464144, 3547106, 298503040, 1834205, 923, 6415353, 168984, 10502357, 3379448, 778955, 80096, 226024039, 11088487], [2968, 3376126, 29596810, 11047, 8529805, 267347, 2162611, 230433031], [1503, 11047, 369932, 10284818, 4419, 79495460], [458690], [10502425], [1111, 423], [10631]].getD k []
theorem lw_ok : ∀ k, k < 7 → wsB k 0 (lw k) = true ∧ encs k 0 (lw k) = lE k := by decide +kernel
theorem c_w17 {T : Nat → Nat} {n p : Nat} {M : dM} (h : tpc T n M) (t : tkc T n p M) (h1 : kd T n p = 1) {k : Nat} (hk : k < 10) : ∀ (ls : List Nat) (j f : Nat), j ≤ f → wsB k f ls = true → l_re_wordIn_17 k (nI j) (nI f) (nI f) M = some (cIx (wv T n p) j (encs k f ls))
  | [], j, f, hj, hw => by
    have hs := sl_lt k hk
    have hf : f = sl k + 1 := of_decide_eq_true hw
    unfold l_re_wordIn_17
    refine lpc_out ?_
    show b_re_wordIn_17_17 k (nI j) (nI f) (nI f) M = _
    unfold b_re_wordIn_17_17
    rw [z_gd (eq_true hk), z_len hk, Option.bind_some, if_pos (z_ylt (by omega) (by omega) (by omega))]
    rfl
  | l :: ls, j, f, hj, hw => by
    have hs := sl_lt k hk
    have hw' : ((List.range l).all (fun i => isLo (sb k (f + i))) && (decide (f + l ≤ sl k) && ((decide (f + l = sl k) || decide (sb k (f + l) = 32)) && wsB k (f + l + 1) ls))) = true := hw
    rw [Bool.and_eq_true, Bool.and_eq_true, Bool.and_eq_true, Bool.or_eq_true, decide_eq_true_iff, decide_eq_true_iff, decide_eq_true_iff, List.all_eq_true] at hw'
    obtain ⟨g1, g2, g3, g4⟩ := hw'
    have g1' : ∀ i, i < l → isLo (sb k (f + i)) = true := fun i hi => g1 i (List.mem_range.mpr hi)
    obtain ⟨q1, q2, q3, q4, q5⟩ := kd_1 h1
    obtain ⟨t1, t2, t3, t4, t5⟩ := id t
    have ih := c_w17 h t h1 hk ls (j + 1) (f + l + 1) (by omega) g4
    have hn := h.1
    -- over the letters
    have cm : ∀ i, i ≤ l → comes (fun s : Int32 × Int32 × Int32 => b_re_wordIn_17_17 k s.1 s.2.1 s.2.2 M) (nI j, nI f, nI f) (nI j, nI f, nI (f + i)) := by
      intro i
      induction i with
      | zero => intro _; exact comes.refl
      | succ i ihi =>
        intro hi
        refine (ihi (by omega)).trans (comes.step ?_)
        show b_re_wordIn_17_17 k (nI j) (nI f) (nI (f + i)) M = _
        have hlo := (isLo_iff _).mp (g1' i (by omega))
        unfold b_re_wordIn_17_17
        rw [z_gd (eq_true hk), z_len hk, Option.bind_some, if_neg (z_nlt (by omega) (by omega) (by omega)), Option.bind_some, if_neg (z_ne (by omega) (by omega) (by omega)), z_chr hk (by omega), Option.bind_some]
        have hsb := (sb_ok k hk (f + i) (by omega)).2
        rw [if_neg (show ¬ nI (sb k (f + i)) = (32 : Int32) from z_ne (b := 32) (by omega) (by omega) (by omega))]
        show some (Sum.inl (nI j, nI f, nI (f + i) + nI 1)) = _
        rw [z_add]
        rfl
    have e46 : b_re_wordIn_17_17 k (nI j) (nI f) (nI (f + l)) M = b_re_wordIn_17_46 k (nI j) (nI f) (nI (f + l)) M := by
      unfold b_re_wordIn_17_17
      rw [z_gd (eq_true hk), z_len hk, Option.bind_some, if_neg (z_nlt (by omega) (by omega) (by omega)), Option.bind_some]
      by_cases e : f + l = sl k
      · rw [if_pos (by rw [e])]
      · have hsb := (sb_ok k hk (f + l) (by omega)).2
        rw [if_neg (z_ne (by omega) (by omega) e), z_chr hk (by omega), Option.bind_some, if_pos]
        rcases g3 with g3 | g3
        · exact absurd g3 e
        · rw [g3]; rfl
    have e73 : b_re_wordIn_17_73 k (nI j) (nI (f + l)) M = some (.inl (nI (j + 1), nI (f + l + 1), nI (f + l + 1))) := by
      unfold b_re_wordIn_17_73
      show some (Sum.inl (nI j + nI 1, nI (f + l) + nI 1, nI (f + l) + nI 1)) = _
      rw [z_add, z_add]
    have hev := ev_inj (sb k) T f p l (nx T n p - p) g1' q5
    have hb : b_re_wordIn_17_17 k (nI j) (nI f) (nI (f + l)) M = if ev (sb k) f l = wv T n p then some (.inr (nI j)) else some (.inl (nI (j + 1), nI (f + l + 1), nI (f + l + 1))) := by
      rw [e46]
      unfold b_re_wordIn_17_46 wv
      rw [t2, t3, z_sub (by omega), z_sub (by omega), Nat.add_sub_cancel_left]
      by_cases e : l = nx T n p - p
      · rw [if_pos (by rw [e]), c_hasL h t h1 hk (by omega), Option.bind_some]
        by_cases e2 : ∀ i, i < nx T n p - p → T (p + i) = sb k (f + i)
        · rw [if_pos (decide_eq_true e2), if_pos (hev.mpr ⟨e, fun i hi => (e2 i (by omega)).symm⟩)]
        · rw [if_neg (by rw [decide_eq_true_iff]; exact e2), if_neg, e73]
          intro z
          exact e2 (fun i hi => ((hev.mp z).2 i (by omega)).symm)
      · rw [if_neg (z_ne (by omega) (by omega) e), if_neg (fun z => e (hev.mp z).1), e73]
    unfold l_re_wordIn_17
    refine cm l (Nat.le_refl _) _ ?_
    show _ = some (if ev (sb k) f l = wv T n p then nI j else cIx (wv T n p) (j + 1) (encs k (f + l + 1) ls))
    by_cases e : ev (sb k) f l = wv T n p
    · rw [if_pos e] at hb ⊢
      exact lpc_out hb
    · rw [if_neg e] at hb ⊢
      exact lpc_step (s' := (nI (j + 1), nI (f + l + 1), nI (f + l + 1))) hb ih
/-- which word of a constant the token is -/
def wIx (T : Nat → Nat) (n p k : Nat) : Int32 := if kd T n p = 1 then cIx (wv T n p) 0 (lE k) else -1
theorem kd_lt {T : Nat → Nat} {n p : Nat} : kd T n p < 5 := by
  unfold kd
  split
  · omega
  · split
    · split <;> omega
    · split
      · split <;> omega
      · split <;> omega
theorem c_wordIn {T : Nat → Nat} {n p : Nat} {M : dM} (h : tpc T n M) (t : tkc T n p M) {k : Nat} (hk : k < 7) : f_re_wordIn k M = some (wIx T n p k) := by
  have hl := kd_lt (T := T) (n := n) (p := p)
  obtain ⟨w1, w2⟩ := lw_ok k hk
  unfold f_re_wordIn wIx
  rw [t.2.2.2.1]
  by_cases h1 : kd T n p = 1
  · rw [if_pos (show nI (kd T n p) = (1 : Int32) from by rw [h1]; rfl), if_pos h1]
    have := c_w17 h t h1 (by omega : k < 10) (lw k) 0 0 (Nat.le_refl _) w1
    rw [w2] at this
    have this' : l_re_wordIn_17 k 0 0 0 M = some (cIx (wv T n p) 0 (lE k)) := this
    rw [this']
    rfl
  · rw [if_neg (show ¬ nI (kd T n p) = (1 : Int32) from z_ne (b := 1) (by omega) (by omega) h1), if_neg h1]
theorem z_lne {a b : Nat} (ha : a < 9223372036854775808) (hb : b < 9223372036854775808) (h : a ≠ b) : ¬ lN a = lN b := by
  rw [z_leq ha hb]; exact h
/-- the token is the word w -/
def isW (T : Nat → Nat) (n p w : Nat) : Prop := kd T n p = 1 ∧ wv T n p = w
theorem m_isWord {T : Nat → Nat} {n p w : Nat} {M : dM} (t : tkm T n p M) (hw : w < 9223372036854775808) : f_mo_isWord (lN w) M = decide (kd T n p = 1 ∧ wv T n p = w) := by
  have hl := kd_lt (T := T) (n := n) (p := p)
  obtain ⟨t1, t2, t3, t4, t5, t6⟩ := t
  unfold f_mo_isWord
  rw [t4]
  by_cases h1 : kd T n p = 1
  · have hb := wv_lt h1
    rw [if_pos (show nI (kd T n p) = (1 : Int32) from by rw [h1]; rfl), t6 h1]
    by_cases e : wv T n p = w
    · rw [if_pos (by rw [e])]
      symm
      exact decide_eq_true ⟨h1, e⟩
    · rw [if_neg (z_lne (by omega) hw e)]
      symm
      exact decide_eq_false (fun z => e z.2)
  · rw [if_neg (show ¬ nI (kd T n p) = (1 : Int32) from z_ne (b := 1) (by omega) (by omega) h1)]
    symm
    exact decide_eq_false (fun z => h1 z.1)
theorem wIx_1 {T : Nat → Nat} {n p k w : Nat} (hk : lE k = [w]) : (kd T n p = 1 ∧ wv T n p = w ∧ wIx T n p k = nI 0) ∨ (¬ (kd T n p = 1 ∧ wv T n p = w) ∧ wIx T n p k = -1) := by
  unfold wIx
  rw [hk]
  by_cases h1 : kd T n p = 1
  · rw [if_pos h1]
    unfold cIx cIx
    by_cases e : w = wv T n p
    · rw [if_pos e]; exact Or.inl ⟨h1, e.symm, rfl⟩
    · rw [if_neg e]; exact Or.inr ⟨fun z => e z.2.symm, rfl⟩
  · rw [if_neg h1]
    exact Or.inr ⟨fun z => h1 z.1, rfl⟩
def rIx (w j : Nat) : List Nat → Int32
  | [] => nI 0
  | e :: es => if e = w then nI j else rIx w (j + 1) es
theorem rc_Ix (w : Nat) : ∀ (L : List Nat) (j : Nat), (cIx w j L = -1 ∧ rIx w (j + 1) L = nI 0) ∨ ∃ f, j ≤ f ∧ f < j + L.length ∧ cIx w j L = nI f ∧ rIx w (j + 1) L = nI (1 + f)
  | [], j => Or.inl ⟨rfl, rfl⟩
  | e :: es, j => by
    show ((if e = w then nI j else cIx w (j + 1) es) = -1 ∧ (if e = w then nI (j + 1) else rIx w (j + 1 + 1) es) = nI 0) ∨ ∃ f, j ≤ f ∧ f < j + (es.length + 1) ∧ (if e = w then nI j else cIx w (j + 1) es) = nI f ∧ (if e = w then nI (j + 1) else rIx w (j + 1 + 1) es) = nI (1 + f)
    by_cases h : e = w
    · rw [if_pos h, if_pos h]
      exact Or.inr ⟨j, Nat.le_refl _, by omega, rfl, by rw [Nat.add_comm]⟩
    · rw [if_neg h, if_neg h]
      rcases rc_Ix w es (j + 1) with ⟨a, b⟩ | ⟨f, a, b, c, d⟩
      · exact Or.inl ⟨a, b⟩
      · exact Or.inr ⟨f, by omega, by omega, c, d⟩
theorem wchain {x : Int64} {w e j : Nat} {b : Int32} {es : List Nat} (hx : x = lN w) (hw : w < 9223372036854775808) (he : e < 9223372036854775808) (hb : b = rIx w (j + 1) es) : (if x = lN e then nI j else b) = rIx w j (e :: es) := by
  show _ = if e = w then nI j else rIx w (j + 1) es
  rw [hx, ← hb]
  by_cases h : e = w
  · rw [if_pos (by rw [h]), if_pos h]
  · rw [if_neg (z_lne hw he (fun z => h z.symm)), if_neg h]
theorem m_findFact {M : dM} {w : Nat} (hx : gJ M 66 23 = lN w) (hw : w < 9223372036854775808) : f_mo_findFact M = rIx w 1 (lE 0) := by
  unfold f_mo_findFact
  show _ = rIx w 1 [370136, 11438892, 385167, 168728, 464144, 3547106, 298503040, 1834205, 923, 6415353, 168984, 10502357, 3379448, 778955, 80096, 226024039, 11088487]
  iterate 17 refine wchain hx hw (by decide) ?_
  rfl
theorem m_dayFact {M : dM} {w : Nat} (hx : gJ M 66 23 = lN w) (hw : w < 9223372036854775808) : f_mo_dayFact M = rIx w 1 (lE 1) := by
  unfold f_mo_dayFact
  show _ = rIx w 1 [2968, 3376126, 29596810, 11047, 8529805, 267347, 2162611, 230433031]
  iterate 8 refine wchain hx hw (by decide) ?_
  rfl
def eK (e : Nat) : Nat := if e = 0 then 17 else 8
/-- the fact that the token names, on either side -/
theorem facts_eq {T : Nat → Nat} {n p e : Nat} {M : dM} (t : tkm T n p M) (he : e < 2) (h38 : gI M 66 38 = nI e) : (wIx T n p e = -1 ∧ f_mo_fact0 M = nI 0) ∨ ∃ f, f < eK e ∧ kd T n p = 1 ∧ wIx T n p e = nI f ∧ f_mo_fact0 M = nI (1 + f) := by
  have hl := kd_lt (T := T) (n := n) (p := p)
  obtain ⟨t1, t2, t3, t4, t5, t6⟩ := t
  unfold f_mo_fact0 wIx
  rw [t4, h38]
  by_cases h1 : kd T n p = 1
  · have hb := wv_lt h1
    rw [if_pos (show nI (kd T n p) = (1 : Int32) from by rw [h1]; rfl), if_pos h1]
    match e, he with
    | 0, _ =>
      rw [if_pos (show nI 0 = (0 : Int32) from rfl), m_findFact (t6 h1) (by omega)]
      rcases rc_Ix (wv T n p) (lE 0) 0 with ⟨a, b⟩ | ⟨f, a, b, c, d⟩
      · exact Or.inl ⟨a, b⟩
      · exact Or.inr ⟨f, by simpa [lE, eK] using b, h1, c, d⟩
    | 1, _ =>
      rw [if_neg (show ¬ nI 1 = (0 : Int32) from by decide), m_dayFact (t6 h1) (by omega)]
      rcases rc_Ix (wv T n p) (lE 1) 0 with ⟨a, b⟩ | ⟨f, a, b, c, d⟩
      · exact Or.inl ⟨a, b⟩
      · exact Or.inr ⟨f, by simpa [lE, eK] using b, h1, c, d⟩
  · rw [if_neg (show ¬ nI (kd T n p) = (1 : Int32) from z_ne (b := 1) (by omega) (by omega) h1), if_neg h1]
    exact Or.inl ⟨rfl, rfl⟩
theorem kd_3 {T : Nat → Nat} {n p : Nat} (h : kd T n p ≠ 0) : p < n := by
  by_cases hp : p < n
  · exact hp
  · exact absurd (kd_en hp) h
def isS (T : Nat → Nat) (n p a : Nat) : Bool := decide (kd T n p = 3 ∧ T p = a)
theorem c_isSign {T : Nat → Nat} {n p a : Nat} {M : dM} (h : tpc T n M) (t : tkc T n p M) (ha : a < 1000) : f_re_isSign (nI a) M = some (isS T n p a) := by
  have hl := kd_lt (T := T) (n := n) (p := p)
  have hn := h.1
  obtain ⟨t1, t2, t3, t4, t5⟩ := t
  unfold f_re_isSign isS
  rw [t4]
  by_cases h1 : kd T n p = 3
  · have hp := kd_3 (T := T) (n := n) (p := p) (by omega)
    have hT := h.2.1 p hp
    rw [if_pos (show nI (kd T n p) = (3 : Int32) from by rw [h1]; rfl), t2, z_gd (z_in (n := p) (by omega) (by omega)), z_cl (n := p) (by omega), h.2.2.2 p hp]
    by_cases e : T p = a
    · rw [if_pos (by rw [e]), decide_eq_true ⟨h1, e⟩]
    · rw [if_neg (z_ne (by omega) (by omega) e), decide_eq_false (fun z => e z.2)]
  · rw [if_neg (show ¬ nI (kd T n p) = (3 : Int32) from z_ne (b := 3) (by omega) (by omega) h1), decide_eq_false (fun z => h1 z.1)]
theorem m_isSign {T : Nat → Nat} {n p a : Nat} {M : dM} (h : tpm T n M) (t : tkm T n p M) (ha : a < 1000) : f_mo_isSign (nI a) M = some (isS T n p a) := by
  have hl := kd_lt (T := T) (n := n) (p := p)
  have hn := h.1
  obtain ⟨t1, t2, t3, t4, t5, t6⟩ := t
  unfold f_mo_isSign isS
  rw [t4]
  by_cases h1 : kd T n p = 3
  · have hp := kd_3 (T := T) (n := n) (p := p) (by omega)
    have hT := h.2.1 p hp
    rw [if_pos (show nI (kd T n p) = (3 : Int32) from by rw [h1]; rfl), t2, z_gd (z_in (n := p) (by omega) (by omega)), z_cl (n := p) (by omega), h.2.2.2 p hp]
    by_cases e : T p = a
    · rw [if_pos (by rw [e]), decide_eq_true ⟨h1, e⟩]
    · rw [if_neg (z_ne (by omega) (by omega) e), decide_eq_false (fun z => e z.2)]
  · rw [if_neg (show ¬ nI (kd T n p) = (3 : Int32) from z_ne (b := 3) (by omega) (by omega) h1), decide_eq_false (fun z => h1 z.1)]
