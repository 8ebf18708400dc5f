/-! ===== cut: the search ===== -/
def fsN (F : Nat → Option (List Nat)) : Nat → Nat → Option (List Nat)
  | _, 0 => none
  | x, d + 1 => match F x with
    | some l => some (x :: l)
    | none => fsN F (x + 1) d
theorem fsN_cong {F G : Nat → Option (List Nat)} : ∀ d x, (∀ y, x ≤ y → y < x + d → F y = G y) → fsN F x d = fsN G x d
  | 0, _, _ => rfl
  | d + 1, x, h => by
    show (match F x with | some l => some (x :: l) | none => fsN F (x + 1) d) = (match G x with | some l => some (x :: l) | none => fsN G (x + 1) d)
    rw [h x (Nat.le_refl _) (by omega), fsN_cong d (x + 1) (fun y h1 h2 => h y (by omega) (by omega))]
theorem fsN_none {F : Nat → Option (List Nat)} : ∀ d x, fsN F x d = none ↔ ∀ y, x ≤ y → y < x + d → F y = none
  | 0, x => ⟨fun _ y h1 h2 => absurd h2 (by omega), fun _ => rfl⟩
  | d + 1, x => by
    have e : fsN F x (d + 1) = (match F x with | some l => some (x :: l) | none => fsN F (x + 1) d) := rfl
    rw [e]
    cases h : F x with
    | some l =>
      refine ⟨fun z => (by cases z), fun z => ?_⟩
      have := z x (Nat.le_refl _) (by omega)
      rw [h] at this
      cases this
    | none =>
      show fsN F (x + 1) d = none ↔ _
      rw [fsN_none d (x + 1)]
      constructor
      · intro z y h1 h2
        by_cases c : y = x
        · subst c; exact h
        · exact z y (by omega) (by omega)
      · exact fun z y h1 h2 => z y (by omega) (by omega)
theorem fsN_some {F : Nat → Option (List Nat)} {l : List Nat} : ∀ d x, fsN F x d = some l → ∃ y l', x ≤ y ∧ y < x + d ∧ F y = some l' ∧ l = y :: l'
  | 0, x, h => by cases h
  | d + 1, x, h => by
    have e : fsN F x (d + 1) = (match F x with | some l => some (x :: l) | none => fsN F (x + 1) d) := rfl
    rw [e] at h
    cases hF : F x with
    | some l' =>
      rw [hF] at h
      exact ⟨x, l', Nat.le_refl _, by omega, hF, (Option.some.inj h).symm⟩
    | none =>
      rw [hF] at h
      obtain ⟨y, l', h1, h2, h3, h4⟩ := fsN_some d (x + 1) h
      exact ⟨y, l', by omega, by omega, h3, h4⟩
/-- the first so many finds, in order, with which P holds -/
def srU (P : Nat → Bool) (n : Nat) (U : Nat → Bool) : Nat → Nat → Nat → Option (List Nat)
  | 0, _, out => if P out = true then some [] else none
  | m + 1, fr, out => fsN (fun x => if U x = true then srU P n U m (x + 1) (out ||| 2 ^ x) else none) fr (n - fr)
def allU : Nat → Bool := fun _ => true
theorem srU_len {P : Nat → Bool} {n : Nat} {U : Nat → Bool} : ∀ m fr out l, srU P n U m fr out = some l → l.length = m ∧ ∀ x, x ∈ l → x < n
  | 0, fr, out, l, h => by
    have h' : (if P out = true then some [] else none) = some l := h
    split at h'
    · cases h'; exact ⟨rfl, fun x hx => (by cases hx)⟩
    · cases h'
  | m + 1, fr, out, l, h => by
    obtain ⟨y, l', h1, h2, h3, h4⟩ := fsN_some _ _ h
    split at h3
    · obtain ⟨h5, h6⟩ := srU_len m _ _ l' h3
      subst h4
      refine ⟨by rw [List.length_cons, h5], fun x hx => ?_⟩
      rcases List.mem_cons.mp hx with e | e
      · omega
      · exact h6 x e
    · cases h3
theorem srU_same {P : Nat → Bool} {n : Nat} {V : Nat → Bool} (hP : ∀ S S', (∀ b, V b = true → S.testBit b = S'.testBit b) → P S = P S') {U : Nat → Bool} : ∀ m fr out out', (∀ b, V b = true → out.testBit b = out'.testBit b) → srU P n U m fr out = srU P n U m fr out'
  | 0, fr, out, out', h => by
    show (if P out = true then some [] else none) = (if P out' = true then some [] else none)
    rw [hP out out' h]
  | m + 1, fr, out, out', h => by
    refine fsN_cong _ _ (fun y _ _ => ?_)
    split
    · refine srU_same hP m _ _ _ (fun b hb => ?_)
      rw [fb_bit_set, fb_bit_set, h b hb]
    · rfl
theorem srU_from {P : Nat → Bool} {n : Nat} {m fr fr' out : Nat} (h : srU P n allU m fr out = none) (hf : fr ≤ fr') : srU P n allU m fr' out = none := by
  cases m with
  | zero => exact h
  | succ m =>
    have h1 := (fsN_none _ _).mp h
    refine (fsN_none _ _).mpr (fun y h2 h3 => h1 y (by omega) (by omega))
theorem srU_U {P : Nat → Bool} {n : Nat} {V : Nat → Bool} (hP : ∀ S S', (∀ b, V b = true → S.testBit b = S'.testBit b) → P S = P S') : ∀ m fr out, srU P n allU m fr out = none → srU P n V (m + 1) fr out = srU P n allU (m + 1) fr out
  | 0, fr, out, h => by
    refine fsN_cong _ _ (fun y h1 h2 => ?_)
    show (if V y = true then srU P n V 0 (y + 1) (out ||| 2 ^ y) else none) = srU P n allU 0 (y + 1) (out ||| 2 ^ y)
    by_cases c : V y = true
    · rw [if_pos c]; rfl
    · rw [if_neg c]
      rw [srU_same hP 0 (y + 1) (out ||| 2 ^ y) out (fun b hb => by rw [fb_bit_set, decide_eq_false (fun z => c (by rw [← z]; exact hb)), Bool.or_false])]
      exact (srU_from (fr' := y + 1) h (by omega)).symm
  | m + 1, fr, out, h => by
    refine fsN_cong _ _ (fun y h1 h2 => ?_)
    show (if V y = true then srU P n V (m + 1) (y + 1) (out ||| 2 ^ y) else none) = srU P n allU (m + 1) (y + 1) (out ||| 2 ^ y)
    have hy := (fsN_none _ _).mp h y h1 h2
    have hy' : srU P n allU m (y + 1) (out ||| 2 ^ y) = none := hy
    by_cases c : V y = true
    · rw [if_pos c]
      exact srU_U hP m (y + 1) (out ||| 2 ^ y) hy'
    · rw [if_neg c]
      rw [srU_same hP (m + 1) (y + 1) (out ||| 2 ^ y) out (fun b hb => by rw [fb_bit_set, decide_eq_false (fun z => c (by rw [← z]; exact hb)), Bool.or_false])]
      exact (srU_from h (by omega)).symm
/-- nothing to be found when P fails for all that could be taken -/
theorem srU_prune {P : Nat → Bool} {n : Nat} {U : Nat → Bool} : ∀ m fr out, (∀ S, (∀ b, S.testBit b = true → out.testBit b = true ∨ (fr ≤ b ∧ b < n)) → P S = false) → srU P n U m fr out = none
  | 0, fr, out, h => by
    show (if P out = true then some [] else none) = none
    rw [h out (fun b hb => Or.inl hb)]
    rfl
  | m + 1, fr, out, h => by
    refine (fsN_none _ _).mpr (fun y h1 h2 => ?_)
    show (if U y = true then srU P n U m (y + 1) (out ||| 2 ^ y) else none) = none
    split
    · refine srU_prune m _ _ (fun S hS => h S (fun b hb => ?_))
      rcases hS b hb with z | z
      · rw [fb_bit_set, Bool.or_eq_true, decide_eq_true_iff] at z
        rcases z with z | z
        · exact Or.inl z
        · exact Or.inr (by omega)
      · exact Or.inr (by omega)
    · rfl
