/-! ===== the relation: the abstract state A, the class' cells (rc..), the reference's cells (rm..) ===== -/
def isObj (k : Nat) : Bool := [0, 1, 6, 12, 24, 27, 32, 34, 39, 45, 50, 56, 66].contains k
def ky (k j : Nat) : Nat := if isObj k then 1000 + 100 * k + j else k
/-- only cells with keys in S are other ones -/
def chS (S : List Nat) (M M' : dM) : Prop := (∀ k j, S.contains (ky k j) = false → gI M' k j = gI M k j ∧ gJ M' k j = gJ M k j) ∧ M'.2.2 = M.2.2
def disj (T S : List Nat) : Bool := T.all (fun x => !S.contains x)
/-- R looks at cells with keys in T alone -/
def supp (T : List Nat) (R : dM → Prop) : Prop := ∀ M M' : dM, (∀ k j, T.contains (ky k j) = true → gI M' k j = gI M k j ∧ gJ M' k j = gJ M k j) → M'.2.2 = M.2.2 → R M → R M'
theorem supp.use {T S : List Nat} {R : dM → Prop} (h : supp T R) {M M' : dM} (hr : R M) (c : chS S M M') (hd : disj T S = true) : R M' := by
  refine h M M' (fun k j hk => c.1 k j ?_) c.2 hr
  have h1 := List.all_eq_true.mp hd (ky k j) (List.contains_iff_mem.mp hk)
  simpa using h1
theorem supp.and {T1 T2 : List Nat} {R1 R2 : dM → Prop} (h1 : supp T1 R1) (h2 : supp T2 R2) : supp (T1 ++ T2) (fun M => R1 M ∧ R2 M) := by
  intro M M' h hw hr
  refine ⟨h1 M M' (fun k j hk => h k j ?_) hw hr.1, h2 M M' (fun k j hk => h k j ?_) hw hr.2⟩
  · rw [List.contains_iff_mem] at hk ⊢
    exact List.mem_append.mpr (Or.inl hk)
  · rw [List.contains_iff_mem] at hk ⊢
    exact List.mem_append.mpr (Or.inr hk)
theorem chS.refl (S : List Nat) (M : dM) : chS S M M := ⟨fun _ _ _ => ⟨rfl, rfl⟩, rfl⟩
theorem chS.trans {S : List Nat} {M M' M'' : dM} (h : chS S M M') (h' : chS S M' M'') : chS S M M'' :=
  ⟨fun k j hp => ⟨((h'.1 k j hp).1).trans (h.1 k j hp).1, ((h'.1 k j hp).2).trans (h.1 k j hp).2⟩, h'.2.trans h.2⟩
theorem chS.mono {S S' : List Nat} {M M' : dM} (h : chS S M M') (hs : S.all (fun x => S'.contains x) = true) : chS S' M M' := by
  refine ⟨fun k j hp => h.1 k j ?_, h.2⟩
  cases e : S.contains (ky k j) with
  | false => rfl
  | true =>
    have := List.all_eq_true.mp hs _ (List.contains_iff_mem.mp e)
    rw [this] at hp
    cases hp
theorem chS.I {S : List Nat} {M M' : dM} (h : chS S M M') (k j : Nat) (hp : S.contains (ky k j) = false) : gI M' k j = gI M k j := (h.1 k j hp).1
theorem chS.J {S : List Nat} {M M' : dM} (h : chS S M M') (k j : Nat) (hp : S.contains (ky k j) = false) : gJ M' k j = gJ M k j := (h.1 k j hp).2
theorem chS_sI {S : List Nat} (M : dM) (k j : Nat) (x : Int32) (hp : S.contains (ky k j) = true) : chS S M (sI M k j x) := by
  refine ⟨fun a b q => ⟨?_, rfl⟩, rfl⟩
  rw [gI_sI, if_neg]
  rintro ⟨rfl, rfl⟩
  rw [hp] at q
  cases q
theorem chS_sJ {S : List Nat} (M : dM) (k j : Nat) (x : Int64) (hp : S.contains (ky k j) = true) : chS S M (sJ M k j x) := by
  refine ⟨fun a b q => ⟨rfl, ?_⟩, rfl⟩
  rw [gJ_sJ, if_neg]
  rintro ⟨rfl, rfl⟩
  rw [hp] at q
  cases q
theorem chS_cI {S : List Nat} (M : dM) (k q sp dp n : Nat) (hp : ∀ j, S.contains (ky q j) = true) : chS S M (cI M k q sp dp n) := by
  refine ⟨fun a b z => ⟨?_, rfl⟩, rfl⟩
  rw [gI_cI, if_neg]
  rintro ⟨rfl, -, -⟩
  rw [hp] at z
  cases z
/-- one more cell -/
theorem chS.sI {S : List Nat} {M M' : dM} (h : chS S M M') (k j : Nat) (x : Int32) (hp : S.contains (ky k j) = true) : chS S M (sI M' k j x) := h.trans (chS_sI M' k j x hp)
theorem chS.sJ {S : List Nat} {M M' : dM} (h : chS S M M') (k j : Nat) (x : Int64) (hp : S.contains (ky k j) = true) : chS S M (sJ M' k j x) := h.trans (chS_sJ M' k j x hp)
/-! parts -/
def ageI (n : Nat) : Int32 := if n = 0 then -1 else nI (n - 1)
def layN (A : sA) (s : Nat) : Nat → Nat
  | 0 => 0
  | n + 1 => if A 67 (10 * s + n) = 0 then layN A s n else layN A s n ||| 2 ^ n
def wfS (A : sA) : Prop := (∀ j, j < 80 → A 67 j ≤ 10000 ∧ A 117 j ≤ 9) ∧ ∀ a, a < 8 → A 68 (9 * a) = 0 ∧ ∀ b, b < 8 → A 68 (8 * a + b) < 1000 ∧ A 68 (8 * a + b) = A 68 (8 * b + a)
def rcS (A : sA) (M : dM) : Prop := (∀ s, s < 8 → gI M 4 s = nI (layN A s 10)) ∧ (∀ j, j < 80 → (A 67 j ≠ 0 → gI M 2 j = nI (A 67 j - 1)) ∧ gI M 3 j = nI (A 117 j)) ∧ ∀ j, j < 64 → gI M 5 j = nI (A 68 j)
def rmS (A : sA) (M : dM) : Prop := (∀ j, j < 80 → gI M 67 j = ageI (A 67 j) ∧ gI M 117 j = nI (A 117 j)) ∧ ∀ j, j < 64 → gI M 68 j = nI (A 68 j)
def wfF (A : sA) : Prop := A 66 9 ≤ 40 ∧ (∀ i, i < A 66 9 → A 74 i < 8 ∧ A 75 i < 10 ∧ A 76 i < 1000 ∧ A 77 i < 24 ∧ A 78 i < 10 ∧ A 79 i < 256 ∧ A 80 i < 100 ∧ A 67 (10 * A 74 i + A 75 i) ≠ 0) ∧ ∀ i j, i ≤ j → j < A 66 9 → A 76 i ≤ A 76 j
def rcF (A : sA) (M : dM) : Prop := gI M 12 7 = nI (A 66 9) ∧ ∀ i, i < A 66 9 → gI M 13 i = nI (A 74 i) ∧ gI M 14 i = nI (A 75 i) ∧ gI M 15 i = nI (A 76 i) ∧ gI M 16 i = nI (A 77 i) ∧ gI M 17 i = nI (A 78 i) ∧ gI M 18 i = nI (A 79 i) ∧ gI M 19 i = nI (A 80 i)
def rmF (A : sA) (M : dM) : Prop := gI M 66 9 = nI (A 66 9) ∧ ∀ i, i < A 66 9 → gI M 74 i = nI (A 74 i) ∧ gI M 75 i = nI (A 75 i) ∧ gI M 76 i = nI (A 76 i) ∧ gI M 77 i = nI (A 77 i) ∧ gI M 78 i = nI (A 78 i) ∧ gI M 79 i = nI (A 79 i) ∧ gI M 80 i = nI (A 80 i)
def wfE (A : sA) : Prop := A 66 55 ≤ 20 ∧ ∀ i, i < A 66 55 → A 101 i < 10 ∧ A 102 i < 8 ∧ A 103 i < 1000
def rcE (A : sA) (M : dM) : Prop := gI M 12 11 = nI (A 66 55) ∧ ∀ i, i < A 66 55 → gI M 20 i = nI (A 101 i) ∧ gI M 21 i = nI (A 102 i) ∧ gI M 22 i = nI (A 103 i)
def rmE (A : sA) (M : dM) : Prop := gI M 66 55 = nI (A 66 55) ∧ ∀ i, i < A 66 55 → gI M 101 i = nI (A 101 i) ∧ gI M 102 i = nI (A 102 i) ∧ gI M 103 i = nI (A 103 i)
def wfP (A : sA) : Prop := A 66 77 ≤ 40 ∧ ∀ i, i < A 66 77 → A 113 i < 1000
def rcP (A : sA) (M : dM) : Prop := gI M 12 13 = nI (A 66 77) ∧ ∀ i, i < A 66 77 → gI M 23 i = nI (A 113 i)
def rmP (A : sA) (M : dM) : Prop := gI M 66 77 = nI (A 66 77) ∧ ∀ i, i < A 66 77 → gI M 113 i = nI (A 113 i)
def wfG (A : sA) : Prop := A 66 69 ≤ 36 ∧ (∀ i, i < A 66 69 → A 108 i < 12 ∧ A 109 i < 2 ^ A 66 9 ∧ A 110 i < 4096) ∧ ∀ c, c < 12 → fb_ct (fun i => decide (A 108 i = c)) (A 66 69) ≤ 3
def rcG (A : sA) (M : dM) : Prop := gI M 50 4 = nI (A 66 69) ∧ ∀ i, i < A 66 69 → gI M 51 i = nI (A 108 i) ∧ gJ M 52 i = lN (A 109 i) ∧ gI M 53 i = nI (A 110 i)
def rmG (A : sA) (M : dM) : Prop := gI M 66 69 = nI (A 66 69) ∧ ∀ i, i < A 66 69 → gI M 108 i = nI (A 108 i) ∧ gJ M 109 i = lN (A 109 i) ∧ gI M 110 i = nI (A 110 i)
def rcK (A : sA) (M : dM) : Prop := gI M 24 2 = nI (A 66 97) ∧ (∀ p, p < 4 → gI M 26 p = nI (A 130 p)) ∧ ∀ j, j < 20 → gI M 25 j = nI (A 131 j)
def rmK (A : sA) (M : dM) : Prop := gI M 66 97 = nI (A 66 97) ∧ (∀ p, p < 4 → gI M 130 p = nI (A 130 p)) ∧ ∀ j, j < 20 → gI M 131 j = nI (A 131 j)
/-- the hand of each of the first c0 finds is here by the first c1 lines; the first c4 grounds lean on the first c0 finds -/
def cons (A : sA) (c0 c1 c4 : Nat) : Prop := (∀ f, f < c0 → (prs A (A 74 f) (A 76 f) (A 77 f) c1).testBit (A 78 f) = true) ∧ ∀ i, i < c4 → A 109 i < 2 ^ c0
def wfK (A : sA) : Prop := cons A (A 66 9) (A 66 3) (A 66 69) ∧ (∀ p, p < 4 → A 130 p ≤ A 66 97) ∧ (∀ p, p < 4 → A 130 p ≠ 0 → cons A (A 131 (5 * p)) (A 131 (5 * p + 1)) (A 131 (5 * p + 4)) ∧ A 131 (5 * p) ≤ A 66 9 ∧ A 131 (5 * p + 1) ≤ A 66 3 ∧ A 131 (5 * p + 2) ≤ A 66 55 ∧ A 131 (5 * p + 3) ≤ A 66 77 ∧ A 131 (5 * p + 4) ≤ A 66 69) ∧ (∀ p q, p < 4 → q < 4 → A 130 p ≠ 0 → A 130 p ≤ A 130 q → ∀ j, j < 5 → A 131 (5 * p + j) ≤ A 131 (5 * q + j))
def wfT (A : sA) : Prop := A 66 17 ≤ 1000 ∧ ∀ i, i < A 66 17 → A 81 i = 10 ∨ (32 ≤ A 81 i ∧ A 81 i ≤ 126)
def rcT (A : sA) (M : dM) : Prop := gI M 32 1 = nI (A 66 17) ∧ ∀ i, i < A 66 17 → gI M 33 i = nI (A 81 i)
def rmT (A : sA) (M : dM) : Prop := gI M 66 17 = nI (A 66 17) ∧ ∀ i, i < A 66 17 → gI M 81 i = nI (A 81 i)
def wfD (A : sA) : Prop := (∀ i, i < 10 → A 115 i ≤ 9 ∧ A 116 i ≤ 9) ∧ ∀ i, i < 8 → A 118 i ≤ 9 ∧ A 119 i ≤ 9
def rcD (A : sA) (M : dM) : Prop := (∀ i, i < 10 → gI M 57 i = nI (A 115 i) ∧ gI M 58 i = nI (A 116 i)) ∧ ∀ i, i < 8 → gI M 59 i = nI (A 118 i) ∧ gI M 59 (8 + i) = nI (A 119 i)
def rmD (A : sA) (M : dM) : Prop := (∀ i, i < 10 → gI M 115 i = nI (A 115 i) ∧ gI M 116 i = nI (A 116 i)) ∧ ∀ i, i < 8 → gI M 118 i = nI (A 118 i) ∧ gI M 119 i = nI (A 119 i)
def wfA (A : sA) : Prop := wfL A ∧ wfS A ∧ wfF A ∧ wfE A ∧ wfP A ∧ wfG A ∧ wfK A ∧ wfT A ∧ wfD A
def rcA (A : sA) (M : dM) : Prop := rcL A M ∧ rcS A M ∧ rcF A M ∧ rcE A M ∧ rcP A M ∧ rcG A M ∧ rcK A M ∧ rcT A M ∧ rcD A M
def rmA (A : sA) (M : dM) : Prop := rmL A M ∧ rmS A M ∧ rmF A M ∧ rmE A M ∧ rmP A M ∧ rmG A M ∧ rmK A M ∧ rmT A M ∧ rmD A M
def trcL : List Nat := [1605, 7, 8, 9, 10]
def trmL : List Nat := [7603, 69, 70, 71, 72, 73]
def trcS : List Nat := [2, 3, 4, 5]
def trmS : List Nat := [67, 117, 68]
def trcF : List Nat := [2207, 13, 14, 15, 16, 17, 18, 19]
def trmF : List Nat := [7609, 74, 75, 76, 77, 78, 79, 80]
def trcE : List Nat := [2211, 20, 21, 22]
def trmE : List Nat := [7655, 101, 102, 103]
def trcP : List Nat := [2213, 23]
def trmP : List Nat := [7677, 113]
def trcG : List Nat := [6004, 51, 52, 53]
def trmG : List Nat := [7669, 108, 109, 110]
def trcK : List Nat := [3402, 25, 26]
def trmK : List Nat := [7697, 130, 131]
def trcT : List Nat := [4201, 33]
def trmT : List Nat := [7617, 81]
def trcD : List Nat := [57, 58, 59]
def trmD : List Nat := [115, 116, 118, 119]
theorem srcL (A : sA) : supp trcL (rcL A) := by
  intro M M' h _ ⟨h0, h1⟩
  refine ⟨?_, fun i hi => ?_⟩
  · rw [(h 6 5 rfl).1]; exact h0
  · rw [(h 7 i rfl).1]; rw [(h 8 i rfl).1]; rw [(h 9 i rfl).1]; rw [(h 10 i rfl).1]
    exact h1 i hi
theorem srmL (A : sA) : supp trmL (rmL A) := by
  intro M M' h _ ⟨h0, h1⟩
  refine ⟨?_, fun i hi => ?_⟩
  · rw [(h 66 3 rfl).1]; exact h0
  · rw [(h 69 i rfl).1]; rw [(h 70 i rfl).1]; rw [(h 71 i rfl).1]; rw [(h 72 i rfl).1]; rw [(h 73 i rfl).1]
    exact h1 i hi
theorem srcF (A : sA) : supp trcF (rcF A) := by
  intro M M' h _ ⟨h0, h1⟩
  refine ⟨?_, fun i hi => ?_⟩
  · rw [(h 12 7 rfl).1]; exact h0
  · rw [(h 13 i rfl).1]; rw [(h 14 i rfl).1]; rw [(h 15 i rfl).1]; rw [(h 16 i rfl).1]; rw [(h 17 i rfl).1]; rw [(h 18 i rfl).1]; rw [(h 19 i rfl).1]
    exact h1 i hi
theorem srmF (A : sA) : supp trmF (rmF A) := by
  intro M M' h _ ⟨h0, h1⟩
  refine ⟨?_, fun i hi => ?_⟩
  · rw [(h 66 9 rfl).1]; exact h0
  · rw [(h 74 i rfl).1]; rw [(h 75 i rfl).1]; rw [(h 76 i rfl).1]; rw [(h 77 i rfl).1]; rw [(h 78 i rfl).1]; rw [(h 79 i rfl).1]; rw [(h 80 i rfl).1]
    exact h1 i hi
theorem srcE (A : sA) : supp trcE (rcE A) := by
  intro M M' h _ ⟨h0, h1⟩
  refine ⟨?_, fun i hi => ?_⟩
  · rw [(h 12 11 rfl).1]; exact h0
  · rw [(h 20 i rfl).1]; rw [(h 21 i rfl).1]; rw [(h 22 i rfl).1]
    exact h1 i hi
theorem srmE (A : sA) : supp trmE (rmE A) := by
  intro M M' h _ ⟨h0, h1⟩
  refine ⟨?_, fun i hi => ?_⟩
  · rw [(h 66 55 rfl).1]; exact h0
  · rw [(h 101 i rfl).1]; rw [(h 102 i rfl).1]; rw [(h 103 i rfl).1]
    exact h1 i hi
theorem srcP (A : sA) : supp trcP (rcP A) := by
  intro M M' h _ ⟨h0, h1⟩
  refine ⟨?_, fun i hi => ?_⟩
  · rw [(h 12 13 rfl).1]; exact h0
  · rw [(h 23 i rfl).1]
    exact h1 i hi
theorem srmP (A : sA) : supp trmP (rmP A) := by
  intro M M' h _ ⟨h0, h1⟩
  refine ⟨?_, fun i hi => ?_⟩
  · rw [(h 66 77 rfl).1]; exact h0
  · rw [(h 113 i rfl).1]
    exact h1 i hi
theorem srcG (A : sA) : supp trcG (rcG A) := by
  intro M M' h _ ⟨h0, h1⟩
  refine ⟨?_, fun i hi => ?_⟩
  · rw [(h 50 4 rfl).1]; exact h0
  · rw [(h 51 i rfl).1]; rw [(h 52 i rfl).2]; rw [(h 53 i rfl).1]
    exact h1 i hi
theorem srmG (A : sA) : supp trmG (rmG A) := by
  intro M M' h _ ⟨h0, h1⟩
  refine ⟨?_, fun i hi => ?_⟩
  · rw [(h 66 69 rfl).1]; exact h0
  · rw [(h 108 i rfl).1]; rw [(h 109 i rfl).2]; rw [(h 110 i rfl).1]
    exact h1 i hi
theorem srcT (A : sA) : supp trcT (rcT A) := by
  intro M M' h _ ⟨h0, h1⟩
  refine ⟨?_, fun i hi => ?_⟩
  · rw [(h 32 1 rfl).1]; exact h0
  · rw [(h 33 i rfl).1]
    exact h1 i hi
theorem srmT (A : sA) : supp trmT (rmT A) := by
  intro M M' h _ ⟨h0, h1⟩
  refine ⟨?_, fun i hi => ?_⟩
  · rw [(h 66 17 rfl).1]; exact h0
  · rw [(h 81 i rfl).1]
    exact h1 i hi
theorem srcS (A : sA) : supp trcS (rcS A) := by
  intro M M' h _ ⟨h0, h1, h2⟩
  refine ⟨fun i hi => ?_, fun i hi => ?_, fun i hi => ?_⟩
  · rw [(h 4 i rfl).1]; exact h0 i hi
  · rw [(h 2 i rfl).1, (h 3 i rfl).1]; exact h1 i hi
  · rw [(h 5 i rfl).1]; exact h2 i hi
theorem srmS (A : sA) : supp trmS (rmS A) := by
  intro M M' h _ ⟨h1, h2⟩
  refine ⟨fun i hi => ?_, fun i hi => ?_⟩
  · rw [(h 67 i rfl).1, (h 117 i rfl).1]; exact h1 i hi
  · rw [(h 68 i rfl).1]; exact h2 i hi
theorem srcK (A : sA) : supp trcK (rcK A) := by
  intro M M' h _ ⟨h0, h1, h2⟩
  refine ⟨?_, fun i hi => ?_, fun i hi => ?_⟩
  · rw [(h 24 2 rfl).1]; exact h0
  · rw [(h 26 i rfl).1]; exact h1 i hi
  · rw [(h 25 i rfl).1]; exact h2 i hi
theorem srmK (A : sA) : supp trmK (rmK A) := by
  intro M M' h _ ⟨h0, h1, h2⟩
  refine ⟨?_, fun i hi => ?_, fun i hi => ?_⟩
  · rw [(h 66 97 rfl).1]; exact h0
  · rw [(h 130 i rfl).1]; exact h1 i hi
  · rw [(h 131 i rfl).1]; exact h2 i hi
theorem srcD (A : sA) : supp trcD (rcD A) := by
  intro M M' h _ ⟨h1, h2⟩
  refine ⟨fun i hi => ?_, fun i hi => ?_⟩
  · rw [(h 57 i rfl).1, (h 58 i rfl).1]; exact h1 i hi
  · rw [(h 59 i rfl).1, (h 59 (8 + i) rfl).1]; exact h2 i hi
theorem srmD (A : sA) : supp trmD (rmD A) := by
  intro M M' h _ ⟨h1, h2⟩
  refine ⟨fun i hi => ?_, fun i hi => ?_⟩
  · rw [(h 115 i rfl).1, (h 116 i rfl).1]; exact h1 i hi
  · rw [(h 118 i rfl).1, (h 119 i rfl).1]; exact h2 i hi
def trcA : List Nat := trcL ++ (trcS ++ (trcF ++ (trcE ++ (trcP ++ (trcG ++ (trcK ++ (trcT ++ trcD)))))))
def trmA : List Nat := trmL ++ (trmS ++ (trmF ++ (trmE ++ (trmP ++ (trmG ++ (trmK ++ (trmT ++ trmD)))))))
theorem srcA (A : sA) : supp trcA (rcA A) := (srcL A).and ((srcS A).and ((srcF A).and ((srcE A).and ((srcP A).and ((srcG A).and ((srcK A).and ((srcT A).and (srcD A))))))))
theorem srmA (A : sA) : supp trmA (rmA A) := (srmL A).and ((srmS A).and ((srmF A).and ((srmE A).and ((srmP A).and ((srmG A).and ((srmK A).and ((srmT A).and (srmD A))))))))
