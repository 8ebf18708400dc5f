/-! ===== how it begins ===== -/
def fRl (l : List (Nat × Nat × Nat)) : mz_R := l.foldl (fun R q => mz_uR R q.1 q.2.1 (some q.2.2)) (fun _ _ => none)
theorem fR_eq {l1 l2 : List (Nat × Nat × Nat)} (h : (l1 ++ l2).all (fun q => decide (fRl l1 q.1 q.2.1 = fRl l2 q.1 q.2.1)) = true) : fRl l1 = fRl l2 := by
  funext a b
  by_cases c : ∃ q ∈ l1 ++ l2, a = q.1 ∧ b = q.2.1
  · obtain ⟨q, hq, rfl, rfl⟩ := c
    exact of_decide_eq_true (List.all_eq_true.mp h q hq)
  · have h1 : fRl l1 a b = none := fR_none l1 _ (fun q hq z => c ⟨q, List.mem_append.mpr (Or.inl hq), z⟩)
    have h2 : fRl l2 a b = none := fR_none l2 _ (fun q hq z => c ⟨q, List.mem_append.mpr (Or.inr hq), z⟩)
    rw [h1, h2]
set_option maxRecDepth 100000 in
theorem kcR_fin : kcR 143 = RR 0 := by
  have h1 : kcR 143 = fRl (kcS.take 143) := rfl
  have h2 : RR 0 = fRl (R0l ++ [(32, 10, 1000000)]) := by
    unfold fRl
    rw [List.foldl_append]
    rfl
  rw [h1, h2]
  exact fR_eq (by decide +kernel)
theorem kcL_fin : kcL 133 = LL := by decide +kernel
def iM0 : dM := (kcI 90, kcJ, 0)
def iA0 : sA := fun _ _ => 0
def iQ0 : sQ := fun _ => none
def iv0 : Nat → Nat := fun k => if k = 2 then 3 else if k = 3 then 100 else 0
theorem ikz (k : Nat) (h : (kcN.take 90).all (fun q => !(Nat.beq k q.1)) = true) (j : Nat) : gI iM0 k j = 0 := by
  refine fI_none (kcN.take 90) (fun _ _ => 0) (fun q hq z => ?_)
  have h1 := List.all_eq_true.mp h q hq
  rw [z.1, Nat.beq_refl] at h1
  cases h1
theorem ik67 : ∀ j, j < 80 → gI iM0 67 j = -1 := by decide +kernel
theorem ilayN0 (s : Nat) : ∀ n, layN iA0 s n = 0
  | 0 => rfl
  | n + 1 => by
    have ih := ilayN0 s n
    show (if iA0 67 (10 * s + n) = 0 then layN iA0 s n else layN iA0 s n ||| 2 ^ n) = 0
    rw [if_pos (show iA0 67 (10 * s + n) = 0 from rfl), ih]
theorem ino0 {p : Nat → Prop} : ∀ i, i < 0 → p i := fun i h => absurd h (Nat.not_lt_zero i)
theorem iwf0 : wfA iA0 := by
  refine ⟨⟨by decide, ino0⟩, ⟨fun j _ => ⟨Nat.zero_le _, Nat.zero_le _⟩, fun a _ => ⟨rfl, fun b _ => ⟨show (0:Nat) < 1000 from by decide, rfl⟩⟩⟩, ⟨by decide, ino0, fun i j _ h => absurd h (Nat.not_lt_zero j)⟩, ⟨by decide, ino0⟩, ⟨by decide, ino0⟩, ⟨by decide, ino0, fun c _ => Nat.zero_le _⟩, ⟨⟨ino0, ino0⟩, fun p _ => Nat.le_refl _, fun p _ h => absurd rfl h, fun p q _ _ h => absurd rfl h⟩, ⟨by decide, ino0⟩, ⟨fun i _ => ⟨Nat.zero_le _, Nat.zero_le _⟩, fun i _ => ⟨Nat.zero_le _, Nat.zero_le _⟩⟩⟩
theorem irc0 : rcA iA0 iM0 := by
  have z := fun k h j => ikz k h j
  refine ⟨⟨by decide +kernel, ino0⟩, ⟨fun s _ => by rw [ilayN0]; exact ikz 4 (by decide +kernel) s, fun j _ => ⟨fun h => absurd rfl h, ikz 3 (by decide +kernel) j⟩, fun j _ => ikz 5 (by decide +kernel) j⟩, ⟨by decide +kernel, ino0⟩, ⟨by decide +kernel, ino0⟩, ⟨by decide +kernel, ino0⟩, ⟨by decide +kernel, ino0⟩, ⟨by decide +kernel, fun p _ => ikz 26 (by decide +kernel) p, fun j _ => ikz 25 (by decide +kernel) j⟩, ⟨by decide +kernel, ino0⟩, ⟨fun i _ => ⟨ikz 57 (by decide +kernel) i, ikz 58 (by decide +kernel) i⟩, fun i _ => ⟨ikz 59 (by decide +kernel) i, ikz 59 (by decide +kernel) (8 + i)⟩⟩⟩
theorem irm0 : rmA iA0 iM0 := by
  refine ⟨⟨by decide +kernel, ino0⟩, ⟨fun j hj => ⟨ik67 j hj, ikz 117 (by decide +kernel) j⟩, fun j _ => ikz 68 (by decide +kernel) j⟩, ⟨by decide +kernel, ino0⟩, ⟨by decide +kernel, ino0⟩, ⟨by decide +kernel, ino0⟩, ⟨by decide +kernel, ino0⟩, ⟨by decide +kernel, fun p _ => ikz 130 (by decide +kernel) p, fun j _ => ikz 131 (by decide +kernel) j⟩, ⟨by decide +kernel, ino0⟩, ⟨fun i _ => ⟨ikz 115 (by decide +kernel) i, ikz 116 (by decide +kernel) i⟩, fun i _ => ⟨ikz 118 (by decide +kernel) i, ikz 119 (by decide +kernel) i⟩⟩⟩
theorem iwq0 : wQ iQ0 iv0 := by
  refine ⟨fun l a r b c D _ h => (by cases h), fun l _ => ⟨fun h => absurd rfl h, fun h => absurd h (Nat.not_lt_zero l)⟩, fun l _ => ⟨fun h => absurd rfl h, fun h => absurd h (Nat.not_lt_zero l)⟩, by decide, by decide, by decide, by decide, by decide, by decide⟩
theorem icw0 : rcW iQ0 iv0 iM0 := by
  refine ⟨⟨by decide +kernel, by decide +kernel, by decide +kernel, by decide +kernel⟩, fun l _ => ⟨fun _ => ⟨ikz 29 (by decide +kernel) l, ikz 30 (by decide +kernel) l⟩, fun a r b c D h => by cases h⟩⟩
theorem imw0 : rmW iQ0 iv0 iM0 := by
  refine ⟨⟨by decide +kernel, by decide +kernel⟩, fun l _ => ⟨fun _ => ikz 82 (by decide +kernel) l, fun a r b c D h => by cases h⟩⟩
theorem inv0 : INV 0 iA0 iQ0 iv0 iM0 := by
  refine inv_mk iwf0 irc0 irm0 iwq0 icw0 imw0 (caA_fresh ⟨?_, ?_, ?_, ?_, ?_, ?_⟩ (Or.inl ?_)) (Nat.le_refl 0) <;> decide +kernel
