/-! ===== worlds: one hand lays one thing ===== -/
abbrev wV := Nat × (Nat → Nat) × (Nat → Nat)
def wfV (A : sA) (V : wV) : Prop := V.1 < 2147483648 ∧ ∀ s, s < 8 → V.2.1 s ≤ 9 ∧ ∀ j, j < V.2.1 s → V.2.2 (9 * s + j) < 10 ∧ lay0 A (10 * s + V.2.2 (9 * s + j)) = true
def rcV (V : wV) (M : dM) : Prop := gJ M 56 8 = lN V.1 ∧ ∀ s, s < 8 → gI M 61 s = nI (V.2.1 s) ∧ ∀ j, j < V.2.1 s → gI M 60 (9 * s + j) = nI (V.2.2 (9 * s + j))
def rmV (V : wV) (M : dM) : Prop := gJ M 66 85 = lN V.1 ∧ ∀ s, s < 8 → gI M 121 s = nI (V.2.1 s) ∧ ∀ j, j < V.2.1 s → gI M 120 (9 * s + j) = nI (V.2.2 (9 * s + j))
def adW (A : sA) (st : Nat) (sd dv : Nat) (V : wV) : wV := (sd, fun s => if s = st then V.2.1 s + 1 else V.2.1 s, fun j => if j = 9 * st + V.2.1 st then klF A st (dv % laC A st 10) else V.2.2 j)
def ptW (A : sA) (i h : Nat) (V : wV) : wV :=
  if (alL A i).testBit h = true then
    (if drV V.1 < A 116 (A 69 i) ∧ V.2.1 (A 70 i) < 9 ∧ laC A (A 70 i) 10 ≠ 0 then adW A (A 70 i) (drS (drS V.1)) (drV (drS V.1)) V else (drS V.1, V.2))
  else V
theorem adW_wf {A : sA} {V : wV} (h : wfV A V) {st sd dv : Nat} (hsd : sd < 2147483648) (hs : st < 8) (h9 : V.2.1 st < 9) (h0 : laC A st 10 ≠ 0) : wfV A (adW A st sd dv V) := by
  obtain ⟨k1, k2, k3⟩ := klF_ok (A := A) (s := st) (k := dv % laC A st 10) (Nat.mod_lt _ (by omega))
  refine ⟨hsd, fun s hs' => ?_⟩
  obtain ⟨h1, h2⟩ := h.2 s hs'
  show (if s = st then V.2.1 s + 1 else V.2.1 s) ≤ 9 ∧ ∀ j, j < (if s = st then V.2.1 s + 1 else V.2.1 s) → (if 9 * s + j = 9 * st + V.2.1 st then klF A st (dv % laC A st 10) else V.2.2 (9 * s + j)) < 10 ∧ lay0 A (10 * s + (if 9 * s + j = 9 * st + V.2.1 st then klF A st (dv % laC A st 10) else V.2.2 (9 * s + j))) = true
  by_cases e : s = st
  · subst e
    rw [if_pos rfl]
    refine ⟨by omega, fun j hj => ?_⟩
    by_cases ej : j = V.2.1 s
    · rw [if_pos (by omega)]
      exact ⟨k1, k2⟩
    · rw [if_neg (by omega)]
      exact h2 j (by omega)
  · rw [if_neg e]
    refine ⟨h1, fun j hj => ?_⟩
    rw [if_neg (by omega)]
    exact h2 j hj
theorem ptW_wf {A : sA} {V : wV} (w : wfL A) (h : wfV A V) {i : Nat} (hi : i < A 66 3) (x : Nat) : wfV A (ptW A i x V) := by
  have hs : A 70 i < 8 := (w.2 i hi).2.1
  unfold ptW
  split
  · split
    · rename_i c
      exact adW_wf h (drS_lt _) hs c.2.1 c.2.2
    · exact ⟨drS_lt _, h.2⟩
  · exact h
def kWc : List Nat := [6608, 60, 61]
def kWm : List Nat := [7685, 120, 121]
theorem z_krem {a m : Nat} (ha : a < 2147483648) (hm : m < 2147483648) (h0 : 0 < m) : nI a - nI a / nI m * nI m = nI (a % m) := pk_rem ha h0 hm
theorem c_drawLayer {A : sA} {M : dM} (rc : rcA A M) {s sd : Nat} (hs : s < 8) (hsd : sd < 2147483648) (h : gJ M 56 8 = lN sd) : f_wo_drawLayer (nI s) M = if laC A s 10 = 0 then some (-1, M) else some (nI (klF A s (drV sd % laC A s 10)), sJ M 56 8 (lN (drS sd))) := by
  have hle : laC A s 10 ≤ 10 := fb_ct_le _ _
  have hv := drV_lt sd
  unfold f_wo_drawLayer
  rw [c_layersAt rc hs, Option.bind_some]
  by_cases c : laC A s 10 = 0
  · rw [if_pos (show nI _ ≤ (0 : Int32) from z_yle (b := 0) (by omega) (by decide) (by omega)), if_pos c]
  · have hm : drV sd % laC A s 10 < laC A s 10 := Nat.mod_lt _ (by omega)
    have rc1 := (srcA A).use rc (chS_sJ (S := [6608]) M 56 8 (lN (drS sd)) rfl) (by decide +kernel)
    rw [if_neg (show ¬ nI _ ≤ (0 : Int32) from z_nle (b := 0) (by omega) (by decide) (by omega)), if_neg c, c_draw hsd h, Option.bind_some, gd_t (show ¬ nI (laC A s 10) = 0 from z_ne (b := 0) (by omega) (by decide) c), z_krem (by omega) (by omega) (by omega), c_layerOf rc1 hs hm, Option.bind_some]
