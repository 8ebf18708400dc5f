/-! ===== the facts of a day ===== -/
def hbF (A : sA) (b m : Nat) : Nat := fb_ct (fun g => decide (A 78 g = b)) m
def twS (A : sA) (far : Nat) : Nat → Nat
  | 0 => 0
  | f + 1 => twS A far f + fb_ct (fun g => tw A far f g) f
def mxC (A : sA) : Nat → Nat
  | 0 => 0
  | f + 1 => if mxC A f < hbF A (A 78 f) (f + 1) then hbF A (A 78 f) (f + 1) else mxC A f
noncomputable def dfc (A : sA) (Q : sQ) (v : Nat → Nat) (d m k : Nat) : Nat := if k = 0 then d else if k = 1 then m else if k = 2 then fb_ct (fun f => decide (eaF A Q (v 3) f = 2)) m else if k = 3 then fb_ct (fun f => decide (eaF A Q (v 3) f = 1)) m else if k = 4 then twS A (v 3) m else if k = 5 then mxC A m else if k = 6 then fb_ct (fun f => decide (0 < fc A (v 3) f 14)) m else fb_ct (fun i => decide (A 113 i ≤ d)) (A 66 77)
theorem mxC_le (A : sA) : ∀ m, mxC A m ≤ m
  | 0 => Nat.le_refl _
  | f + 1 => by
    have h1 := mxC_le A f
    have h2 : hbF A (A 78 f) (f + 1) ≤ f + 1 := fb_ct_le _ _
    show (if _ then _ else _) ≤ _
    split <;> omega
theorem twS_le (A : sA) (far : Nat) : ∀ m, m ≤ 40 → twS A far m ≤ m * 40
  | 0, _ => Nat.le_refl _
  | f + 1, h => by
    have h1 := twS_le A far f (by omega)
    have h2 := fb_ct_le (fun g => tw A far f g) f
    show twS A far f + _ ≤ _
    omega
/-- the class' cells of the first m finds -/
def ciD (A : sA) (Q : sQ) (v : Nat → Nat) (m : Nat) (M : dM) : Prop := (∀ k, 1 ≤ k → k < 7 → gI M 43 k = nI (dfc A Q v 0 m k)) ∧ ∀ b, b < 10 → gI M 44 b = nI (hbF A b m)
theorem twB_low {A : sA} {far f n : Nat} (hf : f < n) : twB A far f n &&& (2 ^ f - 1) = bsN (fun g => tw A far f g) f := nat_bits fun b => by
  rw [Nat.testBit_and, twB_bit, Nat.testBit_two_pow_sub_one, bsN_bit]
  by_cases c : b < f
  · rw [decide_eq_true c, decide_eq_true (show b < n by omega), Bool.true_and, Bool.and_true]
  · rw [decide_eq_false c, Bool.and_false, Bool.false_and]
theorem pc_bsN {p : Nat → Bool} {f : Nat} (hf : f ≤ 40) : pc (bsN p f) 40 = fb_ct p f := by
  rw [pc_ext (n := bsN p f) (m := f) (bsN_lt _ _) hf]
  exact fb_ct_cong (fun k hk => by
    show (bsN p f).testBit k = p k
    rw [bsN_bit, decide_eq_true hk, Bool.true_and])
theorem c_addDay {A : sA} {Q : sQ} {v : Nat → Nat} {M : dM} (w : wfA A) (rc : rcA A M) (j : rcJ A Q (v 3) M) {f : Nat} (hf : f < A 66 9) (h : ciD A Q v f M) : ∃ M', f_ju_addToDay (nI f) M = some M' ∧ ciD A Q v (f + 1) M' ∧ chS [43, 44] M M' ∧ gI M' 43 0 = gI M 43 0 ∧ gI M' 43 7 = gI M 43 7 := by
  have hn := w.2.2.1.1
  obtain ⟨q1, q2, q3, q4, q5, q6, q7, q8⟩ := w.2.2.1.2.1 f hf
  obtain ⟨j1, j2, j3⟩ := j f hf
  have e17 : gI M 17 f = nI (A 78 f) := (rc.2.2.1.2 f hf).2.2.2.2.1
  have j14 := j1 14 (by decide)
  have f14 := fc14 A (v 3) f
  have hj : eaF A Q (v 3) f < 3 := jdg_lt Q _
  have hb1 := h.1 1 (by decide) (by decide)
  have hb2 := h.1 2 (by decide) (by decide)
  have hb3 := h.1 3 (by decide) (by decide)
  have hb4 := h.1 4 (by decide) (by decide)
  have hb5 := h.1 5 (by decide) (by decide)
  have hb6 := h.1 6 (by decide) (by decide)
  have hh := h.2 (A 78 f) q5
  have ecl : (nI f).toNatClampNeg = f := z_cl (by omega)
  have ecl2 : (nI (A 78 f)).toNatClampNeg = A 78 f := z_cl (by omega)
  have em14 : nI f * 17 + 14 = nI (f * 17 + 14) := by rw [show (17 : Int32) = nI 17 from rfl, z_mul, show (14 : Int32) = nI 14 from rfl, z_add]
  have h2f : (0 : Nat) < 2 ^ f := Nat.pow_pos (by decide)
  have h240 : (2 : Nat) ^ f ≤ 2 ^ 40 := Nat.pow_le_pow_right (by decide) (by omega)
  have htwl : twB A (v 3) f (A 66 9) < 2 ^ 40 := Nat.lt_of_lt_of_le (twB_lt A (v 3) f _) (Nat.pow_le_pow_right (by decide) hn)
  have hbl : bsN (fun g => tw A (v 3) f g) f < 2 ^ 40 := Nat.lt_of_lt_of_le (bsN_lt _ _) h240
  have ebc : ∀ N : dM, gJ N 42 f = lN (twB A (v 3) f (A 66 9)) → f_jd_bitCount_95d88 (gJ N 42 f &&& (((1 : Int64) <<< ((nI f).toInt64 &&& 63)) - 1)) = nI (fb_ct (fun g => tw A (v 3) f g) f) := fun N hN => by
    rw [hN, z_1shlL (by omega), show (1 : Int64) = lN 1 from rfl, z_lsub (by omega), z_land (by omega) (by omega), twB_low hf, z_bcL (by omega), pc_bsN (by omega)]
  -- the last steps
  have t56 : ∀ (N : dM) (y : Int32), gI N 43 3 + y = nI (dfc A Q v 0 (f + 1) 3) → chS [43, 44] M N → (∀ k, 1 ≤ k → k < 3 → gI N 43 k = nI (dfc A Q v 0 (f + 1) k)) → (∀ k, (k = 0 ∨ 3 ≤ k) → gI N 43 k = gI M 43 k) → (∀ b, gI N 44 b = gI M 44 b) → ∃ M', t_ju_addToDay_56 (nI f) 3 (gI N 43 3) y N = some M' ∧ ciD A Q v (f + 1) M' ∧ chS [43, 44] M M' ∧ gI M' 43 0 = gI M 43 0 ∧ gI M' 43 7 = gI M 43 7 := by
    intro N y hy cN h12 h47 h44
    unfold t_ju_addToDay_56 t_ju_addToDay_151
    rw [z_gd (show (vp_in (3 : Int32) 8) = True from z_in (n := 3) (by omega) (by omega)), z_gd (z_in (n := f) (by omega) (by omega)), hy, ecl]
    have c3 : (3 : Int32).toNatClampNeg = 3 := rfl
    rw [c3]
    generalize hN1 : sI N 43 3 (nI (dfc A Q v 0 (f + 1) 3)) = N1
    have k1 : chS [43, 44] M N1 := by rw [← hN1]; exact cN.sI 43 3 _ rfl
    have a43 : ∀ k, k ≠ 3 → gI N1 43 k = gI N 43 k := fun k hk => by rw [← hN1, gI_sI, if_neg (by omega)]
    have a433 : gI N1 43 3 = nI (dfc A Q v 0 (f + 1) 3) := by rw [← hN1, gI_sI, if_pos ⟨rfl, rfl⟩]
    have a44 : ∀ b, gI N1 44 b = gI M 44 b := fun b => by rw [← hN1, gI_sI, if_neg (by omega)]; exact h44 b
    rw [ebc N1 ((k1.J 42 f rfl).trans j3), a43 4 (by decide), h47 4 (Or.inr (by decide)), hb4, show nI (dfc A Q v 0 f 4) + nI (fb_ct (fun g => tw A (v 3) f g) f) = nI (dfc A Q v 0 (f + 1) 4) from z_add _ _]
    generalize hN2 : sI N1 43 4 (nI (dfc A Q v 0 (f + 1) 4)) = N2
    have k2 : chS [43, 44] M N2 := by rw [← hN2]; exact k1.sI 43 4 _ rfl
    have b44 : ∀ b, gI N2 44 b = gI M 44 b := fun b => by rw [← hN2, gI_sI, if_neg (by omega)]; exact a44 b
    have h1 : hbF A (A 78 f) f + 1 = hbF A (A 78 f) (f + 1) := by
      unfold hbF
      rw [fb_ct_succ, if_pos (decide_eq_true rfl)]
    rw [k2.I 17 f rfl, e17, ecl2, b44, hh, show nI (hbF A (A 78 f) f) + 1 = nI (hbF A (A 78 f) (f + 1)) from by rw [← h1]; exact z_add _ 1]
    generalize hN3 : sI N2 44 (A 78 f) (nI (hbF A (A 78 f) (f + 1))) = N3
    have k3 : chS [43, 44] M N3 := by rw [← hN3]; exact k2.sI 44 _ _ rfl
    have c5 : gI N3 43 5 = nI (mxC A f) := by
      rw [← hN3, gI_sI, if_neg (by omega), ← hN2, gI_sI, if_neg (by omega), a43 5 (by decide), h47 5 (Or.inr (by decide))]
      exact hb5
    have c44 : gI N3 44 (A 78 f) = nI (hbF A (A 78 f) (f + 1)) := by rw [← hN3, gI_sI, if_pos ⟨rfl, rfl⟩]
    have l1 := mxC_le A f
    have l2 : hbF A (A 78 f) (f + 1) ≤ f + 1 := fb_ct_le _ _
    have emx : (if nI (mxC A f) < nI (hbF A (A 78 f) (f + 1)) then nI (hbF A (A 78 f) (f + 1)) else nI (mxC A f)) = nI (mxC A (f + 1)) := by
      show _ = nI (if mxC A f < hbF A (A 78 f) (f + 1) then hbF A (A 78 f) (f + 1) else mxC A f)
      by_cases c : mxC A f < hbF A (A 78 f) (f + 1)
      · rw [if_pos (show nI _ < nI _ from by rw [z_lt (by omega) (by omega)]; exact c), if_pos c]
      · rw [if_neg (show ¬ nI _ < nI _ from by rw [z_lt (by omega) (by omega)]; exact c), if_neg c]
    rw [c5, c44, emx]
    generalize hN4 : sI N3 43 5 (nI (mxC A (f + 1))) = N4
    have k4 : chS [43, 44] M N4 := by rw [← hN4]; exact k3.sI 43 5 _ rfl
    have d6 : gI N4 43 6 = nI (dfc A Q v 0 f 6) := by
      rw [← hN4, gI_sI, if_neg (by omega), ← hN3, gI_sI, if_neg (by omega), ← hN2, gI_sI, if_neg (by omega), a43 6 (by decide), h47 6 (Or.inr (by decide))]
      exact hb6
    have d14 : gI N4 40 (f * 17 + 14) = nI (fc A (v 3) f 14) := (k4.I 40 _ rfl).trans j14
    have c6 : (6 : Int32).toNatClampNeg = 6 := rfl
    rw [em14, z_gd (z_in (n := A 78 f) (by omega) (by omega)), z_gd (z_in (n := f * 17 + 14) (by omega) (by omega)), z_cl (n := f * 17 + 14) (by omega), d14, z_gd (show (vp_in (6 : Int32) 8) = True from z_in (n := 6) (by omega) (by omega)), z_gd (show (vp_in (6 : Int32) 8) = True from z_in (n := 6) (by omega) (by omega)), c6, d6]
    have fin : ∀ x : Nat, x = dfc A Q v 0 (f + 1) 6 → ∃ M', some (sI N4 43 6 (nI x)) = some M' ∧ ciD A Q v (f + 1) M' ∧ chS [43, 44] M M' ∧ gI M' 43 0 = gI M 43 0 ∧ gI M' 43 7 = gI M 43 7 := fun x hx => by
      subst hx
      have lo : ∀ k, k ≠ 6 → k ≠ 5 → k ≠ 4 → gI (sI N4 43 6 (nI (dfc A Q v 0 (f + 1) 6))) 43 k = gI N1 43 k := fun k e1 e2 e3 => by
        rw [gI_sI, if_neg (by omega), ← hN4, gI_sI, if_neg (by omega), ← hN3, gI_sI, if_neg (by omega), ← hN2, gI_sI, if_neg (by omega)]
      refine ⟨_, rfl, ⟨fun k hk1 hk2 => ?_, fun b hb => ?_⟩, k4.sI 43 6 _ rfl, ?_, ?_⟩
      · by_cases e6 : k = 6
        · subst e6; rw [gI_sI, if_pos ⟨rfl, rfl⟩]
        by_cases e5 : k = 5
        · subst e5; rw [gI_sI, if_neg (by omega), ← hN4, gI_sI, if_pos ⟨rfl, rfl⟩]; rfl
        by_cases e4 : k = 4
        · subst e4; rw [gI_sI, if_neg (by omega), ← hN4, gI_sI, if_neg (by omega), ← hN3, gI_sI, if_neg (by omega), ← hN2, gI_sI, if_pos ⟨rfl, rfl⟩]
        rw [lo k e6 e5 e4]
        by_cases e3 : k = 3
        · subst e3; exact a433
        · rw [a43 k e3]; exact h12 k hk1 (by omega)
      · rw [gI_sI, if_neg (by omega), ← hN4, gI_sI, if_neg (by omega), ← hN3, gI_sI]
        by_cases eb : b = A 78 f
        · subst eb; rw [if_pos ⟨rfl, rfl⟩]
        · rw [if_neg (fun z => eb z.2), b44, h.2 b hb]
          unfold hbF
          rw [fb_ct_succ, if_neg (by rw [decide_eq_false (fun z => eb z.symm)]; exact Bool.false_ne_true)]
          rfl
      · rw [lo 0 (by decide) (by decide) (by decide), a43 0 (by decide)]; exact h47 0 (Or.inl rfl)
      · rw [lo 7 (by decide) (by decide) (by decide), a43 7 (by decide)]; exact h47 7 (Or.inr (by decide))
    have e6 : dfc A Q v 0 (f + 1) 6 = dfc A Q v 0 f 6 + (if 0 < fc A (v 3) f 14 then 1 else 0) := by
      show fb_ct _ (f + 1) = fb_ct _ f + _
      rw [fb_ct_succ]
      by_cases z : 0 < fc A (v 3) f 14
      · rw [if_pos (decide_eq_true z), if_pos z]
      · rw [if_neg (by rw [decide_eq_false z]; exact Bool.false_ne_true), if_neg z]
    by_cases z : 0 < fc A (v 3) f 14
    · rw [if_neg (show ¬ nI (fc A (v 3) f 14) ≤ (0 : Int32) from z_nle (b := 0) (by omega) (by decide) z), show nI (dfc A Q v 0 f 6) + 1 = nI (dfc A Q v 0 f 6 + 1) from z_add _ 1]
      exact fin _ (by rw [e6, if_pos z])
    · rw [if_pos (show nI (fc A (v 3) f 14) ≤ (0 : Int32) from z_yle (b := 0) (by omega) (by decide) (by omega)), show nI (dfc A Q v 0 f 6) + 0 = nI (dfc A Q v 0 f 6 + 0) from z_add _ 0]
      exact fin _ (by rw [e6, if_neg z])
  have e3s : dfc A Q v 0 (f + 1) 3 = dfc A Q v 0 f 3 + (if eaF A Q (v 3) f = 1 then 1 else 0) := by
    show fb_ct _ (f + 1) = fb_ct _ f + _
    rw [fb_ct_succ]
    by_cases z : eaF A Q (v 3) f = 1
    · rw [if_pos (decide_eq_true z), if_pos z]
    · rw [if_neg (by rw [decide_eq_false z]; exact Bool.false_ne_true), if_neg z]
  have e2s : dfc A Q v 0 (f + 1) 2 = dfc A Q v 0 f 2 + (if eaF A Q (v 3) f = 2 then 1 else 0) := by
    show fb_ct _ (f + 1) = fb_ct _ f + _
    rw [fb_ct_succ]
    by_cases z : eaF A Q (v 3) f = 2
    · rw [if_pos (decide_eq_true z), if_pos z]
    · rw [if_neg (by rw [decide_eq_false z]; exact Bool.false_ne_true), if_neg z]
  have c2 : (2 : Int32).toNatClampNeg = 2 := rfl
  -- the second step
  have t32 : ∀ (N : dM) (y : Int32), gI N 43 2 + y = nI (dfc A Q v 0 (f + 1) 2) → chS [43, 44] M N → gI N 43 1 = nI (dfc A Q v 0 (f + 1) 1) → (∀ k, (k = 0 ∨ 2 ≤ k) → gI N 43 k = gI M 43 k) → (∀ b, gI N 44 b = gI M 44 b) → ∃ M', t_ju_addToDay_32 (nI f) 2 (gI N 43 2) y N = some M' ∧ ciD A Q v (f + 1) M' ∧ chS [43, 44] M M' ∧ gI M' 43 0 = gI M 43 0 ∧ gI M' 43 7 = gI M 43 7 := by
    intro N y hy cN h1 h47 h44
    unfold t_ju_addToDay_32
    rw [z_gd (show (vp_in (2 : Int32) 8) = True from z_in (n := 2) (by omega) (by omega)), z_gd (z_in (n := f) (by omega) (by omega)), hy, ecl, c2]
    generalize hN1 : sI N 43 2 (nI (dfc A Q v 0 (f + 1) 2)) = N1
    have k1 : chS [43, 44] M N1 := by rw [← hN1]; exact cN.sI 43 2 _ rfl
    have a43 : ∀ k, k ≠ 2 → gI N1 43 k = gI N 43 k := fun k hk => by rw [← hN1, gI_sI, if_neg (by omega)]
    have x3 : gI N1 43 3 = nI (dfc A Q v 0 f 3) := by rw [a43 3 (by decide), h47 3 (Or.inr (by decide))]; exact hb3
    have go : ∀ y : Int32, gI N1 43 3 + y = nI (dfc A Q v 0 (f + 1) 3) → ∃ M', t_ju_addToDay_56 (nI f) 3 (gI N1 43 3) y N1 = some M' ∧ ciD A Q v (f + 1) M' ∧ chS [43, 44] M M' ∧ gI M' 43 0 = gI M 43 0 ∧ gI M' 43 7 = gI M 43 7 := fun y hy => t56 N1 y hy k1 (fun k hk1 hk2 => by
        by_cases e : k = 2
        · subst e; rw [← hN1, gI_sI, if_pos ⟨rfl, rfl⟩]
        · have : k = 1 := by omega
          subst this
          rw [a43 1 (by decide)]; exact h1) (fun k hk => by rw [a43 k (by omega)]; exact h47 k (by omega)) (fun b => by rw [← hN1, gI_sI, if_neg (by omega)]; exact h44 b)
    rw [(k1.I 41 f rfl).trans j2]
    by_cases z : eaF A Q (v 3) f = 1
    · rw [if_pos (show nI _ = (1 : Int32) from by rw [z]; rfl)]
      exact go 1 (by rw [x3, e3s, if_pos z]; exact z_add _ 1)
    · rw [if_neg (show ¬ nI _ = (1 : Int32) from z_ne (b := 1) (by omega) (by decide) z)]
      exact go 0 (by rw [x3, e3s, if_neg z]; exact z_add _ 0)
  unfold f_ju_addToDay
  rw [z_gd (z_in (n := f) (by omega) (by omega)), ecl, hb1, show nI (dfc A Q v 0 f 1) + 1 = nI (dfc A Q v 0 (f + 1) 1) from z_add _ 1]
  generalize hN1 : sI M 43 1 (nI (dfc A Q v 0 (f + 1) 1)) = N1
  have k1 : chS [43, 44] M N1 := by rw [← hN1]; exact chS_sI M 43 1 _ rfl
  have a43 : ∀ k, k ≠ 1 → gI N1 43 k = gI M 43 k := fun k hk => by rw [← hN1, gI_sI, if_neg (by omega)]
  have x2 : gI N1 43 2 = nI (dfc A Q v 0 f 2) := by rw [a43 2 (by decide)]; exact hb2
  have go : ∀ y : Int32, gI N1 43 2 + y = nI (dfc A Q v 0 (f + 1) 2) → ∃ M', t_ju_addToDay_32 (nI f) 2 (gI N1 43 2) y N1 = some M' ∧ ciD A Q v (f + 1) M' ∧ chS [43, 44] M M' ∧ gI M' 43 0 = gI M 43 0 ∧ gI M' 43 7 = gI M 43 7 := fun y hy => t32 N1 y hy k1 (by rw [← hN1, gI_sI, if_pos ⟨rfl, rfl⟩]) (fun k hk => a43 k (by omega)) (fun b => by rw [← hN1, gI_sI, if_neg (by omega)])
  rw [(k1.I 41 f rfl).trans j2]
  by_cases z : eaF A Q (v 3) f = 2
  · rw [if_pos (show nI _ = (2 : Int32) from by rw [z]; rfl)]
    exact go 1 (by rw [x2, e2s, if_pos z]; exact z_add _ 1)
  · rw [if_neg (show ¬ nI _ = (2 : Int32) from z_ne (b := 2) (by omega) (by decide) z)]
    exact go 0 (by rw [x2, e2s, if_neg z]; exact z_add _ 0)
