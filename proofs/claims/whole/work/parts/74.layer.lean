/-! ===== worlds: the layer that is drawn ===== -/
def klF (A : sA) (s k : Nat) : Nat := kth (fun l => lay0 A (10 * s + l)) k 10
theorem klF_ok {A : sA} {s k : Nat} (h : k < laC A s 10) : klF A s k < 10 ∧ lay0 A (10 * s + klF A s k) = true ∧ laC A s (klF A s k) = k := kth_ok 10 h
theorem laC_s (A : sA) (s l : Nat) : laC A s (l + 1) = laC A s l + (if lay0 A (10 * s + l) = true then 1 else 0) := fb_ct_succ _ _
theorem laC_one {A : sA} {s i j : Nat} (hi : lay0 A (10 * s + i) = true) (hj : lay0 A (10 * s + j) = true) (e : laC A s i = laC A s j) : i = j := fb_ct_kth_one (p := fun l => lay0 A (10 * s + l)) hi hj e
theorem c_layerOf {A : sA} {M : dM} (rc : rcA A M) {s k : Nat} (hs : s < 8) (hk : k < laC A s 10) : f_si_layerOfNumber (nI s) (nI k) M = some (nI (klF A s k)) := by
  obtain ⟨k1, k2, k3⟩ := klF_ok hk
  have hle : ∀ l, laC A s l ≤ l := fun l => fb_ct_le _ _
  have loop : ∀ d l, l + d = klF A s k → l_si_layerOfNumber_5 (nI s) (nI k) (nI (laC A s l)) (nI l) M = some (nI (klF A s k)) := by
    intro d
    induction d with
    | zero =>
      intro l hl
      have e : l = klF A s k := by omega
      rw [e]
      unfold l_si_layerOfNumber_5
      refine lpc_out ?_
      show b_si_layerOfNumber_5_5 (nI s) (nI k) (nI (laC A s (klF A s k))) (nI (klF A s k)) M = _
      unfold b_si_layerOfNumber_5_5
      rw [if_neg (show ¬ (10 : Int32) ≤ nI _ from z_nle (a := 10) (by decide) (by omega) (by omega)), c_isTold rc.2.1 hs k1, Option.bind_some, if_pos (show decide _ = true from k2), if_pos (by rw [k3])]
    | succ d ih =>
      intro l hl
      have hm : laC A s l ≤ laC A s (klF A s k) := fb_ct_mono _ (by omega)
      have hlk := hle l
      have hl10 := hle 10
      have ih' := ih (l + 1) (by omega)
      unfold l_si_layerOfNumber_5 at ih' ⊢
      refine lpc_step (s' := (nI (laC A s (l + 1)), nI (l + 1))) ?_ ih'
      show b_si_layerOfNumber_5_5 (nI s) (nI k) (nI (laC A s l)) (nI l) M = _
      unfold b_si_layerOfNumber_5_5
      rw [if_neg (show ¬ (10 : Int32) ≤ nI l from z_nle (a := 10) (by decide) (by omega) (by omega)), c_isTold rc.2.1 hs (show l < 10 by omega), Option.bind_some, laC_s, show nI l + 1 = nI (l + 1) from z_add l 1, show nI (laC A s l) + 1 = nI (laC A s l + 1) from z_add _ 1]
      by_cases c : lay0 A (10 * s + l) = true
      · have hne : laC A s l ≠ k := fun z => by
          have := laC_one c k2 (z.trans k3.symm)
          omega
        rw [if_pos (show decide _ = true from c), if_neg (z_ne (by omega) (by omega) hne), if_pos c]
      · rw [if_neg (show ¬ decide _ = true from c), if_neg c]
        rfl
  have l0 := loop (klF A s k) 0 (Nat.zero_add _)
  have l0' : l_si_layerOfNumber_5 (nI s) (nI k) 0 0 M = some (nI (klF A s k)) := l0
  unfold f_si_layerOfNumber
  rw [l0', Option.bind_some]
theorem i_sub0 (a b : Int32) : (a - b = 0) = (a = b) := propext ⟨fun h => by
  have := Int32.sub_add_cancel a b
  rw [h, Int32.zero_add] at this
  exact this.symm, fun h => by rw [h, Int32.sub_self]⟩
theorem i_subs (a : Int32) (n : Nat) : a - nI n + (-1) = a - nI (n + 1) := by
  rw [show nI (n + 1) = nI n + 1 from (z_add n 1).symm, Int32.sub_eq_add_neg, Int32.sub_eq_add_neg, Int32.neg_add, Int32.add_assoc, Int32.sub_eq_add_neg]
theorem m_layer16 {A : sA} {M : dM} (w : wfA A) (rm : rmA A M) {s k : Nat} (hs : s < 8) (hk : k < laC A s 10) : l_mo_drawsLayer_16 (nI s) (nI k) (-1) 0 M = some (nI (klF A s k), M) := by
  obtain ⟨k1, k2, k3⟩ := klF_ok hk
  have hle : ∀ l, laC A s l ≤ l := fun l => fb_ct_le _ _
  have hl10 := hle 10
  have e0 : l_mo_drawsLayer_16 (nI s) (nI k) (-1) 0 M = l_mo_drawsLayer_16 (nI s) (nI k - nI (laC A s 0)) (if klF A s k < 0 then nI (klF A s k) else -1) (nI 0) M := by
    rw [if_neg (Nat.not_lt_zero _), show nI (laC A s 0) = (0 : Int32) from rfl, Int32.sub_zero]
    rfl
  rw [e0]
  unfold l_mo_drawsLayer_16
  refine lpc_seq (body := fun q : Int32 × Int32 × Int32 => b_mo_drawsLayer_16_16 (nI s) q.1 q.2.1 q.2.2 M) (fun l => (nI k - nI (laC A s l), if klF A s k < l then nI (klF A s k) else -1, nI l)) 10 ?_ ?_
  · intro l hl
    show b_mo_drawsLayer_16_16 (nI s) (nI k - nI (laC A s l)) (if klF A s k < l then nI (klF A s k) else -1) (nI l) M = some (.inl (nI k - nI (laC A s (l + 1)), if klF A s k < l + 1 then nI (klF A s k) else -1, nI (l + 1)))
    have h1 := (w.2.1.1 (10 * s + l) (by omega)).1
    have hll := hle l
    have ei : (10 : Int32) * nI s + nI l = nI (10 * s + l) := by rw [show (10 : Int32) = nI 10 from rfl, z_mul, z_add]
    unfold b_mo_drawsLayer_16_16
    rw [if_neg (show ¬ (10 : Int32) ≤ nI l from z_nle (a := 10) (by decide) (by omega) (by omega)), ei, z_gd (z_in (n := 10 * s + l) (by omega) (by omega)), z_cl (n := 10 * s + l) (by omega), (rm.2.1.1 (10 * s + l) (by omega)).1, show nI l + 1 = nI (l + 1) from z_add l 1, laC_s]
    by_cases c : lay0 A (10 * s + l) = true
    · have c0 : A 67 (10 * s + l) ≠ 0 := of_decide_eq_true c
      have p0 : (0 : Int32) ≤ ageI (A 67 (10 * s + l)) := by
        rw [ageI_pos c0, show (0 : Int32) = nI 0 from rfl, z_le (by omega) (by omega)]
        omega
      rw [if_pos p0, if_pos c, i_subs]
      by_cases z : k = laC A s l
      · have el : l = klF A s k := laC_one c k2 (z.symm.trans k3.symm)
        rw [if_pos (by rw [i_sub0, z]), if_pos (show klF A s k < l + 1 by omega), ← el]
      · have el : ¬ l = klF A s k := fun e => z (by rw [e, k3])
        rw [if_neg (by rw [i_sub0]; exact z_ne (by omega) (by omega) z)]
        by_cases q : klF A s k < l
        · rw [if_pos q, if_pos (by omega)]
        · rw [if_neg q, if_neg (by omega)]
    · have c0 : A 67 (10 * s + l) = 0 := by
        by_cases z : A 67 (10 * s + l) = 0
        · exact z
        · exact absurd (decide_eq_true z) c
      have p0 : ¬ (0 : Int32) ≤ ageI (A 67 (10 * s + l)) := by
        rw [c0]; decide
      have el : ¬ l = klF A s k := fun e => by rw [e] at c; exact c k2
      rw [if_neg p0, if_neg c]
      by_cases q : klF A s k < l
      · rw [if_pos q, if_pos (by omega)]; rfl
      · rw [if_neg q, if_neg (by omega)]; rfl
  · show b_mo_drawsLayer_16_16 (nI s) (nI k - nI (laC A s 10)) (if klF A s k < 10 then nI (klF A s k) else -1) (nI 10) M = _
    unfold b_mo_drawsLayer_16_16
    rw [if_pos (show (10 : Int32) ≤ nI 10 from by decide), if_pos k1]
