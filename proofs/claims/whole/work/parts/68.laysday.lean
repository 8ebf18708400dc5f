/-! ===== the day of enough: the reference's facts of a day ===== -/
def mxR (A : sA) (m : Nat) : Nat → Nat
  | 0 => 0
  | f + 1 => if hbF A (A 78 f) m ≤ mxR A m f then mxR A m f else hbF A (A 78 f) m
theorem mxR_ub (A : sA) (m B : Nat) (h : ∀ f, f < m → hbF A (A 78 f) m ≤ B) : ∀ k, k ≤ m → mxR A m k ≤ B
  | 0, _ => Nat.zero_le _
  | f + 1, hk => by
    have h1 := mxR_ub A m B h f (by omega)
    have h2 := h f (by omega)
    show (if _ then _ else _) ≤ B
    split <;> assumption
theorem mxR_lb (A : sA) (m : Nat) : ∀ k f, f < k → hbF A (A 78 f) m ≤ mxR A m k
  | 0, f, h => absurd h (Nat.not_lt_zero _)
  | k + 1, f, h => by
    show _ ≤ (if hbF A (A 78 k) m ≤ mxR A m k then mxR A m k else hbF A (A 78 k) m)
    by_cases e : f = k
    · subst e
      split
      · assumption
      · exact Nat.le_refl _
    · have := mxR_lb A m k f (by omega)
      split <;> omega
theorem mxC_ub (A : sA) (B : Nat) : ∀ m, (∀ f, f < m → hbF A (A 78 f) (f + 1) ≤ B) → mxC A m ≤ B
  | 0, _ => Nat.zero_le _
  | f + 1, h => by
    have h1 := mxC_ub A B f (fun g hg => h g (by omega))
    have h2 := h f (by omega)
    show (if _ then _ else _) ≤ B
    split <;> assumption
theorem mxC_lb (A : sA) : ∀ m f, f < m → hbF A (A 78 f) (f + 1) ≤ mxC A m
  | 0, f, h => absurd h (Nat.not_lt_zero _)
  | k + 1, f, h => by
    show _ ≤ (if mxC A k < hbF A (A 78 k) (k + 1) then hbF A (A 78 k) (k + 1) else mxC A k)
    by_cases e : f = k
    · subst e
      split <;> omega
    · have := mxC_lb A k f (by omega)
      split <;> omega
/-- the last find of a hand among the first m -/
theorem hb_last (A : sA) (b : Nat) : ∀ m, hbF A b m = 0 ∨ ∃ f, f < m ∧ A 78 f = b ∧ hbF A b m = hbF A b (f + 1)
  | 0 => Or.inl rfl
  | m + 1 => by
    by_cases c : A 78 m = b
    · exact Or.inr ⟨m, by omega, c, rfl⟩
    · have e : hbF A b (m + 1) = hbF A b m := by
        unfold hbF
        rw [fb_ct_succ, if_neg (by rw [decide_eq_false c]; exact Bool.false_ne_true)]; rfl
      rw [e]
      rcases hb_last A b m with h | ⟨f, h1, h2, h3⟩
      · exact Or.inl h
      · exact Or.inr ⟨f, by omega, h2, h3⟩
theorem mx_same (A : sA) (m : Nat) : mxR A m m = mxC A m := by
  refine Nat.le_antisymm ?_ ?_
  · refine mxR_ub A m _ (fun f hf => ?_) m (Nat.le_refl _)
    rcases hb_last A (A 78 f) m with h | ⟨g, h1, h2, h3⟩
    · omega
    · rw [h3, ← h2]
      exact mxC_lb A m g h1
  · refine mxC_ub A _ m (fun f hf => ?_)
    refine Nat.le_trans ?_ (mxR_lb A m m f hf)
    exact fb_ct_mono _ (by omega)
def k5M (M M' : dM) : Prop := chS [100] M M' ∧ ∀ j, j ≠ 5 → gI M' 100 j = gI M 100 j
theorem m_56 {A : sA} {far d m x2 T : Nat} (w : wfA A) (hfar : far ≤ 999) (hd : d < 1000) (hp : pfx A d m) (hx : x2 < m) : ∀ (n x4 : Nat) (M : dM), x4 + n = A 66 9 → rmA A M → gI M 66 33 = nI far → gI M 100 5 = nI (T + fb_ct (fun g => tw A far x2 g) (min x4 x2)) → ∃ M', l_mo_laysDay_56 (nI d) (nI x2) (nI (hbF A (A 78 x2) (min x4 m))) (nI x4) M = some (nI (hbF A (A 78 x2) m), M') ∧ gI M' 100 5 = nI (T + fb_ct (fun g => tw A far x2 g) x2) ∧ k5M M M' := by
  have hn := w.2.2.1.1
  have hm := hp.1
  intro n
  induction n with
  | zero =>
    intro x4 M hx4 rm h33 h5
    have e : x4 = A 66 9 := by omega
    subst e
    rw [Nat.min_eq_right (show x2 ≤ A 66 9 by omega)] at h5
    rw [Nat.min_eq_right hm]
    refine ⟨M, ?_, h5, chS.refl _ _, fun _ _ => rfl⟩
    unfold l_mo_laysDay_56
    refine lpc_out ?_
    show b_mo_laysDay_56_56 (nI d) (nI x2) _ (nI (A 66 9)) M = _
    unfold b_mo_laysDay_56_56
    rw [rm.2.2.1.1, if_pos (z_yle (by omega) (by omega) (Nat.le_refl _))]
  | succ n ih =>
    intro x4 M hx4 rm h33 h5
    have hxn : x4 < A 66 9 := by omega
    obtain ⟨e1, e2, e3, e4, e5, e6, e7⟩ := rm.2.2.1.2 x4 hxn
    have f5 := (rm.2.2.1.2 x2 (by omega)).2.2.2.2.1
    have q3 := (w.2.2.1.2.1 x4 hxn).2.2.1
    have q5 := (w.2.2.1.2.1 x4 hxn).2.2.2.2.1
    have q5' := (w.2.2.1.2.1 x2 (by omega)).2.2.2.2.1
    have ea : nI x4 + 1 = nI (x4 + 1) := z_add x4 1
    have step : ∃ M1, b_mo_laysDay_56_56 (nI d) (nI x2) (nI (hbF A (A 78 x2) (min x4 m))) (nI x4) M = some (.inl (nI (hbF A (A 78 x2) (min (x4 + 1) m)), nI (x4 + 1), M1)) ∧ gI M1 100 5 = nI (T + fb_ct (fun g => tw A far x2 g) (min (x4 + 1) x2)) ∧ k5M M M1 := by
      unfold b_mo_laysDay_56_56
      rw [rm.2.2.1.1, if_neg (z_nle (by omega) (by omega) hxn), z_gd (z_in (n := x4) (by omega) (by omega)), z_cl (n := x4) (by omega), e3, e5, z_gd (z_in (n := x2) (by omega) (by omega)), z_cl (n := x2) (by omega), f5, ea]
      by_cases c : x4 < m
      · have c' : A 76 x4 ≤ d := (hp.2 x4 hxn).mpr c
        rw [if_pos (z_yle (by omega) (by omega) c')]
        have eh : hbF A (A 78 x2) (min (x4 + 1) m) = hbF A (A 78 x2) (min x4 m) + (if A 78 x4 = A 78 x2 then 1 else 0) := by
          rw [Nat.min_eq_left (show x4 + 1 ≤ m by omega), Nat.min_eq_left (show x4 ≤ m by omega)]
          unfold hbF
          rw [fb_ct_succ]
          by_cases z : A 78 x4 = A 78 x2
          · rw [if_pos (decide_eq_true z), if_pos z]
          · rw [if_neg (by rw [decide_eq_false z]; exact Bool.false_ne_true), if_neg z]
        have g101 : ∀ y : Nat, ∃ M1, b_mo_laysDay_56_101 (nI d) (nI x2) (nI x4) (nI (hbF A (A 78 x2) (min x4 m))) (nI y) M = some (.inl (nI (hbF A (A 78 x2) (min x4 m) + y), nI (x4 + 1), M1)) ∧ gI M1 100 5 = nI (T + fb_ct (fun g => tw A far x2 g) (min (x4 + 1) x2)) ∧ k5M M M1 := fun y => by
          unfold b_mo_laysDay_56_101 b_mo_laysDay_56_130 b_mo_laysDay_56_131
          have c5 : (5 : Int32).toNatClampNeg = 5 := rfl
          have g5 : (vp_in (5 : Int32) 20) = True := z_in (n := 5) (by omega) (by omega)
          rw [ea, h5, z_add, c5]
          have out : ∀ t : Nat, t = T + fb_ct (fun g => tw A far x2 g) (min (x4 + 1) x2) → gI (sI M 100 5 (nI t)) 100 5 = nI (T + fb_ct (fun g => tw A far x2 g) (min (x4 + 1) x2)) ∧ k5M M (sI M 100 5 (nI t)) := fun t ht => by
            subst ht
            exact ⟨by rw [gI_sI, if_pos ⟨rfl, rfl⟩], chS_sI M 100 5 _ rfl, fun j hj => by rw [gI_sI, if_neg (by omega)]⟩
          by_cases z : x2 ≤ x4
          · refine ⟨sI M 100 5 (nI (T + fb_ct (fun g => tw A far x2 g) (min x4 x2))), ?_, out _ (by rw [Nat.min_eq_right z, Nat.min_eq_right (show x2 ≤ x4 + 1 by omega)])⟩
            rw [if_pos (z_yle (by omega) (by omega) z), z_gd g5, show nI (T + fb_ct (fun g => tw A far x2 g) (min x4 x2)) + 0 = nI (T + fb_ct (fun g => tw A far x2 g) (min x4 x2)) from z_add _ 0]
          · rw [if_neg (z_nle (by omega) (by omega) (by omega)), m_isTwin w rm h33 hfar (by omega) hxn, Option.bind_some]
            have em : fb_ct (fun g => tw A far x2 g) (min (x4 + 1) x2) = fb_ct (fun g => tw A far x2 g) (min x4 x2) + (if tw A far x2 x4 = true then 1 else 0) := by
              rw [Nat.min_eq_left (show x4 + 1 ≤ x2 by omega), Nat.min_eq_left (show x4 ≤ x2 by omega), fb_ct_succ]
            by_cases t : tw A far x2 x4 = true
            · refine ⟨sI M 100 5 (nI (T + fb_ct (fun g => tw A far x2 g) (min x4 x2) + 1)), ?_, out _ (by rw [em, if_pos t]; rfl)⟩
              rw [if_pos t, z_gd g5, show nI (T + fb_ct (fun g => tw A far x2 g) (min x4 x2)) + 1 = nI (T + fb_ct (fun g => tw A far x2 g) (min x4 x2) + 1) from z_add _ 1]
            · refine ⟨sI M 100 5 (nI (T + fb_ct (fun g => tw A far x2 g) (min x4 x2))), ?_, out _ (by rw [em, if_neg t]; rfl)⟩
              rw [if_neg t, z_gd g5, show nI (T + fb_ct (fun g => tw A far x2 g) (min x4 x2)) + 0 = nI (T + fb_ct (fun g => tw A far x2 g) (min x4 x2)) from z_add _ 0]
        rw [eh]
        by_cases z : A 78 x4 = A 78 x2
        · rw [if_pos (show nI (A 78 x4) = nI (A 78 x2) from by rw [z]), if_pos z]
          exact g101 1
        · rw [if_neg (z_ne (by omega) (by omega) z), if_neg z]
          exact g101 0
      · have c' : ¬ A 76 x4 ≤ d := fun z => c ((hp.2 x4 hxn).mp z)
        refine ⟨M, ?_, ?_, chS.refl _ _, fun _ _ => rfl⟩
        · rw [if_neg (z_nle (by omega) (by omega) (by omega)), Nat.min_eq_right (show m ≤ x4 by omega), Nat.min_eq_right (show m ≤ x4 + 1 by omega)]
        · rw [h5, Nat.min_eq_right (show x2 ≤ x4 by omega), Nat.min_eq_right (show x2 ≤ x4 + 1 by omega)]
    obtain ⟨M1, a1, a2, a3, a4⟩ := step
    obtain ⟨M2, b1, b2, b3, b4⟩ := ih (x4 + 1) M1 (by omega) ((srmA A).use rm a3 (by decide +kernel)) ((a3.I 66 33 rfl).trans h33) a2
    refine ⟨M2, ?_, b2, a3.trans b3, fun j hj => (b4 j hj).trans (a4 j hj)⟩
    unfold l_mo_laysDay_56 at b1 ⊢
    exact lpc_step (s' := (nI (hbF A (A 78 x2) (min (x4 + 1) m)), nI (x4 + 1), M1)) a1 b1
