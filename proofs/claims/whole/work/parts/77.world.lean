/-! ===== worlds: a thing is found, abstract ===== -/
noncomputable def dI (s : Nat) : Nat → Nat
  | 0 => s
  | k + 1 => drS (dI s k)
theorem dI_lt {s : Nat} (h : s < 2147483648) : ∀ k, dI s k < 2147483648
  | 0 => h
  | _ + 1 => drS_lt _
def sgF (A : sA) (p k : Nat) : Nat := if p = 0 then A 118 k else A 119 k
noncomputable def mkF (A : sA) (p s : Nat) : Nat → Bool := fun k => decide (drV (dI s k) < sgF A p k)
noncomputable def mkN (A : sA) (p s : Nat) : Nat := bsN (mkF A p s) 8
theorem mkN_lt (A : sA) (p s : Nat) : mkN A p s < 256 := bsN_lt _ 8
theorem or1shl {a k : Nat} (hk : k < 8) : nI a ||| ((1 : Int32) <<< (nI k &&& 31)) = nI (a ||| 2 ^ k) := by rw [z_1shl (by omega), z_or]
theorem c_marks6 {A : sA} {s p i h l : Nat} (wD : wfD A) (hp : p < 2) (hs : s < 2147483648) : ∀ (m k : Nat) (M : dM), k + m = 8 → rcD A M → gJ M 56 8 = lN (dI s k) → ∃ M', l_wo_take_6 (nI i) (nI h) (nI l) (nI p) (nI (bsN (mkF A p s) k)) (nI k) M = some (nI (mkN A p s), M') ∧ gJ M' 56 8 = lN (dI s 8) ∧ chS [6608] M M' := by
  intro m
  induction m with
  | zero =>
    intro k M hk r h8
    have e : k = 8 := by omega
    subst e
    refine ⟨M, ?_, h8, chS.refl _ _⟩
    unfold l_wo_take_6
    refine lpc_out ?_
    show b_wo_take_6_6 (nI i) (nI h) (nI l) (nI p) (nI (bsN (mkF A p s) 8)) (nI 8) M = _
    unfold b_wo_take_6_6
    rw [if_pos (show (8 : Int32) ≤ nI 8 from by decide)]
    rfl
  | succ m ih =>
    intro k M hk r h8
    have k1 : chS [6608] M (sJ M 56 8 (lN (drS (dI s k)))) := chS_sJ M 56 8 _ rfl
    have r1 : rcD A (sJ M 56 8 (lN (drS (dI s k)))) := r
    obtain ⟨M', a1, a2, a3⟩ := ih (k + 1) (sJ M 56 8 (lN (drS (dI s k)))) (by omega) r1 (by rw [gJ_sJ, if_pos ⟨rfl, rfl⟩]; rfl)
    refine ⟨M', ?_, a2, k1.trans a3⟩
    unfold l_wo_take_6 at a1 ⊢
    refine lpc_step (s' := (nI (bsN (mkF A p s) (k + 1)), nI (k + 1), sJ M 56 8 (lN (drS (dI s k))))) ?_ a1
    show b_wo_take_6_6 (nI i) (nI h) (nI l) (nI p) (nI (bsN (mkF A p s) k)) (nI k) M = _
    unfold b_wo_take_6_6
    rw [if_neg (show ¬ (8 : Int32) ≤ nI k from z_nle (a := 8) (by omega) (by omega) (by omega)), c_draw (dI_lt hs k) h8, Option.bind_some]
    have hv := drV_lt (dI s k)
    obtain ⟨w1, w2⟩ := wD.2 k (by omega)
    obtain ⟨q1, q2⟩ := r1.2 k (by omega)
    have fin : ∀ y g : Nat, y < 16 → g ≤ 9 → gI (sJ M 56 8 (lN (drS (dI s k)))) 59 y = nI g → g = sgF A p k → b_wo_take_6_36 (nI i) (nI h) (nI l) (nI p) (nI (bsN (mkF A p s) k)) (nI k) (nI (drV (dI s k))) (nI y) (sJ M 56 8 (lN (drS (dI s k)))) = some (Sum.inl (nI (bsN (mkF A p s) (k + 1)), nI (k + 1), sJ M 56 8 (lN (drS (dI s k))))) := fun y g hy hg e1 e2 => by
      unfold b_wo_take_6_36
      rw [z_gd (z_in (n := y) (by omega) (by omega)), z_cl (n := y) (by omega), e1, show nI k + 1 = nI (k + 1) from z_add k 1, or1shl (by omega), bsN_s]
      by_cases c : drV (dI s k) < g
      · rw [if_neg (z_nle (by omega) (by omega) c), if_pos (show mkF A p s k = true from decide_eq_true (by rw [← e2]; exact c))]
      · rw [if_pos (z_yle (by omega) (by omega) (by omega)), if_neg (show ¬ mkF A p s k = true from fun z => c (by rw [e2]; exact of_decide_eq_true z))]
    by_cases c : p = 0
    · subst c
      rw [if_pos (show nI 0 = (0 : Int32) from rfl)]
      exact fin k _ (by omega) w1 q1 rfl
    · rw [if_neg (show ¬ nI p = (0 : Int32) from z_ne (b := 0) (by omega) (by decide) c), show (8 : Int32) + nI k = nI (8 + k) from z_add 8 k]
      exact fin (8 + k) _ (by omega) w2 q2 (by unfold sgF; rw [if_neg c])
theorem c_marks {A : sA} {M : dM} {s p i h l : Nat} (wD : wfD A) (r : rcD A M) (hp : p < 2) (hs : s < 2147483648) (h8 : gJ M 56 8 = lN s) : ∃ M', l_wo_take_6 (nI i) (nI h) (nI l) (nI p) 0 0 M = some (nI (mkN A p s), M') ∧ gJ M' 56 8 = lN (dI s 8) ∧ chS [6608] M M' :=
  c_marks6 wD hp hs 8 0 M rfl r h8
theorem m_marks37 {A : sA} {s p : Nat} (x1 x2 x3 x5 x6 x7 : Int32) (wD : wfD A) (hp : p < 2) (hs : s < 2147483648) : ∀ (m k : Nat) (M : dM), k + m = 8 → rmD A M → gJ M 66 85 = lN (dI s k) → ∃ M', l_mo_takes_37 x1 x2 x3 (nI p) x5 x6 x7 (nI (bsN (mkF A p s) k)) (nI k) M = some (nI (mkN A p s), M') ∧ gJ M' 66 85 = lN (dI s 8) ∧ chS [7685] M M' := by
  intro m
  induction m with
  | zero =>
    intro k M hk r h8
    have e : k = 8 := by omega
    subst e
    refine ⟨M, ?_, h8, chS.refl _ _⟩
    unfold l_mo_takes_37
    refine lpc_out ?_
    show b_mo_takes_37_37 x1 x2 x3 (nI p) x5 x6 x7 (nI (bsN (mkF A p s) 8)) (nI 8) M = _
    unfold b_mo_takes_37_37
    rw [if_pos (show (8 : Int32) ≤ nI 8 from by decide)]
    rfl
  | succ m ih =>
    intro k M hk r h8
    have k1 : chS [7685] M (sJ M 66 85 (lN (drS (dI s k)))) := chS_sJ M 66 85 _ rfl
    have r1 : rmD A (sJ M 66 85 (lN (drS (dI s k)))) := r
    obtain ⟨M', a1, a2, a3⟩ := ih (k + 1) (sJ M 66 85 (lN (drS (dI s k)))) (by omega) r1 (by rw [gJ_sJ, if_pos ⟨rfl, rfl⟩]; rfl)
    refine ⟨M', ?_, a2, k1.trans a3⟩
    unfold l_mo_takes_37 at a1 ⊢
    refine lpc_step (s' := (nI (bsN (mkF A p s) (k + 1)), nI (k + 1), sJ M 66 85 (lN (drS (dI s k))))) ?_ a1
    show b_mo_takes_37_37 x1 x2 x3 (nI p) x5 x6 x7 (nI (bsN (mkF A p s) k)) (nI k) M = _
    unfold b_mo_takes_37_37
    rw [if_neg (show ¬ (8 : Int32) ≤ nI k from z_nle (a := 8) (by omega) (by omega) (by omega)), m_draws (dI_lt hs k) h8, Option.bind_some]
    have hv := drV_lt (dI s k)
    obtain ⟨w1, w2⟩ := wD.2 k (by omega)
    obtain ⟨q1, q2⟩ := r1.2 k (by omega)
    have fin : ∀ g : Nat, g ≤ 9 → g = sgF A p k → b_mo_takes_37_72 x1 x2 x3 (nI p) x5 x6 x7 (nI k) (nI (bsN (mkF A p s) k)) (nI (drV (dI s k))) (nI g) (sJ M 66 85 (lN (drS (dI s k)))) = some (Sum.inl (nI (bsN (mkF A p s) (k + 1)), nI (k + 1), sJ M 66 85 (lN (drS (dI s k))))) := fun g hg e2 => by
      unfold b_mo_takes_37_72
      rw [show nI k + 1 = nI (k + 1) from z_add k 1, or1shl (by omega), bsN_s]
      by_cases c : drV (dI s k) < g
      · rw [if_neg (z_nle (by omega) (by omega) c), if_pos (show mkF A p s k = true from decide_eq_true (by rw [← e2]; exact c))]
      · rw [if_pos (z_yle (by omega) (by omega) (by omega)), if_neg (show ¬ mkF A p s k = true from fun z => c (by rw [e2]; exact of_decide_eq_true z)), show nI (bsN (mkF A p s) k) ||| 0 = nI (bsN (mkF A p s) k ||| 0) from z_or _ 0, Nat.or_zero]
    by_cases c : p = 0
    · subst c
      rw [if_pos (show nI 0 = (0 : Int32) from rfl), z_gd (z_in (n := k) (by omega) (by omega)), z_cl (n := k) (by omega), q1]
      exact fin _ w1 rfl
    · rw [if_neg (show ¬ nI p = (0 : Int32) from z_ne (b := 0) (by omega) (by decide) c), z_gd (z_in (n := k) (by omega) (by omega)), z_cl (n := k) (by omega), q2]
      exact fin _ w2 (by unfold sgF; rw [if_neg c])
theorem m_marks {A : sA} {M : dM} {s p : Nat} (x1 x2 x3 x5 x6 x7 : Int32) (wD : wfD A) (r : rmD A M) (hp : p < 2) (hs : s < 2147483648) (h8 : gJ M 66 85 = lN s) : ∃ M', l_mo_takes_37 x1 x2 x3 (nI p) x5 x6 x7 0 0 M = some (nI (mkN A p s), M') ∧ gJ M' 66 85 = lN (dI s 8) ∧ chS [7685] M M' :=
  m_marks37 x1 x2 x3 x5 x6 x7 wD hp hs 8 0 M rfl r h8
