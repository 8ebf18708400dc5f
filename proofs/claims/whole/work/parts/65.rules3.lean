/-! ===== rules: the call ===== -/
theorem m_sa2 {A : sA} {Q : sQ} {v : Nat → Nat} (w : wfA A) (wq : wQ Q v) {s : Nat} (hs : s < 256) (hR : andn s (rdF Q) = 0) : ∀ (d f : Nat) (M : dM), f + d = A 66 9 → rgM A Q v M → (∀ g, g < f → rkB A Q v g = true → ruF A Q v g &&& s ≠ 0) → ∃ M', l_mo_stopsAll_2 (nI s) (nI f) M = some (saB A Q v s, M') ∧ chS kEa M M' := by
  have hn := w.2.2.1.1
  intro d
  induction d with
  | zero =>
    intro f M hf g hh
    have e : f = A 66 9 := by omega
    subst e
    refine ⟨M, ?_, chS.refl _ _⟩
    rw [saB_t hh]
    unfold l_mo_stopsAll_2
    refine lpc_out ?_
    show b_mo_stopsAll_2_2 (nI s) (nI (A 66 9)) M = _
    unfold b_mo_stopsAll_2_2
    rw [g.1.2.2.1.1, if_pos (z_yle (by omega) (by omega) (Nat.le_refl _))]
  | succ d ih =>
    intro f M hf g hh
    have hfn : f < A 66 9 := by omega
    have hdu : duF A Q v < 2 ^ 40 := Nat.lt_of_lt_of_le (bsN_lt _ _) (Nat.pow_le_pow_right (by decide) hn)
    have e1 : nI f + 1 = nI (f + 1) := z_add f 1
    have hcan : canF A (v 2) f < 1024 := canF_lt w.1 (v 2) f
    have ext : ∀ M1 : dM, rgM A Q v M1 → (rkB A Q v f = true → ruF A Q v f &&& s ≠ 0) → ∃ M', l_mo_stopsAll_2 (nI s) (nI (f + 1)) M1 = some (saB A Q v s, M') ∧ chS kEa M1 M' := fun M1 g1 h1 => ih (f + 1) M1 (by omega) g1 (fun x hx hk => by
      by_cases e : x = f
      · subst e; exact h1 hk
      · exact hh x (by omega) hk)
    by_cases c1 : (duF A Q v).testBit f = true
    · by_cases c2 : canF A (v 2) f = 0
      · have z : rkB A Q v f = false := by unfold rkB; rw [decide_eq_true c2]; simp
        obtain ⟨M2, b1, b2⟩ := ext M g (fun h => by rw [z] at h; cases h)
        refine ⟨M2, ?_, b2⟩
        unfold l_mo_stopsAll_2 at b1 ⊢
        refine lpc_step (s' := (nI (f + 1), M)) ?_ b1
        show b_mo_stopsAll_2_2 (nI s) (nI f) M = _
        unfold b_mo_stopsAll_2_2
        rw [g.1.2.2.1.1, if_neg (z_nle (by omega) (by omega) hfn), g.2.2.2, if_neg (by rw [z_bitL0 (by omega) (by omega)]; exact fun h => h c1), z_gd (z_in (n := f) (by omega) (by omega)), z_cl (n := f) (by omega), (g.2.2.1 f hfn).2.1, if_pos (show nI _ = (0 : Int32) from by rw [c2]; rfl), e1]
      · have z : rkB A Q v f = true := by unfold rkB; rw [decide_eq_false c2, c1]; rfl
        obtain ⟨M1, a1, a2⟩ := m_sa40 w wq hs hR hfn 8 0 M rfl g
        have a1' : l_mo_stopsAll_40 (nI s) (nI f) 0 0 M = some (if ruF A Q v f &&& s = 0 then 0 else 1, M1) := by
          rw [← a1, show s &&& (2 ^ 0 - 1) = 0 from Nat.and_zero s, Nat.and_zero, if_pos rfl]
          rfl
        have hb : b_mo_stopsAll_2_2 (nI s) (nI f) M = if ruF A Q v f &&& s = 0 then some (.inr (false, M1)) else some (.inl (nI (f + 1), M1)) := by
          unfold b_mo_stopsAll_2_2
          rw [g.1.2.2.1.1, if_neg (z_nle (by omega) (by omega) hfn), g.2.2.2, if_neg (by rw [z_bitL0 (by omega) (by omega)]; exact fun h => h c1), z_gd (z_in (n := f) (by omega) (by omega)), z_cl (n := f) (by omega), (g.2.2.1 f hfn).2.1, if_neg (show ¬ nI _ = (0 : Int32) from z_ne (b := 0) (by omega) (by decide) c2), e1, a1', Option.bind_some]
          by_cases c : ruF A Q v f &&& s = 0
          · rw [if_pos c, if_pos c, if_pos rfl]
          · rw [if_neg c, if_neg c, if_neg (show ¬ (1 : Int32) = 0 from by decide)]
        by_cases c : ruF A Q v f &&& s = 0
        · rw [if_pos c] at hb
          refine ⟨M1, ?_, a2⟩
          rw [saB_f (fun h => h f hfn z c)]
          unfold l_mo_stopsAll_2
          exact lpc_out hb
        · rw [if_neg c] at hb
          obtain ⟨M2, b1, b2⟩ := ext M1 (rgM_k g a2) (fun _ => c)
          refine ⟨M2, ?_, a2.trans b2⟩
          unfold l_mo_stopsAll_2 at b1 ⊢
          exact lpc_step (s' := (nI (f + 1), M1)) hb b1
    · have z : rkB A Q v f = false := by unfold rkB; rw [Bool.eq_false_iff.mpr c1]; rfl
      obtain ⟨M2, b1, b2⟩ := ext M g (fun h => by rw [z] at h; cases h)
      refine ⟨M2, ?_, b2⟩
      unfold l_mo_stopsAll_2 at b1 ⊢
      refine lpc_step (s' := (nI (f + 1), M)) ?_ b1
      show b_mo_stopsAll_2_2 (nI s) (nI f) M = _
      unfold b_mo_stopsAll_2_2
      rw [g.1.2.2.1.1, if_neg (z_nle (by omega) (by omega) hfn), g.2.2.2, if_pos (by rw [z_bitL0 (by omega) (by omega)]; exact c1), e1]
theorem m_stopsAll {A : sA} {Q : sQ} {v : Nat → Nat} {M : dM} (w : wfA A) (wq : wQ Q v) {s : Nat} (hs : s < 256) (hR : andn s (rdF Q) = 0) (g : rgM A Q v M) : ∃ M', f_mo_stopsAll (nI s) M = some (saB A Q v s, M') ∧ chS kEa M M' := by
  obtain ⟨M1, a1, a2⟩ := m_sa2 w wq hs hR (A 66 9) 0 M (Nat.zero_add _) g (fun _ h => absurd h (Nat.not_lt_zero _))
  have a1' : l_mo_stopsAll_2 (nI s) 0 M = some (saB A Q v s, M1) := a1
  refine ⟨M1, ?_, a2⟩
  unfold f_mo_stopsAll
  rw [a1', Option.bind_some]
theorem m_24 {A : sA} {Q : sQ} {v : Nat → Nat} (w : wfA A) (wq : wQ Q v) (x1 : Int32) {N : Nat} (hN : N = 256) : ∀ (d s : Nat) (M : dM), s + d = N → rgM A Q v M → ∃ M', l_mo_rules_24 x1 (opI (bsF (saB A Q v) s)) (nI s) M = some (opI (bsF (saB A Q v) N), M') ∧ chS kEa M M' := by
  intro d
  induction d with
  | zero =>
    intro s M hs g
    have e : s = N := by omega
    rw [e]
    refine ⟨M, ?_, chS.refl _ _⟩
    unfold l_mo_rules_24
    refine lpc_out ?_
    show b_mo_rules_24_24 x1 (opI (bsF (saB A Q v) N)) (nI N) M = _
    unfold b_mo_rules_24_24
    rw [if_pos (show (256 : Int32) ≤ nI N from by rw [hN]; decide)]
  | succ d ih =>
    intro s M hs0 g
    have hs : s < 256 := by omega
    have e1 : nI s + 1 = nI (s + 1) := z_add s 1
    have han : andn s (rdF Q) < 256 := Nat.lt_of_le_of_lt (by
      have : andn s (rdF Q) < 2 ^ 8 := andn_le _ hs
      exact Nat.le_refl _) (andn_le (n := 8) _ hs)
    have hx := fun x (hx : bsF (saB A Q v) s = some x) => (Nat.lt_trans (bsF_lt _ _ _ hx) hs)
    have step : ∃ M1, b_mo_rules_24_24 x1 (opI (bsF (saB A Q v) s)) (nI s) M = some (.inl (opI (bsp (saB A Q v) (bsF (saB A Q v) s) s), nI (s + 1), M1)) ∧ chS kEa M M1 := by
      unfold b_mo_rules_24_24
      rw [if_neg (show ¬ (256 : Int32) ≤ nI s from z_nle (a := 256) (by decide) (by omega) (by omega)), m_ruled g.2.1, Option.bind_some, z_andn]
      by_cases c : andn s (rdF Q) = 0
      · rw [if_pos (show nI _ = (0 : Int32) from by rw [c]; rfl)]
        obtain ⟨M1, a1, a2⟩ := m_stopsAll w wq hs c g
        have go : ∀ b : Option Nat, b_mo_rules_24_57 x1 (opI b) (nI s) M = some (.inl (if saB A Q v s = true then nI s else opI b, nI (s + 1), M1)) := fun b => by
          unfold b_mo_rules_24_57
          rw [a1, Option.bind_some, e1]
          split <;> rfl
        cases hb : bsF (saB A Q v) s with
        | none =>
          refine ⟨M1, ?_, a2⟩
          rw [if_pos (show opI none < 0 from by decide), go]
          show _ = (some (Sum.inl (opI (if saB A Q v s = true then some s else none), nI (s + 1), M1)) : Option ((Int32 × Int32 × dM) ⊕ (Int32 × dM)))
          split <;> rfl
        | some x =>
          have hx' := hx x hb
          have r1 := rb8_le x
          have r2 := rb8_le s
          rw [if_neg (show ¬ opI (some x) < 0 from by
            show ¬ nI x < (0 : Int32)
            rw [show (0 : Int32) = nI 0 from rfl, z_lt (by omega) (by omega)]; omega), mb8 hs, Option.bind_some]
          have em : f_mo_bits (opI (some x)) = some (nI (rb8 x)) := mb8 hx'
          rw [em, Option.bind_some]
          by_cases c2 : rb8 x ≤ rb8 s
          · refine ⟨M, ?_, chS.refl _ _⟩
            rw [if_pos (z_yle (by omega) (by omega) c2), e1]
            show _ = (some (Sum.inl (opI (if rb8 x ≤ rb8 s then some x else if saB A Q v s = true then some s else some x), nI (s + 1), M)) : Option ((Int32 × Int32 × dM) ⊕ (Int32 × dM)))
            rw [if_pos c2]
          · refine ⟨M1, ?_, a2⟩
            rw [if_neg (z_nle (by omega) (by omega) (by omega)), go]
            show _ = (some (Sum.inl (opI (if rb8 x ≤ rb8 s then some x else if saB A Q v s = true then some s else some x), nI (s + 1), M1)) : Option ((Int32 × Int32 × dM) ⊕ (Int32 × dM)))
            rw [if_neg c2]
            split <;> rfl
      · refine ⟨M, ?_, chS.refl _ _⟩
        rw [if_neg (show ¬ nI _ = (0 : Int32) from z_ne (b := 0) (by omega) (by decide) c), bsp_skip hs saB_R c, e1]
    obtain ⟨M1, a1, a2⟩ := step
    obtain ⟨M2, b1, b2⟩ := ih (s + 1) M1 (by omega) (rgM_k g a2)
    refine ⟨M2, ?_, a2.trans b2⟩
    unfold l_mo_rules_24 at b1 ⊢
    exact lpc_step (s' := (opI (bsp (saB A Q v) (bsF (saB A Q v) s) s), nI (s + 1), M1)) a1 b1
theorem op_rules {A : sA} {Q : sQ} {v : Nat → Nat} {M : dM} (h : IV A Q v M) (x : Int32) : opV (kQ ++ [49]) A Q v M (fun b M2 => ∃ M1, f_ax_rules x M = some (b, M1) ∧ f_mo_rules x M1 = some (b, M2)) := by
  unfold f_ax_rules f_mo_rules
  have e1 : f_mo_within x 0 1 = f_ax_within x 2 := z_mw0 x (n := 1) (by decide)
  rw [e1]
  by_cases zx : f_ax_within x 2 = true
  case neg =>
    rw [if_neg zx]
    exact opV_no rfl h (x := 0) (b := -1) ⟨M, rfl, by rw [if_neg zx]⟩
  obtain ⟨M1, a1, a2, a3, a4, a5, a6⟩ := iv_study h (Or.inr rfl : (2 : Nat) = 1 ∨ (2 : Nat) = 2)
  have a1' : f_ax_study 2 M = some M1 := a1
  obtain ⟨N, hN⟩ : ∃ N : Nat, N = 256 := ⟨256, rfl⟩
  obtain ⟨M2, b1, b2, b3⟩ := c_least4 a2.1 a2.2.2.2.1 (A 66 9) 0 M1 (Nat.zero_add _) a2.2.1 a2.2.2.2.2.1 a4 (a5 rfl) (fun _ h => absurd h (Nat.not_lt_zero _))
  have b1' : l_sy_leastRules_4 0 0 M1 = some (nI (fb_ct (rkB A Q v) (A 66 9)), M2) := b1
  have h59 := c_least59 (M := M2) a2.1 b3 hN
  have i2 := iv_keep a2 b2 (by decide +kernel)
  have i20 := iv_0 i2 0
  obtain ⟨M3, d1, d2, d3, d4, d5⟩ := m_knows i20.1 i20.2.2.1 i20.2.2.2.1 i20.2.2.2.2.2.1
  have i3 := iv_keep i20 d5 (by decide +kernel)
  obtain ⟨M4, f1, f2⟩ := m_24 i3.1 i3.2.2.2.1 x hN N 0 M3 (Nat.zero_add _) ⟨i3.2.2.1, i3.2.2.2.2.2.1, d2, d4⟩
  have f1' : l_mo_rules_24 x (-1) 0 M3 = some (opI (bsF (saB A Q v) N), M4) := f1
  have i4 := iv_keep i3 f2 (by decide +kernel)
  have c : chS (kQ ++ [49]) M M4 := (((a6.mono (by decide)).trans (b2.mono (by decide))).sI 66 0 0 rfl).trans ((d5.mono (by decide)).trans (f2.mono (by decide)))
  have hx := fun y (hy : bsF (saB A Q v) N = some y) => bsF_lt (saB A Q v) N y hy
  have cl : f_sy_leastRules M1 = some (opI (bsF (saB A Q v) N), M2) := by
    unfold f_sy_leastRules
    rw [b1', Option.bind_some, h59, Option.bind_some]
  rw [if_pos zx, a1', Option.bind_some, cl, Option.bind_some]
  simp only [if_pos zx]
  cases hb : bsF (saB A Q v) N with
  | none =>
    refine ⟨-1, M4, ⟨M2, ?_, ?_⟩, i4, c⟩
    · rw [if_pos (show opI none = -1 from rfl)]
    · rw [d1, Option.bind_some, f1', Option.bind_some, hb, if_neg (show ¬ (0 : Int32) ≤ opI none from by decide)]
  | some y =>
    have hy : y < 256 := by have := hx y hb; omega
    have p0 : ¬ opI (some y) = -1 := fun z => by
      rw [opI_m1 (fun x h => by cases h; exact hy)] at z
      cases z
    have p1 : (0 : Int32) ≤ opI (some y) := by
      show (0 : Int32) ≤ nI y
      rw [show (0 : Int32) = nI 0 from rfl, z_le (by omega) (by omega)]; omega
    refine ⟨if x = 0 then nI (rb8 y) else nI y, M4, ⟨M2, ?_, ?_⟩, i4, c⟩
    · rw [if_neg p0]
      by_cases z : x = 0
      · rw [if_pos z, if_pos z]
        show some (f_jd_bitCount_0f7a4 (nI y), M2) = _
        rw [bc8 hy]
      · rw [if_neg z, if_neg z]; rfl
    · rw [d1, Option.bind_some, f1', Option.bind_some, hb, if_pos p1]
      by_cases z : x = 0
      · have em : f_mo_bits (opI (some y)) = some (nI (rb8 y)) := mb8 hy
        rw [if_pos z, if_pos z, em, Option.bind_some]
      · rw [if_neg z, if_neg z]; rfl
