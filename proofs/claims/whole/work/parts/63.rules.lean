/-! ===== rules ===== -/
noncomputable def fcv (A : sA) (far f : Nat) : Nat → Int32 := fun k => nI (fc A far f k)
theorem c_told {Q : sQ} {v : Nat → Nat} {M : dM} (wq : wQ Q v) (cw : rcW Q v M) {r : Nat} (hr : r < 9) : f_la_isTold_27 (nI (12 + r)) M = some (decide (Q (12 + r) ≠ none)) := by
  unfold f_la_isTold_27
  rw [z_gd (z_in (n := 12 + r) (by omega) (by omega)), z_cl (n := 12 + r) (by omega)]
  obtain ⟨p1, p2⟩ := cw.2 (12 + r) (by omega)
  rcases hq : Q (12 + r) with _ | ⟨a, l, b, cc, D⟩
  · rw [(p1 hq).1, (p1 hq).2]
    rfl
  · have hl := (wq.1 (12 + r) a l b cc D (by omega) hq).1
    obtain ⟨p3, p4, p5, p6⟩ := p2 a l b cc D hq
    rw [p3, p4, if_neg (z_nle (by omega) (by omega) (by omega))]
    simp
theorem m_told {Q : sQ} {v : Nat → Nat} {M : dM} (mw : rmW Q v M) {r : Nat} (hr : r < 9) : (gI M 82 (12 + r) = 0) = (Q (12 + r) = none) := by
  obtain ⟨m1, m2⟩ := mw.2 (12 + r) (by omega)
  rcases hq : Q (12 + r) with _ | ⟨a, l, b, cc, D⟩
  · rw [m1 hq]
    simp
    rfl
  · obtain ⟨m3, m4⟩ := m2 a l b cc D hq
    rw [m3]
    simp
    decide
theorem c_isStopped {A : sA} {Q : sQ} {v : Nat → Nat} {M : dM} (w : wfA A) (wq : wQ Q v) (cw : rcW Q v M) (j : rcJ A Q (v 3) M) {r f : Nat} (hr : r < 8) (hf : f < A 66 9) (hq : Q (12 + r) ≠ none) : ∃ M', f_ju_isStopped (nI r) (nI f) M = some (lvN Q (12 + r) (fcv A (v 3) f), M') ∧ chS [31] M M' := by
  have hn := w.2.2.1.1
  rcases hq' : Q (12 + r) with _ | ⟨a, l, b, cc, D⟩
  · exact absurd hq' hq
  obtain ⟨M2, b1, b2⟩ := c_slot (l := 12 + r) (base := f * 17) wq cw (by omega) (by omega) hq'
  have g := (wq.1 (12 + r) a l b cc D (by omega) hq').2
  have eD : D (fcv A (v 3) f) = D (vC40 M (f * 17)) := G_cong g _ _ (fun k hk => by
    rw [show eK (eL (12 + r)) = 17 from by unfold eL; rw [if_neg (by omega)]; rfl] at hk
    exact ((j f hf).1 k hk).symm)
  have em : nI f * 17 = nI (f * 17) := z_mul f 17
  refine ⟨M2, ?_, b2⟩
  unfold f_ju_isStopped
  rw [show (12 : Int32) + nI r = nI (12 + r) from z_add 12 r, em, b1, Option.bind_some, lvN_some hq', eD]
  by_cases z : D (vC40 M (f * 17)) = 0
  · rw [if_pos z, z]; rfl
  · rw [if_neg z, decide_eq_true z]
theorem m_isStopped {A : sA} {Q : sQ} {v : Nat → Nat} {M : dM} (w : wfA A) (rm : rmA A M) (wq : wQ Q v) (mw : rmW Q v M) {r f : Nat} (hr : r < 8) (hf : f < A 66 9) (hq : Q (12 + r) ≠ none) : ∃ M', f_mo_isStopped (nI r) (nI f) M = some (lvN Q (12 + r) (fcv A (v 3) f), M') ∧ chS kEa M M' := by
  have hn := w.2.2.1.1
  rcases hq' : Q (12 + r) with _ | ⟨a, l, b, cc, D⟩
  · exact absurd hq' hq
  obtain ⟨M3, c1, c2, c3⟩ := m_laysF w wq.2.2.2.2.2.2.1 hf rm mw.1.2
  obtain ⟨M4, d1, d2⟩ := m_slot (l := 12 + r) wq (rmW_w mw c3 (by decide)) (by omega) hq'
  have g := (wq.1 (12 + r) a l b cc D (by omega) hq').2
  have eD : D (fcv A (v 3) f) = D (vM M3) := G_cong g _ _ (fun k hk => by
    rw [show eK (eL (12 + r)) = 17 from by unfold eL; rw [if_neg (by omega)]; rfl] at hk
    exact (c2 k hk).symm)
  refine ⟨M4, ?_, (c3.mono (by decide)).trans (d2.mono (by decide))⟩
  unfold f_mo_isStopped
  rw [show (12 : Int32) + nI r = nI (12 + r) from z_add 12 r, c1, Option.bind_some, d1, Option.bind_some, lvN_some hq', eD]
  by_cases z : D (vM M3) = 0
  · rw [if_pos z, z]; rfl
  · rw [if_neg z, decide_eq_true z]
noncomputable def ruB (A : sA) (Q : sQ) (v : Nat → Nat) (f r : Nat) : Bool := lvN Q (12 + r) (fcv A (v 3) f)
noncomputable def ruF (A : sA) (Q : sQ) (v : Nat → Nat) (f : Nat) : Nat := bsN (ruB A Q v f) 8
theorem c_rulesAgainst {A : sA} {Q : sQ} {v : Nat → Nat} (w : wfA A) (wq : wQ Q v) {f : Nat} (hf : f < A 66 9) : ∀ (d r : Nat) (M : dM), r + d = 8 → rcW Q v M → rcJ A Q (v 3) M → ∃ M', l_sy_rulesAgainst_4 (nI f) (nI (bsN (ruB A Q v f) r)) (nI r) M = some (nI (ruF A Q v f), M') ∧ chS [31] M M' := by
  intro d
  induction d with
  | zero =>
    intro r M hr cw j
    have e : r = 8 := by omega
    subst e
    refine ⟨M, ?_, chS.refl _ _⟩
    unfold l_sy_rulesAgainst_4
    refine lpc_out ?_
    show b_sy_rulesAgainst_4_4 (nI f) (nI (bsN (ruB A Q v f) 8)) (nI 8) M = _
    unfold b_sy_rulesAgainst_4_4
    rw [if_pos (show (8 : Int32) ≤ nI 8 from by decide)]
    rfl
  | succ d ih =>
    intro r M hr cw j
    have hr8 : r < 8 := by omega
    have e1 : nI r + 1 = nI (r + 1) := z_add r 1
    have step : ∃ M1, b_sy_rulesAgainst_4_4 (nI f) (nI (bsN (ruB A Q v f) r)) (nI r) M = some (.inl (nI (bsN (ruB A Q v f) (r + 1)), nI (r + 1), M1)) ∧ chS [31] M M1 := by
      unfold b_sy_rulesAgainst_4_4
      rw [if_neg (show ¬ (8 : Int32) ≤ nI r from z_nle (a := 8) (by decide) (by omega) (by omega)), show (12 : Int32) + nI r = nI (12 + r) from z_add 12 r, c_told wq cw (by omega), Option.bind_some, e1, bsN_s]
      by_cases hq : Q (12 + r) = none
      · refine ⟨M, ?_, chS.refl _ _⟩
        rw [if_neg (by rw [hq]; simp), if_neg (by unfold ruB; rw [lvN_none hq]; exact Bool.false_ne_true)]
      · obtain ⟨M1, a1, a2⟩ := c_isStopped w wq cw j hr8 hf hq
        refine ⟨M1, ?_, a2⟩
        rw [if_pos (decide_eq_true hq), a1, Option.bind_some]
        show (if ruB A Q v f r = true then _ else _) = _
        by_cases c : ruB A Q v f r = true
        · rw [if_pos c, if_pos c, z_1shl (by omega), z_or]
        · rw [if_neg c, if_neg c]
    obtain ⟨M1, a1, a2⟩ := step
    obtain ⟨M2, b1, b2⟩ := ih (r + 1) M1 (by omega) ((srcW Q v).use cw a2 (by decide)) ((srcJ A Q (v 3)).use j a2 (by decide))
    refine ⟨M2, ?_, a2.trans b2⟩
    unfold l_sy_rulesAgainst_4 at b1 ⊢
    exact lpc_step (s' := (nI (bsN (ruB A Q v f) (r + 1)), nI (r + 1), M1)) a1 b1
/-- the finds that the rules must stop -/
noncomputable def rkB (A : sA) (Q : sQ) (v : Nat → Nat) (f : Nat) : Bool := (duF A Q v).testBit f && !decide (canF A (v 2) f = 0)
def kRu : List Nat := [31, 49]
theorem c_least4 {A : sA} {Q : sQ} {v : Nat → Nat} (w : wfA A) (wq : wQ Q v) : ∀ (d x : Nat) (M : dM), x + d = A 66 9 → rcA A M → rcW Q v M → rcJ A Q (v 3) M → rcY A Q v M → (∀ f, f < x → rkB A Q v f = true → gI M 49 (fb_ct (rkB A Q v) f) = nI (ruF A Q v f)) → ∃ M', l_sy_leastRules_4 (nI (fb_ct (rkB A Q v) x)) (nI x) M = some (nI (fb_ct (rkB A Q v) (A 66 9)), M') ∧ chS kRu M M' ∧ ∀ f, f < A 66 9 → rkB A Q v f = true → gI M' 49 (fb_ct (rkB A Q v) f) = nI (ruF A Q v f) := by
  have hn := w.2.2.1.1
  intro d
  induction d with
  | zero =>
    intro x M hx rc cw j y h
    have e : x = A 66 9 := by omega
    subst e
    refine ⟨M, ?_, chS.refl _ _, h⟩
    unfold l_sy_leastRules_4
    refine lpc_out ?_
    show b_sy_leastRules_4_4 (nI (fb_ct (rkB A Q v) (A 66 9))) (nI (A 66 9)) M = _
    unfold b_sy_leastRules_4_4
    rw [rc.2.2.1.1, if_pos (z_yle (by omega) (by omega) (Nat.le_refl _))]
  | succ d ih =>
    intro x M hx rc cw j y h
    have hxn : x < A 66 9 := by omega
    have hdu : duF A Q v < 2 ^ 40 := Nat.lt_of_lt_of_le (bsN_lt _ _) (Nat.pow_le_pow_right (by decide) hn)
    have e1 : nI x + 1 = nI (x + 1) := z_add x 1
    have hct := fb_ct_le (rkB A Q v) x
    have hcan : canF A (v 2) x < 1024 := canF_lt w.1 (v 2) x
    have step : ∃ M1, b_sy_leastRules_4_4 (nI (fb_ct (rkB A Q v) x)) (nI x) M = some (.inl (nI (fb_ct (rkB A Q v) (x + 1)), nI (x + 1), M1)) ∧ chS kRu M M1 ∧ ∀ f, f < x + 1 → rkB A Q v f = true → gI M1 49 (fb_ct (rkB A Q v) f) = nI (ruF A Q v f) := by
      unfold b_sy_leastRules_4_4
      rw [rc.2.2.1.1, if_neg (z_nle (by omega) (by omega) hxn), y.2.2, z_hasBitL (by omega) (by omega), e1, fb_ct_succ]
      have stay : rkB A Q v x = false → ∀ f, f < x + 1 → rkB A Q v f = true → gI M 49 (fb_ct (rkB A Q v) f) = nI (ruF A Q v f) := fun z f hf hk => by
        by_cases e : f = x
        · subst e; rw [z] at hk; cases hk
        · exact h f (by omega) hk
      by_cases c1 : (duF A Q v).testBit x = true
      · rw [if_pos c1, z_gd (z_in (n := x) (by omega) (by omega)), z_cl (n := x) (by omega), (y.1.1 x hxn).1]
        by_cases c2 : canF A (v 2) x = 0
        · have z : rkB A Q v x = false := by unfold rkB; rw [decide_eq_true c2]; simp
          refine ⟨M, ?_, chS.refl _ _, stay z⟩
          rw [if_pos (show nI _ = (0 : Int32) from by rw [c2]; rfl), z]; rfl
        · have z : rkB A Q v x = true := by unfold rkB; rw [decide_eq_false c2, c1]; rfl
          obtain ⟨M1, a1, a2⟩ := c_rulesAgainst w wq hxn 8 0 M rfl cw j
          have a1' : l_sy_rulesAgainst_4 (nI x) 0 0 M = some (nI (ruF A Q v x), M1) := a1
          refine ⟨sI M1 49 (fb_ct (rkB A Q v) x) (nI (ruF A Q v x)), ?_, (a2.mono (by decide)).sI 49 _ _ rfl, fun f hf hk => ?_⟩
          · rw [if_neg (show ¬ nI _ = (0 : Int32) from z_ne (b := 0) (by omega) (by decide) c2), z]
            unfold f_sy_rulesAgainst
            rw [a1', Option.bind_some, Option.bind_some, z_gd (z_in (n := fb_ct (rkB A Q v) x) (by omega) (by omega)), z_cl (n := fb_ct (rkB A Q v) x) (by omega), show nI (fb_ct (rkB A Q v) x) + 1 = nI (fb_ct (rkB A Q v) x + 1) from z_add _ 1]
            rfl
          · by_cases e : f = x
            · subst e; rw [gI_sI, if_pos ⟨rfl, rfl⟩]
            · have h1 := fb_ct_mono (rkB A Q v) (show f + 1 ≤ x by omega)
              rw [fb_ct_succ, hk] at h1
              simp only [if_true] at h1
              rw [gI_sI, if_neg (by omega), a2.I 49 _ rfl]
              exact h f (by omega) hk
      · have z : rkB A Q v x = false := by unfold rkB; rw [Bool.eq_false_iff.mpr c1]; rfl
        refine ⟨M, ?_, chS.refl _ _, stay z⟩
        rw [if_neg c1, z]; rfl
    obtain ⟨M1, a1, a2, a3⟩ := step
    obtain ⟨M2, b1, b2, b3⟩ := ih (x + 1) M1 (by omega) ((srcA A).use rc a2 (by decide +kernel)) ((srcW Q v).use cw a2 (by decide)) ((srcJ A Q (v 3)).use j a2 (by decide)) ((srcY A Q v).use y a2 (by decide)) a3
    refine ⟨M2, ?_, a2.trans b2, b3⟩
    unfold l_sy_leastRules_4 at b1 ⊢
    exact lpc_step (s' := (nI (fb_ct (rkB A Q v) (x + 1)), nI (x + 1), M1)) a1 b1
/-- these rules stop all -/
def saP (A : sA) (Q : sQ) (v : Nat → Nat) (s : Nat) : Prop := ∀ f, f < A 66 9 → rkB A Q v f = true → ruF A Q v f &&& s ≠ 0
noncomputable def saB (A : sA) (Q : sQ) (v : Nat → Nat) (s : Nat) : Bool := @decide (saP A Q v s) (Classical.propDecidable _)
theorem saB_t {A : sA} {Q : sQ} {v : Nat → Nat} {s : Nat} (h : saP A Q v s) : saB A Q v s = true := by unfold saB; exact @decide_eq_true _ (Classical.propDecidable _) h
theorem saB_f {A : sA} {Q : sQ} {v : Nat → Nat} {s : Nat} (h : ¬ saP A Q v s) : saB A Q v s = false := by unfold saB; exact @decide_eq_false _ (Classical.propDecidable _) h
theorem ruF_lt (A : sA) (Q : sQ) (v : Nat → Nat) (f : Nat) : ruF A Q v f < 256 := bsN_lt _ 8
theorem c_stopsAll {A : sA} {Q : sQ} {v : Nat → Nat} {M : dM} (w : wfA A) (h : ∀ f, f < A 66 9 → rkB A Q v f = true → gI M 49 (fb_ct (rkB A Q v) f) = nI (ruF A Q v f)) {s : Nat} (hs : s < 256) : f_sy_stopsAll (nI s) (nI (fb_ct (rkB A Q v) (A 66 9))) M = some (saB A Q v s) := by
  have hn := w.2.2.1.1
  have hct := fb_ct_le (rkB A Q v) (A 66 9)
  have loop : ∀ d j, j + d = fb_ct (rkB A Q v) (A 66 9) → (∀ f, f < A 66 9 → rkB A Q v f = true → fb_ct (rkB A Q v) f < j → ruF A Q v f &&& s ≠ 0) → l_sy_stopsAll_2 (nI s) (nI (fb_ct (rkB A Q v) (A 66 9))) (nI j) M = some (saB A Q v s) := by
    intro d
    induction d with
    | zero =>
      intro j hj hh
      have e : j = fb_ct (rkB A Q v) (A 66 9) := by omega
      subst e
      unfold l_sy_stopsAll_2
      refine lpc_out ?_
      unfold b_sy_stopsAll_2_2
      rw [if_pos (z_yle (by omega) (by omega) (Nat.le_refl _)), saB_t (fun f hf hk => hh f hf hk ?_)]
      have := fb_ct_mono (rkB A Q v) (show f + 1 ≤ A 66 9 by omega)
      rw [fb_ct_succ, hk] at this
      simp only [if_true] at this
      omega
    | succ d ih =>
      intro j hj hh
      obtain ⟨f, f1, f2, f3⟩ := fb_ct_kth (p := rkB A Q v) (k := j) (n := A 66 9) (by omega)
      have hr := ruF_lt A Q v f
      have ha : ruF A Q v f &&& s ≤ s := Nat.and_le_right
      have hb : b_sy_stopsAll_2_2 (nI s) (nI (fb_ct (rkB A Q v) (A 66 9))) (nI j) M = if ruF A Q v f &&& s = 0 then some (.inr false) else some (.inl (nI (j + 1))) := by
        unfold b_sy_stopsAll_2_2
        have := h f f1 f2
        rw [f3] at this
        rw [if_neg (z_nle (by omega) (by omega) (by omega)), z_gd (z_in (n := j) (by omega) (by omega)), z_cl (n := j) (by omega), this, z_and, show nI j + 1 = nI (j + 1) from z_add j 1]
        by_cases c : ruF A Q v f &&& s = 0
        · rw [if_pos (show nI _ = (0 : Int32) from by rw [c]; rfl), if_pos c]
        · rw [if_neg (show ¬ nI _ = (0 : Int32) from z_ne (b := 0) (by omega) (by decide) c), if_neg c]
      unfold l_sy_stopsAll_2 at ih ⊢
      by_cases c : ruF A Q v f &&& s = 0
      · rw [if_pos c] at hb
        rw [saB_f (fun z => z f f1 f2 c)]
        exact lpc_out hb
      · rw [if_neg c] at hb
        refine lpc_step (s' := nI (j + 1)) hb (ih (j + 1) (by omega) (fun g hg hk hlt => ?_))
        by_cases e : fb_ct (rkB A Q v) g = j
        · have : g = f := fb_ct_kth_one hk f2 (e.trans f3.symm)
          subst this; exact c
        · exact hh g hg hk (by omega)
  have l0 := loop (fb_ct (rkB A Q v) (A 66 9)) 0 (Nat.zero_add _) (fun f _ _ hlt => absurd hlt (Nat.not_lt_zero _))
  have l0' : l_sy_stopsAll_2 (nI s) (nI (fb_ct (rkB A Q v) (A 66 9))) 0 M = some (saB A Q v s) := l0
  unfold f_sy_stopsAll
  rw [l0', Option.bind_some]
