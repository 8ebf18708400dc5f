/-! ===== stops, again, fact ===== -/
theorem op_stops {A : sA} {Q : sQ} {v : Nat → Nat} {M : dM} (h : IV A Q v M) (x y : Int32) : opV kQ A Q v M (fun b M2 => ∃ M1, f_ax_stops x y M = some (b, M1) ∧ f_mo_stops x y M1 = some (b, M2)) := by
  unfold f_ax_stops f_mo_stops
  have e7 : f_mo_within x 0 7 = f_ax_within x 8 := z_mw0 x (n := 7) (by decide)
  rw [e7]
  refine opV_f h y (fun z1 z2 => opV_no rfl h (x := 0) (b := -1) ⟨M, ?_, ?_⟩) (fun f hf e z1 z2 => ?_)
  · split
    · rw [if_neg (by rw [z1]; exact Bool.false_ne_true)]
    · rfl
  · rw [if_neg (by rw [z2]; exact Bool.false_ne_true)]
  subst e
  have hn := h.1.2.2.1.1
  by_cases zx : f_ax_within x 8 = true
  case neg =>
    refine opV_no rfl h (x := 0) (b := -1) ⟨M, by rw [if_neg zx], ?_⟩
    rw [if_pos (z2 _ (iv_0 h 0)), if_neg zx]
  rcases z_range x 8 (by decide) with z | ⟨r, hr, rfl⟩
  · have z' : f_ax_within x 8 = false := z
    rw [z'] at zx
    cases zx
  have e12 : (12 : Int32) + nI r = nI (12 + r) := z_add 12 r
  have i0 := iv_0 h 0
  rw [e12, if_pos zx, if_pos z1]
  have h8 : ∀ M' : dM, IV A Q v M' → f_la_isTold_27 (nI (12 + r)) M' = some (decide (Q (12 + r) ≠ none)) ∧ ((gI M' 82 (12 + r) = 0) = (Q (12 + r) = none)) := fun M' i => by
    unfold f_la_isTold_27
    rw [z_gd (z_in (n := 12 + r) (by omega) (by omega)), z_cl (n := 12 + r) (by omega)]
    obtain ⟨p1, p2⟩ := i.2.2.2.2.1.2 (12 + r) (by omega)
    obtain ⟨m1, m2⟩ := i.2.2.2.2.2.1.2 (12 + r) (by omega)
    rcases hq : Q (12 + r) with _ | ⟨a, l, b, cc, D⟩
    · rw [(p1 hq).1, (p1 hq).2, m1 hq]
      exact ⟨rfl, by simp; rfl⟩
    · have hl := (i.2.2.2.1.1 (12 + r) a l b cc D (by omega) hq).1
      obtain ⟨p3, p4, p5, p6⟩ := p2 a l b cc D hq
      obtain ⟨m3, m4⟩ := m2 a l b cc D hq
      rw [p3, p4, m3, if_neg (z_nle (by omega) (by omega) (by omega))]
      refine ⟨by simp, ?_⟩
      simp
      decide
  rcases hq : Q (12 + r) with _ | ⟨a, l, b, cc, D⟩
  · refine opV_no rfl h (x := 0) (b := -1) ⟨M, ?_, ?_⟩
    · rw [(h8 M h).1, Option.bind_some, hq, if_neg (by simp)]
    · rw [if_pos (z2 _ i0), if_pos zx, z_gd (z_in (n := 12 + r) (by omega) (by omega)), z_cl (n := 12 + r) (by omega), if_pos (by rw [(h8 _ i0).2]; exact hq)]
  obtain ⟨M1, a1, a2, a3, a4, a5, a6⟩ := iv_study h (Or.inl rfl : (1 : Nat) = 1 ∨ (1 : Nat) = 2)
  have a1' : f_ax_study 1 M = some M1 := a1
  obtain ⟨M2, b1, b2⟩ := c_slot (l := 12 + r) (base := f * 17) a2.2.2.2.1 a2.2.2.2.2.1 (by omega) (by omega) hq
  have i2 := iv_keep a2 b2 (by decide +kernel)
  have i20 := iv_0 i2 0
  obtain ⟨M3, c1, c2, c3⟩ := m_laysF i20.1 i20.2.2.2.1.2.2.2.2.2.2.1 hf i20.2.2.1 i20.2.2.2.2.2.1.1.2
  have i3 := iv_keep i20 c3 (by decide +kernel)
  obtain ⟨M4, d1, d2⟩ := m_slot (l := 12 + r) i3.2.2.2.1 i3.2.2.2.2.2.1 (by omega) hq
  have i4 := iv_keep i3 d2 (by decide +kernel)
  have c : chS kQ M M4 := (((a6.mono (by decide)).trans (b2.mono (by decide))).sI 66 0 0 rfl).trans ((c3.mono (by decide)).trans (d2.mono (by decide)))
  have g := (a2.2.2.2.1.1 (12 + r) a l b cc D (by omega) hq).2
  have eD : D (vM M3) = D (vC40 M1 (f * 17)) := G_cong g _ _ (fun k hk => by
    rw [show eK (eL (12 + r)) = 17 from by unfold eL; rw [if_neg (by omega)]; rfl] at hk
    rw [c2 k hk]
    exact ((a4 f hf).1 k hk).symm)
  have em : nI f * 17 = nI (f * 17) := z_mul f 17
  refine ⟨if D (vC40 M1 (f * 17)) = 0 then 0 else 1, M4, ⟨M2, ?_, ?_⟩, i4, c⟩
  · rw [(h8 M h).1, Option.bind_some, hq, if_pos (by simp), a1', Option.bind_some]
    unfold f_ju_isStopped
    rw [e12, em, b1, Option.bind_some]
    by_cases z : D (vC40 M1 (f * 17)) = 0
    · rw [if_pos z, if_pos z]; rfl
    · rw [if_neg z, if_neg z]; rfl
  · rw [if_pos (z2 _ i20), if_pos zx, z_gd (z_in (n := 12 + r) (by omega) (by omega)), z_cl (n := 12 + r) (by omega), if_neg (by rw [(h8 _ i20).2, hq]; simp)]
    unfold f_mo_isStopped
    rw [e12, c1, Option.bind_some, d1, Option.bind_some, eD]
    by_cases z : D (vC40 M1 (f * 17)) = 0
    · rw [if_pos z, if_pos z]; rfl
    · rw [if_neg z, if_neg z]; rfl
theorem op_again {A : sA} {Q : sQ} {v : Nat → Nat} {M : dM} (h : IV A Q v M) (x y : Int32) : opV kQ A Q v M (fun b M2 => ∃ M1, f_ax_again x y M = some (b, M1) ∧ f_mo_again x y M1 = some (b, M2)) := by
  unfold f_ax_again f_mo_again
  have e1 : f_mo_isSite x = f_ax_within x 8 := z_site x
  have e2 : f_mo_isSite y = f_ax_within y 8 := z_site y
  rw [e1, e2]
  have hn := h.1.2.2.1.1
  by_cases zx : f_ax_within x 8 = true
  case neg =>
    rw [if_neg zx]
    exact opV_no rfl h (x := 0) (b := -1) ⟨M, rfl, by rw [if_neg zx]⟩
  rcases z_range x 8 (by decide) with z | ⟨r, hr, rfl⟩
  · have z' : f_ax_within x 8 = false := z
    rw [z'] at zx
    cases zx
  have ne : ∀ y : Int32, (y = -1 → False) → f_ax_within y 8 = true → ∃ s, s < 8 ∧ y = nI s := fun y _ z => by
    rcases z_range y 8 (by decide) with z' | z'
    · rw [show f_ax_within y 8 = false from z'] at z; cases z
    · exact z'
  have main : ∀ s, s < 8 → (y = -1 ∧ s = r ∨ y = nI s ∧ s ≠ r) → opV kQ A Q v M (fun b M2 => ∃ M1, t_ax_again_23 (nI r) y M = some (b, M1) ∧ t_mo_again_24 (nI r) y (sI M1 66 0 0) = some (b, M2)) := fun s hs hy => by
    unfold t_ax_again_23 t_mo_again_24 t_ax_again_57 t_mo_again_47
    obtain ⟨M1, a1, a2, a3, a4, a5, a6⟩ := iv_study h (Or.inr rfl : (2 : Nat) = 1 ∨ (2 : Nat) = 2)
    have i0 := iv_0 a2 0
    have a1' : f_ax_study 2 M = some M1 := a1
    obtain ⟨M2, b1, b2, b3, b4, b5⟩ := m_knows i0.1 i0.2.2.1 i0.2.2.2.1 i0.2.2.2.2.2.1
    have i2 := iv_keep i0 b5 (by decide +kernel)
    have hd : duF A Q v < 2 ^ A 66 9 := bsN_lt _ _
    obtain ⟨M3, c1, c2⟩ := m_goodOf i2.1 i2.2.2.1 b4 hd hr hs
    have cG := c_goodFor a2.1 a2.2.1 hd hr hs
    have c : chS kQ M M3 := (((a6.mono (by decide)).sI 66 0 0 rfl).trans (b5.mono (by decide))).trans (c2.mono (by decide))
    refine ⟨gvF A (duF A Q v) r s, M3, ⟨M1, ?_, ?_⟩, iv_keep i2 c2 (by decide +kernel), c⟩
    · rcases hy with ⟨rfl, rfl⟩ | ⟨rfl, hne⟩
      · have es : sbF s s = 2 ^ s := by unfold sbF; exact Nat.or_self _
        rw [es] at cG
        have n1 : ¬ nI s = -1 := fun z => by
          have := nI_toInt (n := s) (by omega)
          rw [z] at this
          have h2 : (-1 : Int32).toInt = -1 := rfl
          rw [h2] at this
          omega
        rw [if_neg n1, a1', Option.bind_some, if_pos rfl, (a5 rfl).2.2, z_1shl (by omega), cG, Option.bind_some]
      · have n1 : ¬ nI s = -1 := fun z => by
          have := nI_toInt (n := s) (by omega)
          rw [z] at this
          have h2 : (-1 : Int32).toInt = -1 := rfl
          rw [h2] at this
          omega
        rw [if_neg (show ¬ nI r = nI s from z_ne (by omega) (by omega) (by omega)), a1', Option.bind_some, if_neg n1, (a5 rfl).2.2, z_1shl (by omega), z_1shl (by omega), z_or]
        show (f_cl_goodFor (nI (sbF r s)) (lN (duF A Q v)) M1).bind _ = _
        rw [cG, Option.bind_some]
    · rcases hy with ⟨rfl, rfl⟩ | ⟨rfl, hne⟩
      · have n1 : ¬ nI s = -1 := fun z => by
          have := nI_toInt (n := s) (by omega)
          rw [z] at this
          have h2 : (-1 : Int32).toInt = -1 := rfl
          rw [h2] at this
          omega
        rw [if_neg n1, b1, Option.bind_some, if_pos rfl, c1, Option.bind_some]
      · have n1 : ¬ nI s = -1 := fun z => by
          have := nI_toInt (n := s) (by omega)
          rw [z] at this
          have h2 : (-1 : Int32).toInt = -1 := rfl
          rw [h2] at this
          omega
        rw [if_neg (show ¬ nI r = nI s from z_ne (by omega) (by omega) (by omega)), b1, Option.bind_some, if_neg n1, c1, Option.bind_some]
  rw [if_pos zx]
  simp only [if_pos zx]
  by_cases cy : y = -1
  · rw [if_pos cy]
    simp only [if_pos cy]
    exact main r hr (Or.inl ⟨cy, rfl⟩)
  · rw [if_neg cy]
    simp only [if_neg cy]
    by_cases zy : f_ax_within y 8 = true
    · obtain ⟨s, hs, ey⟩ := ne y cy zy
      rw [if_pos zy]
      simp only [if_pos zy]
      by_cases e : s = r
      · subst e
        unfold t_ax_again_23 t_mo_again_24
        rw [if_pos ey.symm]
        simp only [if_pos ey.symm]
        exact opV_no rfl h (x := 0) (b := -1) ⟨M, rfl, rfl⟩
      · exact main s hs (Or.inr ⟨ey, e⟩)
    · rw [if_neg zy]
      simp only [if_neg zy]
      exact opV_no rfl h (x := 0) (b := -1) ⟨M, rfl, rfl⟩
theorem m_fact3 {A : sA} {M : dM} (w : wfA A) (rm : rmA A M) {f : Nat} (hf : f < A 66 9) : f_mo_factOf (nI f) (nI 17) M = some (nI (A 74 f)) ∧ f_mo_factOf (nI f) (nI 18) M = some (nI (A 76 f)) ∧ f_mo_factOf (nI f) (nI 19) M = some (nI (A 78 f)) := by
  have hn := w.2.2.1.1
  obtain ⟨q1, q2, q3, q4, q5, q6, q7, q8⟩ := w.2.2.1.2.1 f hf
  obtain ⟨e1, e2, e3, e4, e5, e6, e7⟩ := rm.2.2.1.2 f hf
  unfold f_mo_factOf
  rw [z_gd (z_in (n := f) (by omega) (by omega)), z_gd (z_in (n := f) (by omega) (by omega)), z_gd (z_in (n := f) (by omega) (by omega)), z_cl (n := f) (by omega), e1, e2, e3, e4, e5, m_presentAt w.1 rm.1 q1 q3 q4, Option.bind_some, Option.bind_some, Option.bind_some]
  exact ⟨rfl, rfl, rfl⟩
theorem op_fact {A : sA} {Q : sQ} {v : Nat → Nat} {M : dM} (h : IV A Q v M) (x y : Int32) : ((f_ax_within x (gI M 12 7) = true ∧ f_ax_within y 20 = true) ∧ opV kQ A Q v M (fun b M2 => ∃ M1, f_ax_fact x y M = some (b, M1) ∧ f_mo_fact x y M1 = some (b, M2) ∧ gI M2 66 0 = 0)) ∨ (¬ (f_ax_within x (gI M 12 7) = true ∧ f_ax_within y 20 = true) ∧ f_mo_fact x y M = some (0, sI M 66 0 1)) := by
  have e19 : f_mo_within y 0 19 = f_ax_within y 20 := z_mw0 y (n := 19) (by decide)
  have hn := h.1.2.2.1.1
  have ei := z_isFind h.2.2.1 h.1 x
  have ec := (x_find h.1 h.2.1 h.2.2.1 x).1
  by_cases zz : f_ax_within x (gI M 12 7) = true ∧ f_ax_within y 20 = true
  case neg =>
    refine Or.inr ⟨zz, ?_⟩
    unfold f_mo_fact t_mo_fact_23 t_mo_fact_24
    rw [e19, ei, ← ec]
    by_cases z1 : f_ax_within x (gI M 12 7) = true
    · rw [if_pos z1, if_neg (fun z => zz ⟨z1, z⟩), if_pos (by rw [gI_sI, if_pos ⟨rfl, rfl⟩])]
    · rw [if_neg z1, if_pos (by rw [gI_sI, if_pos ⟨rfl, rfl⟩])]
  refine Or.inl ⟨zz, ?_⟩
  obtain ⟨z1, z2⟩ := zz
  rcases z_range x (A 66 9) (by omega) with z | ⟨f, hf, rfl⟩
  · rw [ec.trans z] at z1; cases z1
  rcases z_range y 20 (by omega) with z | ⟨k, hk, rfl⟩
  · rw [show f_ax_within y 20 = false from z] at z2; cases z2
  have m24 : ∀ (M1 : dM) (b : Int32), IV A Q v M1 → f_mo_factOf (nI f) (nI k) (sI M1 66 0 0) = some b → f_mo_fact (nI f) (nI k) M1 = some (b, sI M1 66 0 0) ∧ gI (sI M1 66 0 0) 66 0 = 0 := fun M1 b i hb => by
    refine ⟨?_, by rw [gI_sI, if_pos ⟨rfl, rfl⟩]⟩
    unfold f_mo_fact t_mo_fact_24
    rw [e19, z_isFind i.2.2.1 i.1, ← ec, if_pos z1, if_pos z2, if_neg (by rw [gI_sI, if_pos ⟨rfl, rfl⟩]; decide), hb, Option.bind_some]
  obtain ⟨e1, e2, e3, e4, e5, e6, e7⟩ := h.2.1.2.2.1.2 f hf
  have i0 := iv_0 h 0
  have c0 : chS kQ M (sI M 66 0 0) := chS_sI M 66 0 0 rfl
  obtain ⟨g1, g2, g3⟩ := m_fact3 i0.1 i0.2.2.1 hf
  unfold f_ax_fact
  rw [if_pos z1, if_pos z2]
  by_cases c17 : 17 ≤ k
  · rw [if_pos (show (17 : Int32) ≤ nI k from z_yle (a := 17) (by decide) (by omega) c17)]
    by_cases d17 : k = 17
    · subst d17
      refine ⟨_, _, ⟨M, ?_, m24 M _ h g1⟩, i0, c0⟩
      rw [if_pos (show nI 17 = (17 : Int32) from rfl), z_gd (z_in (n := f) (by omega) (by omega)), z_cl (n := f) (by omega), e1]
    · rw [if_neg (show ¬ nI k = (17 : Int32) from z_ne (b := 17) (by omega) (by decide) d17)]
      by_cases d18 : k = 18
      · subst d18
        refine ⟨_, _, ⟨M, ?_, m24 M _ h g2⟩, i0, c0⟩
        rw [if_pos (show nI 18 = (18 : Int32) from rfl), z_gd (z_in (n := f) (by omega) (by omega)), z_cl (n := f) (by omega), e3]
      · have d19 : k = 19 := by omega
        subst d19
        refine ⟨_, _, ⟨M, ?_, m24 M _ h g3⟩, i0, c0⟩
        rw [if_neg (show ¬ nI 19 = (18 : Int32) from by decide), z_gd (z_in (n := f) (by omega) (by omega)), z_cl (n := f) (by omega), e5]
  · rw [if_neg (show ¬ (17 : Int32) ≤ nI k from z_nle (a := 17) (by decide) (by omega) (by omega))]
    obtain ⟨M1, a1, a2, a3, a4, a5, a6⟩ := iv_study h (Or.inl rfl : (1 : Nat) = 1 ∨ (1 : Nat) = 2)
    have a1' : f_ax_study 1 M = some M1 := a1
    have i1 := iv_0 a2 0
    have c : chS kQ M (sI M1 66 0 0) := (a6.mono (by decide)).sI 66 0 0 rfl
    have hfa := m_factOf i1.1 i1.2.2.1 i1.2.2.2.2.2.1.1.2 i1.2.2.2.1.2.2.2.2.2.2.1 hf (k := k) (by omega)
    have em : nI f * 17 + nI k = nI (f * 17 + k) := by rw [show (17 : Int32) = nI 17 from rfl, z_mul, z_add]
    refine ⟨nI (fc A (v 3) f k), _, ⟨M1, ?_, m24 M1 _ a2 hfa⟩, i1, c⟩
    rw [a1', Option.bind_some, em, z_gd (z_in (n := f * 17 + k) (by omega) (by omega)), z_cl (n := f * 17 + k) (by omega), (a4 f hf).1 k (by omega)]
