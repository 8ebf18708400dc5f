/-! ===== what the law says ===== -/
theorem G_cong {K cat d : Nat} {c r : List Nat} {D : gD} (g : G K cat d c r D) : ∀ v v' : Nat → Int32, (∀ f, f < K → v f = v' f) → D v = D v' := by
  refine g (fun _ _ _ _ D => ∀ v v' : Nat → Int32, (∀ f, f < K → v f = v' f) → D v = D v') ⟨?_, ?_, ?_, ?_, ?_, ?_, ?_, ?_, ?_, ?_, ?_, ?_⟩
  · intro _ _ _ _ v v' _; rfl
  · intro _ f _ hf v v' h; exact h f hf
  · intro _ _ _ D _ h v v' e; unfold gNot; rw [h v v' e]
  · intro _ _ _ _ _ h; exact h
  · intro _ _ _ _ h; exact h
  · intro _ _ _ _ _ _ _ h h' v v' e; unfold gMul; rw [h v v' e, h' v v' e]
  · intro _ _ _ _ h; exact h
  · intro _ _ _ _ _ _ _ _ _ h h' v v' e; unfold gSum; rw [h v v' e, h' v v' e]
  · intro _ _ _ _ h; exact h
  · intro _ _ _ _ _ _ _ _ _ h h' v v' e; unfold gTst; rw [h v v' e, h' v v' e]
  · intro _ _ _ _ h; exact h
  · intro _ _ _ _ _ _ _ _ _ h h' v v' e; unfold gLog; rw [h v v' e, h' v v' e]
/-- the value of a told line is not 0 -/
noncomputable def lvN (Q : sQ) (l : Nat) (u : Nat → Int32) : Bool := match Q l with
  | some (_, _, _, _, D) => decide (¬ D u = 0)
  | none => false
noncomputable def jdg (Q : sQ) (u : Nat → Int32) : Nat := if fb_ct (fun l => lvN Q l u) 6 ≠ 0 then 2 else if fb_ct (fun l => lvN Q (6 + l) u) 6 ≠ 0 then 1 else 0
theorem lvN_some {Q : sQ} {l a b : Nat} {r c : List Nat} {D : gD} (h : Q l = some (a, r, b, c, D)) (u : Nat → Int32) : lvN Q l u = decide (¬ D u = 0) := by
  unfold lvN
  rw [h]
theorem lvN_none {Q : sQ} {l : Nat} (h : Q l = none) (u : Nat → Int32) : lvN Q l u = false := by
  unfold lvN
  rw [h]
theorem c_slot {Q : sQ} {v : Nat → Nat} {M : dM} (wq : wQ Q v) (cw : rcW Q v M) {l base a b : Nat} {r c : List Nat} {D : gD} (hl : l < 20) (hb : base + 17 ≤ 697) (h : Q l = some (a, r, b, c, D)) : ∃ M', f_la_valueOf_27_40 (nI l) (nI base) M = some (D (vC40 M base), M') ∧ chS [31] M M' := by
  have g := (wq.1 l a r b c D (by omega) h).2
  rw [show eK (eL l) = 17 from by unfold eL; rw [if_neg (by omega)]; rfl] at g
  obtain ⟨x1, x2, x3, x4⟩ := (cw.2 l (by omega)).2 a r b c D h
  exact c_valueOf40 g (by omega) hb x1 x2 x3 rfl x4
theorem m_slot {Q : sQ} {v : Nat → Nat} {M : dM} (wq : wQ Q v) (mw : rmW Q v M) {l a b : Nat} {r c : List Nat} {D : gD} (hl : l < 21) (h : Q l = some (a, r, b, c, D)) : ∃ M', f_mo_worth (nI l) M = some (D (vM M), M') ∧ chS [91, 92, 93, 94, 95, 96, 97, 98, 99] M M' := by
  have g := (wq.1 l a r b c D hl h).2
  obtain ⟨x1, x2, x3, x4, x5⟩ := (mw.2 l hl).2 a r b c D h
  exact m_worth g (eK_le _) hl x2 x3 (by omega) rfl x5
theorem rmW_w {Q : sQ} {v : Nat → Nat} {S : List Nat} {M M' : dM} (h : rmW Q v M) (c : chS S M M') (hd : disj [82, 83, 84, 88, 7632, 7633] S = true) : rmW Q v M' := by
  have : supp [82, 83, 84, 88, 7632, 7633] (rmW Q v) := by
    intro M M' e _ hh
    refine rmW_keep hh (fun k j hk => ?_) (fun j _ => (e 88 j rfl).1) (e 66 32 rfl).1 (e 66 33 rfl).1
    rcases hk with rfl | rfl | rfl
    · exact (e 82 j rfl).1
    · exact (e 83 j rfl).1
    · exact (e 84 j rfl).1
  exact this.use h c hd
theorem c_judge2 {Q : sQ} {v : Nat → Nat} (wq : wQ Q v) {base : Nat} (hb : base + 17 ≤ 697) (u : Nat → Int32) : ∀ (m i : Nat) (M : dM), i + m = v 0 → rcW Q v M → vC40 M base = u → (∀ k, k < i → lvN Q k u = false) → ∃ M', chS [31] M M' ∧ (if fb_ct (fun l => lvN Q l u) 6 ≠ 0 then l_la_judgeBy_2 (nI base) (nI i) M = some (.inr (nI 2, M')) else l_la_judgeBy_2 (nI base) (nI i) M = some (.inl M')) := by
  have h6 := wq.2.2.2.1
  intro m
  induction m with
  | zero =>
    intro i M hi cw hu hk
    have hz : fb_ct (fun l => lvN Q l u) 6 = 0 := fb_ct_zero.mpr (fun k h => by
      by_cases c : k < v 0
      · exact hk k (by omega)
      · refine lvN_none ?_ u
        cases hq : Q k with
        | none => rfl
        | some x => exact absurd ((wq.2.1 k h).mp (by rw [hq]; exact fun z => by cases z)) c)
    refine ⟨M, chS.refl _ _, ?_⟩
    rw [if_neg (fun z => z hz)]
    unfold l_la_judgeBy_2
    refine lpc_out ?_
    show b_la_judgeBy_2_2 (nI base) (nI i) M = _
    unfold b_la_judgeBy_2_2
    rw [cw.1.1, if_pos (z_yle (by omega) (by omega) (by omega))]
  | succ m ih =>
    intro i M hi cw hu hk
    have hne := (wq.2.1 i (by omega)).mpr (by omega)
    cases hq : Q i with
    | none => exact absurd hq hne
    | some x =>
      obtain ⟨a, r, b, c, D⟩ := x
      obtain ⟨M1, e1, e2⟩ := c_slot wq cw (by omega : i < 20) hb hq
      rw [hu] at e1
      have hbd : b_la_judgeBy_2_2 (nI base) (nI i) M = if D u = 0 then some (.inl (nI (i + 1), M1)) else some (.inr (.inr (nI 2, M1))) := by
        unfold b_la_judgeBy_2_2
        rw [cw.1.1, if_neg (z_nle (by omega) (by omega) (by omega)), show (0 : Int32) + nI i = nI i from by rw [show (0 : Int32) = nI 0 from rfl, z_add, Nat.zero_add], e1, Option.bind_some, show nI i + 1 = nI (i + 1) from z_add i 1]
        rfl
      by_cases c : D u = 0
      · rw [if_pos c] at hbd
        have hli : lvN Q i u = false := by rw [lvN_some hq]; exact decide_eq_false (fun z => z c)
        obtain ⟨M', a1, a2⟩ := ih (i + 1) M1 (by omega) ((srcW Q v).use cw e2 (by decide)) (by rw [← hu]; exact vC40_ch e2 base) (fun k h => by
          by_cases e : k = i
          · rw [e]; exact hli
          · exact hk k (by omega))
        refine ⟨M', e2.trans a1, ?_⟩
        unfold l_la_judgeBy_2 at a2 ⊢
        split
        · rename_i z
          rw [if_pos z] at a2
          exact lpc_step (s' := (nI (i + 1), M1)) hbd a2
        · rename_i z
          rw [if_neg z] at a2
          exact lpc_step (s' := (nI (i + 1), M1)) hbd a2
      · rw [if_neg c] at hbd
        have hli : lvN Q i u = true := by rw [lvN_some hq]; exact decide_eq_true c
        have hnz : fb_ct (fun l => lvN Q l u) 6 ≠ 0 := fun z => by
          have := fb_ct_zero.mp z i (by omega)
          rw [hli] at this; cases this
        refine ⟨M1, e2, ?_⟩
        rw [if_pos hnz]
        unfold l_la_judgeBy_2
        exact lpc_out hbd
theorem c_judge32 {Q : sQ} {v : Nat → Nat} (wq : wQ Q v) {base : Nat} (hb : base + 17 ≤ 697) (u : Nat → Int32) : ∀ (m i : Nat) (M : dM), i + m = v 1 → rcW Q v M → vC40 M base = u → (∀ k, k < i → lvN Q (6 + k) u = false) → ∃ M', chS [31] M M' ∧ l_la_judgeBy_32 (nI base) (nI i) M = some (nI (if fb_ct (fun l => lvN Q (6 + l) u) 6 ≠ 0 then 1 else 0), M') := by
  have h6 := wq.2.2.2.2.1
  intro m
  induction m with
  | zero =>
    intro i M hi cw hu hk
    have hz : fb_ct (fun l => lvN Q (6 + l) u) 6 = 0 := fb_ct_zero.mpr (fun k h => by
      by_cases c : k < v 1
      · exact hk k (by omega)
      · refine lvN_none ?_ u
        cases hq : Q (6 + k) with
        | none => rfl
        | some x => exact absurd ((wq.2.2.1 k h).mp (by rw [hq]; exact fun z => by cases z)) c)
    refine ⟨M, chS.refl _ _, ?_⟩
    rw [if_neg (fun z => z hz)]
    unfold l_la_judgeBy_32
    refine lpc_out ?_
    show b_la_judgeBy_32_32 (nI base) (nI i) M = _
    unfold b_la_judgeBy_32_32
    rw [cw.1.2.1, if_pos (z_yle (by omega) (by omega) (by omega))]
    rfl
  | succ m ih =>
    intro i M hi cw hu hk
    have hne := (wq.2.2.1 i (by omega)).mpr (by omega)
    cases hq : Q (6 + i) with
    | none => exact absurd hq hne
    | some x =>
      obtain ⟨a, r, b, c, D⟩ := x
      obtain ⟨M1, e1, e2⟩ := c_slot wq cw (by omega : 6 + i < 20) hb hq
      rw [hu] at e1
      have hbd : b_la_judgeBy_32_32 (nI base) (nI i) M = if D u = 0 then some (.inl (nI (i + 1), M1)) else some (.inr (nI 1, M1)) := by
        unfold b_la_judgeBy_32_32
        rw [cw.1.2.1, if_neg (z_nle (by omega) (by omega) (by omega)), show (6 : Int32) + nI i = nI (6 + i) from z_add 6 i, e1, Option.bind_some, show nI i + 1 = nI (i + 1) from z_add i 1]
        rfl
      by_cases c : D u = 0
      · rw [if_pos c] at hbd
        have hli : lvN Q (6 + i) u = false := by rw [lvN_some hq]; exact decide_eq_false (fun z => z c)
        obtain ⟨M', a1, a2⟩ := ih (i + 1) M1 (by omega) ((srcW Q v).use cw e2 (by decide)) (by rw [← hu]; exact vC40_ch e2 base) (fun k h => by
          by_cases e : k = i
          · rw [e]; exact hli
          · exact hk k (by omega))
        refine ⟨M', e2.trans a1, ?_⟩
        unfold l_la_judgeBy_32 at a2 ⊢
        exact lpc_step (s' := (nI (i + 1), M1)) hbd a2
      · rw [if_neg c] at hbd
        have hli : lvN Q (6 + i) u = true := by rw [lvN_some hq]; exact decide_eq_true c
        have hnz : fb_ct (fun l => lvN Q (6 + l) u) 6 ≠ 0 := fun z => by
          have := fb_ct_zero.mp z i (by omega)
          rw [hli] at this; cases this
        refine ⟨M1, e2, ?_⟩
        rw [if_pos hnz]
        unfold l_la_judgeBy_32
        exact lpc_out hbd
theorem c_judgeBy {Q : sQ} {v : Nat → Nat} {M : dM} (wq : wQ Q v) (cw : rcW Q v M) {base : Nat} (hb : base + 17 ≤ 697) : ∃ M', f_la_judgeBy (nI base) M = some (nI (jdg Q (vC40 M base)), M') ∧ chS [31] M M' := by
  obtain ⟨M1, a1, a2⟩ := c_judge2 wq hb (vC40 M base) (v 0) 0 M (by omega) cw rfl (fun k h => by omega)
  have e0 : l_la_judgeBy_2 (nI base) 0 M = l_la_judgeBy_2 (nI base) (nI 0) M := rfl
  unfold f_la_judgeBy jdg
  rw [e0]
  by_cases z : fb_ct (fun l => lvN Q l (vC40 M base)) 6 ≠ 0
  · rw [if_pos z] at a2 ⊢
    rw [a2]
    exact ⟨M1, rfl, a1⟩
  · rw [if_neg z] at a2 ⊢
    rw [a2]
    obtain ⟨M2, b1, b2⟩ := c_judge32 wq hb (vC40 M base) (v 1) 0 M1 (by omega) ((srcW Q v).use cw a1 (by decide)) (vC40_ch a1 base) (fun k h => by omega)
    refine ⟨M2, ?_, a1.trans b1⟩
    show (l_la_judgeBy_32 (nI base) (nI 0) M1).bind _ = _
    rw [b2]
    rfl
def kWo : List Nat := [91, 92, 93, 94, 95, 96, 97, 98, 99]
theorem vM_w {M M' : dM} (c : chS kWo M M') : vM M' = vM M := by
  funext f
  exact c.I 100 (1 + f) rfl
theorem m_judged2 {Q : sQ} {v : Nat → Nat} (wq : wQ Q v) (u : Nat → Int32) : ∀ (m i : Nat) (M : dM), i + m = 6 → rmW Q v M → vM M = u → (∀ k, k < i → lvN Q k u = false) → ∃ M', chS kWo M M' ∧ (if fb_ct (fun l => lvN Q l u) 6 ≠ 0 then l_mo_judged_2 (nI i) M = some (.inr (nI 2, M')) else l_mo_judged_2 (nI i) M = some (.inl M')) := by
  intro m
  induction m with
  | zero =>
    intro i M hi mw hu hk
    have hz : fb_ct (fun l => lvN Q l u) 6 = 0 := fb_ct_zero.mpr (fun k h => hk k (by omega))
    refine ⟨M, chS.refl _ _, ?_⟩
    rw [if_neg (fun z => z hz)]
    unfold l_mo_judged_2
    refine lpc_out ?_
    show b_mo_judged_2_2 (nI i) M = _
    unfold b_mo_judged_2_2
    rw [if_pos (show (6 : Int32) ≤ nI i from z_yle (a := 6) (by omega) (by omega) (by omega))]
  | succ m ih =>
    intro i M hi mw hu hk
    have next : ∀ M1, chS kWo M M1 → lvN Q i u = false → b_mo_judged_2_2 (nI i) M = some (.inl (nI (i + 1), M1)) → ∃ M', chS kWo M M' ∧ (if fb_ct (fun l => lvN Q l u) 6 ≠ 0 then l_mo_judged_2 (nI i) M = some (.inr (nI 2, M')) else l_mo_judged_2 (nI i) M = some (.inl M')) := fun M1 e2 hli hbd => by
      obtain ⟨M', a1, a2⟩ := ih (i + 1) M1 (by omega) (rmW_w mw e2 (by decide)) (by rw [← hu]; exact vM_w e2) (fun k h => by
        by_cases e : k = i
        · rw [e]; exact hli
        · exact hk k (by omega))
      refine ⟨M', e2.trans a1, ?_⟩
      unfold l_mo_judged_2 at a2 ⊢
      split
      · rename_i z
        rw [if_pos z] at a2
        exact lpc_step (s' := (nI (i + 1), M1)) hbd a2
      · rename_i z
        rw [if_neg z] at a2
        exact lpc_step (s' := (nI (i + 1), M1)) hbd a2
    cases hq : Q i with
    | none =>
      refine next M (chS.refl _ _) (lvN_none hq u) ?_
      unfold b_mo_judged_2_2
      rw [if_neg (show ¬ (6 : Int32) ≤ nI i from z_nle (a := 6) (by omega) (by omega) (by omega)), z_gd (z_in (n := i) (by omega) (by omega)), z_cl (n := i) (by omega), if_pos (show gI M 82 i = (0 : Int32) from (mw.2 i (by omega)).1 hq), show nI i + 1 = nI (i + 1) from z_add i 1]
    | some x =>
      obtain ⟨a, r, b, c, D⟩ := x
      obtain ⟨M1, e1, e2⟩ := m_slot wq mw (by omega : i < 21) hq
      rw [hu] at e1
      have hbd : b_mo_judged_2_2 (nI i) M = if D u = 0 then some (.inl (nI (i + 1), M1)) else some (.inr (.inr (nI 2, M1))) := by
        unfold b_mo_judged_2_2
        rw [if_neg (show ¬ (6 : Int32) ≤ nI i from z_nle (a := 6) (by omega) (by omega) (by omega)), z_gd (z_in (n := i) (by omega) (by omega)), z_cl (n := i) (by omega), if_neg (show ¬ gI M 82 i = (0 : Int32) from by rw [((mw.2 i (by omega)).2 a r b c D hq).1]; decide), e1, Option.bind_some, show nI i + 1 = nI (i + 1) from z_add i 1]
        rfl
      by_cases c : D u = 0
      · rw [if_pos c] at hbd
        exact next M1 e2 (by rw [lvN_some hq]; exact decide_eq_false (fun z => z c)) hbd
      · rw [if_neg c] at hbd
        have hli : lvN Q i u = true := by rw [lvN_some hq]; exact decide_eq_true c
        have hnz : fb_ct (fun l => lvN Q l u) 6 ≠ 0 := fun z => by
          have := fb_ct_zero.mp z i (by omega)
          rw [hli] at this; cases this
        refine ⟨M1, e2, ?_⟩
        rw [if_pos hnz]
        unfold l_mo_judged_2
        exact lpc_out hbd
theorem m_judged36 {Q : sQ} {v : Nat → Nat} (wq : wQ Q v) (u : Nat → Int32) : ∀ (m i : Nat) (M : dM), i + m = 6 → rmW Q v M → vM M = u → (∀ k, k < i → lvN Q (6 + k) u = false) → ∃ M', chS kWo M M' ∧ l_mo_judged_36 (nI (6 + i)) M = some (nI (if fb_ct (fun l => lvN Q (6 + l) u) 6 ≠ 0 then 1 else 0), M') := by
  intro m
  induction m with
  | zero =>
    intro i M hi mw hu hk
    have hz : fb_ct (fun l => lvN Q (6 + l) u) 6 = 0 := fb_ct_zero.mpr (fun k h => hk k (by omega))
    refine ⟨M, chS.refl _ _, ?_⟩
    rw [if_neg (fun z => z hz)]
    unfold l_mo_judged_36
    refine lpc_out ?_
    show b_mo_judged_36_36 (nI (6 + i)) M = _
    unfold b_mo_judged_36_36
    rw [if_pos (show (12 : Int32) ≤ nI (6 + i) from z_yle (a := 12) (by omega) (by omega) (by omega))]
    rfl
  | succ m ih =>
    intro i M hi mw hu hk
    have next : ∀ M1, chS kWo M M1 → lvN Q (6 + i) u = false → b_mo_judged_36_36 (nI (6 + i)) M = some (.inl (nI (6 + (i + 1)), M1)) → ∃ M', chS kWo M M' ∧ l_mo_judged_36 (nI (6 + i)) M = some (nI (if fb_ct (fun l => lvN Q (6 + l) u) 6 ≠ 0 then 1 else 0), M') := fun M1 e2 hli hbd => by
      obtain ⟨M', a1, a2⟩ := ih (i + 1) M1 (by omega) (rmW_w mw e2 (by decide)) (by rw [← hu]; exact vM_w e2) (fun k h => by
        by_cases e : k = i
        · rw [e]; exact hli
        · exact hk k (by omega))
      refine ⟨M', e2.trans a1, ?_⟩
      unfold l_mo_judged_36 at a2 ⊢
      exact lpc_step (s' := (nI (6 + (i + 1)), M1)) hbd a2
    have e1i : nI (6 + i) + 1 = nI (6 + (i + 1)) := z_add (6 + i) 1
    cases hq : Q (6 + i) with
    | none =>
      refine next M (chS.refl _ _) (lvN_none hq u) ?_
      unfold b_mo_judged_36_36
      rw [if_neg (show ¬ (12 : Int32) ≤ nI (6 + i) from z_nle (a := 12) (by omega) (by omega) (by omega)), z_gd (z_in (n := 6 + i) (by omega) (by omega)), z_cl (n := 6 + i) (by omega), if_pos (show gI M 82 (6 + i) = (0 : Int32) from (mw.2 (6 + i) (by omega)).1 hq), e1i]
    | some x =>
      obtain ⟨a, r, b, c, D⟩ := x
      obtain ⟨M1, e1, e2⟩ := m_slot wq mw (by omega : 6 + i < 21) hq
      rw [hu] at e1
      have hbd : b_mo_judged_36_36 (nI (6 + i)) M = if D u = 0 then some (.inl (nI (6 + (i + 1)), M1)) else some (.inr (nI 1, M1)) := by
        unfold b_mo_judged_36_36
        rw [if_neg (show ¬ (12 : Int32) ≤ nI (6 + i) from z_nle (a := 12) (by omega) (by omega) (by omega)), z_gd (z_in (n := 6 + i) (by omega) (by omega)), z_cl (n := 6 + i) (by omega), if_neg (show ¬ gI M 82 (6 + i) = (0 : Int32) from by rw [((mw.2 (6 + i) (by omega)).2 a r b c D hq).1]; decide), e1, Option.bind_some, e1i]
        rfl
      by_cases c : D u = 0
      · rw [if_pos c] at hbd
        exact next M1 e2 (by rw [lvN_some hq]; exact decide_eq_false (fun z => z c)) hbd
      · rw [if_neg c] at hbd
        have hli : lvN Q (6 + i) u = true := by rw [lvN_some hq]; exact decide_eq_true c
        have hnz : fb_ct (fun l => lvN Q (6 + l) u) 6 ≠ 0 := fun z => by
          have := fb_ct_zero.mp z i (by omega)
          rw [hli] at this; cases this
        refine ⟨M1, e2, ?_⟩
        rw [if_pos hnz]
        unfold l_mo_judged_36
        exact lpc_out hbd
theorem m_judged {Q : sQ} {v : Nat → Nat} {M : dM} (wq : wQ Q v) (mw : rmW Q v M) : ∃ M', f_mo_judged M = some (nI (jdg Q (vM M)), M') ∧ chS kWo M M' := by
  obtain ⟨M1, a1, a2⟩ := m_judged2 wq (vM M) 6 0 M rfl mw rfl (fun k h => by omega)
  have e0 : l_mo_judged_2 0 M = l_mo_judged_2 (nI 0) M := rfl
  unfold f_mo_judged jdg
  rw [e0]
  by_cases z : fb_ct (fun l => lvN Q l (vM M)) 6 ≠ 0
  · rw [if_pos z] at a2 ⊢
    rw [a2]
    exact ⟨M1, rfl, a1⟩
  · rw [if_neg z] at a2 ⊢
    rw [a2]
    obtain ⟨M2, b1, b2⟩ := m_judged36 wq (vM M) 6 0 M1 rfl (rmW_w mw a1 (by decide)) (vM_w a1) (fun k h => by omega)
    refine ⟨M2, ?_, a1.trans b1⟩
    show (l_mo_judged_36 (nI (6 + 0)) M1).bind _ = _
    rw [b2]
    rfl
theorem jdg_cong {Q : sQ} {v : Nat → Nat} (wq : wQ Q v) {u u' : Nat → Int32} (h : ∀ f, f < 17 → u f = u' f) : jdg Q u = jdg Q u' := by
  have e : ∀ l, l < 12 → lvN Q l u = lvN Q l u' := fun l hl => by
    cases hq : Q l with
    | none => rw [lvN_none hq, lvN_none hq]
    | some x =>
      obtain ⟨a, r, b, c, D⟩ := x
      have g := (wq.1 l a r b c D (by omega) hq).2
      rw [show eK (eL l) = 17 from by unfold eL; rw [if_neg (by omega)]; rfl] at g
      rw [lvN_some hq, lvN_some hq, G_cong g u u' h]
  unfold jdg
  rw [fb_ct_cong (q := fun l => lvN Q l u') (fun k hk => e k (by omega)), fb_ct_cong (q := fun l => lvN Q (6 + l) u') (fun k hk => e (6 + k) (by omega))]
theorem jdg_lt (Q : sQ) (u : Nat → Int32) : jdg Q u < 3 := by
  unfold jdg
  split
  · omega
  · split <;> omega
noncomputable def eaF (A : sA) (Q : sQ) (far f : Nat) : Nat := jdg Q (fun k => nI (fc A far f k))
theorem m_lays {A : sA} {far : Nat} (w : wfA A) (hfar : far ≤ 999) {f : Nat} (hf : f < A 66 9) : ∀ (m k : Nat) (M : dM), k + m = 17 → rmA A M → gI M 66 33 = nI far → ∃ M', l_mo_lays_2 (nI f) (nI k) M = some M' ∧ (∀ i, k ≤ i → i < 17 → gI M' 100 (1 + i) = nI (fc A far f i)) ∧ (∀ i, i < k → gI M' 100 (1 + i) = gI M 100 (1 + i)) ∧ chS [100] M M' := by
  intro m
  induction m with
  | zero =>
    intro k M hk rm h33
    refine ⟨M, ?_, fun i h1 h2 => by omega, fun _ _ => rfl, chS.refl _ _⟩
    unfold l_mo_lays_2
    refine lpc_out ?_
    show b_mo_lays_2_2 (nI f) (nI k) M = _
    unfold b_mo_lays_2_2
    rw [if_pos (show (17 : Int32) ≤ nI k from z_yle (a := 17) (by omega) (by omega) (by omega))]
  | succ m ih =>
    intro k M hk rm h33
    have c : chS [100] M (sI M 100 (1 + k) (nI (fc A far f k))) := chS_sI M 100 _ _ rfl
    obtain ⟨M', a1, a2, a3, a4⟩ := ih (k + 1) (sI M 100 (1 + k) (nI (fc A far f k))) (by omega) ((srmA A).use rm c (by decide +kernel)) ((c.I 66 33 rfl).trans h33)
    refine ⟨M', ?_, fun i h1 h2 => ?_, fun i hi => ?_, c.trans a4⟩
    · unfold l_mo_lays_2 at a1 ⊢
      refine lpc_step (s' := (nI (k + 1), sI M 100 (1 + k) (nI (fc A far f k)))) ?_ a1
      show b_mo_lays_2_2 (nI f) (nI k) M = _
      unfold b_mo_lays_2_2
      rw [if_neg (show ¬ (17 : Int32) ≤ nI k from z_nle (a := 17) (by omega) (by omega) (by omega)), m_factOf w rm h33 hfar hf (by omega), Option.bind_some, show (1 : Int32) + nI k = nI (1 + k) from z_add 1 k, z_gd (z_in (n := 1 + k) (by omega) (by omega)), z_cl (n := 1 + k) (by omega), show nI k + 1 = nI (k + 1) from z_add k 1]
    · by_cases e : i = k
      · rw [a3 i (by omega), e, gI_sI, if_pos ⟨rfl, rfl⟩]
      · exact a2 i (by omega) h2
    · rw [a3 i (by omega), gI_sI, if_neg (by omega)]
def kEa : List Nat := [91, 92, 93, 94, 95, 96, 97, 98, 99, 100]
theorem m_laysF {A : sA} {far : Nat} {M : dM} (w : wfA A) (hfar : far ≤ 999) {f : Nat} (hf : f < A 66 9) (rm : rmA A M) (h33 : gI M 66 33 = nI far) : ∃ M', f_mo_lays (nI f) M = some M' ∧ (∀ i, i < 17 → vM M' i = nI (fc A far f i)) ∧ chS [100] M M' := by
  obtain ⟨M', a1, a2, a3, a4⟩ := m_lays w hfar hf 17 0 M rfl rm h33
  have a1' : l_mo_lays_2 (nI f) 0 M = some M' := a1
  unfold f_mo_lays
  rw [a1']
  exact ⟨M', rfl, fun i hi => a2 i (Nat.zero_le _) hi, a4⟩
theorem m_eachOf {A : sA} {Q : sQ} {v : Nat → Nat} {M : dM} (w : wfA A) (rm : rmA A M) (wq : wQ Q v) (mw : rmW Q v M) {f : Nat} (hf : f < A 66 9) : ∃ M', f_mo_eachOf (nI f) M = some (nI (eaF A Q (v 3) f), M') ∧ chS kEa M M' := by
  obtain ⟨M1, a1, a2, a3⟩ := m_laysF w wq.2.2.2.2.2.2.1 hf rm mw.1.2
  obtain ⟨M2, b1, b2⟩ := m_judged wq (rmW_w mw a3 (by decide))
  refine ⟨M2, ?_, (a3.mono (by decide)).trans (b2.mono (by decide))⟩
  unfold f_mo_eachOf
  rw [a1, Option.bind_some, b1, Option.bind_some, jdg_cong wq a2]
  rfl
