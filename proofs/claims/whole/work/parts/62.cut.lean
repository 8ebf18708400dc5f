/-! ===== cut ===== -/
def ctS (A : sA) (c m : Nat) : Option (List Nat) := srU (faP A c) (A 66 9) allU m 0 0
def ct (A : sA) (c : Nat) : Option (List Nat) := if faP A c 0 = true then none else match ctS A c 1 with
  | some l => some l
  | none => match ctS A c 2 with
    | some l => some l
    | none => ctS A c 3
def sizL : Option (List Nat) → Nat
  | some l => l.length
  | none => 0
def getL : Option (List Nat) → Nat → Nat
  | some l, j => l.getD j 0
  | none, _ => 0
theorem ct_3 (A : sA) (c : Nat) : sizL (ct A c) ≤ 3 := by
  unfold ct
  split
  · decide
  · split
    · rename_i l h
      show l.length ≤ 3
      rw [(srU_len 1 0 0 l h).1]; decide
    · split
      · rename_i l h
        show l.length ≤ 3
        rw [(srU_len 2 0 0 l h).1]; decide
      · cases h : ctS A c 3 with
        | none => decide
        | some l =>
          show l.length ≤ 3
          rw [(srU_len 3 0 0 l h).1]; decide
theorem c_turn {m : Nat} (h1 : 1 ≤ m) (h3 : m ≤ 3) {l : List Nat} {M : dM} (h : pkR m l M) : ∃ M', f_cl_turnPicks (nI m) M = some M' ∧ chS [54] M M' ∧ ∀ j, j < m → gI M' 54 j = nI (l.getD j 0) := by
  have e : nI m - 1 = nI (m - 1) := by rw [show (1 : Int32) = nI 1 from rfl, z_subI h1]
  unfold f_cl_turnPicks
  rw [e, z_gd (z_in (n := m - 1) (by omega) (by omega)), z_cl (n := m - 1) (by omega)]
  refine ⟨_, rfl, ((chS.refl _ M).sI 54 _ _ rfl).sI 54 _ _ rfl, fun j hj => ?_⟩
  have hm : m = 1 ∨ m = 2 ∨ m = 3 := by omega
  rcases hm with rfl | rfl | rfl
  · obtain ⟨x, l1, rfl, e1, rfl⟩ := h
    have : j = 0 := by omega
    subst this
    rw [gI_sI, if_pos ⟨rfl, rfl⟩, e1]; rfl
  · obtain ⟨x, l1, rfl, e1, y, l2, rfl, e2, rfl⟩ := h
    have hj2 : j = 0 ∨ j = 1 := by omega
    rcases hj2 with rfl | rfl
    · rw [gI_sI, if_neg (by omega), gI_sI, if_pos ⟨rfl, rfl⟩, show (2 : Nat) - 1 = 1 from rfl, e1]; rfl
    · rw [gI_sI, if_pos ⟨rfl, rfl⟩, e2]; rfl
  · obtain ⟨x, l1, rfl, e1, y, l2, rfl, e2, z, l3, rfl, e3, rfl⟩ := h
    have hj2 : j = 0 ∨ j = 1 ∨ j = 2 := by omega
    rcases hj2 with rfl | rfl | rfl
    · rw [gI_sI, if_neg (by omega), gI_sI, if_pos ⟨rfl, rfl⟩, show (3 : Nat) - 1 = 2 from rfl, e1]; rfl
    · rw [gI_sI, if_neg (by omega), gI_sI, if_neg (by omega), e2]; rfl
    · rw [gI_sI, if_pos ⟨rfl, rfl⟩, e3]; rfl
theorem lfN_0 (A : sA) : lfN A 0 = allF A := nat_bits fun b => by
  rw [lfN_bit, allF_bit, Nat.zero_testBit]
  cases decide (b < A 66 9) <;> rfl
theorem c_seekCut {A : sA} {M : dM} (w : wfA A) (rc : rcA A M) {c : Nat} (hc : c < 12) : ∃ M', f_cl_seekCut (nI c) M = some (nI (sizL (ct A c)), M') ∧ chS [54] M M' ∧ ∀ j, j < sizL (ct A c) → gI M' 54 j = nI (getL (ct A c) j) := by
  have e0 : lN (allF A) = lN (lfN A 0) := by rw [lfN_0]
  unfold f_cl_seekCut
  rw [c_allF w rc, e0, c_stLf w rc, Option.bind_some, sw_bit (M := M) w 0 hc]
  by_cases cs : (swO A 0).testBit c = true
  · have hf0 : faP A c 0 = false := by unfold faP; rw [cs]; rfl
    have s0 : ctS A c 0 = none := by
      show (if faP A c 0 = true then some [] else none) = none
      rw [hf0]; rfl
    rw [if_pos cs, c_used w rc, Option.bind_some]
    have ect : ct A c = match ctS A c 1 with
        | some l => some l
        | none => match ctS A c 2 with
          | some l => some l
          | none => ctS A c 3 := by unfold ct; rw [hf0]; rfl
    -- one size
    have one : ∀ (m : Nat) (M : dM), 1 ≤ m → m ≤ 3 → rcA A M → ctS A c (m - 1) = none → ∃ M', b_cl_seekCut_32_32 (nI c) (lN (lfN A 0)) (lN (usF A)) (nI m) M = (match ctS A c m with | some _ => some (.inr (nI m, M')) | none => some (.inl (nI (m + 1), M'))) ∧ chS [54] M M' ∧ ∀ l, ctS A c m = some l → ∀ j, j < m → gI M' 54 j = nI (l.getD j 0) := by
      intro m M h1 h3 rc hs
      obtain ⟨M1, a1, a2, a3⟩ := c_cuts w hc m 7 0 0 M h3 (by omega) (Nat.zero_le _) rc
      have eU : srU (faP A c) (A 66 9) (uB A) m 0 0 = ctS A c m := by
        obtain ⟨m', rfl⟩ : ∃ m', m = m' + 1 := ⟨m - 1, by omega⟩
        exact srU_U faP_used m' 0 0 hs
      rw [eU] at a1 a2
      have a1' : fr_cl_cuts 8 (nI c) (nI m) 0 (lN (lfN A 0)) (lN (usF A)) M = some ((ctS A c m).isSome, M1) := a1
      unfold b_cl_seekCut_32_32
      rw [if_neg (show ¬ (3 : Int32) < nI m from by rw [show (3 : Int32) = nI 3 from rfl, z_lt (by omega) (by omega)]; omega), a1', Option.bind_some]
      cases hct : ctS A c m with
      | none => exact ⟨M1, by rw [show nI m + 1 = nI (m + 1) from z_add m 1]; rfl, a3.1, fun l h => (by cases h)⟩
      | some l =>
        obtain ⟨M2, b1, b2, b3⟩ := c_turn h1 h3 (a2 l hct)
        refine ⟨M2, ?_, a3.1.trans b2, fun l' h => by cases h; exact b3⟩
        show (if true = true then (f_cl_turnPicks (nI m) M1).bind _ else _) = _
        rw [if_pos rfl, b1, Option.bind_some]
    have loop : ∃ M', l_cl_seekCut_32 (nI c) (lN (lfN A 0)) (lN (usF A)) (nI 1) M = some (nI (sizL (ct A c)), M') ∧ chS [54] M M' ∧ ∀ j, j < sizL (ct A c) → gI M' 54 j = nI (getL (ct A c) j) := by
      unfold l_cl_seekCut_32
      obtain ⟨M1, a1, a2, a3⟩ := one 1 M (by decide) (by decide) rc s0
      cases h1 : ctS A c 1 with
      | some l =>
        have ec : ct A c = some l := by rw [ect, h1]
        have el := (srU_len 1 0 0 l h1).1
        rw [h1] at a1
        rw [ec]
        refine ⟨M1, ?_, a2, fun j hj => a3 l h1 j (by rw [← el]; exact hj)⟩
        rw [show sizL (some l) = 1 from el]
        exact lpc_out a1
      | none =>
        rw [h1] at a1
        obtain ⟨M2, b1, b2, b3⟩ := one 2 M1 (by decide) (by decide) ((srcA A).use rc a2 (by decide +kernel)) h1
        cases h2 : ctS A c 2 with
        | some l =>
          have ec : ct A c = some l := by rw [ect, h1, h2]
          have el := (srU_len 2 0 0 l h2).1
          rw [h2] at b1
          rw [ec]
          refine ⟨M2, ?_, a2.trans b2, fun j hj => b3 l h2 j (by rw [← el]; exact hj)⟩
          rw [show sizL (some l) = 2 from el]
          exact lpc_step (s' := (nI 2, M1)) a1 (lpc_out b1)
        | none =>
          rw [h2] at b1
          obtain ⟨M3, d1, d2, d3⟩ := one 3 M2 (by decide) (by decide) ((srcA A).use rc (a2.trans b2) (by decide +kernel)) h2
          have ec0 : ct A c = ctS A c 3 := by rw [ect, h1, h2]
          cases h3 : ctS A c 3 with
          | some l =>
            have ec : ct A c = some l := by rw [ec0, h3]
            have el := (srU_len 3 0 0 l h3).1
            rw [h3] at d1
            rw [ec]
            refine ⟨M3, ?_, (a2.trans b2).trans d2, fun j hj => d3 l h3 j (by rw [← el]; exact hj)⟩
            rw [show sizL (some l) = 3 from el]
            exact lpc_step (s' := (nI 2, M1)) a1 (lpc_step (s' := (nI 3, M2)) b1 (lpc_out d1))
          | none =>
            have ec : ct A c = none := by rw [ec0, h3]
            rw [h3] at d1
            rw [ec]
            refine ⟨M3, ?_, (a2.trans b2).trans d2, fun j hj => absurd hj (Nat.not_lt_zero _)⟩
            refine lpc_step (s' := (nI 2, M1)) a1 (lpc_step (s' := (nI 3, M2)) b1 (lpc_step (s' := (nI 4, M3)) d1 (lpc_out ?_)))
            show b_cl_seekCut_32_32 (nI c) (lN (lfN A 0)) (lN (usF A)) (nI 4) M3 = _
            unfold b_cl_seekCut_32_32
            rw [if_pos (show (3 : Int32) < nI 4 from by decide)]
            rfl
    obtain ⟨M', l1, l2, l3⟩ := loop
    have l1' : l_cl_seekCut_32 (nI c) (lN (lfN A 0)) (lN (usF A)) 1 M = some (nI (sizL (ct A c)), M') := l1
    exact ⟨M', by rw [l1', Option.bind_some], l2, l3⟩
  · have ec : ct A c = none := by unfold ct; rw [if_pos (by unfold faP; rw [Bool.eq_false_iff.mpr cs]; rfl)]
    rw [if_neg cs, ec]
    exact ⟨M, rfl, chS.refl _ _, fun j hj => absurd hj (Nat.not_lt_zero _)⟩
/-- the class' cache -/
def cC (A : sA) (M : dM) : Prop := gI M 50 6 = -1 ∨ ∃ c, c < 12 ∧ gI M 50 6 = nI c ∧ gI M 50 7 = nI (sizL (ct A c)) ∧ ∀ j, j < sizL (ct A c) → gI M 54 j = nI (getL (ct A c) j)
theorem scC (A : sA) : supp [6006, 6007, 54] (cC A) := by
  intro M M' h _ hr
  unfold cC
  rw [(h 50 6 rfl).1, (h 50 7 rfl).1]
  rcases hr with hr | ⟨c, h1, h2, h3, h4⟩
  · exact Or.inl hr
  · exact Or.inr ⟨c, h1, h2, h3, fun j hj => by rw [(h 54 j rfl).1]; exact h4 j hj⟩
theorem c_cutSize {A : sA} {M : dM} (w : wfA A) (rc : rcA A M) (h : cC A M) {c : Nat} (hc : c < 12) : ∃ M', f_cl_cutSize (nI c) M = some (nI (sizL (ct A c)), M') ∧ chS [6006, 6007, 54] M M' ∧ cC A M' ∧ ∀ j, j < sizL (ct A c) → gI M' 54 j = nI (getL (ct A c) j) := by
  have nb : ∀ b : Nat, b < 12 → ¬ (-1 : Int32) = nI b := fun b hb z => by
    have := nI_toInt (n := b) (by omega)
    rw [← z] at this
    have h2 : (-1 : Int32).toInt = -1 := rfl
    rw [h2] at this
    omega
  unfold f_cl_cutSize
  by_cases e : gI M 50 6 = nI c
  · rcases h with h | ⟨c', h1, h2, h3, h4⟩
    · exact absurd (h.symm.trans e) (nb c hc)
    · rw [h2, z_eq (by omega) (by omega)] at e
      subst e
      rw [if_pos h2, h3]
      exact ⟨M, rfl, chS.refl _ _, Or.inr ⟨c', h1, h2, h3, h4⟩, h4⟩
  · rw [if_neg e]
    have c0 : chS [6006, 6007, 54] M (sI M 50 6 (nI c)) := chS_sI M 50 6 _ rfl
    obtain ⟨M1, a1, a2, a3⟩ := c_seekCut w ((srcA A).use rc c0 (by decide +kernel)) hc
    have k6 : gI M1 50 6 = nI c := by rw [a2.I 50 6 rfl, gI_sI, if_pos ⟨rfl, rfl⟩]
    have k54 : ∀ j, j < sizL (ct A c) → gI (sI M1 50 7 (nI (sizL (ct A c)))) 54 j = nI (getL (ct A c) j) := fun j hj => by
      rw [gI_sI, if_neg (by omega)]; exact a3 j hj
    refine ⟨sI M1 50 7 (nI (sizL (ct A c))), ?_, (c0.trans (a2.mono (by decide))).sI 50 7 _ rfl, Or.inr ⟨c, hc, ?_, ?_, k54⟩, k54⟩
    · rw [a1, Option.bind_some, gI_sI, if_pos ⟨rfl, rfl⟩]
    · rw [gI_sI, if_neg (by omega)]; exact k6
    · rw [gI_sI, if_pos ⟨rfl, rfl⟩]
theorem m_cuts {A : sA} {M : dM} (w : wfA A) (rm : rmA A M) {c : Nat} (hc : c < 12) (hf : faP A c 0 = false) : ∃ M', f_mo_cuts (nI c) M = some M' ∧ chS kFa M M' ∧ gI M' 66 73 = nI (sizL (ct A c)) ∧ ∀ j, j < sizL (ct A c) → gI M' 111 j = nI (getL (ct A c) j) := by
  have ect : ct A c = match ctS A c 1 with
      | some l => some l
      | none => match ctS A c 2 with
        | some l => some l
        | none => ctS A c 3 := by unfold ct; rw [hf]; rfl
  have c0 : chS kFa M (sI M 66 73 0) := chS_sI M 66 73 _ rfl
  have rm0 := (srmA A).use rm c0 (by decide +kernel)
  have h7 := m_c7 w hc rm0 (A 66 9) 0 (Nat.zero_add _)
  have h36 := m_c36 w hc rm0 (A 66 9) 0 (Nat.zero_add _)
  have h83 := m_c83 w hc rm0 (A 66 9) 0 (Nat.zero_add _)
  have h7' : l_mo_cuts_7 (nI c) 0 (sI M 66 73 0) = some (match ctS A c 1 with | some l => .inr (fM (sI M 66 73 0) 1 (l.headD 0) (l.headD 0) (l.headD 0)) | none => .inl (sI M 66 73 0)) := h7
  have h36' : l_mo_cuts_36 (nI c) 0 (sI M 66 73 0) = some (match ctS A c 2 with | some l => .inr (fM (sI M 66 73 0) 2 (l.headD 0) (l.tail.headD 0) (l.tail.headD 0)) | none => .inl (sI M 66 73 0)) := h36
  have h83' : l_mo_cuts_83 (nI c) 0 (sI M 66 73 0) = some (match ctS A c 3 with | some l => fM (sI M 66 73 0) 3 (l.headD 0) (l.tail.headD 0) (l.tail.tail.headD 0) | none => sI M 66 73 0) := h83
  have g73 : ∀ M k x y z, gI (fM M k x y z) 66 73 = nI k := fun M k x y z => by unfold fM; simp [gI_sI]
  have g0 : ∀ M k x y z, gI (fM M k x y z) 111 0 = nI x := fun M k x y z => by unfold fM; simp [gI_sI]
  have g1 : ∀ M k x y z, gI (fM M k x y z) 111 1 = nI y := fun M k x y z => by unfold fM; simp [gI_sI]
  have g2 : ∀ M k x y z, gI (fM M k x y z) 111 2 = nI z := fun M k x y z => by unfold fM; simp [gI_sI]
  unfold f_mo_cuts
  rw [h7', Option.bind_some]
  cases h1 : ctS A c 1 with
  | some l =>
    have ec : ct A c = some l := by rw [ect, h1]
    have el := (srU_len 1 0 0 l h1).1
    rw [ec]
    refine ⟨_, rfl, c0.trans (fM_k _ _ _ _ _), ?_, fun j hj => ?_⟩
    · rw [g73, show sizL (some l) = 1 from el]
    · have hj' : j < l.length := hj
      have : j = 0 := by omega
      subst this
      rw [g0]
      match l, el with
      | [a], _ => rfl
  | none =>
    show ∃ M', ((l_mo_cuts_36 (nI c) 0 (sI M 66 73 0)).bind (Sum.elim (fun t12 => (l_mo_cuts_83 (nI c) 0 t12).bind fun r27 => some r27) (fun r14 => some r14))) = some M' ∧ chS kFa M M' ∧ gI M' 66 73 = nI (sizL (ct A c)) ∧ ∀ j, j < sizL (ct A c) → gI M' 111 j = nI (getL (ct A c) j)
    rw [h36', Option.bind_some]
    cases h2 : ctS A c 2 with
    | some l =>
      have ec : ct A c = some l := by rw [ect, h1, h2]
      have el := (srU_len 2 0 0 l h2).1
      rw [ec]
      refine ⟨_, rfl, c0.trans (fM_k _ _ _ _ _), ?_, fun j hj => ?_⟩
      · rw [g73, show sizL (some l) = 2 from el]
      · have hj' : j < l.length := hj
        match l, el with
        | [a, b], _ =>
          have hj2 : j = 0 ∨ j = 1 := by
            have : j < 2 := hj'
            omega
          rcases hj2 with rfl | rfl
          · rw [g0]; rfl
          · rw [g1]; rfl
    | none =>
      show ∃ M', ((l_mo_cuts_83 (nI c) 0 (sI M 66 73 0)).bind fun r27 => some r27) = some M' ∧ chS kFa M M' ∧ gI M' 66 73 = nI (sizL (ct A c)) ∧ ∀ j, j < sizL (ct A c) → gI M' 111 j = nI (getL (ct A c) j)
      have ec0 : ct A c = ctS A c 3 := by rw [ect, h1, h2]
      rw [h83', Option.bind_some]
      cases h3 : ctS A c 3 with
      | some l =>
        have ec : ct A c = some l := by rw [ec0, h3]
        have el := (srU_len 3 0 0 l h3).1
        rw [ec]
        refine ⟨_, rfl, c0.trans (fM_k _ _ _ _ _), ?_, fun j hj => ?_⟩
        · rw [g73, show sizL (some l) = 3 from el]
        · have hj' : j < l.length := hj
          match l, el with
          | [a, b, d], _ =>
            have hj2 : j = 0 ∨ j = 1 ∨ j = 2 := by
              have : j < 3 := hj'
              omega
            rcases hj2 with rfl | rfl | rfl
            · rw [g0]; rfl
            · rw [g1]; rfl
            · rw [g2]; rfl
      | none =>
        have ec : ct A c = none := by rw [ec0, h3]
        rw [ec]
        refine ⟨_, rfl, c0, ?_, fun j hj => absurd hj (Nat.not_lt_zero _)⟩
        rw [gI_sI, if_pos ⟨rfl, rfl⟩]; rfl
theorem op_cut {A : sA} {Q : sQ} {v : Nat → Nat} {M : dM} (h : IV A Q v M) (hc : cC A M) (x y : Int32) : opV [6006, 6007, 54, 7673, 111, 7600] A Q v M (fun b M2 => (∃ M1, f_ax_cut x y M = some (b, M1) ∧ f_mo_cut x y M1 = some (b, M2)) ∧ cC A M2) := by
  have hc0 : cC A (sI M 66 0 0) := (scC A).use hc (chS_sI (S := [7600]) M 66 0 0 rfl) (by decide)
  unfold f_ax_cut f_mo_cut
  have e1 : f_mo_within x 0 11 = f_ax_within x 12 := z_mw0 x (n := 11) (by decide)
  have e2 : f_mo_within y 0 3 = f_ax_within y 4 := z_mw0 y (n := 3) (by decide)
  rw [e1, e2]
  by_cases zx : f_ax_within x 12 = true
  case neg =>
    rw [if_neg zx]
    exact opV_no rfl h (x := 0) (b := -1) ⟨⟨M, rfl, by rw [if_neg zx]⟩, hc0⟩
  by_cases zy : f_ax_within y 4 = true
  case neg =>
    rw [if_pos zx, if_neg zy]
    exact opV_no rfl h (x := 0) (b := -1) ⟨⟨M, rfl, by rw [if_pos zx, if_neg zy]⟩, hc0⟩
  rcases z_range x 12 (by decide) with q | ⟨c, hc12, rfl⟩
  · rw [show f_ax_within x 12 = false from q] at zx; cases zx
  rcases z_range y 4 (by decide) with q | ⟨k, hk, rfl⟩
  · rw [show f_ax_within y 4 = false from q] at zy; cases zy
  obtain ⟨M1, a1, a2, a3, a4⟩ := c_cutSize h.1 h.2.1 hc hc12
  have i1 := iv_keep h a2 (by decide +kernel)
  have i0 := iv_0 i1 0
  have c1 : chS [6006, 6007, 54, 7673, 111, 7600] M (sI M1 66 0 0) := (a2.mono (by decide)).sI 66 0 0 rfl
  have cc0 : cC A (sI M1 66 0 0) := (scC A).use a3 (chS_sI (S := [7600]) M1 66 0 0 rfl) (by decide)
  have h3 := ct_3 A c
  have hl := swO_lt i0.1 0
  have st0 : f_mo_standsWithout 0 (sI M1 66 0 0) = some (nI (swO A 0)) := m_stands i0.1 i0.2.2.1 0
  -- the class' answer
  have ca : ∀ (M' : dM), (if nI (sizL (ct A c)) < 1 then some ((-1 : Int32), M') else if nI k ≤ nI (sizL (ct A c)) then if nI k = 0 then some (nI (sizL (ct A c)), M') else gd (vp_in (nI k - 1) 3) (some (gI M' 54 (nI k - 1).toNatClampNeg, M')) else some (-1, M')) = if sizL (ct A c) = 0 then some (-1, M') else if k ≤ sizL (ct A c) then if k = 0 then some (nI (sizL (ct A c)), M') else some (gI M' 54 (k - 1), M') else some (-1, M') := fun M' => by
    by_cases d0 : sizL (ct A c) = 0
    · rw [if_pos (show nI _ < (1 : Int32) from by rw [d0]; decide), if_pos d0]
    · rw [if_neg (show ¬ nI (sizL (ct A c)) < (1 : Int32) from by rw [show (1 : Int32) = nI 1 from rfl, z_lt (by omega) (by omega)]; omega), if_neg d0]
      by_cases d1 : k ≤ sizL (ct A c)
      · rw [if_pos (show nI k ≤ nI _ from z_yle (by omega) (by omega) d1), if_pos d1]
        by_cases d2 : k = 0
        · rw [if_pos (show nI k = 0 from by rw [d2]; rfl), if_pos d2]
        · have ek : nI k - 1 = nI (k - 1) := by rw [show (1 : Int32) = nI 1 from rfl, z_subI (by omega)]
          rw [if_neg (show ¬ nI k = (0 : Int32) from z_ne (b := 0) (by omega) (by decide) d2), if_neg d2, ek, z_gd (z_in (n := k - 1) (by omega) (by omega)), z_cl (n := k - 1) (by omega)]
      · rw [if_neg (show ¬ nI k ≤ nI _ from z_nle (by omega) (by omega) (by omega)), if_neg d1]
  rw [if_pos zx, if_pos zy, a1, Option.bind_some]
  simp only [if_pos zx, if_pos zy]
  by_cases cs : (swO A 0).testBit c = true
  · have hf : faP A c 0 = false := by unfold faP; rw [cs]; rfl
    obtain ⟨M2, b1, b2, b3, b4⟩ := m_cuts i0.1 i0.2.2.1 hc12 hf
    have cc2 := (scC A).use cc0 b2 (by decide)
    have i2 := iv_keep i0 b2 (by decide +kernel)
    refine ⟨if sizL (ct A c) = 0 then -1 else if k ≤ sizL (ct A c) then if k = 0 then nI (sizL (ct A c)) else nI (getL (ct A c) (k - 1)) else -1, M2, ⟨⟨M1, ?_, ?_⟩, cc2⟩, i2, c1.trans (b2.mono (by decide))⟩
    · refine (ca M1).trans ?_
      by_cases d0 : sizL (ct A c) = 0
      · rw [if_pos d0, if_pos d0]
      · rw [if_neg d0, if_neg d0]
        by_cases d1 : k ≤ sizL (ct A c)
        · rw [if_pos d1, if_pos d1]
          by_cases d2 : k = 0
          · rw [if_pos d2, if_pos d2]
          · rw [if_neg d2, if_neg d2, a4 (k - 1) (by omega)]
        · rw [if_neg d1, if_neg d1]
    · rw [st0, Option.bind_some, if_neg (show ¬ (nI (swO A 0) >>> (nI c &&& 31)) &&& 1 = (0 : Int32) from fun z => by
        have := (z_bitq (m := swO A 0) (k := c) (by omega) (by omega)).mpr cs
        rw [this] at z
        cases z), b1, Option.bind_some, b3]
      by_cases d0 : sizL (ct A c) = 0
      · rw [if_pos (show nI _ = (0 : Int32) from by rw [d0]; rfl), if_pos d0]
      · rw [if_neg (show ¬ nI _ = (0 : Int32) from z_ne (b := 0) (by omega) (by decide) d0), if_neg d0]
        by_cases d1 : k ≤ sizL (ct A c)
        · rw [if_pos (show nI k ≤ nI _ from z_yle (by omega) (by omega) d1), if_pos d1]
          by_cases d2 : k = 0
          · rw [if_pos (show nI k = 0 from by rw [d2]; rfl), if_pos d2]
          · have ek : nI k - 1 = nI (k - 1) := by rw [show (1 : Int32) = nI 1 from rfl, z_subI (by omega)]
            rw [if_neg (show ¬ nI k = (0 : Int32) from z_ne (b := 0) (by omega) (by decide) d2), if_neg d2, ek, z_gd (z_in (n := k - 1) (by omega) (by omega)), z_cl (n := k - 1) (by omega), b4 (k - 1) (by omega)]
        · rw [if_neg (show ¬ nI k ≤ nI _ from z_nle (by omega) (by omega) (by omega)), if_neg d1]
  · have ec : ct A c = none := by unfold ct; rw [if_pos (by unfold faP; rw [Bool.eq_false_iff.mpr cs]; rfl)]
    refine ⟨-1, _, ⟨⟨M1, ?_, ?_⟩, cc0⟩, i0, c1⟩
    · refine (ca M1).trans ?_
      rw [ec]; rfl
    · have zq : (nI (swO A 0) >>> (nI c &&& 31)) &&& 1 = (0 : Int32) := by
        have := z_bit1 (m := swO A 0) (k := c) (by omega) (by omega)
        exact this.mpr (Bool.eq_false_iff.mpr cs)
      rw [st0, Option.bind_some, if_pos zq]
