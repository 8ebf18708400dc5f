/-! ===== law as a call ===== -/
def rcW (Q : sQ) (v : Nat → Nat) (M : dM) : Prop := (gI M 27 4 = nI (v 0) ∧ gI M 27 5 = nI (v 1) ∧ gI M 27 6 = nI (v 2) ∧ gI M 27 7 = nI (v 3)) ∧ ∀ l, l < 21 → (Q l = none → gI M 29 l = nI 0 ∧ gI M 30 l = nI 0) ∧ ∀ a r b c D, Q l = some (a, r, b, c, D) → gI M 29 l = nI a ∧ gI M 30 l = nI (a + r.length) ∧ a + r.length ≤ 1000 ∧ hold M 28 a r
def rmW (Q : sQ) (v : Nat → Nat) (M : dM) : Prop := (gI M 66 32 = nI (v 2) ∧ gI M 66 33 = nI (v 3)) ∧ ∀ l, l < 21 → (Q l = none → gI M 82 l = nI 0) ∧ ∀ a r b c D, Q l = some (a, r, b, c, D) → gI M 82 l = nI 1 ∧ gI M 83 l = nI b ∧ gI M 84 l = nI (b + c.length) ∧ b + c.length ≤ 1000 ∧ hold M 88 b c
def trcW : List Nat := [28, 29, 30, 3704, 3705, 3706, 3707]
theorem srcW (Q : sQ) (v : Nat → Nat) : supp trcW (rcW Q v) := by
  intro M M' hc _ ⟨⟨h4, h5, h6, h7⟩, h⟩
  refine ⟨⟨?_, ?_, ?_, ?_⟩, fun l hl => ?_⟩
  · rw [(hc 27 4 rfl).1]; exact h4
  · rw [(hc 27 5 rfl).1]; exact h5
  · rw [(hc 27 6 rfl).1]; exact h6
  · rw [(hc 27 7 rfl).1]; exact h7
  · obtain ⟨g1, g2⟩ := h l hl
    rw [(hc 29 l rfl).1, (hc 30 l rfl).1]
    exact ⟨g1, fun a r b c D z => ⟨(g2 a r b c D z).1, (g2 a r b c D z).2.1, (g2 a r b c D z).2.2.1, hold_of (g2 a r b c D z).2.2.2 (fun j => (hc 28 j rfl).1)⟩⟩
theorem rmW_keep {Q : sQ} {v : Nat → Nat} {M M' : dM} (h : rmW Q v M) (h1 : ∀ k j, (k = 82 ∨ k = 83 ∨ k = 84) → gI M' k j = gI M k j) (h2 : ∀ j, j < 1000 → gI M' 88 j = gI M 88 j) (h3 : gI M' 66 32 = gI M 66 32) (h4 : gI M' 66 33 = gI M 66 33) : rmW Q v M' := by
  obtain ⟨⟨a1, a2⟩, a3⟩ := h
  refine ⟨⟨h3.trans a1, h4.trans a2⟩, fun l hl => ?_⟩
  obtain ⟨g1, g2⟩ := a3 l hl
  rw [h1 82 l (by omega), h1 83 l (by omega), h1 84 l (by omega)]
  exact ⟨g1, fun a r b c D z => ⟨(g2 a r b c D z).1, (g2 a r b c D z).2.1, (g2 a r b c D z).2.2.1, (g2 a r b c D z).2.2.2.1, hold_ext (g2 a r b c D z).2.2.2.2 (g2 a r b c D z).2.2.2.1 h2⟩⟩
def kD : List Nat := [28, 29, 30, 3701, 3704, 3705, 3706, 3707]
theorem c_takeOver {M : dM} {s : Nat} (h1 : gI M 34 1 = nI s) (hs : s ≤ 1000) : ∃ Y, f_la_takeOver M = some Y ∧ chS kD M Y ∧ (∀ j, j < s → gI Y 28 j = gI M 35 j) ∧ (∀ j, j < 21 → gI Y 29 j = gI M 36 j ∧ gI Y 30 j = gI M 37 j) ∧ gI Y 27 4 = gI M 34 4 ∧ gI Y 27 5 = gI M 34 5 ∧ gI Y 27 6 = gI M 34 6 ∧ gI Y 27 7 = gI M 34 7 := by
  unfold f_la_takeOver
  rw [h1, z_cl (n := s) (by omega)]
  rw [z_gd (eq_true (show (¬ (0 : Int32) < 0 ∧ ¬ (0 : Int32) < 0 ∧ ¬ nI s < 0) ∧ (0 : Int32).toNatClampNeg + s ≤ 1000 ∧ (0 : Int32).toNatClampNeg + s ≤ 1000 from ⟨⟨by decide, by decide, z_nlt (b := 0) (by omega) (by omega) (by omega)⟩, by rw [show (0 : Int32).toNatClampNeg = 0 from rfl]; omega, by rw [show (0 : Int32).toNatClampNeg = 0 from rfl]; omega⟩))]
  rw [z_gd (eq_true (show (¬ (0 : Int32) < 0 ∧ ¬ (0 : Int32) < 0 ∧ ¬ (21 : Int32) < 0) ∧ (0 : Int32).toNatClampNeg + (21 : Int32).toNatClampNeg ≤ 21 ∧ (0 : Int32).toNatClampNeg + (21 : Int32).toNatClampNeg ≤ 21 from by decide))]
  rw [show (0 : Int32).toNatClampNeg = 0 from rfl, show (21 : Int32).toNatClampNeg = 21 from rfl]
  have cX : chS kD M (cI (cI (cI M 35 28 0 0 s) 36 29 0 0 21) 37 30 0 0 21) := ((chS_cI (S := kD) M 35 28 0 0 s (fun _ => rfl)).trans (chS_cI _ 36 29 0 0 21 (fun _ => rfl))).trans (chS_cI _ 37 30 0 0 21 (fun _ => rfl))
  have x28 : ∀ j, j < s → gI (cI (cI (cI M 35 28 0 0 s) 36 29 0 0 21) 37 30 0 0 21) 28 j = gI M 35 j := fun j hj => by
    rw [gI_cI, if_neg (by omega), gI_cI, if_neg (by omega), gI_cI, if_pos ⟨rfl, by omega, by omega⟩, Nat.sub_zero, Nat.zero_add]
  have x29 : ∀ j, j < 21 → gI (cI (cI (cI M 35 28 0 0 s) 36 29 0 0 21) 37 30 0 0 21) 29 j = gI M 36 j := fun j hj => by
    rw [gI_cI, if_neg (by omega), gI_cI, if_pos ⟨rfl, by omega, by omega⟩, Nat.sub_zero, Nat.zero_add, gI_cI, if_neg (by omega)]
  have x30 : ∀ j, j < 21 → gI (cI (cI (cI M 35 28 0 0 s) 36 29 0 0 21) 37 30 0 0 21) 30 j = gI M 37 j := fun j hj => by
    rw [gI_cI, if_pos ⟨rfl, by omega, by omega⟩, Nat.sub_zero, Nat.zero_add, gI_cI, if_neg (by omega), gI_cI, if_neg (by omega)]
  generalize cI (cI (cI M 35 28 0 0 s) 36 29 0 0 21) 37 30 0 0 21 = X at cX x28 x29 x30
  refine ⟨_, rfl, ?_, fun j hj => ?_, fun j hj => ⟨?_, ?_⟩, ?_, ?_, ?_, ?_⟩
  · exact ((((cX.sI 27 1 _ rfl).sI 27 4 _ rfl).sI 27 5 _ rfl).sI 27 6 _ rfl).sI 27 7 _ rfl
  · simp only [gI_sI, Nat.reduceEqDiff, false_and, if_false]; exact x28 j hj
  · simp only [gI_sI, Nat.reduceEqDiff, false_and, if_false]; exact x29 j hj
  · simp only [gI_sI, Nat.reduceEqDiff, false_and, if_false]; exact x30 j hj
  · simp only [gI_sI, Nat.reduceEqDiff, false_and, and_false, if_false, and_self, if_true]; exact cX.I 34 4 rfl
  · simp only [gI_sI, Nat.reduceEqDiff, false_and, and_false, if_false, and_self, if_true]; exact cX.I 34 5 rfl
  · simp only [gI_sI, Nat.reduceEqDiff, false_and, and_false, if_false, and_self, if_true]; exact cX.I 34 6 rfl
  · simp only [gI_sI, Nat.reduceEqDiff, false_and, and_false, if_false, and_self, if_true]; exact cX.I 34 7 rfl
theorem m_law19 : ∀ (m j : Nat) (M : dM), j + m = 21 → ∃ M', l_mo_law_19 (nI j) M = some M' ∧ (∀ i, j ≤ i → i < 21 → gI M' 82 i = vp_nar .boolean (gI M 85 i) ∧ gI M' 83 i = gI M 86 i - 1000 ∧ gI M' 84 i = gI M 87 i - 1000) ∧ (∀ i, i < j → gI M' 82 i = gI M 82 i ∧ gI M' 83 i = gI M 83 i ∧ gI M' 84 i = gI M 84 i) ∧ chS [82, 83, 84] M M' := by
  intro m
  induction m with
  | zero =>
    intro j M hj
    refine ⟨M, ?_, fun i h1 h2 => by omega, fun _ _ => ⟨rfl, rfl, rfl⟩, chS.refl _ _⟩
    unfold l_mo_law_19
    refine lpc_out ?_
    show b_mo_law_19_19 (nI j) M = _
    unfold b_mo_law_19_19
    rw [if_pos (show (21 : Int32) ≤ nI j from z_yle (a := 21) (by omega) (by omega) (by omega))]
  | succ m ih =>
    intro j M hj
    have c : chS [82, 83, 84] M (sI (sI (sI M 82 j (vp_nar .boolean (gI M 85 j))) 83 j (gI M 86 j - 1000)) 84 j (gI M 87 j - 1000)) := (((chS.refl _ M).sI 82 _ _ rfl).sI 83 _ _ rfl).sI 84 _ _ rfl
    obtain ⟨M', a1, a2, a3, a4⟩ := ih (j + 1) (sI (sI (sI M 82 j (vp_nar .boolean (gI M 85 j))) 83 j (gI M 86 j - 1000)) 84 j (gI M 87 j - 1000)) (by omega)
    refine ⟨M', ?_, fun i h1 h2 => ?_, fun i hi => ?_, c.trans a4⟩
    · unfold l_mo_law_19 at a1 ⊢
      refine lpc_step (s' := (nI (j + 1), sI (sI (sI M 82 j (vp_nar .boolean (gI M 85 j))) 83 j (gI M 86 j - 1000)) 84 j (gI M 87 j - 1000))) ?_ a1
      show b_mo_law_19_19 (nI j) M = _
      unfold b_mo_law_19_19
      rw [if_neg (show ¬ (21 : Int32) ≤ nI j from z_nle (a := 21) (by omega) (by omega) (by omega)), z_gd (z_in (n := j) (by omega) (by omega)), z_cl (n := j) (by omega), show nI j + 1 = nI (j + 1) from z_add j 1]
      simp only [gI_sI, Nat.reduceEqDiff, false_and, if_false]
    · by_cases e : i = j
      · subst e
        obtain ⟨x1, x2, x3⟩ := a3 i (by omega)
        rw [x1, x2, x3]
        simp only [gI_sI, Nat.reduceEqDiff, false_and, if_false, and_self, if_true]
      · obtain ⟨x1, x2, x3⟩ := a2 i (by omega) h2
        rw [x1, x2, x3, c.I 85 i rfl, c.I 86 i rfl, c.I 87 i rfl]
        exact ⟨rfl, rfl, rfl⟩
    · obtain ⟨x1, x2, x3⟩ := a3 i (by omega)
      rw [x1, x2, x3]
      have n1 : ¬ i = j := by omega
      simp only [gI_sI, Nat.reduceEqDiff, false_and, if_false, n1, and_false, and_self]
theorem m_law77 : ∀ (m j : Nat) (M : dM), j + m = 1000 → ∃ M', l_mo_law_77 (nI j) M = some (nI 0, M') ∧ (∀ i, j ≤ i → i < 1000 → gI M' 88 i = gI M 88 (1000 + i)) ∧ (∀ i, i < j → gI M' 88 i = gI M 88 i) ∧ gI M' 66 32 = gI M 66 34 ∧ gI M' 66 33 = gI M 66 35 ∧ chS [88, 7632, 7633] M M' := by
  intro m
  induction m with
  | zero =>
    intro j M hj
    refine ⟨sI (sI M 66 32 (gI M 66 34)) 66 33 (gI M 66 35), ?_, fun i h1 h2 => by omega, fun i _ => ?_, ?_, ?_, ((chS.refl _ M).sI 66 32 _ rfl).sI 66 33 _ rfl⟩
    · unfold l_mo_law_77
      refine lpc_out ?_
      show b_mo_law_77_77 (nI j) M = _
      unfold b_mo_law_77_77
      rw [if_pos (show (1000 : Int32) ≤ nI j from z_yle (a := 1000) (by omega) (by omega) (by omega)), show gI (sI M 66 32 (gI M 66 34)) 66 35 = gI M 66 35 from by rw [gI_sI, if_neg (by omega)]]
      rfl
    · simp only [gI_sI, Nat.reduceEqDiff, false_and, if_false]
    · simp only [gI_sI, Nat.reduceEqDiff, and_false, if_false, and_self, if_true]
    · simp only [gI_sI, and_self, if_true]
  | succ m ih =>
    intro j M hj
    have c : chS [88, 7632, 7633] M (sI M 88 j (gI M 88 (1000 + j))) := chS_sI M 88 j _ rfl
    obtain ⟨M', a1, a2, a3, a5, a6, a4⟩ := ih (j + 1) (sI M 88 j (gI M 88 (1000 + j))) (by omega)
    refine ⟨M', ?_, fun i h1 h2 => ?_, fun i hi => ?_, ?_, ?_, c.trans a4⟩
    · unfold l_mo_law_77 at a1 ⊢
      refine lpc_step (s' := (nI (j + 1), sI M 88 j (gI M 88 (1000 + j)))) ?_ a1
      show b_mo_law_77_77 (nI j) M = _
      unfold b_mo_law_77_77
      rw [if_neg (show ¬ (1000 : Int32) ≤ nI j from z_nle (a := 1000) (by omega) (by omega) (by omega)), show (1000 : Int32) + nI j = nI (1000 + j) from z_add 1000 j, z_gd (z_in (n := 1000 + j) (by omega) (by omega)), z_gd (z_in (n := j) (by omega) (by omega)), z_cl (n := j) (by omega), z_cl (n := 1000 + j) (by omega), show nI j + 1 = nI (j + 1) from z_add j 1]
    · by_cases e : i = j
      · rw [a3 i (by omega), e, gI_sI, if_pos ⟨rfl, rfl⟩]
      · rw [a2 i (by omega) h2, gI_sI, if_neg (by omega)]
    · rw [a3 i (by omega), gI_sI, if_neg (by omega)]
    · rw [a5, gI_sI, if_neg (by omega)]
    · rw [a6, gI_sI, if_neg (by omega)]
def kLF : List Nat := kC3 ++ kM3 ++ [7600]
def kLaw : List Nat := kLF ++ kD ++ kFr ++ [82, 83, 84, 7632, 7633]
theorem useX {T S : List Nat} {R : dM → Prop} (h : supp T R) (hW : ∀ (M : dM) w, R (sW M w) → R M) {M M' : dM} (hr : R M) (c : chX S M M') (hd : disj T S = true) : R M' :=
  hW M' M.2.2 (h.use hr (⟨c, rfl⟩ : chS S M (sW M' M.2.2)) hd)
theorem rcA_17 {A : sA} {M M2 : dM} (rc : rcA A M) (c : chX kLaw M M2) (h1 : gI M2 32 1 = nI 0) : rcA (aU A 66 17 0) M2 := by
  have c' : chS kLaw M (sW M2 M.2.2) := ⟨c, rfl⟩
  have hT : rcT (aU A 66 17 0) (sW M2 M.2.2) := ⟨by rw [show aU A 66 17 0 66 17 = 0 from rfl]; exact h1, fun i hi => by rw [show aU A 66 17 0 66 17 = 0 from rfl] at hi; omega⟩
  have : rcA (aU A 66 17 0) (sW M2 M.2.2) := by
    refine ⟨?_, ?_, ?_, ?_, ?_, ?_, ?_, hT, ?_⟩
    · exact (srcL A).use rc.1 c' (by decide)
    · exact (srcS A).use rc.2.1 c' (by decide)
    · exact (srcF A).use rc.2.2.1 c' (by decide)
    · exact (srcE A).use rc.2.2.2.1 c' (by decide)
    · exact (srcP A).use rc.2.2.2.2.1 c' (by decide)
    · exact (srcG A).use rc.2.2.2.2.2.1 c' (by decide)
    · exact (srcK A).use rc.2.2.2.2.2.2.1 c' (by decide)
    · exact (srcD A).use rc.2.2.2.2.2.2.2.2 c' (by decide)
  exact this
theorem rmA_17 {A : sA} {M M2 : dM} (rm : rmA A M) (c : chX kLaw M M2) (h1 : gI M2 66 17 = nI 0) : rmA (aU A 66 17 0) M2 := by
  have c' : chS kLaw M (sW M2 M.2.2) := ⟨c, rfl⟩
  have hT : rmT (aU A 66 17 0) (sW M2 M.2.2) := ⟨by rw [show aU A 66 17 0 66 17 = 0 from rfl]; exact h1, fun i hi => by rw [show aU A 66 17 0 66 17 = 0 from rfl] at hi; omega⟩
  have : rmA (aU A 66 17 0) (sW M2 M.2.2) := by
    refine ⟨?_, ?_, ?_, ?_, ?_, ?_, ?_, hT, ?_⟩
    · exact (srmL A).use rm.1 c' (by decide)
    · exact (srmS A).use rm.2.1 c' (by decide)
    · exact (srmF A).use rm.2.2.1 c' (by decide)
    · exact (srmE A).use rm.2.2.2.1 c' (by decide)
    · exact (srmP A).use rm.2.2.2.2.1 c' (by decide)
    · exact (srmG A).use rm.2.2.2.2.2.1 c' (by decide)
    · exact (srmK A).use rm.2.2.2.2.2.2.1 c' (by decide)
    · exact (srmD A).use rm.2.2.2.2.2.2.2.2 c' (by decide)
  exact this
theorem wfA_17 {A : sA} (w : wfA A) : wfA (aU A 66 17 0) := by
  have hT : wfT (aU A 66 17 0) := ⟨by rw [show aU A 66 17 0 66 17 = 0 from rfl]; omega, fun i hi => by rw [show aU A 66 17 0 66 17 = 0 from rfl] at hi; omega⟩
  have hK : wfK (aU A 66 17 0) := wfK_add w.2.2.2.2.2.2.1 (fun i _ => ⟨rfl, rfl, rfl, rfl, rfl⟩) (fun i _ => ⟨rfl, rfl, rfl, rfl⟩) (fun i _ => rfl) (fun _ => rfl) (fun _ => rfl) (Nat.le_refl _) (Nat.le_refl _) (Nat.le_refl _) (Nat.le_refl _) (Nat.le_refl _) rfl (cons_congr (A := A) (c0 := A 66 9) (c1 := A 66 3) (c4 := A 66 69) (fun i _ => ⟨rfl, rfl, rfl, rfl, rfl⟩) (fun i _ => ⟨rfl, rfl, rfl, rfl⟩) (fun i _ => rfl) w.2.2.2.2.2.2.1.1)
  exact ⟨w.1, w.2.1, w.2.2.1, w.2.2.2.1, w.2.2.2.2.1, w.2.2.2.2.2.1, hK, hT, w.2.2.2.2.2.2.2.2⟩
theorem op_law {A : sA} {Q : sQ} {v : Nat → Nat} {M : dM} (w : wfA A) (rc : rcA A M) (rm : rmA A M) (wq : wQ Q v) (cw : rcW Q v M) (mw : rmW Q v M) : ∃ (x : Int32) (Q' : sQ) (v' : Nat → Nat) (M1 M2 : dM), f_ax_law M = some (x, M1) ∧ f_mo_law M1 = some (x, M2) ∧ wfA (aU A 66 17 0) ∧ rcA (aU A 66 17 0) M2 ∧ rmA (aU A 66 17 0) M2 ∧ wQ Q' v' ∧ rcW Q' v' M2 ∧ rmW Q' v' M2 ∧ chX kLaw M M2 ∧ ((Q' = Q ∧ v' = v ∧ chX kLF M M2) ∨ fresh M2) := by
  obtain ⟨wT1, wT2⟩ := w.2.2.2.2.2.2.2.1
  obtain ⟨rT1, rT2⟩ := rc.2.2.2.2.2.2.2.1
  obtain ⟨mT1, mT2⟩ := rm.2.2.2.2.2.2.2.1
  have hT : ∀ i, i < A 66 17 → A 81 i ≤ 126 := fun i hi => by rcases wT2 i hi with h | h <;> omega
  have tp : tpc (A 81) (A 66 17) M := ⟨wT1, hT, rT1, rT2⟩
  obtain ⟨M3, a1, a2, a3, a4⟩ := c_readLaw tp
  have hN : sk (A 81) (A 66 17) 0 ≤ A 66 17 := (whl_ge isWs (A 81) (A 66 17) 0 (Nat.zero_le _)).2
  have r0 : ∀ M1 : dM, (∀ j, gI M1 66 j = gI M 66 j ∧ gI M1 81 j = gI M 81 j) → ∃ Mr, rSt (A 81) (A 66 17) 0 (sk (A 81) (A 66 17) 0) Q0 v0 Mr ∧ gI Mr 66 17 = nI 0 ∧ chS (kM3 ++ [7600]) M1 Mr ∧ (∀ j, gI Mr 88 j = gI M1 88 j) ∧ f_mo_readsAll (sI M1 66 0 0) = lpc bA (nI 0, nI 0, nI 0, nI 0, Mr) := fun M1 e => by
    have c : chS [7600] M1 (sI M1 66 0 0) := chS_sI M1 66 0 _ rfl
    obtain ⟨Mr, b1, b2, b3, b4, b5⟩ := m_readsAll (T := A 81) (n := A 66 17) (M := sI M1 66 0 0) wT1 hT (by rw [c.I 66 17 rfl, (e 17).1]; exact mT1) (fun i hi => by rw [c.I 81 i rfl, (e i).2]; exact mT2 i hi)
    exact ⟨Mr, b1, b2, (c.mono (by decide)).trans (b3.mono (by decide)), fun j => by rw [b4 j, c.I 88 j rfl], b5⟩
  rcases oT_loop (A 66 17) (sk (A 81) (A 66 17) 0) 0 0 0 Q0 v0 M3 (by omega) a1 wQ0 (Nat.zero_le _) (Nat.zero_le _) (Nat.zero_le _) a2 with ⟨s', q', Q', v', M1, b1, b2, b3, b4, b5, b6, b7, b8, b9, b10⟩ | ⟨x, M1, x0, x1, b1, b2, b3, b4⟩
  · -- a law
    obtain ⟨Y, c1, c2, c3, c4, c5, c6, c7, c8⟩ := c_takeOver b4 b2
    have k1 : chX kC3 M M1 := a3.trans b8
    have k2 : chX (kC3 ++ kD) M Y := (k1.mono (by decide)).trans (c2.x (by decide))
    have k3 : chX (kC3 ++ kD ++ kFr) M (f_ax_changed Y) := (k2.mono (by decide)).trans ((chS_changed (S := kFr) (chS.refl _ Y) (by decide)).x (by decide))
    have hc : f_ax_law M = some (nI 0, f_ax_changed Y) := by
      unfold f_ax_law
      rw [a4, b1, Option.bind_some, if_pos (show nI 0 = (0 : Int32) from rfl), c1]
      rfl
    obtain ⟨Mr, d1, d2, d3, d4, d5⟩ := r0 (f_ax_changed Y) (fun j => ⟨(k3 66 j (by
      rw [show ky 66 j = 7600 + j from by unfold ky; rw [if_pos (by decide)]]
      have : ∀ x, x ∈ (kC3 ++ kD ++ kFr) → x < 7600 := by decide
      cases hh : (kC3 ++ kD ++ kFr).contains (7600 + j) with
      | false => rfl
      | true =>
        have := this _ (List.contains_iff_mem.mp hh)
        omega)).1, (k3 81 j rfl).1⟩)
    obtain ⟨Ms, e1, e2, e3, e4, e5⟩ := b10 Mr d1
    obtain ⟨Mt, f1, f2, f3, f4⟩ := m_law19 21 0 Ms rfl
    obtain ⟨Mu, g1, g2, g3, g4, g5, g6⟩ := m_law77 1000 0 Mt rfl
    have e1' : lpc bA (nI 0, nI 0, nI 0, nI 0, Mr) = some (true, Ms) := e1
    have hm : f_mo_law (f_ax_changed Y) = some (nI 0, Mu) := by
      unfold f_mo_law
      rw [d5, e1', Option.bind_some, if_pos rfl]
      have f1' : l_mo_law_19 0 Ms = some Mt := f1
      have g1' : l_mo_law_77 0 Mt = some (nI 0, Mu) := g1
      show (l_mo_law_19 0 Ms).bind _ = _
      rw [f1', Option.bind_some, g1']
      rfl
    have k4 : chS (kM3 ++ [7600, 82, 83, 84, 7632, 7633]) (f_ax_changed Y) Mu := (((d3.mono (by decide)).trans (e4.mono (by decide))).trans (f4.mono (by decide))).trans (g6.mono (by decide))
    have k5 : chX kLaw M Mu := (k3.mono (by decide)).trans (k4.x (by decide))
    refine ⟨nI 0, Q', v', f_ax_changed Y, Mu, hc, hm, wfA_17 w, rcA_17 rc k5 ?_, rmA_17 rm k5 ?_, b7, ?_, ?_, k5, Or.inr (sfresh.use (fresh_changed Y) k4 (by decide))⟩
    · rw [k4.I 32 1 rfl, (chS_changed (S := kFr) (chS.refl _ Y) (by decide)).I 32 1 rfl, c2.I 32 1 rfl]; exact b9
    · rw [g6.I 66 17 rfl, f4.I 66 17 rfl, e4.I 66 17 rfl]; exact d2
    · have kk : chS (kM3 ++ [7600, 82, 83, 84, 7632, 7633] ++ kFr) Y Mu := ((chS_changed (S := kFr) (chS.refl _ Y) (by decide)).mono (by decide)).trans (k4.mono (by decide))
      refine (srcW Q' v').use (M := Y) ⟨⟨c5.trans b6.1, c6.trans b6.2.1, c7.trans b6.2.2.1, c8.trans b6.2.2.2.1⟩, fun l hl => ?_⟩ kk (by decide)
      obtain ⟨y1, y2⟩ := b5 l hl
      obtain ⟨z1, z2⟩ := c4 l hl
      rw [z1, z2]
      refine ⟨y1, fun a r b c D z => ?_⟩
      obtain ⟨u1, u2, u3, u4⟩ := y2 a r b c D z
      refine ⟨u1, u2, by omega, fun j u hj => ?_⟩
      have hj' := (List.getElem?_eq_some_iff.mp hj).1
      rw [c3 _ (by omega)]
      exact u4 j u hj
    · refine ⟨⟨g4.trans ((f4.I 66 34 rfl).trans e3.1), g5.trans ((f4.I 66 35 rfl).trans e3.2)⟩, fun l hl => ?_⟩
      obtain ⟨y1, y2⟩ := e2 l hl
      obtain ⟨z1, z2, z3⟩ := f2 l (Nat.zero_le _) hl
      rw [g6.I 82 l rfl, g6.I 83 l rfl, g6.I 84 l rfl, z1, z2, z3]
      refine ⟨fun z => ?_, fun a r b c D z => ?_⟩
      · rw [y1 z]; exact bI_vn false
      · obtain ⟨u1, u2, u3, u4, u5⟩ := y2 a r b c D z
        rw [u1, u2, u3]
        have q3 := b3
        refine ⟨bI_vn true, ?_, ?_, by omega, fun j u hj => ?_⟩
        · rw [show (1000 : Int32) = nI 1000 from rfl, z_sub (by omega), Nat.add_sub_cancel_left]
        · rw [show (1000 : Int32) = nI 1000 from rfl, z_sub (by omega), show 1000 + b + c.length - 1000 = b + c.length by omega]
        · have hj' := (List.getElem?_eq_some_iff.mp hj).1
          rw [g2 _ (Nat.zero_le _) (by omega), f4.I 88 _ rfl]
          have := u5 j u hj
          rw [Nat.add_assoc] at this
          exact this
  · -- a fault
    have k1 : chX kC3 M M1 := a3.trans b2
    have hne : ¬ nI x = (0 : Int32) := z_ne (b := 0) (by omega) (by omega) (by omega)
    have hc : f_ax_law M = some (nI x, M1) := by
      unfold f_ax_law
      rw [a4, b1, Option.bind_some, if_neg hne]
    obtain ⟨Mr, d1, d2, d3, d4, d5⟩ := r0 M1 (fun j => ⟨(k1 66 j (by
      rw [show ky 66 j = 7600 + j from by unfold ky; rw [if_pos (by decide)]]
      have : ∀ x, x ∈ kC3 → x < 7600 := by decide
      cases hh : kC3.contains (7600 + j) with
      | false => rfl
      | true =>
        have := this _ (List.contains_iff_mem.mp hh)
        omega)).1, (k1 81 j rfl).1⟩)
    obtain ⟨Ms, e1, e2, e4, e5⟩ := b4 Mr d1
    have e1' : lpc bA (nI 0, nI 0, nI 0, nI 0, Mr) = some (false, Ms) := e1
    have hm : f_mo_law M1 = some (nI x, Ms) := by
      unfold f_mo_law
      rw [d5, e1', Option.bind_some, if_neg Bool.false_ne_true]
      show some (gI Ms 66 25, Ms) = _
      rw [e2]
    have k4 : chS (kM3 ++ [7600]) M1 Ms := (d3.mono (by decide)).trans (e4.mono (by decide))
    have k5 : chX kLF M Ms := (k1.mono (by decide)).trans (k4.x (by decide))
    have k6 : chX kLaw M Ms := k5.mono (by decide)
    refine ⟨nI x, Q, v, M1, Ms, hc, hm, wfA_17 w, rcA_17 rc k6 ?_, rmA_17 rm k6 ?_, wq, useX (srcW Q v) (fun _ _ h => h) cw k5 (by decide), rmW_keep mw (fun k j hk => ?_) (fun j hj => ?_) ((k5 66 32 rfl).1) ((k5 66 33 rfl).1), k6, Or.inl ⟨rfl, rfl, k5⟩⟩
    · rw [k4.I 32 1 rfl]; exact b3
    · rw [e4.I 66 17 rfl]; exact d2
    · rcases hk with rfl | rfl | rfl
      · exact (k5 82 j rfl).1
      · exact (k5 83 j rfl).1
      · exact (k5 84 j rfl).1
    · rw [e5 j hj, d4 j]
      exact (k1 88 j rfl).1
