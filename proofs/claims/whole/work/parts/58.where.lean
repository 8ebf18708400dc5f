/-! ===== where to dig again ===== -/
abbrev wT3 := Int32 × Int32 × Int32
noncomputable def stW (t : wT3) (x : Int32) (a b : Nat) : wT3 := if x ≤ t.1 then t else (x, nI a, nI b)
noncomputable def fI (g : Nat → Nat → Int32) (a : Nat) (t : wT3) : Nat → wT3
  | 0 => t
  | j + 1 => stW (fI g a t j) (g a (a + 1 + j)) a (a + 1 + j)
noncomputable def fO2 (g : Nat → Nat → Int32) : Nat → wT3
  | 0 => (-1, -1, -1)
  | a + 1 => fI g a (fO2 g a) (7 - a)
noncomputable def fO1 (g : Nat → Nat → Int32) : Nat → wT3
  | 0 => (-1, -1, -1)
  | a + 1 => stW (fO1 g a) (g a a) a a
noncomputable def fO (g : Nat → Nat → Int32) (m : Nat) : wT3 := if m = 1 then fO1 g 8 else fO2 g 8
def okT (t : wT3) : Prop := (-1 : Int32) ≤ t.1 ∧ (t.1 = -1 → t.2.1 = -1 ∧ t.2.2 = -1)
theorem okT_stW {t : wT3} (h : okT t) (x : Int32) (a b : Nat) : okT (stW t x a b) := by
  unfold stW
  split
  · exact h
  · rename_i c
    have c2 : t.1 < x := Int32.not_le.mp c
    have c3 : (-1 : Int32) < x := Int32.lt_of_le_of_lt h.1 c2
    refine ⟨Int32.le_of_lt c3, fun z => ?_⟩
    exfalso
    have z' : x = -1 := z
    rw [z'] at c3
    exact Int32.lt_irrefl c3
theorem okT_fI {g : Nat → Nat → Int32} {a : Nat} {t : wT3} (h : okT t) : ∀ j, okT (fI g a t j)
  | 0 => h
  | j + 1 => okT_stW (okT_fI h j) _ _ _
theorem okT_0 : okT (-1, -1, -1) := ⟨by decide, fun _ => ⟨rfl, rfl⟩⟩
theorem okT_2 (g : Nat → Nat → Int32) : ∀ n, okT (fO2 g n)
  | 0 => okT_0
  | n + 1 => okT_fI (okT_2 g n) _
theorem okT_1 (g : Nat → Nat → Int32) : ∀ n, okT (fO1 g n)
  | 0 => okT_0
  | n + 1 => okT_stW (okT_1 g n) _ _ _
theorem okT_O (g : Nat → Nat → Int32) (m : Nat) : okT (fO g m) := by
  unfold fO
  split
  · exact okT_1 g 8
  · exact okT_2 g 8
/-- the class' cells -/
def bsR (m : Nat) (t : wT3) (M : dM) : Prop := gI M 55 ((m - 1) * 3) = t.1 ∧ (t.1 ≠ -1 → gI M 55 ((m - 1) * 3 + 1) = t.2.1 ∧ (m = 2 → gI M 55 ((m - 1) * 3 + 2) = t.2.2))
theorem c_offer {m : Nat} (hm : m = 1 ∨ m = 2) {t : wT3} {M : dM} (h : bsR m t M) (x : Int32) (a b : Nat) (y : Int32) (hy : m = 2 → y = nI b) : ∃ M', f_cl_offer (nI ((m - 1) * 3)) x (nI a) y M = some M' ∧ bsR m (stW t x a b) M' ∧ chS [55] M M' ∧ ∀ j, (j < (m - 1) * 3 ∨ (m - 1) * 3 + 3 ≤ j) → gI M' 55 j = gI M 55 j := by
  unfold f_cl_offer
  have e1 : nI ((m - 1) * 3) + 1 = nI ((m - 1) * 3 + 1) := z_add _ 1
  have e2 : nI ((m - 1) * 3) + 2 = nI ((m - 1) * 3 + 2) := z_add _ 2
  rw [z_gd (z_in (n := (m - 1) * 3) (by omega) (by omega)), z_cl (n := (m - 1) * 3) (by omega), h.1]
  by_cases c : x ≤ t.1
  · rw [if_pos c]
    refine ⟨M, rfl, ?_, chS.refl _ _, fun _ _ => rfl⟩
    unfold stW
    rw [if_pos c]
    exact h
  · rw [if_neg c, e1, e2, z_gd (z_in (n := (m - 1) * 3 + 1) (by omega) (by omega)), z_gd (z_in (n := (m - 1) * 3 + 2) (by omega) (by omega)), z_cl (n := (m - 1) * 3 + 1) (by omega), z_cl (n := (m - 1) * 3 + 2) (by omega)]
    refine ⟨_, rfl, ?_, (((chS.refl _ M).sI 55 _ _ rfl).sI 55 _ _ rfl).sI 55 _ _ rfl, fun j hj => ?_⟩
    · unfold stW
      rw [if_neg c]
      refine ⟨?_, fun _ => ⟨?_, fun h2 => ?_⟩⟩
      · rw [gI_sI, if_neg (by omega), gI_sI, if_neg (by omega), gI_sI, if_pos ⟨rfl, rfl⟩]
      · rw [gI_sI, if_neg (by omega), gI_sI, if_pos ⟨rfl, rfl⟩]
      · rw [gI_sI, if_pos ⟨rfl, rfl⟩]; exact hy h2
    · rw [gI_sI, if_neg (by omega), gI_sI, if_neg (by omega), gI_sI, if_neg (by omega)]
def k55 (m : Nat) (M M' : dM) : Prop := chS [55] M M' ∧ ∀ j, (j < (m - 1) * 3 ∨ (m - 1) * 3 + 3 ≤ j) → gI M' 55 j = gI M 55 j
theorem k55.trans {m : Nat} {M M' M'' : dM} (h : k55 m M M') (h' : k55 m M' M'') : k55 m M M'' := ⟨h.1.trans h'.1, fun j hj => (h'.2 j hj).trans (h.2 j hj)⟩
theorem c_57 {A : sA} {du : Nat} (w : wfA A) (hdu : du < 2 ^ A 66 9) {a : Nat} (ha : a < 8) (t : wT3) : ∀ (d j : Nat) (M : dM), a + 1 + j + d = 8 → rcA A M → bsR 2 (fI (gvF A du) a t j) M → ∃ M', l_cl_seekBest_57 2 (lN du) (nI 3) (nI a) (nI (a + 1 + j)) M = some M' ∧ bsR 2 (fI (gvF A du) a t (j + d)) M' ∧ k55 2 M M' := by
  intro d
  induction d with
  | zero =>
    intro j M hj rc h
    refine ⟨M, ?_, h, ⟨chS.refl _ _, fun _ _ => rfl⟩⟩
    unfold l_cl_seekBest_57
    refine lpc_out ?_
    show b_cl_seekBest_57_57 2 (lN du) (nI 3) (nI a) (nI (a + 1 + j)) M = _
    unfold b_cl_seekBest_57_57
    rw [if_pos (show (8 : Int32) ≤ nI (a + 1 + j) from z_yle (a := 8) (by decide) (by omega) (by omega))]
  | succ d ih =>
    intro j M hj rc h
    have hb : a + 1 + j < 8 := by omega
    obtain ⟨M1, a1, a2, a3, a4⟩ := c_offer (Or.inr rfl) h (gvF A du a (a + 1 + j)) a (a + 1 + j) (nI (a + 1 + j)) (fun _ => rfl)
    have a1' : f_cl_offer (nI 3) (gvF A du a (a + 1 + j)) (nI a) (nI (a + 1 + j)) M = some M1 := a1
    obtain ⟨M2, b1, b2, b3⟩ := ih (j + 1) M1 (by omega) ((srcA A).use rc a3 (by decide +kernel)) a2
    refine ⟨M2, ?_, ?_, k55.trans (m := 2) ⟨a3, a4⟩ b3⟩
    · unfold l_cl_seekBest_57 at b1 ⊢
      refine lpc_step (s' := (nI (a + 1 + (j + 1)), M1)) ?_ b1
      show b_cl_seekBest_57_57 2 (lN du) (nI 3) (nI a) (nI (a + 1 + j)) M = _
      unfold b_cl_seekBest_57_57
      have cG := c_goodFor w rc hdu ha hb
      rw [if_neg (show ¬ (8 : Int32) ≤ nI (a + 1 + j) from z_nle (a := 8) (by decide) (by omega) (by omega)), z_1shl (by omega), z_1shl (by omega), z_or]
      show (f_cl_goodFor (nI (sbF a (a + 1 + j))) (lN du) M).bind _ = _
      rw [cG, Option.bind_some, a1', Option.bind_some, show nI (a + 1 + j) + 1 = nI (a + 1 + (j + 1)) from z_add _ 1]
    · rw [show j + (d + 1) = j + 1 + d by omega]; exact b2
theorem c_18 {A : sA} {du : Nat} (w : wfA A) (hdu : du < 2 ^ A 66 9) {m : Nat} (hm : m = 1 ∨ m = 2) : ∀ (d a : Nat) (M : dM), a + d = 8 → rcA A M → bsR m (if m = 1 then fO1 (gvF A du) a else fO2 (gvF A du) a) M → ∃ M', l_cl_seekBest_18 (nI m) (lN du) (nI ((m - 1) * 3)) (nI a) M = some M' ∧ bsR m (fO (gvF A du) m) M' ∧ k55 m M M' := by
  intro d
  induction d with
  | zero =>
    intro a M hj rc h
    have e : a = 8 := by omega
    subst e
    refine ⟨M, ?_, h, ⟨chS.refl _ _, fun _ _ => rfl⟩⟩
    unfold l_cl_seekBest_18
    refine lpc_out ?_
    show b_cl_seekBest_18_18 (nI m) (lN du) (nI ((m - 1) * 3)) (nI 8) M = _
    unfold b_cl_seekBest_18_18
    rw [if_pos (show (8 : Int32) ≤ nI 8 from by decide)]
  | succ d ih =>
    intro a M hj rc h
    have ha : a < 8 := by omega
    have step : ∃ M1, b_cl_seekBest_18_18 (nI m) (lN du) (nI ((m - 1) * 3)) (nI a) M = some (.inl (nI (a + 1), M1)) ∧ bsR m (if m = 1 then fO1 (gvF A du) (a + 1) else fO2 (gvF A du) (a + 1)) M1 ∧ k55 m M M1 := by
      unfold b_cl_seekBest_18_18
      rw [if_neg (show ¬ (8 : Int32) ≤ nI a from z_nle (a := 8) (by decide) (by omega) (by omega)), show nI a + 1 = nI (a + 1) from z_add _ 1]
      rcases hm with rfl | rfl
      · obtain ⟨M1, a1, a2, a3, a4⟩ := c_offer (Or.inl rfl) h (gvF A du a a) a a (-1) (fun z => by cases z)
        have cG := c_goodFor w rc hdu ha ha
        rw [show sbF a a = 2 ^ a from Nat.or_self _] at cG
        refine ⟨M1, ?_, a2, ⟨a3, a4⟩⟩
        rw [if_pos (show nI 1 = (1 : Int32) from rfl), z_1shl (by omega), cG, Option.bind_some, a1, Option.bind_some]
      · obtain ⟨M1, a1, a2, a3⟩ := c_57 w hdu ha (fO2 (gvF A du) a) (7 - a) 0 M (by omega) rc h
        have a1' : l_cl_seekBest_57 (nI 2) (lN du) (nI 3) (nI a) (nI (a + 1)) M = some M1 := a1
        rw [Nat.zero_add] at a2
        refine ⟨M1, ?_, a2, a3⟩
        rw [if_neg (show ¬ nI 2 = (1 : Int32) from by decide)]
        show (l_cl_seekBest_57 (nI 2) (lN du) (nI 3) (nI a) (nI (a + 1)) M).bind _ = _
        rw [a1', Option.bind_some]
    obtain ⟨M1, a1, a2, a3⟩ := step
    obtain ⟨M2, b1, b2, b3⟩ := ih (a + 1) M1 (by omega) ((srcA A).use rc a3.1 (by decide +kernel)) a2
    refine ⟨M2, ?_, b2, a3.trans b3⟩
    unfold l_cl_seekBest_18 at b1 ⊢
    exact lpc_step (s' := (nI (a + 1), M1)) a1 b1
theorem c_seekBest {A : sA} {M : dM} {du : Nat} (w : wfA A) (rc : rcA A M) (hdu : du < 2 ^ A 66 9) {m : Nat} (hm : m = 1 ∨ m = 2) : ∃ M', f_cl_seekBest (nI m) (lN du) M = some M' ∧ bsR m (fO (gvF A du) m) M' ∧ k55 m M M' := by
  have e : (nI m - 1) * 3 = nI ((m - 1) * 3) := by
    rw [show (1 : Int32) = nI 1 from rfl, z_subI (by omega), show (3 : Int32) = nI 3 from rfl, z_mul]
  have c0 : k55 m M (sI M 55 ((m - 1) * 3) (-1)) := ⟨chS_sI M 55 _ _ rfl, fun j hj => by rw [gI_sI, if_neg (by omega)]⟩
  have h0 : bsR m (if m = 1 then fO1 (gvF A du) 0 else fO2 (gvF A du) 0) (sI M 55 ((m - 1) * 3) (-1)) := by
    have et : (if m = 1 then fO1 (gvF A du) 0 else fO2 (gvF A du) 0) = (-1, -1, -1) := by split <;> rfl
    rw [et]
    exact ⟨by rw [gI_sI, if_pos ⟨rfl, rfl⟩], fun z => absurd rfl z⟩
  obtain ⟨M1, a1, a2, a3⟩ := c_18 w hdu hm 8 0 _ rfl ((srcA A).use rc c0.1 (by decide +kernel)) h0
  have a1' : l_cl_seekBest_18 (nI m) (lN du) (nI ((m - 1) * 3)) 0 (sI M 55 ((m - 1) * 3) (-1)) = some M1 := a1
  refine ⟨M1, ?_, a2, c0.trans a3⟩
  unfold f_cl_seekBest
  rw [e, z_gd (z_in (n := (m - 1) * 3) (by omega) (by omega)), z_cl (n := (m - 1) * 3) (by omega), a1', Option.bind_some]
/-! the reference -/
theorem m_51a {a : Nat} (x2 : Int32) (t : wT3) : ∀ (d b : Nat) (M : dM), b + d = 8 → a < b → l_mo_where_51 1 x2 t.1 t.2.1 t.2.2 (nI a) (nI b) M = some (t.1, t.2.1, t.2.2, M) := by
  intro d
  induction d with
  | zero =>
    intro b M hb hab
    have e : b = 8 := by omega
    subst e
    unfold l_mo_where_51
    refine lpc_out ?_
    show b_mo_where_51_51 1 x2 t.1 t.2.1 t.2.2 (nI a) (nI 8) M = _
    unfold b_mo_where_51_51
    rw [if_pos (show (8 : Int32) ≤ nI 8 from by decide)]
  | succ d ih =>
    intro b M hb hab
    have ih' := ih (b + 1) M (by omega) (by omega)
    unfold l_mo_where_51 at ih' ⊢
    refine lpc_step (s' := (t.1, t.2.1, t.2.2, nI (b + 1), M)) ?_ ih'
    show b_mo_where_51_51 1 x2 t.1 t.2.1 t.2.2 (nI a) (nI b) M = _
    unfold b_mo_where_51_51 b_mo_where_51_70 b_mo_where_51_80
    rw [if_neg (show ¬ (8 : Int32) ≤ nI b from z_nle (a := 8) (by decide) (by omega) (by omega)), if_neg (show ¬ nI a = nI b from z_ne (by omega) (by omega) (by omega)), if_pos rfl, if_neg (by decide), show nI b + 1 = nI (b + 1) from z_add _ 1]
def gOK (A : sA) (du : Nat) (M : dM) : Prop := rmA A M ∧ gJ M 66 63 = lN du
theorem gOK_k {A : sA} {du : Nat} {M M' : dM} (h : gOK A du M) (c : chS kG M M') : gOK A du M' := ⟨(srmA A).use h.1 c (by decide +kernel), (c.J 66 63 rfl).trans h.2⟩
theorem m_80 {A : sA} {du : Nat} {M : dM} (w : wfA A) (hdu : du < 2 ^ A 66 9) (g : gOK A du M) {a b : Nat} (ha : a < 8) (hb : b < 8) (x1 x2 : Int32) (t : wT3) (y : Int32) : ∃ M', b_mo_where_51_80 x1 x2 t.1 t.2.1 t.2.2 (nI a) (nI b) y y M = some (.inl ((stW t (gvF A du a b) a b).1, (stW t (gvF A du a b) a b).2.1, (stW t (gvF A du a b) a b).2.2, nI (b + 1), M')) ∧ chS kG M M' := by
  obtain ⟨M1, a1, a2⟩ := m_goodOf w g.1 g.2 hdu ha hb
  refine ⟨M1, ?_, a2⟩
  unfold b_mo_where_51_80 stW
  rw [if_pos rfl, a1, Option.bind_some, show nI b + 1 = nI (b + 1) from z_add _ 1]
  by_cases c : gvF A du a b ≤ t.1
  · rw [if_pos c, if_neg (Int32.not_lt.mpr c)]
  · rw [if_neg c, if_pos (Int32.not_le.mp c)]
theorem m_51b {A : sA} {du : Nat} (w : wfA A) (hdu : du < 2 ^ A 66 9) {a : Nat} (ha : a < 8) (x2 : Int32) (t : wT3) : ∀ (d j : Nat) (M : dM), a + 1 + j + d = 8 → gOK A du M → ∃ M', l_mo_where_51 2 x2 (fI (gvF A du) a t j).1 (fI (gvF A du) a t j).2.1 (fI (gvF A du) a t j).2.2 (nI a) (nI (a + 1 + j)) M = some ((fI (gvF A du) a t (j + d)).1, (fI (gvF A du) a t (j + d)).2.1, (fI (gvF A du) a t (j + d)).2.2, M') ∧ chS kG M M' := by
  intro d
  induction d with
  | zero =>
    intro j M hj g
    refine ⟨M, ?_, chS.refl _ _⟩
    unfold l_mo_where_51
    refine lpc_out ?_
    show b_mo_where_51_51 2 x2 (fI (gvF A du) a t j).1 (fI (gvF A du) a t j).2.1 (fI (gvF A du) a t j).2.2 (nI a) (nI (a + 1 + j)) M = _
    unfold b_mo_where_51_51
    rw [if_pos (show (8 : Int32) ≤ nI (a + 1 + j) from z_yle (a := 8) (by decide) (by omega) (by omega))]
    rfl
  | succ d ih =>
    intro j M hj g
    have hb : a + 1 + j < 8 := by omega
    obtain ⟨M1, a1, a2⟩ := m_80 w hdu g ha hb 2 x2 (fI (gvF A du) a t j) 0
    obtain ⟨M2, b1, b2⟩ := ih (j + 1) M1 (by omega) (gOK_k g a2)
    refine ⟨M2, ?_, a2.trans b2⟩
    rw [show j + (d + 1) = j + 1 + d by omega]
    unfold l_mo_where_51 at b1 ⊢
    refine lpc_step (s' := ((fI (gvF A du) a t (j + 1)).1, (fI (gvF A du) a t (j + 1)).2.1, (fI (gvF A du) a t (j + 1)).2.2, nI (a + 1 + (j + 1)), M1)) ?_ b1
    show b_mo_where_51_51 2 x2 (fI (gvF A du) a t j).1 (fI (gvF A du) a t j).2.1 (fI (gvF A du) a t j).2.2 (nI a) (nI (a + 1 + j)) M = _
    unfold b_mo_where_51_51 b_mo_where_51_70
    rw [if_neg (show ¬ (8 : Int32) ≤ nI (a + 1 + j) from z_nle (a := 8) (by decide) (by omega) (by omega)), if_neg (show ¬ nI a = nI (a + 1 + j) from z_ne (by omega) (by omega) (by omega)), if_neg (show ¬ (2 : Int32) = 1 from by decide)]
    exact a1
theorem m_51 {A : sA} {du : Nat} (w : wfA A) (hdu : du < 2 ^ A 66 9) {m : Nat} (hm : m = 1 ∨ m = 2) {a : Nat} (ha : a < 8) (x2 : Int32) {M : dM} (g : gOK A du M) (t : wT3) : ∃ M', l_mo_where_51 (nI m) x2 t.1 t.2.1 t.2.2 (nI a) (nI a) M = some ((if m = 1 then stW t (gvF A du a a) a a else fI (gvF A du) a t (7 - a)).1, (if m = 1 then stW t (gvF A du a a) a a else fI (gvF A du) a t (7 - a)).2.1, (if m = 1 then stW t (gvF A du a a) a a else fI (gvF A du) a t (7 - a)).2.2, M') ∧ chS kG M M' := by
  rcases hm with rfl | rfl
  · obtain ⟨M1, a1, a2⟩ := m_80 w hdu g ha ha 1 x2 t 1
    refine ⟨M1, ?_, a2⟩
    have r := m_51a (a := a) x2 (stW t (gvF A du a a) a a) (7 - a) (a + 1) M1 (by omega) (by omega)
    rw [if_pos rfl]
    unfold l_mo_where_51 at r ⊢
    refine lpc_step (s' := ((stW t (gvF A du a a) a a).1, (stW t (gvF A du a a) a a).2.1, (stW t (gvF A du a a) a a).2.2, nI (a + 1), M1)) ?_ r
    show b_mo_where_51_51 1 x2 t.1 t.2.1 t.2.2 (nI a) (nI a) M = _
    unfold b_mo_where_51_51 b_mo_where_51_70
    rw [if_neg (show ¬ (8 : Int32) ≤ nI a from z_nle (a := 8) (by decide) (by omega) (by omega)), if_pos rfl, if_pos rfl]
    exact a1
  · obtain ⟨M1, a1, a2⟩ := m_51b w hdu ha x2 t (7 - a) 0 M (by omega) g
    refine ⟨M1, ?_, a2⟩
    rw [Nat.zero_add] at a1
    rw [if_neg (show ¬ (2 : Nat) = 1 from by decide)]
    unfold l_mo_where_51 at a1 ⊢
    refine lpc_step (s' := (t.1, t.2.1, t.2.2, nI (a + 1), M)) ?_ a1
    show b_mo_where_51_51 2 x2 t.1 t.2.1 t.2.2 (nI a) (nI a) M = _
    unfold b_mo_where_51_51 b_mo_where_51_70 b_mo_where_51_80
    rw [if_neg (show ¬ (8 : Int32) ≤ nI a from z_nle (a := 8) (by decide) (by omega) (by omega)), if_pos rfl, if_neg (show ¬ (2 : Int32) = 1 from by decide), if_neg (show ¬ (1 : Int32) = 0 from by decide), show nI a + 1 = nI (a + 1) from z_add _ 1]
theorem m_40 {A : sA} {du : Nat} (w : wfA A) (hdu : du < 2 ^ A 66 9) {m : Nat} (hm : m = 1 ∨ m = 2) (x2 : Int32) : ∀ (d a : Nat) (M : dM), a + d = 8 → gOK A du M → ∀ t : wT3, t = (if m = 1 then fO1 (gvF A du) a else fO2 (gvF A du) a) → ∃ M', l_mo_where_40 (nI m) x2 t.1 t.2.1 t.2.2 (nI a) M = some ((fO (gvF A du) m).1, (fO (gvF A du) m).2.1, (fO (gvF A du) m).2.2, M') ∧ chS kG M M' := by
  intro d
  induction d with
  | zero =>
    intro a M hj g t ht
    have e : a = 8 := by omega
    subst e
    refine ⟨M, ?_, chS.refl _ _⟩
    have et : t = fO (gvF A du) m := ht
    rw [← et]
    unfold l_mo_where_40
    refine lpc_out ?_
    show b_mo_where_40_40 (nI m) x2 t.1 t.2.1 t.2.2 (nI 8) M = _
    unfold b_mo_where_40_40
    rw [if_pos (show (8 : Int32) ≤ nI 8 from by decide)]
  | succ d ih =>
    intro a M hj g t ht
    have ha : a < 8 := by omega
    obtain ⟨M1, a1, a2⟩ := m_51 w hdu hm ha x2 g t
    obtain ⟨M2, b1, b2⟩ := ih (a + 1) M1 (by omega) (gOK_k g a2) (if m = 1 then stW t (gvF A du a a) a a else fI (gvF A du) a t (7 - a)) (by
      rcases hm with rfl | rfl
      · rw [if_pos rfl, if_pos rfl]; rw [if_pos rfl] at ht; rw [ht]; rfl
      · rw [if_neg (show ¬ (2 : Nat) = 1 from by decide), if_neg (show ¬ (2 : Nat) = 1 from by decide)]; rw [if_neg (show ¬ (2 : Nat) = 1 from by decide)] at ht; rw [ht]; rfl)
    refine ⟨M2, ?_, a2.trans b2⟩
    unfold l_mo_where_40 at b1 ⊢
    refine lpc_step (s' := (_, _, _, nI (a + 1), M1)) ?_ b1
    show b_mo_where_40_40 (nI m) x2 t.1 t.2.1 t.2.2 (nI a) M = _
    unfold b_mo_where_40_40
    rw [if_neg (show ¬ (8 : Int32) ≤ nI a from z_nle (a := 8) (by decide) (by omega) (by omega)), a1, Option.bind_some, show nI a + 1 = nI (a + 1) from z_add _ 1]
/-- the class' cache -/
def bC (A : sA) (Q : sQ) (v : Nat → Nat) (M : dM) : Prop := ∃ bm, bm < 8 ∧ gI M 50 9 = nI bm ∧ ∀ m, (m = 1 ∨ m = 2) → bm.testBit m = true → bsR m (fO (gvF A (duF A Q v)) m) M
theorem sbC (A : sA) (Q : sQ) (v : Nat → Nat) : supp [6009, 55] (bC A Q v) := by
  intro M M' h _ ⟨bm, h1, h2, h3⟩
  refine ⟨bm, h1, ?_, fun m hm ht => ?_⟩
  · rw [(h 50 9 rfl).1]; exact h2
  · obtain ⟨r1, r2⟩ := h3 m hm ht
    refine ⟨?_, fun z => ⟨?_, fun z2 => ?_⟩⟩
    · rw [(h 55 _ rfl).1]; exact r1
    · rw [(h 55 _ rfl).1]; exact (r2 z).1
    · rw [(h 55 _ rfl).1]; exact (r2 z).2 z2
theorem c_best {A : sA} {Q : sQ} {v : Nat → Nat} {M : dM} (w : wfA A) (rc : rcA A M) (b : bC A Q v M) {m k : Nat} (hm : m = 1 ∨ m = 2) (hk : k ≤ m) : ∃ M', f_cl_bestSites (nI m) (nI k) (lN (duF A Q v)) M = some (if k = 0 then (fO (gvF A (duF A Q v)) m).1 else if k = 1 then (fO (gvF A (duF A Q v)) m).2.1 else (fO (gvF A (duF A Q v)) m).2.2, M') ∧ bC A Q v M' ∧ chS [55, 6009] M M' := by
  have hd : duF A Q v < 2 ^ A 66 9 := bsN_lt _ _
  have ok := okT_O (gvF A (duF A Q v)) m
  have e : (nI m - 1) * 3 = nI ((m - 1) * 3) := by
    rw [show (1 : Int32) = nI 1 from rfl, z_subI (by omega), show (3 : Int32) = nI 3 from rfl, z_mul]
  have fin : ∀ M' : dM, bsR m (fO (gvF A (duF A Q v)) m) M' → t_cl_bestSites_30 (nI m) (nI k) M' = some (if k = 0 then (fO (gvF A (duF A Q v)) m).1 else if k = 1 then (fO (gvF A (duF A Q v)) m).2.1 else (fO (gvF A (duF A Q v)) m).2.2, M') := fun M' r => by
    unfold t_cl_bestSites_30
    rw [e, z_gd (z_in (n := (m - 1) * 3) (by omega) (by omega)), z_cl (n := (m - 1) * 3) (by omega), r.1]
    by_cases c : (fO (gvF A (duF A Q v)) m).1 = -1
    · rw [if_pos c]
      obtain ⟨o1, o2⟩ := ok.2 c
      rw [c, o1, o2]
      split
      · rfl
      · split <;> rfl
    · obtain ⟨r2, r3⟩ := r.2 c
      rw [if_neg c, z_add, z_gd (z_in (n := (m - 1) * 3 + k) (by omega) (by omega)), z_cl (n := (m - 1) * 3 + k) (by omega)]
      have hk3 : k = 0 ∨ k = 1 ∨ k = 2 := by omega
      rcases hk3 with rfl | rfl | rfl
      · rw [if_pos rfl, Nat.add_zero, r.1]
      · rw [if_neg (by decide), if_pos rfl, r2]
      · rw [if_neg (by decide), if_neg (by decide), r3 (by omega)]
  obtain ⟨bm, b1, b2, b3⟩ := b
  unfold f_cl_bestSites
  rw [b2, z_hasBit (by omega) (by omega)]
  by_cases c : bm.testBit m = true
  · rw [if_pos c, fin M (b3 m hm c)]
    exact ⟨M, rfl, ⟨bm, b1, b2, b3⟩, chS.refl _ _⟩
  · rw [if_neg c]
    obtain ⟨M1, a1, a2, a3⟩ := c_seekBest w rc hd hm
    have c2 : chS [55, 6009] M (sI M1 50 9 (nI (bm ||| 2 ^ m))) := (a3.1.mono (by decide)).sI 50 9 _ rfl
    have k9 : gI M1 50 9 = nI bm := (a3.1.I 50 9 rfl).trans b2
    have rr : bsR m (fO (gvF A (duF A Q v)) m) (sI M1 50 9 (nI (bm ||| 2 ^ m))) := by
      refine ⟨?_, fun z => ⟨?_, fun z2 => ?_⟩⟩
      · rw [gI_sI, if_neg (by omega)]; exact a2.1
      · rw [gI_sI, if_neg (by omega)]; exact (a2.2 z).1
      · rw [gI_sI, if_neg (by omega)]; exact (a2.2 z).2 z2
    refine ⟨sI M1 50 9 (nI (bm ||| 2 ^ m)), ?_, ⟨bm ||| 2 ^ m, ?_, ?_, fun m' hm' ht => ?_⟩, c2⟩
    · rw [a1, Option.bind_some, k9, z_1shl (by omega), z_or]
      exact fin _ rr
    · refine Nat.or_lt_two_pow (n := 3) b1 ?_
      rcases hm with rfl | rfl <;> decide
    · rw [gI_sI, if_pos ⟨rfl, rfl⟩]
    · by_cases em : m' = m
      · subst em; exact rr
      · rw [fb_bit_set, decide_eq_false (fun z => em z), Bool.or_false] at ht
        obtain ⟨r1, r2⟩ := b3 m' hm' ht
        have nj : ∀ j, j < 3 → gI (sI M1 50 9 (nI (bm ||| 2 ^ m))) 55 ((m' - 1) * 3 + j) = gI M 55 ((m' - 1) * 3 + j) := fun j hj => by
          rw [gI_sI, if_neg (by omega)]
          exact a3.2 _ (by omega)
        refine ⟨(nj 0 (by decide)).trans r1, fun z => ⟨(nj 1 (by decide)).trans (r2 z).1, fun z2 => (nj 2 (by decide)).trans ((r2 z).2 z2)⟩⟩
theorem op_where {A : sA} {Q : sQ} {v : Nat → Nat} {M : dM} (h : IV A Q v M) (hb : bC A Q v M) (x y : Int32) : opV (kQ ++ [55, 6009]) A Q v M (fun b M2 => (∃ M1, f_ax_where x y M = some (b, M1) ∧ f_mo_where x y M1 = some (b, M2)) ∧ bC A Q v M2) := by
  have hb0 : bC A Q v (sI M 66 0 0) := (sbC A Q v).use hb (chS_sI (S := [7600]) M 66 0 0 rfl) (by decide)
  unfold f_ax_where f_mo_where
  rcases rng1 x (n := 2) (by decide) with hx | ⟨m, hm1, hm2, rfl⟩
  · rw [show f_mo_within x 1 2 = false from mrng1 hx]
    refine opV_no rfl h (x := 0) (b := -1) ⟨⟨M, ?_, by rw [if_neg Bool.false_ne_true]⟩, hb0⟩
    by_cases c : x < 1
    · rw [if_pos c]
    · rw [if_neg c]
      rcases hx with hx | hx
      · exact absurd hx c
      · rw [if_pos (show (2 : Int32) < x from hx)]
  · have hm : m = 1 ∨ m = 2 := by omega
    have w1 : f_mo_within (nI m) 1 2 = true := by
      rw [show (1 : Int32) = nI 1 from rfl, show (2 : Int32) = nI 2 from rfl, z_mwithin (by omega) (by omega) (by omega)]
      exact decide_eq_true ⟨hm1, hm2⟩
    have ew : f_mo_within y 0 (nI m) = f_ax_within y (nI (m + 1)) := z_mw0 y (n := m) (by omega)
    rw [w1, ew, if_neg (show ¬ nI m < (1 : Int32) from by rw [show (1 : Int32) = nI 1 from rfl, z_lt (by omega) (by omega)]; omega), if_neg (show ¬ (2 : Int32) < nI m from by rw [show (2 : Int32) = nI 2 from rfl, z_lt (by omega) (by omega)]; omega)]
    simp only [if_true]
    rcases z_range y (m + 1) (by omega) with z | ⟨k, hk, rfl⟩
    · rw [z]
      refine opV_no rfl h (x := 0) (b := -1) ⟨⟨M, ?_, by rw [if_neg Bool.false_ne_true]⟩, hb0⟩
      unfold f_ax_within at z
      by_cases c : y < 0
      · rw [if_pos c]
      · rw [if_neg c] at z ⊢
        by_cases c2 : y ≤ nI m
        · exfalso
          rcases pk_ix y (n := m + 1) (by omega) with h1 | h1 | ⟨j, h1, rfl⟩
          · exact c h1
          · have h1' := (fa_le _ _).mp h1
            have h2' := (fa_le _ _).mp c2
            rw [nI_toInt (by omega)] at h1' h2'
            omega
          · rw [if_neg (by rw [z_le (by omega) (by omega)]; omega)] at z
            cases z
        · rw [if_neg c2]
    · have hk0 : f_ax_within (nI k) (nI (m + 1)) = true := by rw [z_within (by omega) (by omega)]; simp [hk]
      rw [hk0, if_neg (show ¬ nI k < (0 : Int32) from by rw [show (0 : Int32) = nI 0 from rfl, z_lt (by omega) (by omega)]; omega), if_pos (show nI k ≤ nI m from by rw [z_le (by omega) (by omega)]; omega)]
      simp only [if_true]
      obtain ⟨M1, a1, a2, a3, a4, a5, a6⟩ := iv_study h (Or.inr rfl : (2 : Nat) = 1 ∨ (2 : Nat) = 2)
      have a1' : f_ax_study 2 M = some M1 := a1
      have hb1 := (sbC A Q v).use hb a6 (by decide)
      obtain ⟨M2, b1, b2, b3⟩ := c_best (k := k) a2.1 a2.2.1 hb1 hm (by omega)
      have i2 := iv_0 (iv_keep a2 b3 (by decide +kernel)) 0
      have b2' := (sbC A Q v).use b2 (chS_sI (S := [7600]) M2 66 0 0 rfl) (by decide)
      obtain ⟨M3, d1, d2, d3, d4, d5⟩ := m_knows i2.1 i2.2.2.1 i2.2.2.2.1 i2.2.2.2.2.2.1
      have i3 := iv_keep i2 d5 (by decide +kernel)
      have hd : duF A Q v < 2 ^ A 66 9 := bsN_lt _ _
      obtain ⟨M4, e1, e2⟩ := m_40 i3.1 hd hm (nI k) 8 0 M3 rfl ⟨i3.2.2.1, d4⟩ (-1, -1, -1) (by split <;> rfl)
      have cc : chS (kQ ++ [55, 6009]) M M4 := (((a6.mono (by decide)).trans (b3.mono (by decide))).sI 66 0 0 rfl).trans ((d5.mono (by decide)).trans (e2.mono (by decide)))
      refine ⟨if k = 0 then (fO (gvF A (duF A Q v)) m).1 else if k = 1 then (fO (gvF A (duF A Q v)) m).2.1 else (fO (gvF A (duF A Q v)) m).2.2, M4, ⟨⟨M2, ?_, ?_⟩, (sbC A Q v).use ((sbC A Q v).use b2' d5 (by decide)) e2 (by decide)⟩, iv_keep i3 e2 (by decide +kernel), cc⟩
      · rw [a1', Option.bind_some, (a5 rfl).2.2, b1, Option.bind_some]
      · rw [d1, Option.bind_some]
        rw [show l_mo_where_40 (nI m) (nI k) (-1) (-1) (-1) 0 M3 = some ((fO (gvF A (duF A Q v)) m).1, (fO (gvF A (duF A Q v)) m).2.1, (fO (gvF A (duF A Q v)) m).2.2, M4) from e1, Option.bind_some]
        have hk3 : k = 0 ∨ k = 1 ∨ k = 2 := by omega
        rcases hk3 with rfl | rfl | rfl
        · rfl
        · rfl
        · rfl
