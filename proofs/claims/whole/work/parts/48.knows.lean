/-! ===== the class studies ===== -/
def caK (A : sA) (Q : sQ) (v : Nat → Nat) (M : dM) : Prop := (gI M 6 6 = 0 ∨ rcO A M) ∧ (gI M 0 10 = nI 0 ∨ (gI M 0 10 = nI 1 ∧ rcO A M ∧ rcJ A Q (v 3) M) ∨ (gI M 0 10 = nI 2 ∧ rcO A M ∧ rcJ A Q (v 3) M ∧ rcY A Q v M))
def kStu : List Nat := [11, 1606, 31, 40, 41, 42, 1010] ++ kY
theorem srcO (A : sA) : supp [11] (rcO A) := fun M M' e _ h i hi => by
  rw [(e 11 i rfl).1]
  exact h i hi
theorem c_t27 {A : sA} {Q : sQ} {v : Nat → Nat} {M : dM} (w : wfA A) (rc : rcA A M) (wq : wQ Q v) (cw : rcW Q v M) (o : rcO A M) (j : rcJ A Q (v 3) M) (hk : gI M 0 10 = nI 1 ∨ (gI M 0 10 = nI 2 ∧ rcY A Q v M)) {n : Nat} (hn : n = 1 ∨ n = 2) : ∃ M', t_ax_study_27 (nI n) M = some M' ∧ rcO A M' ∧ rcJ A Q (v 3) M' ∧ (n = 2 → rcY A Q v M') ∧ caK A Q v M' ∧ chS kStu M M' := by
  unfold t_ax_study_27
  have stay : rcO A M → (n = 2 → rcY A Q v M) → ∃ M', some M = some M' ∧ rcO A M' ∧ rcJ A Q (v 3) M' ∧ (n = 2 → rcY A Q v M') ∧ caK A Q v M' ∧ chS kStu M M' := fun _ hy => by
    refine ⟨M, rfl, o, j, hy, ⟨Or.inr o, ?_⟩, chS.refl _ _⟩
    rcases hk with h | ⟨h1, h2⟩
    · exact Or.inr (Or.inl ⟨h, o, j⟩)
    · exact Or.inr (Or.inr ⟨h1, o, j, h2⟩)
  rcases hn with rfl | rfl
  · rw [if_pos (show nI 1 < (2 : Int32) from by decide)]
    exact stay o (fun z => by cases z)
  · rw [if_neg (show ¬ nI 2 < (2 : Int32) from by decide)]
    rcases hk with h | ⟨h1, h2⟩
    · rw [if_neg (show ¬ (2 : Int32) ≤ gI M 0 10 from by rw [h]; decide)]
      obtain ⟨M1, a1, a2, a3⟩ := c_tell w rc wq cw o j
      rw [a1, Option.bind_some]
      have c : chS kStu M (sI M1 0 10 2) := (a3.mono (by decide)).sI 0 10 _ rfl
      have cc : chS (1010 :: kY) M (sI M1 0 10 2) := (a3.mono (by decide)).sI 0 10 _ rfl
      have o' : rcO A (sI M1 0 10 2) := (srcO A).use o cc (by decide)
      have j' : rcJ A Q (v 3) (sI M1 0 10 2) := (srcJ A Q (v 3)).use j cc (by decide)
      have y' : rcY A Q v (sI M1 0 10 2) := (srcY A Q v).use a2 (chS_sI (S := [1010]) M1 0 10 2 rfl) (by decide)
      exact ⟨_, rfl, o', j', fun _ => y', ⟨Or.inr o', Or.inr (Or.inr ⟨by rw [gI_sI, if_pos ⟨rfl, rfl⟩]; rfl, o', j', y'⟩)⟩, c⟩
    · rw [if_pos (show (2 : Int32) ≤ gI M 0 10 from by rw [h1]; decide)]
      exact stay o (fun _ => h2)
theorem c_study {A : sA} {Q : sQ} {v : Nat → Nat} {M : dM} (w : wfA A) (rc : rcA A M) (wq : wQ Q v) (cw : rcW Q v M) (ca : caK A Q v M) {n : Nat} (hn : n = 1 ∨ n = 2) : ∃ M', f_ax_study (nI n) M = some M' ∧ rcO A M' ∧ rcJ A Q (v 3) M' ∧ (n = 2 → rcY A Q v M') ∧ caK A Q v M' ∧ chS kStu M M' := by
  unfold f_ax_study
  rcases ca.2 with h | ⟨h, o, j⟩ | ⟨h, o, j, y⟩
  · rw [if_neg (show ¬ (1 : Int32) ≤ gI M 0 10 from by rw [h]; decide)]
    obtain ⟨M1, a1, a2, a3⟩ := c_weigh w.1 rc.1 ca.1
    have rc1 := (srcA A).use rc a3 (by decide +kernel)
    have cw1 := (srcW Q v).use cw a3 (by decide)
    obtain ⟨M2, b1, b2, b3⟩ := c_judgeAll w rc1 wq cw1 a2
    rw [a1, Option.bind_some, b1, Option.bind_some]
    have c1 : chS [31, 40, 41, 42, 1010] M1 (sI M2 0 10 1) := (b3.mono (by decide)).sI 0 10 _ rfl
    obtain ⟨M', d1, d2, d3, d4, d5, d6⟩ := c_t27 (Q := Q) (v := v) w ((srcA A).use rc1 c1 (by decide +kernel)) wq ((srcW Q v).use cw1 c1 (by decide)) ((srcO A).use a2 c1 (by decide)) ((srcJ A Q (v 3)).use b2 (chS_sI (S := [1010]) M2 0 10 1 rfl) (by decide)) (Or.inl (by rw [gI_sI, if_pos ⟨rfl, rfl⟩]; rfl)) hn
    exact ⟨M', d1, d2, d3, d4, d5, ((a3.mono (by decide)).trans (c1.mono (by decide))).trans d6⟩
  · rw [if_pos (show (1 : Int32) ≤ gI M 0 10 from by rw [h]; decide)]
    exact c_t27 w rc wq cw o j (Or.inl h) hn
  · rw [if_pos (show (1 : Int32) ≤ gI M 0 10 from by rw [h]; decide)]
    exact c_t27 w rc wq cw o j (Or.inr ⟨h, y⟩) hn
/-! ===== the reference knows ===== -/
def rmK1 (A : sA) (Q : sQ) (v : Nat → Nat) (n : Nat) (M : dM) : Prop := ∀ f, f < n → gI M 104 f = nI (eaF A Q (v 3) f) ∧ gI M 105 f = nI (canF A (v 2) f) ∧ gI M 106 f = nI (mayF A v f) ∧ gI M 107 f = nI (if putF A Q v f = true then 1 else 0)
def kK1 : List Nat := [104, 105, 106, 107]
theorem srmK1 (A : sA) (Q : sQ) (v : Nat → Nat) (n : Nat) : supp kK1 (rmK1 A Q v n) := fun M M' e _ h f hf => by
  rw [(e 104 f rfl).1, (e 105 f rfl).1, (e 106 f rfl).1, (e 107 f rfl).1]
  exact h f hf
theorem m_knows1 {A : sA} {Q : sQ} {v : Nat → Nat} (w : wfA A) (wq : wQ Q v) : ∀ (m i : Nat) (M : dM), i + m = A 66 9 → rmA A M → rmW Q v M → rmK1 A Q v i M → ∃ M', l_mo_knows_2 (nI i) M = some M' ∧ rmK1 A Q v (A 66 9) M' ∧ chS (kK1 ++ kEa) M M' := by
  have hn := w.2.2.1.1
  intro m
  induction m with
  | zero =>
    intro i M hi rm mw h
    have e : i = A 66 9 := by omega
    subst e
    refine ⟨M, ?_, h, chS.refl _ _⟩
    unfold l_mo_knows_2
    refine lpc_out ?_
    show b_mo_knows_2_2 (nI (A 66 9)) M = _
    unfold b_mo_knows_2_2
    rw [rm.2.2.1.1, if_pos (z_yle (by omega) (by omega) (Nat.le_refl _))]
  | succ m ih =>
    intro i M hi rm mw h
    have hin : i < A 66 9 := by omega
    have hea := jdg_lt Q (fun k => nI (fc A (v 3) i k))
    have hby := byF_lt w.1 v i
    have hea' : eaF A Q (v 3) i < 3 := hea
    obtain ⟨M1, a1, a2⟩ := m_eachOf w rm wq mw hin
    have c1 : chS (kK1 ++ kEa) M (sI M1 104 i (nI (eaF A Q (v 3) i))) := (a2.mono (by decide)).sI 104 i _ rfl
    have c2 : chS (kK1 ++ kEa) M (sI (sI M1 104 i (nI (eaF A Q (v 3) i))) 105 i (nI (canF A (v 2) i))) := c1.sI 105 i _ rfl
    have es : nI i + 1 = nI (i + 1) := z_add i 1
    have fin : ∀ Y, Y = sI (sI (sI (sI M1 104 i (nI (eaF A Q (v 3) i))) 105 i (nI (canF A (v 2) i))) 106 i (nI (mayF A v i))) 107 i (nI (if putF A Q v i = true then 1 else 0)) → b_mo_knows_2_2 (nI i) M = some (.inl (nI (i + 1), Y)) → ∃ M', l_mo_knows_2 (nI i) M = some M' ∧ rmK1 A Q v (A 66 9) M' ∧ chS (kK1 ++ kEa) M M' := fun Y hY hb => by
      have c3 : chS (kK1 ++ kEa) M Y := by rw [hY]; exact (c2.sI 106 i _ rfl).sI 107 i _ rfl
      obtain ⟨M', d1, d2, d3⟩ := ih (i + 1) Y (by omega) ((srmA A).use rm c3 (by decide +kernel)) (rmW_w mw c3 (by decide)) (fun f hf => by
        by_cases e : f = i
        · subst e
          rw [hY]
          refine ⟨?_, ?_, ?_, ?_⟩ <;> simp only [gI_sI, Nat.reduceEqDiff, false_and, and_self, if_false, if_true]
        · obtain ⟨y1, y2, y3, y4⟩ := h f (by omega)
          rw [hY]
          simp only [gI_sI, e, and_false, if_false, a2.I 104 f rfl, a2.I 105 f rfl, a2.I 106 f rfl, a2.I 107 f rfl]
          exact ⟨y1, y2, y3, y4⟩)
      refine ⟨M', ?_, d2, c3.trans d3⟩
      unfold l_mo_knows_2 at d1 ⊢
      exact lpc_step (s' := (nI (i + 1), Y)) hb d1
    refine fin _ rfl ?_
    unfold b_mo_knows_2_2
    rw [rm.2.2.1.1, if_neg (z_nle (by omega) (by omega) hin), a1, Option.bind_some, z_gd (z_in (n := i) (by omega) (by omega)), z_cl (n := i) (by omega)]
    show (f_mo_canOf (nI i) (sI M1 104 i (nI (eaF A Q (v 3) i)))).bind _ = _
    have g5 : gI (sI (sI M1 104 i (nI (eaF A Q (v 3) i))) 105 i (nI (canF A (v 2) i))) 105 i = nI (canF A (v 2) i) := by rw [gI_sI, if_pos ⟨rfl, rfl⟩]
    have rmc1 : rmA A (sI M1 104 i (nI (eaF A Q (v 3) i))) := (srmA A).use rm c1 (by decide +kernel)
    have rmc2 : rmA A (sI (sI M1 104 i (nI (eaF A Q (v 3) i))) 105 i (nI (canF A (v 2) i))) := (srmA A).use rm c2 (by decide +kernel)
    rw [m_canOf w rmc1 ((c1.I 66 32 rfl).trans mw.1.1) wq.2.2.2.2.2.1 hin, Option.bind_some]
    show (f_mo_seenOf (nI i) (gI (sI (sI M1 104 i (nI (eaF A Q (v 3) i))) 105 i (nI (canF A (v 2) i))) 105 i) (sI (sI M1 104 i (nI (eaF A Q (v 3) i))) 105 i (nI (canF A (v 2) i)))).bind (fun v6 => if v6 = 0 then b_mo_knows_2_63 (nI i) v6 (nI i) (gI (sI (sI M1 104 i (nI (eaF A Q (v 3) i))) 105 i (nI (canF A (v 2) i))) 105 i) (sI (sI M1 104 i (nI (eaF A Q (v 3) i))) 105 i (nI (canF A (v 2) i))) else b_mo_knows_2_63 (nI i) v6 (nI i) v6 (sI (sI M1 104 i (nI (eaF A Q (v 3) i))) 105 i (nI (canF A (v 2) i)))) = _
    rw [g5, m_seenOf w rmc2 ((c2.I 66 32 rfl).trans mw.1.1) wq.2.2.2.2.2.1 hin, Option.bind_some]
    show (if nI (byF A v i) = 0 then b_mo_knows_2_63 (nI i) (nI (byF A v i)) (nI i) (nI (canF A (v 2) i)) _ else b_mo_knows_2_63 (nI i) (nI (byF A v i)) (nI i) (nI (byF A v i)) _) = _
    have e4 : ∀ y, gI (sI (sI (sI M1 104 i (nI (eaF A Q (v 3) i))) 105 i (nI (canF A (v 2) i))) 106 i y) 104 i = nI (eaF A Q (v 3) i) := fun y => by
      simp only [gI_sI, Nat.reduceEqDiff, false_and, and_self, if_false, if_true]
    unfold b_mo_knows_2_63 b_mo_knows_2_83 b_mo_knows_2_88
    rw [z_gd (z_in (n := i) (by omega) (by omega)), z_gd (z_in (n := i) (by omega) (by omega)), z_gd (z_in (n := i) (by omega) (by omega)), z_gd (z_in (n := i) (by omega) (by omega)), z_gd (z_in (n := i) (by omega) (by omega)), z_cl (n := i) (by omega), es, e4, e4]
    by_cases c : byF A v i = 0
    · have em : mayF A v i = canF A (v 2) i := by unfold mayF; rw [if_pos c]
      rw [em, if_pos (show nI (byF A v i) = (0 : Int32) from by rw [c]; rfl), if_pos (show nI (byF A v i) = (0 : Int32) from by rw [c]; rfl)]
      by_cases c2 : eaF A Q (v 3) i = 2
      · rw [if_pos (show nI _ = (2 : Int32) from by rw [c2]; rfl), if_pos (show putF A Q v i = true from by unfold putF; rw [decide_eq_true c2, Bool.or_true])]
        rfl
      · rw [if_neg (show ¬ nI _ = (2 : Int32) from z_ne (b := 2) (by omega) (by omega) c2), if_neg (show ¬ putF A Q v i = true from by unfold putF; rw [decide_eq_false c2, decide_eq_true c]; decide)]
        rfl
    · have em : mayF A v i = byF A v i := by unfold mayF; rw [if_neg c]
      rw [em, if_neg (show ¬ nI (byF A v i) = (0 : Int32) from z_ne (b := 0) (by omega) (by omega) c), if_neg (show ¬ nI (byF A v i) = (0 : Int32) from z_ne (b := 0) (by omega) (by omega) c), if_pos (show putF A Q v i = true from by unfold putF; rw [decide_eq_false c]; rfl), z_gd (z_in (n := i) (by omega) (by omega))]
      rfl
theorem m_ex34 {A : sA} {Q : sQ} {v : Nat → Nat} {M : dM} (w : wfA A) (rm : rmA A M) (wq : wQ Q v) (mw : rmW Q v M) (h : rmK1 A Q v (A 66 9) M) {s f : Nat} (hs : s < 1024) (hf : f < A 66 9) : ∀ (m k : Nat), k + m = f → (l_mo_explains_34 (nI s) (nI f) (nI k) M = some (.inl ()) ∧ ∀ g, k ≤ g → g < f → tw A (v 3) f g = true → (mayF A v f ||| mayF A v g) &&& s ≠ 0) ∨ (l_mo_explains_34 (nI s) (nI f) (nI k) M = some (.inr false) ∧ ∃ g, g < f ∧ tw A (v 3) f g = true ∧ (mayF A v f ||| mayF A v g) &&& s = 0) := by
  have hn := w.2.2.1.1
  intro m
  induction m with
  | zero =>
    intro k hk
    refine Or.inl ⟨?_, fun g g1 g2 => by omega⟩
    unfold l_mo_explains_34
    refine lpc_out ?_
    show b_mo_explains_34_34 (nI s) (nI f) (nI k) M = _
    unfold b_mo_explains_34_34
    rw [if_pos (z_yle (by omega) (by omega) (by omega))]
  | succ m ih =>
    intro k hk
    have hkf : k < f := by omega
    have es : nI k + 1 = nI (k + 1) := z_add k 1
    have hlt : (mayF A v f ||| mayF A v k) &&& s < 1024 := Nat.lt_of_le_of_lt Nat.and_le_right hs
    have hb : b_mo_explains_34_34 (nI s) (nI f) (nI k) M = if tw A (v 3) f k = true then (if (mayF A v f ||| mayF A v k) &&& s = 0 then some (.inr (.inr false)) else some (.inl (nI (k + 1)))) else some (.inl (nI (k + 1))) := by
      unfold b_mo_explains_34_34
      rw [if_neg (z_nle (by omega) (by omega) hkf), m_isTwin w rm mw.1.2 wq.2.2.2.2.2.2.1 hf (by omega), Option.bind_some, z_gd (z_in (n := f) (by omega) (by omega)), z_gd (z_in (n := k) (by omega) (by omega)), z_cl (n := f) (by omega), z_cl (n := k) (by omega), (h f hf).2.2.1, (h k (by omega)).2.2.1, z_or, z_and, es]
      by_cases c : tw A (v 3) f k = true
      · rw [if_pos c, if_pos c]
        by_cases c2 : (mayF A v f ||| mayF A v k) &&& s = 0
        · rw [if_pos (show nI _ = (0 : Int32) from by rw [c2]; rfl), if_pos c2]
        · rw [if_neg (show ¬ nI _ = (0 : Int32) from z_ne (b := 0) (by omega) (by omega) c2), if_neg c2]
      · rw [if_neg c, if_neg c]
    have step : b_mo_explains_34_34 (nI s) (nI f) (nI k) M = some (.inl (nI (k + 1))) → (tw A (v 3) f k = true → (mayF A v f ||| mayF A v k) &&& s ≠ 0) → (l_mo_explains_34 (nI s) (nI f) (nI k) M = some (.inl ()) ∧ ∀ g, k ≤ g → g < f → tw A (v 3) f g = true → (mayF A v f ||| mayF A v g) &&& s ≠ 0) ∨ (l_mo_explains_34 (nI s) (nI f) (nI k) M = some (.inr false) ∧ ∃ g, g < f ∧ tw A (v 3) f g = true ∧ (mayF A v f ||| mayF A v g) &&& s = 0) := fun hb1 ht => by
      rcases ih (k + 1) (by omega) with ⟨a, b⟩ | ⟨a, b⟩
      · refine Or.inl ⟨?_, fun g g1 g2 g3 => ?_⟩
        · unfold l_mo_explains_34 at a ⊢
          exact lpc_step (s' := nI (k + 1)) hb1 a
        · by_cases e : g = k
          · rw [e]; rw [e] at g3; exact ht g3
          · exact b g (by omega) g2 g3
      · refine Or.inr ⟨?_, b⟩
        unfold l_mo_explains_34 at a ⊢
        exact lpc_step (s' := nI (k + 1)) hb1 a
    by_cases c : tw A (v 3) f k = true
    · rw [if_pos c] at hb
      by_cases c2 : (mayF A v f ||| mayF A v k) &&& s = 0
      · rw [if_pos c2] at hb
        refine Or.inr ⟨?_, k, hkf, c, c2⟩
        unfold l_mo_explains_34
        exact lpc_out hb
      · rw [if_neg c2] at hb
        exact step hb (fun _ => c2)
    · rw [if_neg c] at hb
      exact step hb (fun z => absurd z c)
theorem m_explains {A : sA} {Q : sQ} {v : Nat → Nat} {M : dM} (w : wfA A) (rm : rmA A M) (wq : wQ Q v) (mw : rmW Q v M) (h : rmK1 A Q v (A 66 9) M) {s : Nat} (hs : s < 1024) : f_mo_explains (nI s) M = some (exB A Q v s) := by
  have hn := w.2.2.1.1
  have go : ∀ (m i : Nat), i + m = A 66 9 → ∃ b, l_mo_explains_2 (nI s) (nI i) M = some b ∧ (b = true ↔ ∀ f, i ≤ f → f < A 66 9 → ∀ H, nd1 A Q v f H → H &&& s ≠ 0) := by
    intro m
    induction m with
    | zero =>
      intro i hi
      refine ⟨true, ?_, fun _ f h1 h2 => by omega, fun _ => rfl⟩
      unfold l_mo_explains_2
      refine lpc_out ?_
      show b_mo_explains_2_2 (nI s) (nI i) M = _
      unfold b_mo_explains_2_2
      rw [rm.2.2.1.1, if_pos (z_yle (by omega) (by omega) (by omega))]
    | succ m ih =>
      intro i hi
      have hin : i < A 66 9 := by omega
      have hlt : mayF A v i &&& s < 1024 := Nat.lt_of_le_of_lt Nat.and_le_right hs
      have es : nI i + 1 = nI (i + 1) := z_add i 1
      have hb : b_mo_explains_2_2 (nI s) (nI i) M = if putF A Q v i = true ∧ mayF A v i &&& s = 0 then some (.inr false) else b_mo_explains_2_32 (nI s) (nI i) M := by
        unfold b_mo_explains_2_2
        rw [rm.2.2.1.1, if_neg (z_nle (by omega) (by omega) hin), z_gd (z_in (n := i) (by omega) (by omega)), z_cl (n := i) (by omega), (h i hin).2.2.2, (h i hin).2.2.1, z_and]
        by_cases c : putF A Q v i = true
        · rw [if_pos c, if_neg (show ¬ nI 1 = (0 : Int32) from by decide)]
          by_cases c2 : mayF A v i &&& s = 0
          · rw [if_pos (show nI _ = (0 : Int32) from by rw [c2]; rfl), if_pos ⟨c, c2⟩]
          · rw [if_neg (show ¬ nI _ = (0 : Int32) from z_ne (b := 0) (by omega) (by omega) c2), if_neg (fun z => c2 z.2)]
        · rw [if_neg c, if_pos (show nI 0 = (0 : Int32) from rfl), if_neg (fun z => c z.1)]
      by_cases c : putF A Q v i = true ∧ mayF A v i &&& s = 0
      · rw [if_pos c] at hb
        refine ⟨false, ?_, fun z => (by cases z), fun z => absurd c.2 (z i (Nat.le_refl _) hin _ (Or.inl ⟨c.1, rfl⟩))⟩
        unfold l_mo_explains_2
        exact lpc_out hb
      · rw [if_neg c] at hb
        unfold b_mo_explains_2_32 at hb
        have e0 : l_mo_explains_34 (nI s) (nI i) 0 M = l_mo_explains_34 (nI s) (nI i) (nI 0) M := rfl
        rw [e0] at hb
        rcases m_ex34 w rm wq mw h hs hin i 0 (by omega) with ⟨a, b⟩ | ⟨a, g, g1, g2, g3⟩
        · rw [a] at hb
          obtain ⟨r, r1, r2⟩ := ih (i + 1) (by omega)
          refine ⟨r, ?_, ?_⟩
          · unfold l_mo_explains_2 at r1 ⊢
            refine lpc_step (s' := nI (i + 1)) ?_ r1
            show b_mo_explains_2_2 (nI s) (nI i) M = _
            rw [hb]
            show some (Sum.inl (nI i + 1)) = _
            rw [es]
          · rw [r2]
            constructor
            · intro z f f1 f2 H hH
              by_cases e : f = i
              · subst e
                rcases hH with ⟨p1, p2⟩ | ⟨g, p1, p2, p3⟩
                · rw [p2]; exact fun q => c ⟨p1, q⟩
                · rw [p3]; exact b g (Nat.zero_le _) p1 p2
              · exact z f (by omega) f2 H hH
            · intro z f f1 f2 H hH
              exact z f (by omega) f2 H hH
        · rw [a] at hb
          refine ⟨false, ?_, fun z => (by cases z), fun z => absurd g3 (z i (Nat.le_refl _) hin _ (Or.inr ⟨g, g1, g2, rfl⟩))⟩
          unfold l_mo_explains_2
          exact lpc_out hb
  obtain ⟨b, b1, b2⟩ := go (A 66 9) 0 (by omega)
  have b1' : l_mo_explains_2 (nI s) 0 M = some b := b1
  have e : b = exB A Q v s := by
    rw [Bool.eq_iff_iff, b2, exB_iff]
    constructor
    · rintro z H ⟨f, f1, f2⟩
      exact z f (Nat.zero_le _) f1 H f2
    · intro z f _ f1 H f2
      exact z H ⟨f, f1, f2⟩
  unfold f_mo_explains
  rw [b1', e]
  rfl
def st5m (t : Nat × Nat × Nat × Nat × Nat) (M : dM) : Prop := gI M 66 64 = nI t.1 ∧ gI M 66 65 = nI (if t.1 = 0 then 99 else t.2.1) ∧ (t.1 ≠ 0 → gI M 66 66 = nI t.2.2.1) ∧ gI M 66 67 = nI t.2.2.2.1 ∧ gI M 66 68 = nI t.2.2.2.2
def kSm : List Nat := [7664, 7665, 7666, 7667, 7668]
theorem m_st {A : sA} {Q : sQ} {v : Nat → Nat} (w : wfA A) (wq : wQ Q v) : ∀ (m s : Nat) (M : dM), s + m = 1024 → rmA A M → rmW Q v M → rmK1 A Q v (A 66 9) M → st5m (stN (exB A Q v) s) M → ∃ M', l_mo_knows_123 (nI s) M = some M' ∧ st5m (sT A Q v) M' ∧ chS kSm M M' := by
  intro m
  induction m with
  | zero =>
    intro s M hs rm mw h t
    have e : s = 1024 := by omega
    subst e
    refine ⟨M, ?_, t, chS.refl _ _⟩
    unfold l_mo_knows_123
    refine lpc_out ?_
    show b_mo_knows_123_123 (nI 1024) M = _
    unfold b_mo_knows_123_123
    rw [if_pos (by decide)]
  | succ m ih =>
    intro s M hs rm mw h t
    obtain ⟨o1, o2, o3, o4, o5, o6⟩ := stN_ok (exB A Q v) s (by omega)
    obtain ⟨t1, t2, t3, t4, t5⟩ := t
    have hp2 : pc s 12 ≤ 10 := by
      rw [pc_ext (m := 10) (show s < 2 ^ 10 by omega) (by decide)]; exact pc_le _ _
    have es : nI s + 1 = nI (s + 1) := z_add s 1
    have fin : ∀ Y, chS kSm M Y → st5m (stN (exB A Q v) (s + 1)) Y → b_mo_knows_123_123 (nI s) M = some (.inl (nI (s + 1), Y)) → ∃ M', l_mo_knows_123 (nI s) M = some M' ∧ st5m (sT A Q v) M' ∧ chS kSm M M' := fun Y cY hY hb => by
      obtain ⟨M', a1, a2, a3⟩ := ih (s + 1) Y (by omega) ((srmA A).use rm cY (by decide +kernel)) (rmW_w mw cY (by decide)) ((srmK1 A Q v _).use h cY (by decide)) hY
      refine ⟨M', ?_, a2, cY.trans a3⟩
      unfold l_mo_knows_123 at a1 ⊢
      exact lpc_step (s' := (nI (s + 1), Y)) hb a1
    have e64 : gI M 66 64 + 1 = nI ((stN (exB A Q v) s).1 + 1) := by rw [t1]; exact z_add _ 1
    generalize hf : (if (stN (exB A Q v) s).1 = 0 then 99 else (stN (exB A Q v) s).2.1) = few at t2
    have hfew : few ≤ 99 := by rw [← hf]; split <;> omega
    have cX : chS kSm M (sI M 66 64 (nI ((stN (exB A Q v) s).1 + 1))) := chS_sI M 66 64 _ rfl
    have x64 : gI (sI M 66 64 (nI ((stN (exB A Q v) s).1 + 1))) 66 64 = nI ((stN (exB A Q v) s).1 + 1) := by rw [gI_sI, if_pos ⟨rfl, rfl⟩]
    have x65 : gI (sI M 66 64 (nI ((stN (exB A Q v) s).1 + 1))) 66 65 = nI few := by rw [gI_sI, if_neg (by omega)]; exact t2
    have x66 : gI (sI M 66 64 (nI ((stN (exB A Q v) s).1 + 1))) 66 66 = gI M 66 66 := by rw [gI_sI, if_neg (by omega)]
    have x67 : gI (sI M 66 64 (nI ((stN (exB A Q v) s).1 + 1))) 66 67 = nI (stN (exB A Q v) s).2.2.2.1 := by rw [gI_sI, if_neg (by omega)]; exact t4
    have x68 : gI (sI M 66 64 (nI ((stN (exB A Q v) s).1 + 1))) 66 68 = nI (stN (exB A Q v) s).2.2.2.2 := by rw [gI_sI, if_neg (by omega)]; exact t5
    have hd : b_mo_knows_123_123 (nI s) M = if exB A Q v s = true then (if nI (pc s 12) ≤ nI few then (if nI few ≤ nI (pc s 12) then b_mo_knows_123_195 (nI s) (sI M 66 64 (nI ((stN (exB A Q v) s).1 + 1))) else b_mo_knows_123_195 (nI s) (sI (sI (sI (sI (sI M 66 64 (nI ((stN (exB A Q v) s).1 + 1))) 66 65 (nI (pc s 12))) 66 66 (nI s)) 66 67 (nI s)) 66 68 (nI s))) else some (.inl (nI (s + 1), sI M 66 64 (nI ((stN (exB A Q v) s).1 + 1))))) else some (.inl (nI (s + 1), M)) := by
      unfold b_mo_knows_123_123
      rw [if_neg (show ¬ (1024 : Int32) ≤ nI s from z_nle (a := 1024) (by omega) (by omega) (by omega)), m_explains w rm wq mw h (by omega), Option.bind_some, m_bits (by omega), Option.bind_some, e64, x65, es]
    generalize sI M 66 64 (nI ((stN (exB A Q v) s).1 + 1)) = X at cX x64 x65 x66 x67 x68 hd
    by_cases ex : exB A Q v s = true
    · rw [if_pos ex] at hd
      have sets : pc s 12 < (stN (exB A Q v) s).2.1 → pc s 12 < few → ∃ M', l_mo_knows_123 (nI s) M = some M' ∧ st5m (sT A Q v) M' ∧ chS kSm M M' := fun c1 c2 => by
        rw [if_pos (z_yle (by omega) (by omega) (by omega)), if_neg (z_nle (by omega) (by omega) c2)] at hd
        have cZ : chS kSm M (sI (sI (sI (sI X 66 65 (nI (pc s 12))) 66 66 (nI s)) 66 67 (nI s)) 66 68 (nI s)) := (((cX.sI 66 65 _ rfl).sI 66 66 _ rfl).sI 66 67 _ rfl).sI 66 68 _ rfl
        refine fin (sI (sI (sI (sI (sI (sI X 66 65 (nI (pc s 12))) 66 66 (nI s)) 66 67 (nI s)) 66 68 (nI s)) 66 67 (nI s)) 66 68 (nI s)) ((cZ.sI 66 67 _ rfl).sI 66 68 _ rfl) ?_ ?_
        · rw [stN_s, if_pos ex, if_pos c1]
          refine ⟨?_, ?_, fun _ => ?_, ?_, ?_⟩
          · simp only [gI_sI, Nat.reduceEqDiff, and_false, if_false]; exact x64
          · rw [if_neg (show ¬ ((stN (exB A Q v) s).1 + 1 = 0) by omega)]
            simp only [gI_sI, Nat.reduceEqDiff, and_false, and_true, if_false, if_true]
          · simp only [gI_sI, Nat.reduceEqDiff, and_false, and_true, if_false, if_true]
          · simp only [gI_sI, Nat.reduceEqDiff, and_false, and_true, if_false, if_true]
          · simp only [gI_sI, and_true, if_true]
        · rw [hd]
          unfold b_mo_knows_123_195
          simp only [gI_sI, Nat.reduceEqDiff, and_false, and_true, if_false, if_true, z_and, z_or, Nat.and_self, Nat.or_self, es]
      by_cases z : (stN (exB A Q v) s).1 = 0
      · rw [if_pos z] at hf
        have := o6 z
        exact sets (by rw [this]; show pc s 12 < 11; omega) (by omega)
      · rw [if_neg z] at hf
        by_cases c1 : pc s 12 < few
        · exact sets (by omega) c1
        · by_cases c2 : pc s 12 = few
          · rw [if_pos (z_yle (by omega) (by omega) (by omega)), if_pos (z_yle (by omega) (by omega) (by omega))] at hd
            refine fin (sI (sI X 66 67 (nI ((stN (exB A Q v) s).2.2.2.1 &&& s))) 66 68 (nI ((stN (exB A Q v) s).2.2.2.2 ||| s))) ((cX.sI 66 67 _ rfl).sI 66 68 _ rfl) ?_ ?_
            · rw [stN_s, if_pos ex, if_neg (by omega), if_pos (by omega)]
              refine ⟨?_, ?_, fun _ => ?_, ?_, ?_⟩
              · simp only [gI_sI, Nat.reduceEqDiff, and_false, if_false]; exact x64
              · rw [if_neg (show ¬ ((stN (exB A Q v) s).1 + 1 = 0) by omega)]
                simp only [gI_sI, Nat.reduceEqDiff, and_false, if_false]; rw [x65, hf]
              · simp only [gI_sI, Nat.reduceEqDiff, and_false, if_false]; rw [x66]; exact t3 z
              · simp only [gI_sI, Nat.reduceEqDiff, and_false, and_true, if_false, if_true]
              · simp only [gI_sI, and_true, if_true]
            · rw [hd]
              unfold b_mo_knows_123_195
              rw [x67, z_and, show gI (sI X 66 67 (nI ((stN (exB A Q v) s).2.2.2.1 &&& s))) 66 68 = nI (stN (exB A Q v) s).2.2.2.2 from by rw [gI_sI, if_neg (by omega)]; exact x68, z_or, es]
          · rw [if_neg (z_nle (by omega) (by omega) (by omega))] at hd
            refine fin X cX ?_ hd
            rw [stN_s, if_pos ex, if_neg (by omega), if_neg (by omega)]
            refine ⟨x64, ?_, fun _ => x66.trans (t3 z), x67, x68⟩
            rw [if_neg (show ¬ ((stN (exB A Q v) s).1 + 1 = 0) by omega), x65, hf]
    · rw [if_neg ex] at hd
      refine fin M (chS.refl _ _) ?_ hd
      rw [stN_s, if_neg ex]
      exact ⟨t1, by rw [t2, hf], t3, t4, t5⟩
theorem m_duL {A : sA} {Q : sQ} {v : Nat → Nat} (w : wfA A) : ∀ (m i : Nat) (M : dM), i + m = A 66 9 → rmA A M → rmK1 A Q v (A 66 9) M → gI M 66 68 = nI (sT A Q v).2.2.2.2 → gJ M 66 63 = lN (bsN (duB A Q v) i) → ∃ M', l_mo_knows_228 (nI i) M = some M' ∧ gJ M' 66 63 = lN (duF A Q v) ∧ chS [7663] M M' := by
  have hn := w.2.2.1.1
  obtain ⟨o1, o2, o3, o4, o5, o6⟩ := sT_ok A Q v
  intro m
  induction m with
  | zero =>
    intro i M hi rm h t h7
    have e : i = A 66 9 := by omega
    subst e
    refine ⟨M, ?_, h7, chS.refl _ _⟩
    unfold l_mo_knows_228
    refine lpc_out ?_
    show b_mo_knows_228_228 (nI (A 66 9)) M = _
    unfold b_mo_knows_228_228
    rw [rm.2.2.1.1, if_pos (z_yle (by omega) (by omega) (Nat.le_refl _))]
  | succ m ih =>
    intro i M hi rm h t h7
    have hin : i < A 66 9 := by omega
    obtain ⟨e1, e2, e3, e4, e5, e6, e7⟩ := rm.2.2.1.2 i hin
    obtain ⟨q1, q2, q3, q4, q5, q6, q7, q8⟩ := w.2.2.1.2.1 i hin
    have hea : eaF A Q (v 3) i < 3 := jdg_lt Q (fun k => nI (fc A (v 3) i k))
    have es : nI i + 1 = nI (i + 1) := z_add i 1
    have hd : b_mo_knows_228_228 (nI i) M = if duB A Q v i = true then some (.inl (nI (i + 1), sJ M 66 63 (lN (bsN (duB A Q v) i ||| 2 ^ i)))) else some (.inl (nI (i + 1), M)) := by
      unfold b_mo_knows_228_228 b_mo_knows_228_262
      rw [rm.2.2.1.1, if_neg (z_nle (by omega) (by omega) hin), z_gd (z_in (n := i) (by omega) (by omega)), z_cl (n := i) (by omega), (h i hin).1, t, e5, h7, z_1shlL (by omega), fb_orL, es]
      have hbit : (nI (sT A Q v).2.2.2.2 >>> (nI (A 78 i) &&& 31)) &&& 1 = nI ((sT A Q v).2.2.2.2 / 2 ^ A 78 i % 2 ^ 1) := by
        rw [z_shr (by omega) (by omega)]
        exact fa_mask _ 1
      have hm2 := Nat.mod_lt ((sT A Q v).2.2.2.2 / 2 ^ A 78 i) (show 0 < 2 ^ 1 by decide)
      rw [hbit]
      unfold duB
      by_cases c : eaF A Q (v 3) i = 0
      · rw [if_neg (show ¬ (0 : Int32) < nI _ from z_nlt (a := 0) (by omega) (by omega) (by omega)), decide_eq_true c]
        have hb2 := Nat.testBit_eq_decide_div_mod_eq (x := (sT A Q v).2.2.2.2) (i := A 78 i)
        by_cases c2 : (sT A Q v).2.2.2.2 / 2 ^ A 78 i % 2 = 1
        · rw [decide_eq_true c2] at hb2
          rw [if_pos (show nI ((sT A Q v).2.2.2.2 / 2 ^ A 78 i % 2 ^ 1) = (1 : Int32) from by rw [show (2 : Nat) ^ 1 = 2 from rfl, c2]; rfl), if_pos (by rw [hb2]; rfl)]
        · rw [decide_eq_false c2] at hb2
          rw [if_neg (show ¬ nI ((sT A Q v).2.2.2.2 / 2 ^ A 78 i % 2 ^ 1) = (1 : Int32) from z_ne (b := 1) (by omega) (by omega) c2), if_neg (by rw [hb2]; decide)]
      · rw [if_pos (show (0 : Int32) < nI _ from z_ylt (a := 0) (by omega) (by omega) (by omega)), decide_eq_false c, if_pos (show (!false || (sT A Q v).2.2.2.2.testBit (A 78 i)) = true from rfl)]
    by_cases c : duB A Q v i = true
    · rw [if_pos c] at hd
      have cs : chS [7663] M (sJ M 66 63 (lN (bsN (duB A Q v) i ||| 2 ^ i))) := chS_sJ M 66 63 _ rfl
      obtain ⟨M', a1, a2, a3⟩ := ih (i + 1) _ (by omega) ((srmA A).use rm cs (by decide +kernel)) ((srmK1 A Q v _).use h cs (by decide)) ((cs.I 66 68 rfl).trans t) (by rw [gJ_sJ, if_pos ⟨rfl, rfl⟩, bsN_s, if_pos c])
      refine ⟨M', ?_, a2, cs.trans a3⟩
      unfold l_mo_knows_228 at a1 ⊢
      exact lpc_step hd a1
    · rw [if_neg c] at hd
      obtain ⟨M', a1, a2, a3⟩ := ih (i + 1) M (by omega) rm h t (by rw [bsN_s, if_neg c]; exact h7)
      refine ⟨M', ?_, a2, a3⟩
      unfold l_mo_knows_228 at a1 ⊢
      exact lpc_step hd a1
def kKn : List Nat := kK1 ++ (kEa ++ (kSm ++ [7663]))
theorem m_knows {A : sA} {Q : sQ} {v : Nat → Nat} {M : dM} (w : wfA A) (rm : rmA A M) (wq : wQ Q v) (mw : rmW Q v M) : ∃ M', f_mo_knows M = some M' ∧ rmK1 A Q v (A 66 9) M' ∧ st5m (sT A Q v) M' ∧ gJ M' 66 63 = lN (duF A Q v) ∧ chS kKn M M' := by
  obtain ⟨M1, a1, a2, a3⟩ := m_knows1 w wq (A 66 9) 0 M (by omega) rm mw (fun f hf => absurd hf (Nat.not_lt_zero _))
  have rm1 := (srmA A).use rm a3 (by decide +kernel)
  have mw1 := rmW_w mw a3 (by decide)
  have c1 : chS kSm M1 (sI (sI (sI (sI (sI M1 66 64 0) 66 65 99) 66 66 (-1)) 66 67 0) 66 68 0) := (((((chS.refl _ M1).sI 66 64 _ rfl).sI 66 65 _ rfl).sI 66 66 _ rfl).sI 66 67 _ rfl).sI 66 68 _ rfl
  have s0 : st5m (stN (exB A Q v) 0) (sI (sI (sI (sI (sI M1 66 64 0) 66 65 99) 66 66 (-1)) 66 67 0) 66 68 0) := by
    refine ⟨?_, ?_, fun z => absurd rfl z, ?_, ?_⟩ <;> simp only [gI_sI, Nat.reduceEqDiff, and_false, and_true, if_false, if_true] <;> rfl
  obtain ⟨M2, b1, b2, b3⟩ := m_st w wq 1024 0 _ rfl ((srmA A).use rm1 c1 (by decide +kernel)) (rmW_w mw1 c1 (by decide)) ((srmK1 A Q v _).use a2 c1 (by decide)) s0
  have c2 := c1.trans b3
  have c3 : chS [7663] M2 (sJ M2 66 63 0) := chS_sJ M2 66 63 _ rfl
  obtain ⟨M3, d1, d2, d3⟩ := m_duL w (A 66 9) 0 (sJ M2 66 63 0) (by omega) ((srmA A).use ((srmA A).use rm1 c2 (by decide +kernel)) c3 (by decide +kernel)) ((srmK1 A Q v _).use ((srmK1 A Q v _).use a2 c2 (by decide)) c3 (by decide)) ((c3.I 66 68 rfl).trans b2.2.2.2.2) (by rw [gJ_sJ, if_pos ⟨rfl, rfl⟩]; rfl)
  have c4 := c3.trans d3
  have a1' : l_mo_knows_2 0 M = some M1 := a1
  have b1' : l_mo_knows_123 0 (sI (sI (sI (sI (sI M1 66 64 0) 66 65 99) 66 66 (-1)) 66 67 0) 66 68 0) = some M2 := b1
  have d1' : l_mo_knows_228 0 (sJ M2 66 63 0) = some M3 := d1
  refine ⟨M3, ?_, (srmK1 A Q v _).use a2 ((c2.mono (by decide)).trans (c4.mono (by decide)) : chS (kSm ++ [7663]) M1 M3) (by decide), ?_, d2, ((a3.mono (by decide)).trans (c2.mono (by decide))).trans (c4.mono (by decide))⟩
  · unfold f_mo_knows
    rw [a1', Option.bind_some, b1', Option.bind_some, d1']
    rfl
  · obtain ⟨t1, t2, t3, t4, t5⟩ := b2
    exact ⟨(c4.I 66 64 rfl).trans t1, (c4.I 66 65 rfl).trans t2, fun z => (c4.I 66 66 rfl).trans (t3 z), (c4.I 66 67 rfl).trans t4, (c4.I 66 68 rfl).trans t5⟩
