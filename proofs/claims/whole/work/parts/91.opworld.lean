/-! ===== world, found ===== -/
theorem rcJ_lo {A : sA} {Q : sQ} {far : Nat} (hn : A 66 9 ≤ 40) {S : List Nat} {M M' : dM} (h : rcJ A Q far M) (c : chS S M M') (hd : disj [41, 42] S = true) (l : lo40 M M') : rcJ A Q far M' := fun f hf => by
  have h41' : S.contains 41 = false := by
    have := List.all_eq_true.mp hd 41 (by decide)
    simpa using this
  have h42' : S.contains 42 = false := by
    have := List.all_eq_true.mp hd 42 (by decide)
    simpa using this
  have h41 : S.contains (ky 41 f) = false := h41'
  have h42 : S.contains (ky 42 f) = false := h42'
  obtain ⟨a1, a2, a3⟩ := h f hf
  exact ⟨fun k hk => (l _ (by omega)).trans (a1 k hk), (c.I 41 f h41).trans a2, (c.J 42 f h42).trans a3⟩
theorem iv_live {A : sA} {Q : sQ} {v : Nat → Nat} {M : dM} (h : IV A Q v M) (wc : wC1 A Q M) {s : Nat} (hs : s < 10000) : ∃ M', f_wo_live (nI s) M = some M' ∧ rcX (uX A Q s) M' ∧ IV A Q v M' ∧ wC1 A Q M' ∧ chS kLv M M' := by
  obtain ⟨w, rc, rm, wq, cw, mw, ca⟩ := h
  have hn := w.2.2.1.1
  obtain ⟨M', a1, a2, a3, ⟨a4, a4'⟩, a5, a6⟩ := c_live w rc ca.1 wq cw wc hs
  refine ⟨M', a1, a2, ⟨w, (srcA A).use rc a5 (by decide +kernel), (srmA A).use rm a5 (by decide +kernel), wq, (srcW Q v).use cw a5 (by decide), rmW_w mw a5 (by decide), a4, ?_⟩, a3, a5⟩
  rw [a5.I 0 10 rfl]
  rcases ca.2 with z | ⟨z1, z2, z3⟩ | ⟨z1, z2, z3, z4⟩
  · exact Or.inl z
  · exact Or.inr (Or.inl ⟨z1, a4' z2, rcJ_lo hn z3 a5 (by decide) a6⟩)
  · exact Or.inr (Or.inr ⟨z1, a4' z2, rcJ_lo hn z3 a5 (by decide) a6, (srcY A Q v).use z4 a5 (by decide)⟩)
theorem iv_runs {A : sA} {Q : sQ} {v : Nat → Nat} {M : dM} (h : IV A Q v M) {s : Nat} (hs : s < 10000) : ∃ M', f_mo_runs (nI s) M = some M' ∧ rmX (uX A Q s) M' ∧ IV A Q v M' ∧ chS kRm M M' := by
  obtain ⟨M', a1, a2, a3⟩ := m_runs h.1 h.2.2.1 h.2.2.2.1 h.2.2.2.2.2.1 hs
  exact ⟨M', a1, a2, iv_keep h a3 (by decide +kernel), a3⟩
def kWo1 : List Nat := 7600 :: (kLv ++ kRm)
theorem swC1 (A : sA) (Q : sQ) : supp [6608, 6610, 6613, 6614, 60, 61, 62, 63, 64] (wC1 A Q) := by
  intro M M' e hw h
  rcases h with h | ⟨s, h1, h2, h3⟩
  · exact Or.inl ((e 56 14 rfl).1.trans h)
  · refine Or.inr ⟨s, h1, (e 56 14 rfl).1.trans h2, ?_⟩
    refine ⟨⟨(e 56 8 rfl).2.trans h3.1.1, fun k hk => ⟨(e 61 k rfl).1.trans (h3.1.2 k hk).1, fun j hj => (e 60 _ rfl).1.trans ((h3.1.2 k hk).2 j hj)⟩⟩, (e 56 10 rfl).1.trans h3.2.1, (e 56 13 rfl).1.trans h3.2.2.1, fun k hk => (e 62 k rfl).1.trans (h3.2.2.2.1 k hk), fun j hj => (e 63 j rfl).1.trans (h3.2.2.2.2.1 j hj), fun b hb => (e 64 b rfl).1.trans (h3.2.2.2.2.2 b hb)⟩
/-- both sides have run the world -/
theorem iv_both {A : sA} {Q : sQ} {v : Nat → Nat} {M : dM} (h : IV A Q v M) (wc : wC1 A Q M) {s : Nat} (hs : s < 10000) : ∃ M1 M2, f_wo_live (nI s) M = some M1 ∧ f_mo_runs (nI s) (sI M1 66 0 0) = some M2 ∧ rcX (uX A Q s) M1 ∧ rmX (uX A Q s) M2 ∧ wfX A (uX A Q s) ∧ (uX A Q s).2.1 ≤ 1920 ∧ IV A Q v M2 ∧ wC1 A Q M2 ∧ chS kWo1 M M2 := by
  obtain ⟨M1, a1, a2, a3, a4, a5⟩ := iv_live h wc hs
  have i0 := iv_0 a3 0
  have c0 : chS [7600] M1 (sI M1 66 0 0) := chS_sI M1 66 0 0 rfl
  obtain ⟨M2, b1, b2, b3, b4⟩ := iv_runs i0 hs
  have c2 : chS (7600 :: kRm) M1 M2 := (c0.mono (by decide)).trans (b4.mono (by decide))
  exact ⟨M1, M2, a1, b1, a2, b2, runL_wf h.1 (by omega) _ (Nat.le_refl _), uX_n h.1 Q s, b3, (swC1 A Q).use a4 c2 (by decide), (a5.mono (by decide)).trans (c2.mono (by decide))⟩
theorem z_lit5 : ∀ k, k < 5 → f_mo_within (nI k) 0 4 = true := by decide
theorem op_world {A : sA} {Q : sQ} {v : Nat → Nat} {M : dM} (h : IV A Q v M) (wc : wC1 A Q M) (x y : Int32) : opV kWo1 A Q v M (fun b M2 => (∃ M1, f_ax_world x y M = some (b, M1) ∧ f_mo_world x y M1 = some (b, M2)) ∧ wC1 A Q M2) := by
  have wc0 : wC1 A Q (sI M 66 0 0) := (swC1 A Q).use wc (chS_sI (S := [7600]) M 66 0 0 rfl) (by decide)
  have exx : f_mo_within x 0 9999 = f_ax_within x 10000 := z_mw0 x (n := 9999) (by decide)
  have eyy : f_mo_within y 0 4 = f_ax_within y 5 := z_mw0 y (n := 4) (by decide)
  rcases z_range x 10000 (by decide) with zx | ⟨s, hs, rfl⟩
  · have zx' : f_ax_within x 10000 = false := zx
    refine opV_no rfl h (x := 0) (b := -1) ⟨⟨M, ?_, ?_⟩, wc0⟩
    · unfold f_ax_world
      rw [if_neg (by rw [zx']; exact Bool.false_ne_true)]
    · unfold f_mo_world
      rw [exx, if_neg (by rw [zx']; exact Bool.false_ne_true)]
  have tx : f_ax_within (nI s) 10000 = true := by rw [show (10000 : Int32) = nI 10000 from rfl, z_within (by omega) (by omega)]; simp [hs]
  rcases z_range y 5 (by decide) with zy | ⟨q, hq, rfl⟩
  · have zy' : f_ax_within y 5 = false := zy
    refine opV_no rfl h (x := 0) (b := -1) ⟨⟨M, ?_, ?_⟩, wc0⟩
    · unfold f_ax_world
      rw [if_pos tx, if_neg (by rw [zy']; exact Bool.false_ne_true)]
    · unfold f_mo_world
      rw [exx, eyy, if_pos tx, if_neg (by rw [zy']; exact Bool.false_ne_true)]
  have ty : f_ax_within (nI q) 5 = true := by rw [show (5 : Int32) = nI 5 from rfl, z_within (by omega) (by omega)]; simp [hq]
  obtain ⟨M1, M2, a1, b1, r1, r2, wf, hn, i2, wc2, c2⟩ := iv_both h wc hs
  have hax : f_ax_world (nI s) (nI q) M = if nI q = 0 then some (gI M1 63 0, M1) else if nI q = 1 then some (gI M1 63 3, M1) else if nI q = 2 then (f_wo_leftOver M1).bind fun v3 => some (v3, M1) else if nI q = 3 then (f_wo_luckiest M1).bind fun v5 => some (v5, M1) else some (gI M1 56 13, M1) := by
    unfold f_ax_world
    rw [if_pos tx, if_pos ty, a1, Option.bind_some]
  have hmo : f_mo_world (nI s) (nI q) M1 = if nI q = 3 then (f_mo_mostFound M2).bind fun v12 => some (v12, M2) else (l_mo_world_53 (nI q) 0 (-1) 0 0 M2).bind fun t5 => (l_mo_world_115 (nI q) t5.1 t5.2 0 0 M2).bind fun t9 => if nI q = 0 then some (t5.1, M2) else if nI q = 1 then some ((gI M2 66 88) - t5.1, M2) else if nI q = 2 then some (t9, M2) else some (t5.2, M2) := by
    unfold f_mo_world
    rw [exx, eyy, if_pos tx, if_pos ty, b1, Option.bind_some]
  generalize uX A Q s = X at r1 r2 wf hn
  obtain ⟨V, n, T⟩ := X
  have e0 := ty_0 T n
  have e3 := ty_3 T n wf.2
  have hle := layN0_le T n
  have g0 : gI M1 63 0 = nI (layN0 T n) := (r1.2.2.2.2.1 0 (by decide)).trans e0
  have g3 : gI M1 63 3 = nI (n - layN0 T n) := (r1.2.2.2.2.1 3 (by decide)).trans e3
  have lf := c_leftOver r1.1
  have lk := c_luck hn r1.2
  have mk := m_luck wf.2 hn r2.2
  have m53 := m_53 (nI q) wf.2 hn r2.2
  have m115 := m_left115 (nI q) (nI (layN0 T n)) (ageI (gmT T n)) r2.1
  have g13 : gI M1 56 13 = ageI (gmT T n) := r1.2.2.1
  have g88 : gI M2 66 88 = nI n := r2.2.1
  have yes : ∀ b : Int32, f_ax_world (nI s) (nI q) M = some (b, M1) → f_mo_world (nI s) (nI q) M1 = some (b, M2) → opV kWo1 A Q v M (fun b M2 => (∃ M1, f_ax_world (nI s) (nI q) M = some (b, M1) ∧ f_mo_world (nI s) (nI q) M1 = some (b, M2)) ∧ wC1 A Q M2) := fun b h1 h2 =>
    ⟨b, M2, ⟨⟨M1, h1, h2⟩, wc2⟩, i2, c2⟩
  have m2' : ∀ k : Int32, ((l_mo_world_53 (nI q) 0 (-1) 0 0 M2).bind fun t5 => (l_mo_world_115 (nI q) t5.1 t5.2 0 0 M2).bind fun t9 => if nI q = 0 then some (t5.1, M2) else if nI q = 1 then some ((gI M2 66 88) - t5.1, M2) else if nI q = 2 then some (t9, M2) else some (t5.2, M2)) = if nI q = 0 then some (nI (layN0 T n), M2) else if nI q = 1 then some (nI (n - layN0 T n), M2) else if nI q = 2 then some (nI (sumW V 8), M2) else some (ageI (gmT T n), M2) := fun _ => by
    rw [m53, Option.bind_some]
    show ((l_mo_world_115 (nI q) (nI (layN0 T n)) (ageI (gmT T n)) 0 0 M2).bind _) = _
    rw [m115, Option.bind_some, g88, z_sub hle]
  have d : q = 0 ∨ q = 1 ∨ q = 2 ∨ q = 3 ∨ q = 4 := by omega
  have p00 : nI 0 = (0 : Int32) := rfl
  have p11 : nI 1 = (1 : Int32) := rfl
  have p22 : nI 2 = (2 : Int32) := rfl
  have p33 : nI 3 = (3 : Int32) := rfl
  have n10 : ¬ nI 1 = (0 : Int32) := by decide
  have n20 : ¬ nI 2 = (0 : Int32) := by decide
  have n21 : ¬ nI 2 = (1 : Int32) := by decide
  have n30 : ¬ nI 3 = (0 : Int32) := by decide
  have n31 : ¬ nI 3 = (1 : Int32) := by decide
  have n32 : ¬ nI 3 = (2 : Int32) := by decide
  have n40 : ¬ nI 4 = (0 : Int32) := by decide
  have n41 : ¬ nI 4 = (1 : Int32) := by decide
  have n42 : ¬ nI 4 = (2 : Int32) := by decide
  have n43 : ¬ nI 4 = (3 : Int32) := by decide
  have n03 : ¬ nI 0 = (3 : Int32) := by decide
  have n13 : ¬ nI 1 = (3 : Int32) := by decide
  have n23 : ¬ nI 2 = (3 : Int32) := by decide
  rcases d with rfl | rfl | rfl | rfl | rfl
  · exact yes (nI (layN0 T n)) (by rw [hax, if_pos p00, g0]) (by rw [hmo, if_neg n03, m2' 0, if_pos p00])
  · exact yes (nI (n - layN0 T n)) (by rw [hax, if_neg n10, if_pos p11, g3]) (by rw [hmo, if_neg n13, m2' 0, if_neg n10, if_pos p11])
  · exact yes (nI (sumW V 8)) (by rw [hax, if_neg n20, if_neg n21, if_pos p22, lf]; rfl) (by rw [hmo, if_neg n23, m2' 0, if_neg n20, if_neg n21, if_pos p22])
  · exact yes (luF T n 10).1 (by rw [hax, if_neg n30, if_neg n31, if_neg n32, if_pos p33, lk]; rfl) (by rw [hmo, if_pos p33, mk]; rfl)
  · exact yes (ageI (gmT T n)) (by rw [hax, if_neg n40, if_neg n41, if_neg n42, if_neg n43, g13]) (by rw [hmo, if_neg n43, m2' 0, if_neg n40, if_neg n41, if_neg n42])
