/-! ===== the reference's facts of a day, all ===== -/
noncomputable def rfc (A : sA) (Q : sQ) (v : Nat → Nat) (m y k : Nat) : Nat := if k = 5 then mxR A m y else dfc A Q v 0 y k
/-- the cells after the finds below y -/
def riD (A : sA) (Q : sQ) (v : Nat → Nat) (d m y : Nat) (M : dM) : Prop := gI M 100 1 = nI d ∧ gI M 100 8 = 0 ∧ ∀ k, 1 ≤ k → k < 7 → gI M 100 (1 + k) = nI (rfc A Q v m y k)
/-- what is laid before: verdicts and hours alone -/
def rgE (A : sA) (Q : sQ) (v : Nat → Nat) (M : dM) : Prop := rmA A M ∧ rmW Q v M ∧ ∀ f, f < A 66 9 → gI M 104 f = nI (eaF A Q (v 3) f) ∧ gI M 114 f = nI (fc A (v 3) f 14)
theorem rgE_k {A : sA} {Q : sQ} {v : Nat → Nat} {M M' : dM} (h : rgE A Q v M) (c : chS [100, 91, 92, 93, 94, 95, 96, 97, 98, 99] M M') : rgE A Q v M' := ⟨(srmA A).use h.1 c (by decide +kernel), rmW_w h.2.1 c (by decide), fun f hf => ⟨(c.I 104 f rfl).trans (h.2.2 f hf).1, (c.I 114 f rfl).trans (h.2.2 f hf).2⟩⟩
theorem ct_s (p : Nat → Prop) [DecidablePred p] (f : Nat) : fb_ct (fun f => decide (p f)) (f + 1) = fb_ct (fun f => decide (p f)) f + (if p f then 1 else 0) := by
  rw [fb_ct_succ]
  by_cases z : p f
  · rw [if_pos (decide_eq_true z), if_pos z]
  · rw [if_neg (by rw [decide_eq_false z]; exact Bool.false_ne_true), if_neg z]
theorem m_30s {A : sA} {Q : sQ} {v : Nat → Nat} {M : dM} {d m x : Nat} (w : wfA A) (wq : wQ Q v) (hd : d < 1000) (hp : pfx A d m) (hx : x < m) (g : rgE A Q v M) (h : riD A Q v d m x M) : ∃ M', b_mo_laysDay_30_30 (nI d) (nI x) M = some (.inl (nI (x + 1), M')) ∧ riD A Q v d m (x + 1) M' ∧ chS [100] M M' := by
  have hn := w.2.2.1.1
  have hm := hp.1
  have hxn : x < A 66 9 := by omega
  have q3 := (w.2.2.1.2.1 x hxn).2.2.1
  have q4 := (w.2.2.1.2.1 x hxn).2.2.2.1
  have f14 := fc14 A (v 3) x
  have hj : eaF A Q (v 3) x < 3 := jdg_lt Q _
  have e76 : gI M 76 x = nI (A 76 x) := (g.1.2.2.1.2 x hxn).2.2.1
  have hc : A 76 x ≤ d := (hp.2 x hxn).mpr hx
  have hb2 := h.2.2 1 (by decide) (by decide)
  have hb3 := h.2.2 2 (by decide) (by decide)
  have hb4 := h.2.2 3 (by decide) (by decide)
  have hb5 := h.2.2 4 (by decide) (by decide)
  have hb6 := h.2.2 5 (by decide) (by decide)
  have hb7 := h.2.2 6 (by decide) (by decide)
  obtain ⟨M1, a1, a2, a3⟩ := m_56 (T := twS A (v 3) x) w wq.2.2.2.2.2.2.1 hd hp hx (A 66 9) 0 M (Nat.zero_add _) g.1 g.2.1.1.2 (by rw [Nat.zero_min]; exact hb5)
  have a1' : l_mo_laysDay_56 (nI d) (nI x) 0 0 M = some (nI (hbF A (A 78 x) m), M1) := by
    rw [← a1, Nat.zero_min]; rfl
  have ea : nI x + 1 = nI (x + 1) := z_add x 1
  have ecl : (nI x).toNatClampNeg = x := z_cl (by omega)
  have k104 : ∀ N : dM, chS [100] M N → gI N 104 x = nI (eaF A Q (v 3) x) ∧ gI N 114 x = nI (fc A (v 3) x 14) := fun N c => ⟨(c.I 104 x rfl).trans (g.2.2 x hxn).1, (c.I 114 x rfl).trans (g.2.2 x hxn).2⟩
  have v2 : gI M1 100 2 + 1 = nI (rfc A Q v m (x + 1) 1) := by
    rw [a3.2 2 (by decide), show gI M 100 2 = nI (rfc A Q v m x 1) from hb2]
    exact z_add _ 1
  have e3 : rfc A Q v m (x + 1) 2 = rfc A Q v m x 2 + (if eaF A Q (v 3) x = 2 then 1 else 0) := ct_s (fun f => eaF A Q (v 3) f = 2) x
  have e4 : rfc A Q v m (x + 1) 3 = rfc A Q v m x 3 + (if eaF A Q (v 3) x = 1 then 1 else 0) := ct_s (fun f => eaF A Q (v 3) f = 1) x
  have e7 : rfc A Q v m (x + 1) 6 = rfc A Q v m x 6 + (if 0 < fc A (v 3) x 14 then 1 else 0) := ct_s (fun f => 0 < fc A (v 3) f 14) x
  have l6 : hbF A (A 78 x) m ≤ m := fb_ct_le _ _
  have r6 : mxR A m x ≤ m := mxR_ub A m m (fun f _ => fb_ct_le _ _) x (by omega)
  generalize hN2 : sI M1 100 2 (nI (rfc A Q v m (x + 1) 1)) = N2
  have k2 : chS [100] M N2 := by rw [← hN2]; exact a3.1.sI 100 2 _ rfl
  have n2 : ∀ k, k ≠ 2 → k ≠ 5 → gI N2 100 k = gI M 100 k := fun k h1 h2 => by rw [← hN2, gI_sI, if_neg (by omega)]; exact a3.2 k h2
  generalize hN3 : sI N2 100 3 (nI (rfc A Q v m (x + 1) 2)) = N3
  have k3 : chS [100] M N3 := by rw [← hN3]; exact k2.sI 100 3 _ rfl
  generalize hN4 : sI N3 100 4 (nI (rfc A Q v m (x + 1) 3)) = N4
  have k4 : chS [100] M N4 := by rw [← hN4]; exact k3.sI 100 4 _ rfl
  generalize hN6 : sI N4 100 6 (nI (rfc A Q v m (x + 1) 5)) = N6
  have k6 : chS [100] M N6 := by rw [← hN6]; exact k4.sI 100 6 _ rfl
  generalize hN7 : sI N6 100 7 (nI (rfc A Q v m (x + 1) 6)) = N7
  have k7 : chS [100] M N7 := by rw [← hN7]; exact k6.sI 100 7 _ rfl
  have c248 : b_mo_laysDay_30_225 (nI d) (nI x) 6 (nI (rfc A Q v m (x + 1) 5)) N4 = some (.inl (nI (x + 1), N7)) := by
    unfold b_mo_laysDay_30_225 b_mo_laysDay_30_248
    have c6 : (6 : Int32).toNatClampNeg = 6 := rfl
    have c7 : (7 : Int32).toNatClampNeg = 7 := rfl
    have g7 : gI N6 100 7 = nI (rfc A Q v m x 6) := by
      rw [← hN6, gI_sI, if_neg (by omega), ← hN4, gI_sI, if_neg (by omega), ← hN3, gI_sI, if_neg (by omega), n2 7 (by decide) (by decide)]
      exact hb7
    rw [z_gd (show (vp_in (6 : Int32) 20) = True from z_in (n := 6) (by omega) (by omega)), z_gd (z_in (n := x) (by omega) (by omega)), c6, hN6, ecl, (k104 N6 k6).2, g7, c7]
    by_cases z : 0 < fc A (v 3) x 14
    · rw [if_neg (show ¬ nI (fc A (v 3) x 14) ≤ (0 : Int32) from z_nle (b := 0) (by omega) (by decide) z), z_gd (show (vp_in (7 : Int32) 20) = True from z_in (n := 7) (by omega) (by omega)), ea, show nI (rfc A Q v m x 6) + 1 = nI (rfc A Q v m (x + 1) 6) from by rw [e7, if_pos z]; exact z_add _ 1, hN7]
    · rw [if_pos (show nI (fc A (v 3) x 14) ≤ (0 : Int32) from z_yle (b := 0) (by omega) (by decide) (by omega)), z_gd (show (vp_in (7 : Int32) 20) = True from z_in (n := 7) (by omega) (by omega)), ea, show nI (rfc A Q v m x 6) + 0 = nI (rfc A Q v m (x + 1) 6) from by rw [e7, if_neg z]; exact z_add _ 0, hN7]
  have c195 : ∀ y : Nat, rfc A Q v m x 3 + y = rfc A Q v m (x + 1) 3 → b_mo_laysDay_30_195 (nI d) (nI x) (nI (hbF A (A 78 x) m)) 4 (gI N3 100 4) (nI y) N3 = some (.inl (nI (x + 1), N7)) := fun y hy => by
    unfold b_mo_laysDay_30_195
    have c4 : (4 : Int32).toNatClampNeg = 4 := rfl
    have g4 : gI N3 100 4 = nI (rfc A Q v m x 3) := by
      rw [← hN3, gI_sI, if_neg (by omega), n2 4 (by decide) (by decide)]
      exact hb4
    rw [z_gd (show (vp_in (4 : Int32) 20) = True from z_in (n := 4) (by omega) (by omega)), c4, g4, z_add, hy, hN4]
    have g6 : gI N4 100 6 = nI (mxR A m x) := by
      rw [← hN4, gI_sI, if_neg (by omega), ← hN3, gI_sI, if_neg (by omega), n2 6 (by decide) (by decide)]
      exact hb6
    have e6 : rfc A Q v m (x + 1) 5 = if hbF A (A 78 x) m ≤ mxR A m x then mxR A m x else hbF A (A 78 x) m := rfl
    rw [g6]
    by_cases z : hbF A (A 78 x) m ≤ mxR A m x
    · rw [if_pos (z_yle (by omega) (by omega) z)]
      rw [e6, if_pos z] at c248
      exact c248
    · rw [if_neg (z_nle (by omega) (by omega) (by omega))]
      rw [e6, if_neg z] at c248
      exact c248
  have c171 : ∀ y : Nat, rfc A Q v m x 2 + y = rfc A Q v m (x + 1) 2 → b_mo_laysDay_30_171 (nI d) (nI x) (nI (hbF A (A 78 x) m)) 3 (gI N2 100 3) (nI y) N2 = some (.inl (nI (x + 1), N7)) := fun y hy => by
    unfold b_mo_laysDay_30_171
    have c3 : (3 : Int32).toNatClampNeg = 3 := rfl
    have g3 : gI N2 100 3 = nI (rfc A Q v m x 2) := by
      rw [n2 3 (by decide) (by decide)]
      exact hb3
    rw [z_gd (show (vp_in (3 : Int32) 20) = True from z_in (n := 3) (by omega) (by omega)), z_gd (z_in (n := x) (by omega) (by omega)), c3, g3, z_add, hy, hN3, ecl, (k104 N3 k3).1]
    by_cases z : eaF A Q (v 3) x = 1
    · rw [if_pos (show nI _ = (1 : Int32) from by rw [z]; rfl)]
      exact c195 1 (by rw [e4, if_pos z])
    · rw [if_neg (show ¬ nI _ = (1 : Int32) from z_ne (b := 1) (by omega) (by decide) z)]
      exact c195 0 (by rw [e4, if_neg z])
  refine ⟨N7, ?_, ⟨?_, ?_, fun k h1 h7 => ?_⟩, k7⟩
  · unfold b_mo_laysDay_30_30
    rw [g.1.2.2.1.1, if_neg (z_nle (by omega) (by omega) hxn), z_gd (z_in (n := x) (by omega) (by omega)), ecl, e76, if_pos (z_yle (by omega) (by omega) hc), a1', Option.bind_some]
    show (if gI (sI M1 100 2 (gI M1 100 2 + 1)) 104 x = 2 then b_mo_laysDay_30_171 (nI d) (nI x) (nI (hbF A (A 78 x) m)) 3 (gI (sI M1 100 2 (gI M1 100 2 + 1)) 100 3) 1 (sI M1 100 2 (gI M1 100 2 + 1)) else b_mo_laysDay_30_171 (nI d) (nI x) (nI (hbF A (A 78 x) m)) 3 (gI (sI M1 100 2 (gI M1 100 2 + 1)) 100 3) 0 (sI M1 100 2 (gI M1 100 2 + 1))) = _
    rw [v2, hN2, (k104 N2 k2).1]
    by_cases z : eaF A Q (v 3) x = 2
    · rw [if_pos (show nI _ = (2 : Int32) from by rw [z]; rfl)]
      exact c171 1 (by rw [e3, if_pos z])
    · rw [if_neg (show ¬ nI _ = (2 : Int32) from z_ne (b := 2) (by omega) (by decide) z)]
      exact c171 0 (by rw [e3, if_neg z])
  · rw [← hN7, gI_sI, if_neg (by omega), ← hN6, gI_sI, if_neg (by omega), ← hN4, gI_sI, if_neg (by omega), ← hN3, gI_sI, if_neg (by omega), n2 1 (by decide) (by decide)]
    exact h.1
  · rw [← hN7, gI_sI, if_neg (by omega), ← hN6, gI_sI, if_neg (by omega), ← hN4, gI_sI, if_neg (by omega), ← hN3, gI_sI, if_neg (by omega), n2 8 (by decide) (by decide)]
    exact h.2.1
  · have hk : k = 1 ∨ k = 2 ∨ k = 3 ∨ k = 4 ∨ k = 5 ∨ k = 6 := by omega
    rcases hk with rfl | rfl | rfl | rfl | rfl | rfl
    · rw [← hN7, gI_sI, if_neg (by omega), ← hN6, gI_sI, if_neg (by omega), ← hN4, gI_sI, if_neg (by omega), ← hN3, gI_sI, if_neg (by omega), ← hN2, gI_sI, if_pos ⟨rfl, rfl⟩]
    · rw [← hN7, gI_sI, if_neg (by omega), ← hN6, gI_sI, if_neg (by omega), ← hN4, gI_sI, if_neg (by omega), ← hN3, gI_sI, if_pos ⟨rfl, rfl⟩]
    · rw [← hN7, gI_sI, if_neg (by omega), ← hN6, gI_sI, if_neg (by omega), ← hN4, gI_sI, if_pos ⟨rfl, rfl⟩]
    · rw [← hN7, gI_sI, if_neg (by omega), ← hN6, gI_sI, if_neg (by omega), ← hN4, gI_sI, if_neg (by omega), ← hN3, gI_sI, if_neg (by omega), ← hN2, gI_sI, if_neg (by omega)]
      exact a2
    · rw [← hN7, gI_sI, if_neg (by omega), ← hN6, gI_sI, if_pos ⟨rfl, rfl⟩]
    · rw [← hN7, gI_sI, if_pos ⟨rfl, rfl⟩]
theorem m_30 {A : sA} {Q : sQ} {v : Nat → Nat} {d m : Nat} (w : wfA A) (wq : wQ Q v) (hd : d < 1000) (hp : pfx A d m) : ∀ (n x : Nat) (M : dM), x + n = A 66 9 → rgE A Q v M → riD A Q v d m (min x m) M → ∃ M', l_mo_laysDay_30 (nI d) (nI x) M = some M' ∧ riD A Q v d m m M' ∧ chS [100] M M' := by
  have hn := w.2.2.1.1
  have hm := hp.1
  intro n
  induction n with
  | zero =>
    intro x M hx g h
    have e : x = A 66 9 := by omega
    subst e
    rw [Nat.min_eq_right hm] at h
    refine ⟨M, ?_, h, chS.refl _ _⟩
    unfold l_mo_laysDay_30
    refine lpc_out ?_
    show b_mo_laysDay_30_30 (nI d) (nI (A 66 9)) M = _
    unfold b_mo_laysDay_30_30
    rw [g.1.2.2.1.1, if_pos (z_yle (by omega) (by omega) (Nat.le_refl _))]
  | succ n ih =>
    intro x M hx g h
    have hxn : x < A 66 9 := by omega
    have step : ∃ M1, b_mo_laysDay_30_30 (nI d) (nI x) M = some (.inl (nI (x + 1), M1)) ∧ riD A Q v d m (min (x + 1) m) M1 ∧ chS [100] M M1 := by
      by_cases c : x < m
      · rw [Nat.min_eq_left (by omega)] at h
        rw [Nat.min_eq_left (by omega)]
        exact m_30s w wq hd hp c g h
      · rw [Nat.min_eq_right (by omega)] at h
        rw [Nat.min_eq_right (by omega)]
        have q3 := (w.2.2.1.2.1 x hxn).2.2.1
        have e76 : gI M 76 x = nI (A 76 x) := (g.1.2.2.1.2 x hxn).2.2.1
        have c' : ¬ A 76 x ≤ d := fun z => c ((hp.2 x hxn).mp z)
        refine ⟨M, ?_, h, chS.refl _ _⟩
        unfold b_mo_laysDay_30_30
        rw [g.1.2.2.1.1, if_neg (z_nle (by omega) (by omega) hxn), z_gd (z_in (n := x) (by omega) (by omega)), z_cl (n := x) (by omega), e76, if_neg (z_nle (by omega) (by omega) (by omega)), show nI x + 1 = nI (x + 1) from z_add x 1]
    obtain ⟨M1, a1, a2, a3⟩ := step
    obtain ⟨M2, b1, b2, b3⟩ := ih (x + 1) M1 (by omega) (rgE_k g (a3.mono (by decide))) a2
    refine ⟨M2, ?_, b2, a3.trans b3⟩
    unfold l_mo_laysDay_30 at b1 ⊢
    exact lpc_step (s' := (nI (x + 1), M1)) a1 b1
