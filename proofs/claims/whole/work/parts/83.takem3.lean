/-! ===== worlds: the reference takes a thing, put together ===== -/
def rmX (X : wX) (M : dM) : Prop := rmV X.1 M ∧ rmU X.2.2 X.2.1 M
def kTm : List Nat := 7685 :: kUm
theorem rmU_ch {T : thT} {n : Nat} {S : List Nat} {M M' : dM} (h : rmU T n M) (c : chS S M M') (hd : disj [7688, 122, 123, 124, 125, 126, 127, 128] S = true) : rmU T n M' := by
  refine supp.use (T := [7688, 122, 123, 124, 125, 126, 127, 128]) (R := rmU T n) (fun M M' e _ h => ⟨(e 66 88 rfl).1.trans h.1, fun k hk => ?_⟩) h c hd
  rw [(e 122 k rfl).1, (e 123 k rfl).1, (e 124 k rfl).1, (e 125 k rfl).1, (e 126 k rfl).1, (e 127 k rfl).1, (e 128 k rfl).1]
  exact h.2 k hk
theorem rmV_ch {V : wV} {S : List Nat} {M M' : dM} (h : rmV V M) (c : chS S M M') (hd : disj [7685, 120, 121] S = true) : rmV V M' := by
  refine supp.use (T := [7685, 120, 121]) (R := rmV V) (fun M M' e _ h => ⟨(e 66 85 rfl).2.trans h.1, fun k hk => ⟨(e 121 k rfl).1.trans (h.2 k hk).1, fun j hj => (e 120 _ rfl).1.trans ((h.2 k hk).2 j hj)⟩⟩) h c hd
theorem rcV_ch {V : wV} {S : List Nat} {M M' : dM} (h : rcV V M) (c : chS S M M') (hd : disj [6608, 60, 61] S = true) : rcV V M' := by
  refine supp.use (T := [6608, 60, 61]) (R := rcV V) (fun M M' e _ h => ⟨(e 56 8 rfl).2.trans h.1, fun k hk => ⟨(e 61 k rfl).1.trans (h.2 k hk).1, fun j hj => (e 60 _ rfl).1.trans ((h.2 k hk).2 j hj)⟩⟩) h c hd
theorem rcU_ch {T : thT} {n : Nat} {S : List Nat} {M M' : dM} (h : rcU T n M) (c : chS S M M') (hd : disj [6610, 6613, 62, 63, 64] S = true) : rcU T n M' := by
  refine supp.use (T := [6610, 6613, 62, 63, 64]) (R := rcU T n) (fun M M' e _ h => ⟨(e 56 10 rfl).1.trans h.1, (e 56 13 rfl).1.trans h.2.1, fun k hk => (e 62 k rfl).1.trans (h.2.2.1 k hk), fun j hj => (e 63 j rfl).1.trans (h.2.2.2.1 j hj), fun b hb => (e 64 b rfl).1.trans (h.2.2.2.2 b hb)⟩) h c hd
/-- the reference's values of the thing, from its marks on -/
theorem m_t304 {A : sA} {Q : sQ} {v : Nat → Nat} {T : thT} {M5 : dM} {e : Nat → Nat} {n i h fi : Nat} (w : wfA A) (wq : wQ Q v) (mw : rmW Q v M5) (he : wfE1 e) (hi : i < A 66 3) (hh : h < 24) (h1 : A 72 i ≤ h) (h2 : h ≤ A 73 i) (hb : e 3 = A 69 i) (hn : n < 1920) (hr : rmU T n M5) (h67 : gI M5 67 (10 * A 70 i + e 2) = nI (e 6 - 1)) (hag : e 6 = A 67 (10 * A 70 i + e 2)) (hm : ∀ j, j < 8 → gI M5 100 (1 + j) = nI (e 1 / 2 ^ j % 2)) (h5 : jdg Q (gwF A i h (e 2) (e 1) (e 4) fi) = e 5) : ∃ M', t_mo_takes_304 (nI (e 2)) (nI (e 0)) (nI (A 70 i)) (nI (A 69 i)) (nI (pre A (A 70 i) (A 71 i) h)) (nI (e 1)) (nI (e 4)) (nI (fb_ct (fun x => alb A (A 70 i) (A 71 i) (A 69 i) x) h)) 13 (nI fi) (sI (sI (sI (sI M5 100 9 (nI (e 6 - 1))) 100 10 (nI (e 2))) 100 11 (nI h)) 100 12 (nI (e 4))) = some M' ∧ rmU (adT e n T) (n + 1) M' ∧ chS kUm M5 M' := by
  have hL := w.1.1
  obtain ⟨p1, p2, p3, p4, p5⟩ := w.1.2 i hi
  have hp := pre_lt w.1 (A 70 i) (A 71 i) h
  have hq : 2 ^ A 69 i < 2 ^ 10 := Nat.pow_lt_pow_right (by decide) p1
  have c6 : chS [100] M5 (sI (sI (sI (sI (sI M5 100 9 (nI (e 6 - 1))) 100 10 (nI (e 2))) 100 11 (nI h)) 100 12 (nI (e 4))) 100 13 (nI fi)) := (((((chS.refl _ M5).sI 100 _ _ rfl).sI 100 _ _ rfl).sI 100 _ _ rfl).sI 100 _ _ rfl).sI 100 _ _ rfl
  have g6 : ∀ j, gI (sI (sI (sI (sI (sI M5 100 9 (nI (e 6 - 1))) 100 10 (nI (e 2))) 100 11 (nI h)) 100 12 (nI (e 4))) 100 13 (nI fi)) 100 j = if j = 13 then nI fi else if j = 12 then nI (e 4) else if j = 11 then nI h else if j = 10 then nI (e 2) else if j = 9 then nI (e 6 - 1) else gI M5 100 j := fun j => by
    rw [gI_sI, gI_sI, gI_sI, gI_sI, gI_sI]
    simp only [true_and]
  have hpc : 1 ≤ pc (pre A (A 70 i) (A 71 i) h) 12 := by
    have hb1 := pre_has hi h1 h2
    have : pc (pre A (A 70 i) (A 71 i) h) 12 ≠ 0 := fun z => by
      have := fb_ct_zero.mp z (A 69 i) (by omega)
      rw [this] at hb1
      cases hb1
    omega
  have e16 : nI (pc (pre A (A 70 i) (A 71 i) h) 12) - 1 = nI (pc (pre A (A 70 i) (A 71 i) h) 12 - 1) := z_sub (b := 1) hpc
  unfold t_mo_takes_304
  rw [z_gd (show vp_in (13 : Int32) 20 = True from z_in (n := 13) (by omega) (by omega)), show (13 : Int32).toNatClampNeg = 13 from rfl, z_1shl (by omega)]
  have g6h := g6
  generalize hM6 : sI (sI (sI (sI (sI M5 100 9 (nI (e 6 - 1))) 100 10 (nI (e 2))) 100 11 (nI h)) 100 12 (nI (e 4))) 100 13 (nI fi) = M6 at c6 g6
  have mw6 : rmW Q v M6 := rmW_w mw c6 (by decide)
  have r6 : rmU T n M6 := rmU_ch hr c6 (by decide)
  have h67' : gI M6 67 (10 * A 70 i + e 2) = nI (e 6 - 1) := (c6.I 67 _ rfl).trans h67
  have go : ∀ y : Nat, y = (if alb A (A 70 i) (A 71 i) (A 69 i) h = true then 1 else 0) → ∃ M', t_mo_takes_325 (nI (e 2)) (nI (e 0)) (nI (A 70 i)) (nI (A 69 i)) (nI (pre A (A 70 i) (A 71 i) h)) (nI (e 1)) (nI (e 4)) (nI (fb_ct (fun x => alb A (A 70 i) (A 71 i) (A 69 i) x) h)) 14 (nI y) M6 = some M' ∧ rmU (adT e n T) (n + 1) M' ∧ chS kUm M5 M' := fun y hy => by
    have g4 : ∀ j, gI (sI (sI (sI (sI M6 100 14 (nI y)) 100 15 (nI (fb_ct (fun x => alb A (A 70 i) (A 71 i) (A 69 i) x) h))) 100 16 (nI (pc (pre A (A 70 i) (A 71 i) h) 12) - 1)) 100 17 0) 100 j = if j = 17 then 0 else if j = 16 then nI (pc (pre A (A 70 i) (A 71 i) h) 12) - 1 else if j = 15 then nI (fb_ct (fun x => alb A (A 70 i) (A 71 i) (A 69 i) x) h) else if j = 14 then nI y else gI M6 100 j := fun j => by
      rw [gI_sI, gI_sI, gI_sI, gI_sI]
      simp only [true_and]
    generalize hN4 : sI (sI (sI (sI M6 100 14 (nI y)) 100 15 (nI (fb_ct (fun x => alb A (A 70 i) (A 71 i) (A 69 i) x) h))) 100 16 (nI (pc (pre A (A 70 i) (A 71 i) h) 12) - 1)) 100 17 0 = N4 at g4
    have row : ∀ k, k < 17 → vM N4 k = gwF A i h (e 2) (e 1) (e 4) fi k := fun k hk => by
      show gI N4 100 (1 + k) = _
      rw [g4]
      unfold gwF gfc
      by_cases k16 : k = 16
      · subst k16; rfl
      rw [if_neg (by omega)]
      by_cases k15 : k = 15
      · subst k15
        rw [if_pos rfl, e16]
        rfl
      rw [if_neg (by omega)]
      by_cases k14 : k = 14
      · subst k14; rfl
      rw [if_neg (by omega)]
      by_cases k13 : k = 13
      · subst k13
        rw [if_pos rfl, hy]
        rfl
      rw [if_neg (by omega), g6]
      by_cases k12 : k = 12
      · subst k12; rfl
      rw [if_neg (by omega)]
      by_cases k11 : k = 11
      · subst k11; rfl
      rw [if_neg (by omega)]
      by_cases k10 : k = 10
      · subst k10; rfl
      rw [if_neg (by omega)]
      by_cases k9 : k = 9
      · subst k9; rfl
      rw [if_neg (by omega)]
      by_cases k8 : k = 8
      · subst k8
        rw [if_pos rfl, hag]
        rfl
      rw [if_neg (by omega), if_pos (show k < 8 by omega)]
      exact hm k (by omega)
    obtain ⟨M', a1, a2, a3⟩ := m_t325 wq mw6 he p2 hb (by omega) hn r6 h67' hN4 row h5
    exact ⟨M', a1, a2, (c6.mono (by decide)).trans a3⟩
  by_cases c : pre A (A 70 i) (A 71 i) h = 2 ^ A 69 i
  · rw [if_pos (by rw [c])]
    exact go 1 (by rw [if_pos (show alb A (A 70 i) (A 71 i) (A 69 i) h = true from decide_eq_true c)])
  · rw [if_neg (z_ne (by omega) (by omega) c)]
    exact go 0 (by rw [if_neg (show ¬ alb A (A 70 i) (A 71 i) (A 69 i) h = true from by unfold alb; rw [decide_eq_true_iff]; exact c)])
theorem m_take {A : sA} {Q : sQ} {v : Nat → Nat} {X : wX} {M : dM} (w : wfA A) (rm : rmA A M) (wq : wQ Q v) (mw : rmW Q v M) (hX : wfX A X) (rx : rmX X M) {i h l p : Nat} (hi : i < A 66 3) (hh : h < 24) (h1 : A 72 i ≤ h) (h2 : h ≤ A 73 i) (hl : l < 10) (ht : A 67 (10 * A 70 i + l) ≠ 0) (hp : p < 2) (hn : X.2.1 < 1920) : ∃ M', f_mo_takes (nI i) (nI h) (nI l) (nI p) M = some M' ∧ rmX (tkX A Q i h l p X) M' ∧ chS kTm M M' := by
  obtain ⟨⟨s, V⟩, n, T⟩ := X
  obtain ⟨⟨hs, hV⟩, hU⟩ := hX
  obtain ⟨⟨r8, rV⟩, rU⟩ := rx
  have hn : n < 1920 := hn
  have hs : s < 2147483648 := hs
  have hU : wfU T n := hU
  have hL := w.1.1
  obtain ⟨p1, p2, p3, p4, p5⟩ := w.1.2 i hi
  have hag := (w.2.1.1 (10 * A 70 i + l) (by omega)).1
  have he := enT_wf (Q := Q) (h := h) (s := s) (g := gmT T n) w hi hl hp ht
  obtain ⟨M1, a1, a2, a3⟩ := m_marks (nI i) (nI h) (nI l) (nI (A 70 i)) (nI (A 69 i)) (nI (pre A (A 70 i) (A 71 i) h)) w.2.2.2.2.2.2.2.2 rm.2.2.2.2.2.2.2.2 hp hs r8
  have hd8 := dI_lt hs 8
  have k3 : chS [7685] M (sJ (sJ M1 66 85 (lN (drS (dI s 8)))) 66 85 (lN (drS (drS (dI s 8))))) := (a3.sJ 66 85 _ rfl).sJ 66 85 _ rfl
  have b1 := m_draws hd8 a2
  have b2 := m_draws (M := sJ M1 66 85 (lN (drS (dI s 8)))) (drS_lt (dI s 8)) (by rw [gJ_sJ, if_pos ⟨rfl, rfl⟩])
  have s3 : gJ (sJ (sJ M1 66 85 (lN (drS (dI s 8)))) 66 85 (lN (drS (drS (dI s 8))))) 66 85 = lN (drS (drS (dI s 8))) := by rw [gJ_sJ, if_pos ⟨rfl, rfl⟩]
  generalize hM3 : sJ (sJ M1 66 85 (lN (drS (dI s 8)))) 66 85 (lN (drS (drS (dI s 8)))) = M3 at b2 k3 s3
  have rm3 := (srmA A).use rm k3 (by decide +kernel)
  have mw3 : rmW Q v M3 := rmW_w mw k3 (by decide)
  have rU3 : rmU T n M3 := rmU_ch rU k3 (by decide)
  obtain ⟨e69, e70, e71, e72, e73⟩ := rm.1.2 i hi
  have a67 : gI M3 67 (10 * A 70 i + l) = nI (A 67 (10 * A 70 i + l) - 1) := by
    rw [(rm3.2.1.1 (10 * A 70 i + l) (by omega)).1, ageI_pos ht]
  have o1 := m_old116 (A := A) (T := T) (n := n) (M := M3) (nI i) (nI h) (nI p) (nI (A 69 i)) (nI (pre A (A 70 i) (A 71 i) h)) (nI (mkN A p s)) (nI (drV (dI s 8) * 10 + drV (drS (dI s 8)))) p2 hl (by omega) hU rU3.1 (fun k hk => (rU3.2 k hk).2.2.2.2.2.1) hag ht a67
  have o0 := old_gm (T := T) (a := A 67 (10 * A 70 i + l)) ht n
  have hold : fb_ct (fun k => decide (A 67 (10 * A 70 i + l) ≤ T k 6)) n ≤ n := fb_ct_le _ _
  generalize fb_ct (fun k => decide (A 67 (10 * A 70 i + l) ≤ T k 6)) n = old at o1 o0 hold
  have o2 := m_dawn169 (nI l) (nI p) (nI (pre A (A 70 i) (A 71 i) h)) (nI (mkN A p s)) (nI (drV (dI s 8) * 10 + drV (drS (dI s 8)))) (nI old) w rm3 hi hh
  obtain ⟨M5, f1, f2, f3, f4⟩ := m_ms215 (nI h) (nI l) (nI p) (nI (A 70 i)) (nI (A 69 i)) (nI (pre A (A 70 i) (A 71 i) h)) (nI (drV (dI s 8) * 10 + drV (drS (dI s 8)))) (nI old) (nI (fb_ct (fun x => alb A (A 70 i) (A 71 i) (A 69 i) x) h)) (mkN_lt A p s) 8 0 M3 rfl
  have f1' : l_mo_takes_215 (nI h) (nI l) (nI p) (nI (A 70 i)) (nI (A 69 i)) (nI (pre A (A 70 i) (A 71 i) h)) (nI (mkN A p s)) (nI (drV (dI s 8) * 10 + drV (drS (dI s 8)))) (nI old) (nI (fb_ct (fun x => alb A (A 70 i) (A 71 i) (A 69 i) x) h)) 0 M3 = some M5 := f1
  have mw5 : rmW Q v M5 := rmW_w mw3 f4 (by decide)
  have rU5 : rmU T n M5 := rmU_ch rU3 f4 (by decide)
  have a67' : gI M5 67 (10 * A 70 i + l) = nI (A 67 (10 * A 70 i + l) - 1) := (f4.I 67 _ rfl).trans a67
  have fi : ∀ y : Nat, y = (if gmT T n < A 67 (10 * A 70 i + l) then 1 else 0) → ∃ M', t_mo_takes_304 (nI l) (nI p) (nI (A 70 i)) (nI (A 69 i)) (nI (pre A (A 70 i) (A 71 i) h)) (nI (mkN A p s)) (nI (drV (dI s 8) * 10 + drV (drS (dI s 8)))) (nI (fb_ct (fun x => alb A (A 70 i) (A 71 i) (A 69 i) x) h)) 13 (nI y) (sI (sI (sI (sI M5 100 9 (nI (A 67 (10 * A 70 i + l) - 1))) 100 10 (nI l)) 100 11 (nI h)) 100 12 (nI (drV (dI s 8) * 10 + drV (drS (dI s 8))))) = some M' ∧ rmX (tkX A Q i h l p ((s, V), n, T)) M' ∧ chS kTm M M' := fun y hy => by
    obtain ⟨M', g1, g2, g3⟩ := m_t304 (e := enT A Q i h l p s (gmT T n)) (fi := y) w wq mw5 he hi hh h1 h2 rfl hn rU5 a67' rfl (fun j hj => f2 j (Nat.zero_le _) hj) (by rw [hy]; rfl)
    have kk : chS [7685, 100] M M5 := (k3.mono (by decide)).trans (f4.mono (by decide))
    refine ⟨M', g1, ⟨⟨?_, ?_⟩, g2⟩, (kk.mono (by decide)).trans (g3.mono (by decide))⟩
    · show gJ M' 66 85 = lN (drS (drS (dI s 8)))
      rw [g3.J 66 85 rfl, f4.J 66 85 rfl, s3]
    · intro x hx
      exact ⟨(g3.I 121 x rfl).trans ((kk.I 121 x rfl).trans (rV x hx).1), fun j hj => (g3.I 120 _ rfl).trans ((kk.I 120 _ rfl).trans ((rV x hx).2 j hj))⟩
  have in80 : vp_in (10 * nI (A 70 i) + nI l) 80 = True := by
    rw [show (10 : Int32) * nI (A 70 i) = nI (10 * A 70 i) from z_mul 10 _, z_add]
    exact z_in (by omega) (by omega)
  have cl80 : (10 * nI (A 70 i) + nI l).toNatClampNeg = 10 * A 70 i + l := by
    rw [show (10 : Int32) * nI (A 70 i) = nI (10 * A 70 i) from z_mul 10 _, z_add, z_cl (by omega)]
  have hE : f_mo_takes (nI i) (nI h) (nI l) (nI p) M = if nI old = 0 then t_mo_takes_304 (nI l) (nI p) (nI (A 70 i)) (nI (A 69 i)) (nI (pre A (A 70 i) (A 71 i) h)) (nI (mkN A p s)) (nI (drV (dI s 8) * 10 + drV (drS (dI s 8)))) (nI (fb_ct (fun x => alb A (A 70 i) (A 71 i) (A 69 i) x) h)) 13 (nI 1) (sI (sI (sI (sI M5 100 9 (nI (A 67 (10 * A 70 i + l) - 1))) 100 10 (nI l)) 100 11 (nI h)) 100 12 (nI (drV (dI s 8) * 10 + drV (drS (dI s 8))))) else t_mo_takes_304 (nI l) (nI p) (nI (A 70 i)) (nI (A 69 i)) (nI (pre A (A 70 i) (A 71 i) h)) (nI (mkN A p s)) (nI (drV (dI s 8) * 10 + drV (drS (dI s 8)))) (nI (fb_ct (fun x => alb A (A 70 i) (A 71 i) (A 69 i) x) h)) 13 (nI 0) (sI (sI (sI (sI M5 100 9 (nI (A 67 (10 * A 70 i + l) - 1))) 100 10 (nI l)) 100 11 (nI h)) 100 12 (nI (drV (dI s 8) * 10 + drV (drS (dI s 8))))) := by
    unfold f_mo_takes
    rw [z_gd (z_in (n := i) (by omega) (by omega)), z_cl (n := i) (by omega), e69, e70, e71, m_presentAt w.1 rm.1 p2 p3 hh, Option.bind_some, a1, Option.bind_some, b1, Option.bind_some, b2, Option.bind_some]
    show ((l_mo_takes_116 (nI i) (nI h) (nI l) (nI p) (nI (A 70 i)) (nI (A 69 i)) (nI (pre A (A 70 i) (A 71 i) h)) (nI (mkN A p s)) (nI (drV (dI s 8)) * 10 + nI (drV (drS (dI s 8)))) 0 0 M3).bind _) = _
    rw [show nI (drV (dI s 8)) * 10 = nI (drV (dI s 8) * 10) from z_mul _ 10, z_add, o1, Option.bind_some, o2, Option.bind_some, f1', Option.bind_some, z_gd in80, cl80, a67']
    rfl
  by_cases c : old = 0
  · obtain ⟨M', g1, g2, g3⟩ := fi 1 (by rw [if_pos (by rw [← o0]; exact c)])
    exact ⟨M', by rw [hE, if_pos (by rw [c]; rfl)]; exact g1, g2, g3⟩
  · obtain ⟨M', g1, g2, g3⟩ := fi 0 (by rw [if_neg (by rw [← o0]; exact c)])
    exact ⟨M', by rw [hE, if_neg (show ¬ nI old = (0 : Int32) from z_ne (b := 0) (by omega) (by decide) c)]; exact g1, g2, g3⟩
