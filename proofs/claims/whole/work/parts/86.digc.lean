/-! ===== worlds: the class digs ===== -/
def kDc : List Nat := [60, 61] ++ kTq
theorem c_seekLain0 {A : sA} {M : dM} {s : Nat} (w : wfA A) (rc : rcA A M) (hs : s < 2147483648) (h8 : gJ M 56 8 = lN s) {i : Nat} (hi : i < A 66 3) (c : laC A (A 70 i) 10 = 0) : f_wo_seekLain (nI i) M = some (-1, M) := by
  have hL := w.1.1
  obtain ⟨p1, p2, p3, p4, p5⟩ := w.1.2 i hi
  obtain ⟨e7, e8, e9, e10⟩ := rc.1.2 i hi
  unfold f_wo_seekLain
  rw [z_gd (z_in (n := i) (by omega) (by omega)), z_cl (n := i) (by omega), e8, c_drawLayer rc p2 hs h8, if_pos c, Option.bind_some]
  rfl
/-- the second draw: is the hand able -/
theorem c_lain55 {A : sA} {M : dM} {s : Nat} (w : wfA A) (rc : rcA A M) (hs : s < 2147483648) (h8 : gJ M 56 8 = lN s) {i l : Nat} (hi : i < A 66 3) (y : Nat) : t_wo_seekLain_55 (nI i) (nI l) (nI y) M = some (if ¬ nI y = 0 ∧ drV s < A 115 (A 69 i) then nI l else -1, sJ M 56 8 (lN (drS s))) := by
  have hL := w.1.1
  obtain ⟨p1, p2, p3, p4, p5⟩ := w.1.2 i hi
  have k1 : chS [6608] M (sJ M 56 8 (lN (drS s))) := chS_sJ M 56 8 _ rfl
  have rc1 := (srcA A).use rc k1 (by decide +kernel)
  have q115 := (w.2.2.2.2.2.2.2.2.1 (A 69 i) p1).1
  have hv := drV_lt s
  have b := c_draw hs h8
  generalize sJ M 56 8 (lN (drS s)) = M1 at *
  obtain ⟨e7, e8, e9, e10⟩ := rc1.1.2 i hi
  have e57 : gI M1 57 (A 69 i) = nI (A 115 (A 69 i)) := (rc1.2.2.2.2.2.2.2.2.1 (A 69 i) p1).1
  unfold t_wo_seekLain_55
  rw [b, Option.bind_some, z_gd (z_in (n := i) (by omega) (by omega)), z_cl (n := i) (by omega), e7, z_gd (z_in (n := A 69 i) (by omega) (by omega)), z_cl (n := A 69 i) (by omega), e57]
  unfold t_wo_seekLain_82
  by_cases c : drV s < A 115 (A 69 i)
  · rw [if_neg (z_nle (by omega) (by omega) c)]
    by_cases d : nI y = 0
    · rw [if_pos d, if_neg (fun z => z.1 d)]
    · rw [if_neg d, if_neg (show ¬ (1 : Int32) = 0 from by decide), if_pos ⟨d, c⟩]
  · rw [if_pos (z_yle (by omega) (by omega) (by omega))]
    by_cases d : nI y = 0
    · rw [if_pos d, if_neg (fun z => z.1 d)]
    · rw [if_neg d, if_pos rfl, if_neg (fun z => c z.2)]
theorem c_seekLain {A : sA} {M : dM} {s : Nat} (w : wfA A) (rc : rcA A M) (hs : s < 2147483648) (h8 : gJ M 56 8 = lN s) {i : Nat} (hi : i < A 66 3) (c : laC A (A 70 i) 10 ≠ 0) : ∃ M', f_wo_seekLain (nI i) M = some (if drV (drS s) < A 117 (10 * A 70 i + klF A (A 70 i) (drV s % laC A (A 70 i) 10)) ∧ drV (drS (drS s)) < A 115 (A 69 i) then nI (klF A (A 70 i) (drV s % laC A (A 70 i) 10)) else -1, M') ∧ gJ M' 56 8 = lN (drS (drS (drS s))) ∧ chS [6608] M M' := by
  have hL := w.1.1
  obtain ⟨p1, p2, p3, p4, p5⟩ := w.1.2 i hi
  obtain ⟨e7, e8, e9, e10⟩ := rc.1.2 i hi
  obtain ⟨z1, z2, z3⟩ := klF_ok (A := A) (s := A 70 i) (k := drV s % laC A (A 70 i) 10) (Nat.mod_lt _ (by omega))
  have hv1 := drV_lt (drS s)
  have h1 := drS_lt s
  have h2 := drS_lt (drS s)
  have dl := c_drawLayer rc p2 hs h8
  rw [if_neg c] at dl
  generalize klF A (A 70 i) (drV s % laC A (A 70 i) 10) = l at z1 z2 dl ⊢
  have k1 : chS [6608] M (sJ M 56 8 (lN (drS s))) := chS_sJ M 56 8 _ rfl
  have s1 : gJ (sJ M 56 8 (lN (drS s))) 56 8 = lN (drS s) := by rw [gJ_sJ, if_pos ⟨rfl, rfl⟩]
  generalize sJ M 56 8 (lN (drS s)) = M1 at dl k1 s1
  have b2 := c_draw h1 s1
  have k2 : chS [6608] M (sJ M1 56 8 (lN (drS (drS s)))) := k1.sJ 56 8 _ rfl
  have s2 : gJ (sJ M1 56 8 (lN (drS (drS s)))) 56 8 = lN (drS (drS s)) := by rw [gJ_sJ, if_pos ⟨rfl, rfl⟩]
  generalize sJ M1 56 8 (lN (drS (drS s))) = M2 at b2 k2 s2
  have rc2 := (srcA A).use rc k2 (by decide +kernel)
  obtain ⟨f7, f8, f9, f10⟩ := rc2.1.2 i hi
  have q117 := (w.2.1.1 (10 * A 70 i + l) (by omega)).2
  have r3 : gI M2 3 (10 * A 70 i + l) = nI (A 117 (10 * A 70 i + l)) := (rc2.2.1.2.1 (10 * A 70 i + l) (by omega)).2
  have t55 := fun y => c_lain55 (l := l) w rc2 h2 s2 hi y
  have k3 : chS [6608] M (sJ M2 56 8 (lN (drS (drS (drS s))))) := k2.sJ 56 8 _ rfl
  have s3 : gJ (sJ M2 56 8 (lN (drS (drS (drS s))))) 56 8 = lN (drS (drS (drS s))) := by rw [gJ_sJ, if_pos ⟨rfl, rfl⟩]
  generalize sJ M2 56 8 (lN (drS (drS (drS s)))) = M3 at t55 k3 s3
  refine ⟨M3, ?_, s3, k3⟩
  unfold f_wo_seekLain
  rw [z_gd (z_in (n := i) (by omega) (by omega)), z_cl (n := i) (by omega), e8, dl, Option.bind_some, if_neg (show ¬ nI l = -1 from z_nm1 z1)]
  show ((f_wo_draw M1).bind _) = _
  rw [b2, Option.bind_some]
  show gd (vp_in (gI M2 8 i * 10 + nI l) 80) (if gI M2 3 (gI M2 8 i * 10 + nI l).toNatClampNeg ≤ nI (drV (drS s)) then t_wo_seekLain_55 (nI i) (nI l) 0 M2 else t_wo_seekLain_55 (nI i) (nI l) 1 M2) = _
  have ei : nI (A 70 i) * 10 + nI l = nI (10 * A 70 i + l) := by rw [show nI (A 70 i) * 10 = nI (A 70 i * 10) from z_mul _ 10, z_add, Nat.mul_comm]
  rw [f8, ei, z_gd (z_in (n := 10 * A 70 i + l) (by omega) (by omega)), z_cl (n := 10 * A 70 i + l) (by omega), r3]
  by_cases d : drV (drS s) < A 117 (10 * A 70 i + l)
  · have t1 := t55 1
    rw [if_neg (z_nle (by omega) (by omega) d)]
    refine t1.trans ?_
    by_cases d2 : drV (drS (drS s)) < A 115 (A 69 i)
    · rw [if_pos ⟨show ¬ nI 1 = (0 : Int32) from by decide, d2⟩, if_pos ⟨d, d2⟩]
    · rw [if_neg (fun z => d2 z.2), if_neg (fun z => d2 z.2)]
  · have t0 := t55 0
    rw [if_pos (z_yle (by omega) (by omega) (by omega))]
    refine t0.trans ?_
    rw [if_neg (fun z => z.1 rfl), if_neg (fun z => d z.1)]
theorem c_seekPut {A : sA} {V : wV} {M : dM} (w : wfA A) (rc : rcA A M) (hV : wfV A V) (rv : rcV V M) {i : Nat} (hi : i < A 66 3) (c : 0 < V.2.1 (A 70 i)) : ∃ M', f_wo_seekPut (nI i) M = some (if drV V.1 < A 115 (A 69 i) then nI (V.2.2 (9 * A 70 i)) else -1, M') ∧ rcV (if drV V.1 < A 115 (A 69 i) then shV (A 70 i) (drS V.1) V else (drS V.1, V.2)) M' ∧ chS kWc M M' := by
  have hL := w.1.1
  obtain ⟨p1, p2, p3, p4, p5⟩ := w.1.2 i hi
  have q115 := (w.2.2.2.2.2.2.2.2.1 (A 69 i) p1).1
  have hv := drV_lt V.1
  have b := c_draw hV.1 rv.1
  have k1 : chS kWc M (sJ M 56 8 (lN (drS V.1))) := chS_sJ M 56 8 _ rfl
  have s1 : gJ (sJ M 56 8 (lN (drS V.1))) 56 8 = lN (drS V.1) := by rw [gJ_sJ, if_pos ⟨rfl, rfl⟩]
  have v1 : ∀ s, s < 8 → gI (sJ M 56 8 (lN (drS V.1))) 61 s = nI (V.2.1 s) ∧ ∀ j, j < V.2.1 s → gI (sJ M 56 8 (lN (drS V.1))) 60 (9 * s + j) = nI (V.2.2 (9 * s + j)) := rv.2
  generalize sJ M 56 8 (lN (drS V.1)) = M1 at b k1 s1 v1
  have rc1 := (srcA A).use rc k1 (by decide +kernel)
  obtain ⟨e7, e8, e9, e10⟩ := rc1.1.2 i hi
  have e57 : gI M1 57 (A 69 i) = nI (A 115 (A 69 i)) := (rc1.2.2.2.2.2.2.2.2.1 (A 69 i) p1).1
  unfold f_wo_seekPut
  rw [b, Option.bind_some, z_gd (z_in (n := i) (by omega) (by omega)), z_cl (n := i) (by omega), e7, z_gd (z_in (n := A 69 i) (by omega) (by omega)), z_cl (n := A 69 i) (by omega), e57, e8]
  by_cases d : drV V.1 < A 115 (A 69 i)
  · obtain ⟨M', a1, a2, a3⟩ := c_earliest (st := A 70 i) (sd := drS V.1) p2 s1 v1 (fun s hs => (hV.2 s hs).1) c
    rw [if_neg (z_nle (by omega) (by omega) d), if_pos d, if_pos d]
    exact ⟨M', by rw [a1]; rfl, a2, k1.trans (a3.mono (by decide))⟩
  · rw [if_pos (z_yle (by omega) (by omega) (by omega)), if_neg d, if_neg d]
    exact ⟨M1, rfl, ⟨s1, v1⟩, k1⟩
theorem c_142 {A : sA} {Q : sQ} {v : Nat → Nat} {X : wX} {M : dM} (w : wfA A) (rc : rcA A M) (o : rcO A M) (wq : wQ Q v) (cw : rcW Q v M) (hX : wfX A X) (rx : rcX X M) (x1 : Int32) {i h l p : Nat} (hi : i < A 66 3) (hh : h < 24) (h1 : A 72 i ≤ h) (h2 : h ≤ A 73 i) (hp : p < 2) (hn : X.2.1 < 1920) (b : Prop) [Decidable b] (hl : b → l < 10 ∧ A 67 (10 * A 70 i + l) ≠ 0) : ∃ M', b_wo_live_71_142 x1 (nI i) (nI h) (nI p) (if b then nI l else -1) M = some (.inl (nI (h + 1), M')) ∧ rcX (if b then tkX A Q i h l p X else X) M' ∧ chS kDc M M' ∧ ∀ j, j < 680 → gI M' 40 j = gI M 40 j := by
  unfold b_wo_live_71_142
  by_cases c : b
  · obtain ⟨M', a1, a2, a3, a4⟩ := c_takeT (p := p) w rc o wq cw hX rx hi hh h1 h2 (hl c).1 (hl c).2 hp hn
    rw [if_pos c, if_pos c, if_neg (z_nm1 (hl c).1)]
    exact ⟨M', by rw [a1, Option.bind_some, show nI h + 1 = nI (h + 1) from z_add h 1], a2, a3.mono (by decide), a4⟩
  · rw [if_neg c, if_neg c, if_pos rfl]
    exact ⟨M, by rw [show nI h + 1 = nI (h + 1) from z_add h 1], rx, chS.refl _ _, fun _ _ => rfl⟩
theorem rcX_sd {X : wX} {M M' : dM} {s : Nat} (rx : rcX X M) (c : chS [6608] M M') (h : gJ M' 56 8 = lN s) : rcX ((s, X.1.2), X.2) M' :=
  ⟨⟨h, fun x hx => ⟨(c.I 61 x rfl).trans (rx.1.2 x hx).1, fun j hj => (c.I 60 _ rfl).trans ((rx.1.2 x hx).2 j hj)⟩⟩, rcU_ch rx.2 c (by decide)⟩
theorem rcO_ch {A : sA} {S : List Nat} {M M' : dM} (o : rcO A M) (c : chS S M M') (hd : disj [11] S = true) : rcO A M' := (srcO A).use o c hd
theorem c_dig {A : sA} {Q : sQ} {v : Nat → Nat} {X : wX} {M : dM} (w : wfA A) (rc : rcA A M) (o : rcO A M) (wq : wQ Q v) (cw : rcW Q v M) (hX : wfX A X) (rx : rcX X M) (x1 : Int32) {i h : Nat} (hi : i < A 66 3) (hh : h < 24) (h1 : A 72 i ≤ h) (h2 : h ≤ A 73 i) (hn : X.2.1 < 1920) : ∃ M', (if gI M 61 (A 70 i) ≤ 0 then b_wo_live_71_122 x1 (nI i) (nI h) 0 M else b_wo_live_71_122 x1 (nI i) (nI h) 1 M) = some (.inl (nI (h + 1), M')) ∧ rcX (dgX A Q i h X) M' ∧ chS kDc M M' ∧ ∀ j, j < 680 → gI M' 40 j = gI M 40 j := by
  obtain ⟨p1, p2, p3, p4, p5⟩ := w.1.2 i hi
  have n9 := (hX.1.2 (A 70 i) p2).1
  rw [(rx.1.2 (A 70 i) p2).1]
  unfold b_wo_live_71_122 dgX
  by_cases c0 : 0 < X.1.2.1 (A 70 i)
  · rw [if_neg (show ¬ nI (X.1.2.1 (A 70 i)) ≤ (0 : Int32) from z_nle (b := 0) (by omega) (by decide) c0), if_pos c0, if_neg (show ¬ (1 : Int32) = 0 from by decide)]
    obtain ⟨M1, a1, a2, a3⟩ := c_seekPut w rc hX.1 rx.1 hi c0
    have rc1 := (srcA A).use rc a3 (by decide +kernel)
    have cw1 := (srcW Q v).use cw a3 (by decide)
    have o1 : rcO A M1 := rcO_ch o a3 (by decide)
    obtain ⟨l1, l2⟩ := (hX.1.2 (A 70 i) p2).2 0 c0
    rw [a1, Option.bind_some]
    by_cases d : drV X.1.1 < A 115 (A 69 i)
    · rw [if_pos d] at a2
      obtain ⟨M', b1, b2, b3, b4⟩ := c_142 (X := (shV (A 70 i) (drS X.1.1) X.1, X.2)) (p := 1) (l := X.1.2.2 (9 * A 70 i)) w rc1 o1 wq cw1 ⟨shV_wf hX.1 (drS_lt _) p2, hX.2⟩ ⟨a2, rcU_ch rx.2 a3 (by decide)⟩ x1 hi hh h1 h2 (by decide) hn (drV X.1.1 < A 115 (A 69 i)) (fun _ => ⟨l1, lay0_ne l2⟩)
      rw [if_pos d] at b1 b2
      rw [if_pos d, if_pos d]
      exact ⟨M', b1, b2, (a3.mono (by decide)).trans b3, fun j hj => (b4 j hj).trans (a3.I 40 j rfl)⟩
    · rw [if_neg d] at a2
      obtain ⟨M', b1, b2, b3, b4⟩ := c_142 (X := ((drS X.1.1, X.1.2), X.2)) (p := 1) (l := X.1.2.2 (9 * A 70 i)) w rc1 o1 wq cw1 (sd_wf hX (drS_lt _)) ⟨a2, rcU_ch rx.2 a3 (by decide)⟩ x1 hi hh h1 h2 (by decide) hn (drV X.1.1 < A 115 (A 69 i)) (fun z => absurd z d)
      rw [if_neg d] at b1 b2
      rw [if_neg d, if_neg d]
      exact ⟨M', b1, b2, (a3.mono (by decide)).trans b3, fun j hj => (b4 j hj).trans (a3.I 40 j rfl)⟩
  · rw [if_pos (show nI (X.1.2.1 (A 70 i)) ≤ (0 : Int32) from z_yle (b := 0) (by omega) (by decide) (by omega)), if_neg c0, if_pos rfl]
    by_cases c1 : laC A (A 70 i) 10 = 0
    · rw [if_pos c1, c_seekLain0 w rc hX.1.1 rx.1.1 hi c1, Option.bind_some]
      refine ⟨M, ?_, rx, chS.refl _ _, fun _ _ => rfl⟩
      unfold b_wo_live_71_142
      rw [if_pos rfl, show nI h + 1 = nI (h + 1) from z_add h 1]
    · rw [if_neg c1]
      obtain ⟨M1, a1, a2, a3⟩ := c_seekLain w rc hX.1.1 rx.1.1 hi c1
      obtain ⟨k1, k2, k3⟩ := klF_ok (A := A) (s := A 70 i) (k := drV X.1.1 % laC A (A 70 i) 10) (Nat.mod_lt _ (by omega))
      have rc1 := (srcA A).use rc a3 (by decide +kernel)
      have cw1 := (srcW Q v).use cw a3 (by decide)
      have o1 : rcO A M1 := rcO_ch o a3 (by decide)
      rw [a1, Option.bind_some]
      obtain ⟨M', b1, b2, b3, b4⟩ := c_142 (X := ((drS (drS (drS X.1.1)), X.1.2), X.2)) (p := 0) (l := klF A (A 70 i) (drV X.1.1 % laC A (A 70 i) 10)) w rc1 o1 wq cw1 (sd_wf hX (drS_lt _)) (rcX_sd rx a3 a2) x1 hi hh h1 h2 (by decide) hn (drV (drS X.1.1) < A 117 (10 * A 70 i + klF A (A 70 i) (drV X.1.1 % laC A (A 70 i) 10)) ∧ drV (drS (drS X.1.1)) < A 115 (A 69 i)) (fun _ => ⟨k1, lay0_ne k2⟩)
      exact ⟨M', b1, b2, (a3.mono (by decide)).trans b3, fun j hj => (b4 j hj).trans (a3.I 40 j rfl)⟩
