/-! ===== worlds: the reference's hand lays a thing ===== -/
theorem m_drawsLayer {A : sA} {M : dM} (w : wfA A) (rm : rmA A M) {s sd : Nat} (hs : s < 8) (hsd : sd < 2147483648) (h : gJ M 66 85 = lN sd) (c : laC A s 10 ≠ 0) : f_mo_drawsLayer (nI s) M = some (nI (klF A s (drV sd % laC A s 10)), sJ M 66 85 (lN (drS sd))) := by
  have hle : laC A s 10 ≤ 10 := fb_ct_le _ _
  have hv := drV_lt sd
  have hm : drV sd % laC A s 10 < laC A s 10 := Nat.mod_lt _ (by omega)
  have rm1 := (srmA A).use rm (chS_sJ (S := [7685]) M 66 85 (lN (drS sd)) rfl) (by decide +kernel)
  unfold f_mo_drawsLayer
  rw [m_draws hsd h, Option.bind_some, m_layersOf w rm1 hs, Option.bind_some, gd_t (show ¬ nI (laC A s 10) = 0 from z_ne (b := 0) (by omega) (by decide) c), z_krem (by omega) (by omega) (by omega), m_layer16 w rm1 hs hm, Option.bind_some]
noncomputable def putM (a : Int32) (s : Nat) (x : Int32) (q : Int32 × dM) : Option dM :=
  gd (vp_in ((9 * a) + x) 72) <|
  some (sI (sI q.2 120 ((9 * a) + x).toNatClampNeg q.1) 121 s ((gI (sI q.2 120 ((9 * a) + x).toNatClampNeg q.1) 121 s) + 1))
theorem putM_ok {M : dM} {st n l : Nat} (hs : st < 8) (hn : n < 9) (f : gI M 121 st = nI n) : putM (nI st) st (nI n) (nI l, M) = some (sI (sI M 120 (9 * st + n) (nI l)) 121 st (nI (n + 1))) := by
  unfold putM
  have e9 : (9 : Int32) * nI st = nI (9 * st) := z_mul 9 st
  have ei : (9 : Int32) * nI st + nI n = nI (9 * st + n) := by rw [e9, z_add]
  have g1 : gI (sI M 120 (9 * st + n) (nI l)) 121 st = nI n := by rw [gI_sI, if_neg (by omega)]; exact f
  show gd (vp_in ((9 * nI st) + nI n) 72) (some (sI (sI M 120 ((9 * nI st) + nI n).toNatClampNeg (nI l)) 121 st ((gI (sI M 120 ((9 * nI st) + nI n).toNatClampNeg (nI l)) 121 st) + 1))) = _
  rw [ei, z_gd (z_in (n := 9 * st + n) (by omega) (by omega)), z_cl (n := 9 * st + n) (by omega), g1]
  rw [show nI n + 1 = nI (n + 1) from z_add n 1]
theorem m_buryD {A : sA} {V : wV} {M1 : dM} {st d2 v2 : Nat} (hs : st < 8) (c2 : V.2.1 st < 9) (c3 : laC A st 10 ≠ 0) (dl : f_mo_drawsLayer (nI st) M1 = some (nI (klF A st (v2 % laC A st 10)), sJ M1 66 85 (lN d2))) (rV : ∀ s, s < 8 → gI M1 121 s = nI (V.2.1 s) ∧ ∀ j, j < V.2.1 s → gI M1 120 (9 * s + j) = nI (V.2.2 (9 * s + j))) (h9 : ∀ s, s < 8 → V.2.1 s ≤ 9) : ∃ M', (f_mo_drawsLayer (nI st) M1).bind (putM (nI st) st (nI (V.2.1 st))) = some M' ∧ rmV (adW A st d2 v2 V) M' ∧ chS kWm M1 M' := by
  have k10 : klF A st (v2 % laC A st 10) < 10 := (klF_ok (Nat.mod_lt _ (Nat.pos_of_ne_zero c3))).1
  obtain ⟨l, hl⟩ : ∃ l, l = klF A st (v2 % laC A st 10) := ⟨_, rfl⟩
  rw [← hl] at k10 dl
  have e8' : gJ (sJ M1 66 85 (lN d2)) 66 85 = lN d2 := by rw [gJ_sJ, if_pos ⟨rfl, rfl⟩]
  have rV2 : ∀ s, s < 8 → gI (sJ M1 66 85 (lN d2)) 121 s = nI (V.2.1 s) ∧ ∀ j, j < V.2.1 s → gI (sJ M1 66 85 (lN d2)) 120 (9 * s + j) = nI (V.2.2 (9 * s + j)) := rV
  have k2 : chS kWm M1 (sJ M1 66 85 (lN d2)) := chS_sJ M1 66 85 _ rfl
  generalize sJ M1 66 85 (lN d2) = M2 at dl e8' rV2 k2
  rw [dl, Option.bind_some]
  have hp := putM_ok (st := st) (n := V.2.1 st) (l := l) hs c2 (rV2 st hs).1
  have hq := rmV_lay (M := M2) (sd := d2) hl e8' rV2 h9
  have kk : chS kWm M1 (sI (sI M2 120 (9 * st + V.2.1 st) (nI l)) 121 st (nI (V.2.1 st + 1))) := (k2.sI 120 _ _ rfl).sI 121 _ _ rfl
  exact ⟨_, hp, hq, kk⟩
theorem m_bury {A : sA} {V : wV} {M : dM} (w : wfA A) (rm : rmA A M) (hv : wfV A V) (rv : rmV V M) {i h : Nat} (hi : i < A 66 3) (hh : h < 24) : ∃ M', f_mo_buries (nI i) (nI h) M = some M' ∧ rmV (ptW A i h V) M' ∧ chS kWm M M' := by
  have hL := w.1.1
  obtain ⟨p1, p2, p3, p4, p5⟩ := w.1.2 i hi
  obtain ⟨e69, e70, e71, e72, e73⟩ := rm.1.2 i hi
  have hp := pre_lt w.1 (A 70 i) (A 71 i) h
  have hq : 2 ^ A 69 i < 2 ^ 10 := Nat.pow_lt_pow_right (by decide) p1
  have ea : ((alL A i).testBit h = true) = (pre A (A 70 i) (A 71 i) h = 2 ^ A 69 i) := by
    unfold alL
    rw [al_bit]
    unfold alb
    simp [hh]
  unfold f_mo_buries ptW
  rw [z_gd (z_in (n := i) (by omega) (by omega)), z_cl (n := i) (by omega), e70, e71, m_presentAt w.1 rm.1 p2 p3 hh, Option.bind_some, e69, z_1shl (by omega)]
  by_cases c : pre A (A 70 i) (A 71 i) h = 2 ^ A 69 i
  · rw [if_pos (show nI (pre A (A 70 i) (A 71 i) h) = nI (2 ^ A 69 i) from by rw [c]), if_pos (ea.mpr c), m_draws hv.1 rv.1, Option.bind_some]
    have hd := drV_lt V.1
    have hd1 := drS_lt V.1
    have cdl := fun (M1 : dM) (rm1 : rmA A M1) (s1 : gJ M1 66 85 = lN (drS V.1)) => m_drawsLayer w rm1 p2 hd1 s1
    generalize drV (drS V.1) = v2 at *
    generalize drS (drS V.1) = d2 at *
    generalize drV V.1 = v1 at *
    generalize drS V.1 = d1 at *
    generalize hM1 : sJ M 66 85 (lN (d1)) = M1
    have k1 : chS kWm M M1 := by rw [← hM1]; exact chS_sJ M 66 85 _ rfl
    have rm1 := (srmA A).use rm k1 (by decide +kernel)
    have s1 : gJ M1 66 85 = lN (d1) := by rw [← hM1, gJ_sJ, if_pos ⟨rfl, rfl⟩]
    have g61 : ∀ x, gI M1 121 x = gI M 121 x := fun x => by rw [← hM1]; rfl
    have g60 : ∀ x, gI M1 120 x = gI M 120 x := fun x => by rw [← hM1]; rfl
    have q116 := (w.2.2.2.2.2.2.2.2.1 (A 69 i) p1).2
    have e116 : gI M1 116 (A 69 i) = nI (A 116 (A 69 i)) := (rm1.2.2.2.2.2.2.2.2.1 (A 69 i) p1).2
    have n9 := (hv.2 (A 70 i) p2).1
    have e61 : gI M1 121 (A 70 i) = nI (V.2.1 (A 70 i)) := (g61 _).trans (rv.2 (A 70 i) p2).1
    have stay : rmV (d1, V.2) M1 := ⟨s1, fun s hs => ⟨(g61 s).trans (rv.2 s hs).1, fun j hj => (g60 _).trans ((rv.2 s hs).2 j hj)⟩⟩
    have hle : laC A (A 70 i) 10 ≤ 10 := fb_ct_le _ _
    rw [z_gd (z_in (n := A 69 i) (by omega) (by omega)), z_cl (n := A 69 i) (by omega), e116]
    by_cases c1 : v1 < A 116 (A 69 i)
    · rw [if_pos (show nI v1 < nI (A 116 (A 69 i)) from by rw [z_lt (by omega) (by omega)]; exact c1), z_gd (z_in (n := A 70 i) (by omega) (by omega)), z_cl (n := A 70 i) (by omega), e61]
      by_cases c2 : V.2.1 (A 70 i) < 9
      · rw [if_neg (show ¬ nI (V.2.1 (A 70 i)) = (9 : Int32) from z_ne (b := 9) (by omega) (by decide) (by omega)), m_layersOf w rm1 p2, Option.bind_some]
        by_cases c3 : laC A (A 70 i) 10 = 0
        · rw [if_pos (by rw [c3]; rfl), if_neg (fun z => z.2.2 c3)]
          exact ⟨M1, rfl, stay, k1⟩
        · obtain ⟨M', z1, z2, z3⟩ := m_buryD (A := A) (V := V) (M1 := M1) (st := A 70 i) (d2 := d2) (v2 := v2) p2 c2 c3 (cdl M1 rm1 s1 c3) (fun s hs => ⟨(g61 s).trans (rv.2 s hs).1, fun j hj => (g60 _).trans ((rv.2 s hs).2 j hj)⟩) (fun s hs => (hv.2 s hs).1)
          rw [if_neg (show ¬ nI (laC A (A 70 i) 10) = (0 : Int32) from z_ne (b := 0) (by omega) (by decide) c3), if_pos (show v1 < A 116 (A 69 i) ∧ V.2.1 (A 70 i) < 9 ∧ laC A (A 70 i) 10 ≠ 0 from ⟨c1, c2, c3⟩)]
          exact ⟨M', z1, z2, k1.trans z3⟩
      · rw [if_pos (show nI (V.2.1 (A 70 i)) = (9 : Int32) from by rw [show V.2.1 (A 70 i) = 9 by omega]; rfl), if_neg (fun z => c2 z.2.1)]
        exact ⟨M1, rfl, stay, k1⟩
    · rw [if_neg (show ¬ nI v1 < nI (A 116 (A 69 i)) from by rw [z_lt (by omega) (by omega)]; exact c1), if_neg (fun z => c1 z.1)]
      exact ⟨M1, rfl, stay, k1⟩
  · rw [if_neg (z_ne (by omega) (by omega) c), if_neg (by rw [ea]; exact c)]
    exact ⟨M, rfl, rv, chS.refl _ _⟩
