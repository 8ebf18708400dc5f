/-! ===== worlds: one hand lays one thing ===== -/
abbrev wV := Nat × (Nat → Nat) × (Nat → Nat)
def wfV (A : sA) (V : wV) : Prop := V.1 < 2147483648 ∧ ∀ s, s < 8 → V.2.1 s ≤ 9 ∧ ∀ j, j < V.2.1 s → V.2.2 (9 * s + j) < 10 ∧ lay0 A (10 * s + V.2.2 (9 * s + j)) = true
def rcV (V : wV) (M : dM) : Prop := gJ M 56 8 = lN V.1 ∧ ∀ s, s < 8 → gI M 61 s = nI (V.2.1 s) ∧ ∀ j, j < V.2.1 s → gI M 60 (9 * s + j) = nI (V.2.2 (9 * s + j))
def rmV (V : wV) (M : dM) : Prop := gJ M 66 85 = lN V.1 ∧ ∀ s, s < 8 → gI M 121 s = nI (V.2.1 s) ∧ ∀ j, j < V.2.1 s → gI M 120 (9 * s + j) = nI (V.2.2 (9 * s + j))
def adW (A : sA) (st : Nat) (sd dv : Nat) (V : wV) : wV := (sd, fun s => if s = st then V.2.1 s + 1 else V.2.1 s, fun j => if j = 9 * st + V.2.1 st then klF A st (dv % laC A st 10) else V.2.2 j)
noncomputable def ptW (A : sA) (i h : Nat) (V : wV) : wV :=
  if (alL A i).testBit h = true then
    (if drV V.1 < A 116 (A 69 i) ∧ V.2.1 (A 70 i) < 9 ∧ laC A (A 70 i) 10 ≠ 0 then adW A (A 70 i) (drS (drS V.1)) (drV (drS V.1)) V else (drS V.1, V.2))
  else V
theorem adW_wf {A : sA} {V : wV} (h : wfV A V) {st sd dv : Nat} (hsd : sd < 2147483648) (hs : st < 8) (h9 : V.2.1 st < 9) (h0 : laC A st 10 ≠ 0) : wfV A (adW A st sd dv V) := by
  obtain ⟨k1, k2, k3⟩ := klF_ok (A := A) (s := st) (k := dv % laC A st 10) (Nat.mod_lt _ (by omega))
  refine ⟨hsd, fun s hs' => ?_⟩
  obtain ⟨h1, h2⟩ := h.2 s hs'
  show (if s = st then V.2.1 s + 1 else V.2.1 s) ≤ 9 ∧ ∀ j, j < (if s = st then V.2.1 s + 1 else V.2.1 s) → (if 9 * s + j = 9 * st + V.2.1 st then klF A st (dv % laC A st 10) else V.2.2 (9 * s + j)) < 10 ∧ lay0 A (10 * s + (if 9 * s + j = 9 * st + V.2.1 st then klF A st (dv % laC A st 10) else V.2.2 (9 * s + j))) = true
  by_cases e : s = st
  · subst e
    rw [if_pos rfl]
    refine ⟨by omega, fun j hj => ?_⟩
    by_cases ej : j = V.2.1 s
    · rw [if_pos (by omega)]
      exact ⟨k1, k2⟩
    · rw [if_neg (by omega)]
      exact h2 j (by omega)
  · rw [if_neg e]
    refine ⟨h1, fun j hj => ?_⟩
    rw [if_neg (by omega)]
    exact h2 j hj
theorem ptW_wf {A : sA} {V : wV} (w : wfL A) (h : wfV A V) {i : Nat} (hi : i < A 66 3) (x : Nat) : wfV A (ptW A i x V) := by
  have hs : A 70 i < 8 := (w.2 i hi).2.1
  unfold ptW
  split
  · split
    · rename_i c
      exact adW_wf h (drS_lt _) hs c.2.1 c.2.2
    · exact ⟨drS_lt _, h.2⟩
  · exact h
def kWc : List Nat := [6608, 60, 61]
def kWm : List Nat := [7685, 120, 121]
theorem z_krem {a m : Nat} (ha : a < 2147483648) (hm : m < 2147483648) (h0 : 0 < m) : nI a - nI a / nI m * nI m = nI (a % m) := pk_rem ha h0 hm
theorem c_drawLayer {A : sA} {M : dM} (rc : rcA A M) {s sd : Nat} (hs : s < 8) (hsd : sd < 2147483648) (h : gJ M 56 8 = lN sd) : f_wo_drawLayer (nI s) M = if laC A s 10 = 0 then some (-1, M) else some (nI (klF A s (drV sd % laC A s 10)), sJ M 56 8 (lN (drS sd))) := by
  have hle : laC A s 10 ≤ 10 := fb_ct_le _ _
  have hv := drV_lt sd
  unfold f_wo_drawLayer
  rw [c_layersAt rc hs, Option.bind_some]
  by_cases c : laC A s 10 = 0
  · rw [if_pos (show nI _ ≤ (0 : Int32) from z_yle (b := 0) (by omega) (by decide) (by omega)), if_pos c]
  · have hm : drV sd % laC A s 10 < laC A s 10 := Nat.mod_lt _ (by omega)
    have rc1 := (srcA A).use rc (chS_sJ (S := [6608]) M 56 8 (lN (drS sd)) rfl) (by decide +kernel)
    rw [if_neg (show ¬ nI _ ≤ (0 : Int32) from z_nle (b := 0) (by omega) (by decide) (by omega)), if_neg c, c_draw hsd h, Option.bind_some, gd_t (show ¬ nI (laC A s 10) = 0 from z_ne (b := 0) (by omega) (by decide) c), z_krem (by omega) (by omega) (by omega), c_layerOf rc1 hs hm, Option.bind_some]
/-! a thing is laid: over plain numbers -/
theorem rcV_lay {A : sA} {V : wV} {M : dM} {st sd dv l : Nat} (hl : l = klF A st (dv % laC A st 10)) (h8 : gJ M 56 8 = lN sd) (h : ∀ s, s < 8 → gI M 61 s = nI (V.2.1 s) ∧ ∀ j, j < V.2.1 s → gI M 60 (9 * s + j) = nI (V.2.2 (9 * s + j))) (h9 : ∀ s, s < 8 → V.2.1 s ≤ 9) : rcV (adW A st sd dv V) (sI (sI M 60 (9 * st + V.2.1 st) (nI l)) 61 st (nI (V.2.1 st + 1))) := by
  refine ⟨h8, fun s hs => ⟨?_, fun j hj => ?_⟩⟩
  · show _ = nI (if s = st then V.2.1 s + 1 else V.2.1 s)
    rw [gI_sI]
    by_cases e : s = st
    · subst e
      rw [if_pos ⟨rfl, rfl⟩, if_pos rfl]
    · rw [if_neg (fun z => e z.2), if_neg e, gI_sI, if_neg (by omega)]
      exact (h s hs).1
  · have hj' : j < (if s = st then V.2.1 s + 1 else V.2.1 s) := hj
    show _ = nI (if 9 * s + j = 9 * st + V.2.1 st then klF A st (dv % laC A st 10) else V.2.2 (9 * s + j))
    rw [gI_sI, if_neg (by omega), gI_sI]
    by_cases e : 9 * s + j = 9 * st + V.2.1 st
    · rw [if_pos ⟨rfl, e⟩, if_pos e, hl]
    · rw [if_neg (fun z => e z.2), if_neg e]
      refine (h s hs).2 j ?_
      by_cases es : s = st
      · subst es
        rw [if_pos rfl] at hj'
        omega
      · rw [if_neg es] at hj'
        exact hj'
theorem rmV_lay {A : sA} {V : wV} {M : dM} {st sd dv l : Nat} (hl : l = klF A st (dv % laC A st 10)) (h8 : gJ M 66 85 = lN sd) (h : ∀ s, s < 8 → gI M 121 s = nI (V.2.1 s) ∧ ∀ j, j < V.2.1 s → gI M 120 (9 * s + j) = nI (V.2.2 (9 * s + j))) (h9 : ∀ s, s < 8 → V.2.1 s ≤ 9) : rmV (adW A st sd dv V) (sI (sI M 120 (9 * st + V.2.1 st) (nI l)) 121 st (nI (V.2.1 st + 1))) := by
  refine ⟨h8, fun s hs => ⟨?_, fun j hj => ?_⟩⟩
  · show _ = nI (if s = st then V.2.1 s + 1 else V.2.1 s)
    rw [gI_sI]
    by_cases e : s = st
    · subst e
      rw [if_pos ⟨rfl, rfl⟩, if_pos rfl]
    · rw [if_neg (fun z => e z.2), if_neg e, gI_sI, if_neg (by omega)]
      exact (h s hs).1
  · have hj' : j < (if s = st then V.2.1 s + 1 else V.2.1 s) := hj
    show _ = nI (if 9 * s + j = 9 * st + V.2.1 st then klF A st (dv % laC A st 10) else V.2.2 (9 * s + j))
    rw [gI_sI, if_neg (by omega), gI_sI]
    by_cases e : 9 * s + j = 9 * st + V.2.1 st
    · rw [if_pos ⟨rfl, e⟩, if_pos e, hl]
    · rw [if_neg (fun z => e z.2), if_neg e]
      refine (h s hs).2 j ?_
      by_cases es : s = st
      · subst es
        rw [if_pos rfl] at hj'
        omega
      · rw [if_neg es] at hj'
        exact hj'
/-- the end of the class' putOne: the layer is drawn -/
noncomputable def putC (a : Int32) (s : Nat) (q : Int32 × dM) : Option dM :=
  if q.1 = (-1) then some q.2
  else
    gd (vp_in ((a * 9) + (gI q.2 61 s)) 72) <|
    some (sI (sI q.2 60 ((a * 9) + (gI q.2 61 s)).toNatClampNeg q.1) 61 s ((gI (sI q.2 60 ((a * 9) + (gI q.2 61 s)).toNatClampNeg q.1) 61 s) + 1))
theorem z_nm1 {n : Nat} (h : n < 10) : ¬ nI n = -1 := by
  revert n
  decide +kernel
theorem putC_ok {M : dM} {st n l : Nat} (hs : st < 8) (hn : n < 9) (hl : l < 10) (f : gI M 61 st = nI n) : putC (nI st) st (nI l, M) = some (sI (sI M 60 (9 * st + n) (nI l)) 61 st (nI (n + 1))) := by
  unfold putC
  have e9 : nI st * 9 = nI (st * 9) := z_mul st 9
  have ei : nI st * 9 + nI n = nI (9 * st + n) := by rw [e9, z_add, Nat.mul_comm]
  have g1 : gI (sI M 60 (9 * st + n) (nI l)) 61 st = nI n := by rw [gI_sI, if_neg (by omega)]; exact f
  rw [if_neg (z_nm1 hl)]
  show gd (vp_in ((nI st * 9) + (gI M 61 st)) 72) (some (sI (sI M 60 ((nI st * 9) + (gI M 61 st)).toNatClampNeg (nI l)) 61 st ((gI (sI M 60 ((nI st * 9) + (gI M 61 st)).toNatClampNeg (nI l)) 61 st) + 1))) = _
  rw [f, ei, z_gd (z_in (n := 9 * st + n) (by omega) (by omega)), z_cl (n := 9 * st + n) (by omega), g1]
  rw [show nI n + 1 = nI (n + 1) from z_add n 1]
theorem c_putD {A : sA} {V : wV} {M1 : dM} {st d2 v2 : Nat} (hs : st < 8) (c2 : V.2.1 st < 9) (c3 : laC A st 10 ≠ 0) (dl : f_wo_drawLayer (nI st) M1 = some (nI (klF A st (v2 % laC A st 10)), sJ M1 56 8 (lN d2))) (rV : ∀ s, s < 8 → gI M1 61 s = nI (V.2.1 s) ∧ ∀ j, j < V.2.1 s → gI M1 60 (9 * s + j) = nI (V.2.2 (9 * s + j))) (h9 : ∀ s, s < 8 → V.2.1 s ≤ 9) : ∃ M', (f_wo_drawLayer (nI st) M1).bind (putC (nI st) st) = some M' ∧ rcV (adW A st d2 v2 V) M' ∧ chS kWc M1 M' := by
  have k10 : klF A st (v2 % laC A st 10) < 10 := (klF_ok (Nat.mod_lt _ (Nat.pos_of_ne_zero c3))).1
  obtain ⟨l, hl⟩ : ∃ l, l = klF A st (v2 % laC A st 10) := ⟨_, rfl⟩
  rw [← hl] at k10 dl
  have e8' : gJ (sJ M1 56 8 (lN d2)) 56 8 = lN d2 := by rw [gJ_sJ, if_pos ⟨rfl, rfl⟩]
  have rV2 : ∀ s, s < 8 → gI (sJ M1 56 8 (lN d2)) 61 s = nI (V.2.1 s) ∧ ∀ j, j < V.2.1 s → gI (sJ M1 56 8 (lN d2)) 60 (9 * s + j) = nI (V.2.2 (9 * s + j)) := rV
  have k2 : chS kWc M1 (sJ M1 56 8 (lN d2)) := chS_sJ M1 56 8 _ rfl
  generalize sJ M1 56 8 (lN d2) = M2 at dl e8' rV2 k2
  rw [dl, Option.bind_some]
  have hp := putC_ok (st := st) (n := V.2.1 st) hs c2 k10 (rV2 st hs).1
  have hq := rcV_lay (M := M2) (sd := d2) hl e8' rV2 h9
  have kk : chS kWc M1 (sI (sI M2 60 (9 * st + V.2.1 st) (nI l)) 61 st (nI (V.2.1 st + 1))) := (k2.sI 60 _ _ rfl).sI 61 _ _ rfl
  exact ⟨_, hp, hq, kk⟩
theorem c_put {A : sA} {V : wV} {M : dM} (w : wfA A) (rc : rcA A M) (o : rcO A M) (hv : wfV A V) (rv : rcV V M) {i h : Nat} (hi : i < A 66 3) (hh : h < 24) : ∃ M', f_wo_putOne (nI i) (nI h) M = some M' ∧ rcV (ptW A i h V) M' ∧ chS kWc M M' := by
  have hal : alL A i < 16777216 := al_lt _ _ _ _
  have hL := w.1.1
  obtain ⟨p1, p2, p3, p4, p5⟩ := w.1.2 i hi
  obtain ⟨e7, e8, e9, e10⟩ := rc.1.2 i hi
  unfold f_wo_putOne ptW
  rw [z_gd (z_in (n := i) (by omega) (by omega)), z_cl (n := i) (by omega), o i hi, z_hasBit (by omega) (by omega)]
  by_cases c : (alL A i).testBit h = true
  · rw [if_pos c, if_pos c, c_draw hv.1 rv.1, Option.bind_some]
    have hd := drV_lt V.1
    have hd1 := drS_lt V.1
    have cdl := fun (M1 : dM) (rc1 : rcA A M1) (s1 : gJ M1 56 8 = lN (drS V.1)) => c_drawLayer rc1 p2 hd1 s1
    have hd2 := drV_lt (drS V.1)
    generalize drV (drS V.1) = v2 at *
    generalize drS (drS V.1) = d2 at *
    generalize drV V.1 = v1 at *
    generalize drS V.1 = d1 at *
    generalize hM1 : sJ M 56 8 (lN (d1)) = M1
    have k1 : chS kWc M M1 := by rw [← hM1]; exact chS_sJ M 56 8 _ rfl
    have rc1 := (srcA A).use rc k1 (by decide +kernel)
    have s1 : gJ M1 56 8 = lN (d1) := by rw [← hM1, gJ_sJ, if_pos ⟨rfl, rfl⟩]
    have g61 : ∀ x, gI M1 61 x = gI M 61 x := fun x => by rw [← hM1]; rfl
    have g60 : ∀ x, gI M1 60 x = gI M 60 x := fun x => by rw [← hM1]; rfl
    have q116 := (w.2.2.2.2.2.2.2.2.1 (A 69 i) p1).2
    have e58 : gI M1 58 (A 69 i) = nI (A 116 (A 69 i)) := (rc1.2.2.2.2.2.2.2.2.1 (A 69 i) p1).2
    have n9 := (hv.2 (A 70 i) p2).1
    have e61 : gI M1 61 (A 70 i) = nI (V.2.1 (A 70 i)) := (g61 _).trans (rv.2 (A 70 i) p2).1
    have stay : rcV (d1, V.2) M1 := ⟨s1, fun s hs => ⟨(g61 s).trans (rv.2 s hs).1, fun j hj => (g60 _).trans ((rv.2 s hs).2 j hj)⟩⟩
    have e7' : gI M1 7 i = nI (A 69 i) := (k1.I 7 i rfl).trans e7
    rw [e7', z_gd (z_in (n := A 69 i) (by omega) (by omega)), z_cl (n := A 69 i) (by omega), e58, e8]
    by_cases c1 : v1 < A 116 (A 69 i)
    · rw [if_neg (z_nle (by omega) (by omega) c1), z_gd (z_in (n := A 70 i) (by omega) (by omega)), z_cl (n := A 70 i) (by omega), e61]
      by_cases c2 : V.2.1 (A 70 i) < 9
      · rw [if_neg (show ¬ (9 : Int32) ≤ nI _ from z_nle (a := 9) (by decide) (by omega) c2)]
        by_cases c3 : laC A (A 70 i) 10 = 0
        · rw [cdl M1 rc1 s1, if_pos c3, Option.bind_some, if_pos rfl, if_neg (fun z => z.2.2 c3)]
          exact ⟨M1, rfl, stay, k1⟩
        · obtain ⟨M', z1, z2, z3⟩ := c_putD (A := A) (V := V) (M1 := M1) (st := A 70 i) (d2 := d2) (v2 := v2) p2 c2 c3 (by rw [cdl M1 rc1 s1, if_neg c3]) (fun s hs => ⟨(g61 s).trans (rv.2 s hs).1, fun j hj => (g60 _).trans ((rv.2 s hs).2 j hj)⟩) (fun s hs => (hv.2 s hs).1)
          rw [if_pos (show v1 < A 116 (A 69 i) ∧ V.2.1 (A 70 i) < 9 ∧ laC A (A 70 i) 10 ≠ 0 from ⟨c1, c2, c3⟩)]
          exact ⟨M', z1, z2, k1.trans z3⟩
      · rw [if_pos (show (9 : Int32) ≤ nI _ from z_yle (a := 9) (by decide) (by omega) (by omega)), if_neg (fun z => c2 z.2.1)]
        exact ⟨M1, rfl, stay, k1⟩
    · rw [if_pos (z_yle (by omega) (by omega) (by omega)), if_neg (fun z => c1 z.1)]
      exact ⟨M1, rfl, stay, k1⟩
  · rw [if_neg c, if_neg c]
    exact ⟨M, rfl, rv, chS.refl _ _⟩
