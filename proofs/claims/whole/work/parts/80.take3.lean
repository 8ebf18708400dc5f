/-! ===== worlds: the class takes a thing ===== -/
noncomputable def enT (A : sA) (Q : sQ) (i h l p s g : Nat) : Nat → Nat := fun j =>
  if j = 0 then p else if j = 1 then mkN A p s else if j = 2 then l else if j = 3 then A 69 i
  else if j = 4 then drV (dI s 8) * 10 + drV (drS (dI s 8))
  else if j = 5 then jdg Q (gwF A i h l (mkN A p s) (drV (dI s 8) * 10 + drV (drS (dI s 8))) (if g < A 67 (10 * A 70 i + l) then 1 else 0))
  else A 67 (10 * A 70 i + l)
theorem enT_wf {A : sA} {Q : sQ} (w : wfA A) {i h l p s g : Nat} (hi : i < A 66 3) (hl : l < 10) (hp : p < 2) (ht : A 67 (10 * A 70 i + l) ≠ 0) : wfE1 (enT A Q i h l p s g) := by
  obtain ⟨p1, p2, p3, p4, p5⟩ := w.1.2 i hi
  have hag := (w.2.1.1 (10 * A 70 i + l) (by omega)).1
  have h1 := drV_lt (dI s 8)
  have h2 := drV_lt (drS (dI s 8))
  refine ⟨hp, mkN_lt A p s, hl, p1, ?_, jdg_lt Q _, ?_, ?_⟩
  · show drV (dI s 8) * 10 + drV (drS (dI s 8)) < 100
    omega
  · show 1 ≤ A 67 (10 * A 70 i + l)
    omega
  · exact hag
/-- the thing is put into its row -/
theorem c_t183 {e : Nat → Nat} {n : Nat} {M : dM} (he : wfE1 e) (hn : n < 1920) (h10 : gI M 56 10 = nI n) : t_wo_take_183 (nI (e 2)) (nI (e 1)) (nI (e 4)) (nI (e 5)) (nI (e 3)) (gI M 56 10) (nI (e 0)) M = some (sI (sI M 62 n (nI (pkT e))) 56 10 (nI (n + 1))) := by
  unfold t_wo_take_183
  rw [z_packT e he, h10, z_gd (z_in (n := n) (by omega) (by omega)), z_cl (n := n) (by omega)]
  have g1 : gI (sI M 62 n (nI (pkT e))) 56 10 = nI n := by rw [gI_sI, if_neg (by omega)]; exact h10
  rw [g1, show nI n + 1 = nI (n + 1) from z_add n 1]
/-- the cells of what is found, when one more is found -/
theorem rcU_a {T : thT} {n : Nat} {e : Nat → Nat} {M M5 M6 : dM} (h : rcU T n M) (k5 : ∀ k, gI M5 62 k = gI M 62 k) (h13 : gI M5 56 13 = ageI (if gmT T n < e 6 then e 6 else gmT T n)) (h64 : ∀ b, gI M5 64 b = if b = e 3 then nI (hcN T b n + 1) else gI M 64 b) (h63 : ∀ j, j < 14 → gI M6 63 j = gI M 63 j + sTy e j) (c6 : chS [63] M5 M6) : rcU (adT e n T) (n + 1) (sI (sI M6 62 n (nI (pkT e))) 56 10 (nI (n + 1))) := by
  obtain ⟨r1, r2, r3, r4, r5⟩ := h
  refine ⟨by rw [gI_sI, if_pos ⟨rfl, rfl⟩], ?_, fun k hk => ?_, fun j hj => ?_, fun b hb => ?_⟩
  · rw [gI_sI, if_neg (by omega), gI_sI, if_neg (by omega), c6.I 56 13 rfl, h13, gmT_a]
  · rw [gI_sI, if_neg (by omega), gI_sI]
    by_cases c : k = n
    · subst c
      rw [if_pos ⟨rfl, rfl⟩, adT_n]
    · rw [if_neg (fun z => c z.2), adT_k c, c6.I 62 k rfl, k5]
      exact r3 k (by omega)
  · rw [gI_sI, if_neg (by omega), gI_sI, if_neg (by omega), h63 j hj, r4 j hj, tyI_a]
  · rw [gI_sI, if_neg (by omega), gI_sI, if_neg (by omega), c6.I 64 b rfl, h64, hcN_a]
    by_cases c : b = e 3
    · rw [if_pos c, if_pos c.symm]
    · rw [if_neg c, if_neg (fun z => c z.symm)]
      exact r5 b hb
theorem ageI_max {a g : Nat} (ha : a ≤ 10000) (h1 : a ≠ 0) (hg : g ≤ 10000) : (if ageI g < nI (a - 1) then nI (a - 1) else ageI g) = ageI (if g < a then a else g) := by
  have e : ageI a = nI (a - 1) := ageI_pos h1
  by_cases g0 : g = 0
  · subst g0
    rw [if_pos (show ageI 0 < nI (a - 1) from ?_), if_pos (by omega), e]
    have : ageI 0 = -1 := rfl
    rw [this, fa_lt, nI_toInt (by omega)]
    have : (-1 : Int32).toInt = -1 := rfl
    omega
  · rw [ageI_pos g0]
    by_cases c : g < a
    · rw [if_pos (by rw [z_lt (by omega) (by omega)]; omega), if_pos c, e]
    · rw [if_neg (by rw [z_lt (by omega) (by omega)]; omega), if_neg c, ageI_pos g0]
def kTq : List Nat := [6608, 6610, 6613, 31, 40, 62, 63, 64]
noncomputable def tkX (A : sA) (Q : sQ) (i h l p : Nat) (X : wX) : wX :=
  ((drS (drS (dI X.1.1 8)), X.1.2), X.2.1 + 1, adT (enT A Q i h l p X.1.1 (gmT X.2.2 X.2.1)) X.2.1 X.2.2)
def wfX (A : sA) (X : wX) : Prop := wfV A X.1 ∧ wfU X.2.2 X.2.1
def rcX (X : wX) (M : dM) : Prop := rcV X.1 M ∧ rcU X.2.2 X.2.1 M
theorem tkX_wf {A : sA} {Q : sQ} (w : wfA A) {X : wX} (hX : wfX A X) {i h l p : Nat} (hi : i < A 66 3) (hl : l < 10) (hp : p < 2) (ht : A 67 (10 * A 70 i + l) ≠ 0) : wfX A (tkX A Q i h l p X) :=
  ⟨⟨drS_lt _, hX.1.2⟩, wfU_a hX.2 (enT_wf w hi hl hp ht)⟩
theorem c_takeT {A : sA} {Q : sQ} {v : Nat → Nat} {X : wX} {M : dM} (w : wfA A) (rc : rcA A M) (o : rcO A M) (wq : wQ Q v) (cw : rcW Q v M) (hX : wfX A X) (rx : rcX X M) {i h l p : Nat} (hi : i < A 66 3) (hh : h < 24) (h1 : A 72 i ≤ h) (h2 : h ≤ A 73 i) (hl : l < 10) (ht : A 67 (10 * A 70 i + l) ≠ 0) (hp : p < 2) (hn : X.2.1 < 1920) : ∃ M', f_wo_take (nI i) (nI h) (nI l) (nI p) M = some M' ∧ rcX (tkX A Q i h l p X) M' ∧ chS kTq M M' ∧ ∀ j, j < 680 → gI M' 40 j = gI M 40 j := by
  obtain ⟨⟨s, V⟩, n, T⟩ := X
  obtain ⟨⟨hs, hV⟩, hU⟩ := hX
  obtain ⟨⟨r8, rV⟩, rU⟩ := rx
  have hn : n < 1920 := hn
  have hs : s < 2147483648 := hs
  have hU : wfU T n := hU
  have hL := w.1.1
  obtain ⟨p1, p2, p3, p4, p5⟩ := w.1.2 i hi
  have hag := (w.2.1.1 (10 * A 70 i + l) (by omega)).1
  have hg : gmT T n ≤ 10000 := gmT_le hU
  have he := enT_wf (Q := Q) (h := h) (s := s) (g := gmT T n) w hi hl hp ht
  obtain ⟨M1, a1, a2, a3⟩ := c_marks (i := i) (h := h) (l := l) w.2.2.2.2.2.2.2.2 rc.2.2.2.2.2.2.2.2 hp hs r8
  have hd8 := dI_lt hs 8
  have k3 : chS [6608] M (sJ (sJ M1 56 8 (lN (drS (dI s 8)))) 56 8 (lN (drS (drS (dI s 8))))) := (a3.sJ 56 8 _ rfl).sJ 56 8 _ rfl
  have b1 := c_draw hd8 a2
  have b2 := c_draw (M := sJ M1 56 8 (lN (drS (dI s 8)))) (drS_lt (dI s 8)) (by rw [gJ_sJ, if_pos ⟨rfl, rfl⟩])
  have s3 : gJ (sJ (sJ M1 56 8 (lN (drS (dI s 8)))) 56 8 (lN (drS (drS (dI s 8))))) 56 8 = lN (drS (drS (dI s 8))) := by rw [gJ_sJ, if_pos ⟨rfl, rfl⟩]
  generalize hM3 : sJ (sJ M1 56 8 (lN (drS (dI s 8)))) 56 8 (lN (drS (drS (dI s 8)))) = M3 at b2 k3 s3
  have rc3 := (srcA A).use rc k3 (by decide +kernel)
  have o3 : rcO A M3 := fun k hk => (k3.I 11 k rfl).trans (o k hk)
  have cw3 := (srcW Q v).use cw k3 (by decide)
  have e13 : gI M3 56 13 = ageI (gmT T n) := (k3.I 56 13 rfl).trans rU.2.1
  obtain ⟨M4, c1, c2, c3⟩ := c_judgeFound (st := drV (dI s 8) * 10 + drV (drS (dI s 8))) w rc3 o3 wq cw3 hi hh h1 h2 hl ht (mkN_lt A p s) hg
  have rc4 := (srcA A).use rc3 c2 (by decide +kernel)
  obtain ⟨e7, e8, e9, e10⟩ := rc4.1.2 i hi
  have eA : f_si_ageOf (nI (A 70 i)) (nI l) M4 = some (nI (A 67 (10 * A 70 i + l) - 1)) := by
    unfold f_si_ageOf
    rw [show nI (A 70 i) * 10 = nI (A 70 i * 10) from z_mul _ 10, z_add, z_gd (z_in (n := A 70 i * 10 + l) (by omega) (by omega)), z_cl (n := A 70 i * 10 + l) (by omega), show A 70 i * 10 + l = 10 * A 70 i + l by omega, (rc4.2.1.2.1 (10 * A 70 i + l) (by omega)).1 ht]
  have e13' : gI M4 56 13 = ageI (gmT T n) := (c2.I 56 13 rfl).trans e13
  have e64 : ∀ b, b < 10 → gI M4 64 b = nI (hcN T b n) := fun b hb => (c2.I 64 b rfl).trans ((k3.I 64 b rfl).trans (rU.2.2.2.2 b hb))
  have g64 : gI (sI M4 56 13 (ageI (if gmT T n < A 67 (10 * A 70 i + l) then A 67 (10 * A 70 i + l) else gmT T n))) 64 (A 69 i) = nI (hcN T (A 69 i) n) := by
    rw [gI_sI, if_neg (by omega)]
    exact e64 _ p1
  generalize hM5 : sI (sI M4 56 13 (ageI (if gmT T n < A 67 (10 * A 70 i + l) then A 67 (10 * A 70 i + l) else gmT T n))) 64 (A 69 i) (nI (hcN T (A 69 i) n + 1)) = M5
  have c5 : chS [6613, 64] M4 M5 := by rw [← hM5]; exact ((chS.refl _ M4).sI 56 13 _ rfl).sI 64 _ _ rfl
  obtain ⟨M6, d1, d2, d3⟩ := c_tally (enT A Q i h l p s (gmT T n)) he.1 he.2.1 he.2.2.2.2.2.1 M5
  have e10' : gI M6 56 10 = nI n := (d3.I 56 10 rfl).trans ((c5.I 56 10 rfl).trans ((c2.I 56 10 rfl).trans ((k3.I 56 10 rfl).trans rU.1)))
  have fin := c_t183 he hn e10'
  have hR : f_wo_take (nI i) (nI h) (nI l) (nI p) M = some (sI (sI M6 62 n (nI (pkT (enT A Q i h l p s (gmT T n))))) 56 10 (nI (n + 1))) := by
    unfold f_wo_take
    rw [a1, Option.bind_some, b1, Option.bind_some, b2, Option.bind_some]
    show ((f_ju_judgeFound (nI i) (nI h) (nI l) (nI (mkN A p s)) (nI (drV (dI s 8)) * 10 + nI (drV (drS (dI s 8)))) (gI M3 56 13) M3).bind _) = _
    rw [show nI (drV (dI s 8)) * 10 = nI (drV (dI s 8) * 10) from z_mul _ 10, z_add, e13, c1, Option.bind_some, z_gd (z_in (n := i) (by omega) (by omega)), z_cl (n := i) (by omega), e8, eA, Option.bind_some, e7, z_gd (z_in (n := A 69 i) (by omega) (by omega)), z_cl (n := A 69 i) (by omega), e13', ageI_max hag ht hg, g64, show nI (hcN T (A 69 i) n) + 1 = nI (hcN T (A 69 i) n + 1) from z_add _ 1, hM5]
    show ((f_wo_addToTally (nI (enT A Q i h l p s (gmT T n) 1)) (nI (enT A Q i h l p s (gmT T n) 5)) (nI (enT A Q i h l p s (gmT T n) 0)) M5).bind _) = _
    rw [d1, Option.bind_some, if_neg (show ¬ (1920 : Int32) ≤ gI M6 56 10 from by rw [e10']; exact z_nle (a := 1920) (by decide) (by omega) hn)]
    by_cases c : p = 0
    · have c' : enT A Q i h l p s (gmT T n) 0 = 0 := c
      rw [if_pos (show nI p = (0 : Int32) from by rw [c]; rfl)]
      rw [c'] at fin
      exact fin
    · have c' : enT A Q i h l p s (gmT T n) 0 = 1 := by show p = 1; omega
      rw [if_neg (show ¬ nI p = (0 : Int32) from z_ne (b := 0) (by omega) (by decide) c)]
      rw [c'] at fin
      exact fin
  have k35 : chS kTq M M6 := (((k3.mono (by decide)).trans (c2.mono (by decide))).trans (c5.mono (by decide))).trans (d3.mono (by decide))
  refine ⟨_, hR, ⟨⟨?_, ?_⟩, rcU_a rU (fun k => ?_) ?_ (fun b => ?_) (fun j hj => ?_) d3⟩, (k35.sI 62 _ _ rfl).sI 56 10 _ rfl, fun j hj => ?_⟩
  · show gJ M6 56 8 = lN (drS (drS (dI s 8)))
    rw [d3.J 56 8 rfl, c5.J 56 8 rfl, c2.J 56 8 rfl, s3]
  · intro x hx
    have q61 : ∀ j, gI (sI (sI M6 62 n (nI (pkT (enT A Q i h l p s (gmT T n))))) 56 10 (nI (n + 1))) 61 j = gI M 61 j := fun j => by
      rw [gI_sI, if_neg (by omega), gI_sI, if_neg (by omega), k35.I 61 j rfl]
    have q60 : ∀ j, gI (sI (sI M6 62 n (nI (pkT (enT A Q i h l p s (gmT T n))))) 56 10 (nI (n + 1))) 60 j = gI M 60 j := fun j => by
      rw [gI_sI, if_neg (by omega), gI_sI, if_neg (by omega), k35.I 60 j rfl]
    exact ⟨(q61 x).trans (rV x hx).1, fun j hj => (q60 _).trans ((rV x hx).2 j hj)⟩
  · rw [c5.I 62 k rfl, c2.I 62 k rfl, k3.I 62 k rfl]
  · rw [← hM5, gI_sI, if_neg (by omega), gI_sI, if_pos ⟨rfl, rfl⟩]
    rfl
  · rw [← hM5, gI_sI]
    show _ = if b = A 69 i then nI (hcN T b n + 1) else gI M 64 b
    by_cases c : b = A 69 i
    · rw [if_pos ⟨rfl, c⟩, if_pos c, c]
    · rw [if_neg (fun z : 64 = 64 ∧ b = A 69 i => c z.2), if_neg c, gI_sI, if_neg (by omega), c2.I 64 b rfl, k3.I 64 b rfl]
  · rw [d2 j hj, c5.I 63 j rfl, c2.I 63 j rfl, k3.I 63 j rfl]
  · rw [gI_sI, if_neg (by omega), gI_sI, if_neg (by omega), d3.I 40 j rfl, c5.I 40 j rfl, c3 j hj, k3.I 40 j rfl]
