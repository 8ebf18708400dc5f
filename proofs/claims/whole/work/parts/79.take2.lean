/-! ===== worlds: the class judges what is found ===== -/
def gwF (A : sA) (i h l ms st fi : Nat) : Nat → Int32 := fun k => nI (gfc A (A 70 i) (A 71 i) h (A 69 i) l ms st fi 0 k)
theorem pre_has {A : sA} {i h : Nat} (hi : i < A 66 3) (h1 : A 72 i ≤ h) (h2 : h ≤ A 73 i) : (pre A (A 70 i) (A 71 i) h).testBit (A 69 i) = true := by
  refine (prs_bit (A := A) (A 70 i) (A 71 i) h (A 69 i) (A 66 3)).mpr ⟨i, hi, ?_, rfl⟩
  unfold atL
  simp [h1, h2]
theorem c_judgeFound {A : sA} {Q : sQ} {v : Nat → Nat} {M : dM} (w : wfA A) (rc : rcA A M) (o : rcO A M) (wq : wQ Q v) (cw : rcW Q v M) {i h l ms st g : Nat} (hi : i < A 66 3) (hh : h < 24) (h1 : A 72 i ≤ h) (h2 : h ≤ A 73 i) (hl : l < 10) (ht : A 67 (10 * A 70 i + l) ≠ 0) (hms : ms < 256) (hg : g ≤ 10000) : ∃ M', f_ju_judgeFound (nI i) (nI h) (nI l) (nI ms) (nI st) (ageI g) M = some (nI (jdg Q (gwF A i h l ms st (if g < A 67 (10 * A 70 i + l) then 1 else 0))), M') ∧ chS [31, 40] M M' ∧ ∀ j, j < 680 → gI M' 40 j = gI M 40 j := by
  have hL := w.1.1
  obtain ⟨p1, p2, p3, p4, p5⟩ := w.1.2 i hi
  obtain ⟨e7, e8, e9, e10⟩ := rc.1.2 i hi
  obtain ⟨M1, a1, a2, a3, a4, a5, a6, a7⟩ := c_place (base := 680) w.1 rc.1 o (by omega) p2 p3 hh p1 (pre_has hi h1 h2)
  have rc1 := (srcA A).use rc a7 (by decide +kernel)
  obtain ⟨M2, b1, b2, b3, b4, b5, b6, b7⟩ := c_thing (base := 680) (g := g) w.2.1 rc1.2.1 (by omega) p2 hl hms ht hg
  have c3 : chS [40] M2 (sI (sI M2 40 691 (nI st)) 40 696 0) := ((chS.refl _ M2).sI 40 _ _ rfl).sI 40 _ _ rfl
  have g3 : ∀ j, gI (sI (sI M2 40 691 (nI st)) 40 696 0) 40 j = if j = 696 then 0 else if j = 691 then nI st else gI M2 40 j := fun j => by
    rw [gI_sI, gI_sI]
    simp only [true_and]
  generalize hM3 : sI (sI M2 40 691 (nI st)) 40 696 0 = M3 at c3 g3
  have c13 := (a7.trans b7).trans c3
  obtain ⟨M4, d1, d2⟩ := c_judgeBy (base := 680) wq ((srcW Q v).use cw c13 (by decide)) (by omega)
  have row : ∀ k, k < 17 → vC40 M3 680 k = gwF A i h l ms st (if g < A 67 (10 * A 70 i + l) then 1 else 0) k := fun k hk => by
    show gI M3 40 (680 + k) = _
    rw [g3]
    unfold gwF gfc
    by_cases k16 : k = 16
    · subst k16
      rfl
    rw [if_neg (by omega)]
    by_cases k11 : k = 11
    · subst k11
      rfl
    rw [if_neg (by omega)]
    by_cases k8 : k < 8
    · rw [if_pos k8]; exact b2 k k8
    rw [if_neg k8]
    by_cases d8 : k = 8
    · subst d8; rw [if_pos rfl]; exact b3
    rw [if_neg d8]
    by_cases d9 : k = 9
    · subst d9; rw [if_pos rfl]; exact b4
    rw [if_neg d9]
    by_cases d10 : k = 10
    · subst d10; rw [if_pos rfl, b6 _ (by omega) (by omega)]; exact a2
    rw [if_neg d10, if_neg k11]
    by_cases d12 : k = 12
    · subst d12
      rw [if_pos rfl]
      exact b5
    rw [if_neg d12]
    by_cases d13 : k = 13
    · subst d13; rw [if_pos rfl, b6 _ (by omega) (by omega)]; exact a3
    rw [if_neg d13]
    by_cases d14 : k = 14
    · subst d14; rw [if_pos rfl, b6 _ (by omega) (by omega)]; exact a4
    rw [if_neg d14]
    have d15 : k = 15 := by omega
    subst d15
    rw [if_pos rfl, b6 _ (by omega) (by omega)]
    exact a5
  refine ⟨M4, ?_, (c13.mono (by decide)).trans (d2.mono (by decide)), fun j hj => ?_⟩
  · unfold f_ju_judgeFound
    rw [z_gd (z_in (n := i) (by omega) (by omega)), z_cl (n := i) (by omega), e7, e8, e9, show (680 : Int32) = nI 680 from rfl, a1, Option.bind_some, b1, Option.bind_some]
    show (f_la_judgeBy (nI 680) (sI (sI M2 40 691 (nI st)) 40 696 0)).bind _ = _
    rw [hM3, d1, Option.bind_some, jdg_cong wq row]
  · rw [d2.I 40 j rfl, g3, if_neg (by omega), if_neg (by omega), b6 j (by omega) (by omega), a6 j (by omega)]
/-! ===== the thing in one int ===== -/
theorem or_add {a b k : Nat} (h : a < 2 ^ k) : a ||| b * 2 ^ k = a + b * 2 ^ k := by
  have := Nat.two_pow_add_eq_or_of_lt h b
  rw [Nat.or_comm, Nat.mul_comm b, ← this]
  omega
theorem z_packT (e : Nat → Nat) (he : wfE1 e) : (((((nI (e 0) ||| (nI (e 1) <<< ((1 : Int32) &&& 31))) ||| (nI (e 2) <<< ((9 : Int32) &&& 31))) ||| (nI (e 3) <<< ((13 : Int32) &&& 31))) ||| (nI (e 4) <<< ((17 : Int32) &&& 31))) ||| (nI (e 5) <<< ((24 : Int32) &&& 31))) = nI (pkT e) := by
  obtain ⟨h0, h1, h2, h3, h4, h5, h6, h7⟩ := he
  rw [show nI (e 1) <<< ((1 : Int32) &&& 31) = nI (e 1 * 2 ^ 1) from z_shl (k := 1) (by decide) (by omega), show nI (e 2) <<< ((9 : Int32) &&& 31) = nI (e 2 * 2 ^ 9) from z_shl (k := 9) (by decide) (by omega), show nI (e 3) <<< ((13 : Int32) &&& 31) = nI (e 3 * 2 ^ 13) from z_shl (k := 13) (by decide) (by omega), show nI (e 4) <<< ((17 : Int32) &&& 31) = nI (e 4 * 2 ^ 17) from z_shl (k := 17) (by decide) (by omega), show nI (e 5) <<< ((24 : Int32) &&& 31) = nI (e 5 * 2 ^ 24) from z_shl (k := 24) (by decide) (by omega)]
  rw [z_or, or_add (by omega), z_or, or_add (by omega), z_or, or_add (by omega), z_or, or_add (by omega), z_or, or_add (by omega)]
  unfold pkT
  congr 1
  omega
