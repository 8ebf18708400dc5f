/-! ===== found ===== -/
theorem z_mask (a k : Nat) : nI a &&& nI (2 ^ k - 1) = nI (a % 2 ^ k) := fa_mask a k
theorem c_partOf {T : thT} {n k q : Nat} {M : dM} (hU : wfU T n) (hn : n ≤ 1920) (r : rcU T n M) (hk : k < n) (hq : q < 6) : f_wo_partOf (nI k) (nI q) M = some (nI (T k q)) := by
  obtain ⟨q0, q1, q2, q3, q4, q5, q6, q7⟩ := hU k hk
  have hp : pkT (T k) < 2147483648 := by unfold pkT; omega
  have g := r.2.2.1 k hk
  have e0 : pkT (T k) % 2 ^ 1 = T k 0 := by unfold pkT; omega
  have e1 : pkT (T k) / 2 ^ 1 % 2 ^ 8 = T k 1 := by unfold pkT; omega
  have e2 : pkT (T k) / 2 ^ 9 % 2 ^ 4 = T k 2 := by unfold pkT; omega
  have e3 : pkT (T k) / 2 ^ 13 % 2 ^ 4 = T k 3 := by unfold pkT; omega
  have e4 : pkT (T k) / 2 ^ 17 % 2 ^ 7 = T k 4 := by unfold pkT; omega
  have e5 : pkT (T k) / 2 ^ 24 % 2 ^ 2 = T k 5 := by unfold pkT; omega
  have s1 : nI (pkT (T k)) >>> ((1 : Int32) &&& 31) = nI (pkT (T k) / 2 ^ 1) := z_shr (k := 1) (by decide) hp
  have s9 : nI (pkT (T k)) >>> ((9 : Int32) &&& 31) = nI (pkT (T k) / 2 ^ 9) := z_shr (k := 9) (by decide) hp
  have s13 : nI (pkT (T k)) >>> ((13 : Int32) &&& 31) = nI (pkT (T k) / 2 ^ 13) := z_shr (k := 13) (by decide) hp
  have s17 : nI (pkT (T k)) >>> ((17 : Int32) &&& 31) = nI (pkT (T k) / 2 ^ 17) := z_shr (k := 17) (by decide) hp
  have s24 : nI (pkT (T k)) >>> ((24 : Int32) &&& 31) = nI (pkT (T k) / 2 ^ 24) := z_shr (k := 24) (by decide) hp
  have m0 : nI (pkT (T k)) &&& (1 : Int32) = nI (T k 0) := (z_mask _ 1).trans (by rw [e0])
  have m1 : nI (pkT (T k) / 2 ^ 1) &&& (255 : Int32) = nI (T k 1) := (z_mask _ 8).trans (by rw [e1])
  have m2 : nI (pkT (T k) / 2 ^ 9) &&& (15 : Int32) = nI (T k 2) := (z_mask _ 4).trans (by rw [e2])
  have m3 : nI (pkT (T k) / 2 ^ 13) &&& (15 : Int32) = nI (T k 3) := (z_mask _ 4).trans (by rw [e3])
  have m4 : nI (pkT (T k) / 2 ^ 17) &&& (127 : Int32) = nI (T k 4) := (z_mask _ 7).trans (by rw [e4])
  have m5 : nI (pkT (T k) / 2 ^ 24) &&& (3 : Int32) = nI (T k 5) := (z_mask _ 2).trans (by rw [e5])
  have d : q = 0 ∨ q = 1 ∨ q = 2 ∨ q = 3 ∨ q = 4 ∨ q = 5 := by omega
  unfold f_wo_partOf
  rw [z_gd (z_in (n := k) (by omega) (by omega)), z_cl (n := k) (by omega), g, s1, s9, s13, s17, s24, m0, m1, m2, m3, m4, m5]
  rcases d with rfl | rfl | rfl | rfl | rfl | rfl
  · rw [if_pos (show nI 0 = (0 : Int32) from rfl)]
  · rw [if_neg (show ¬ nI 1 = (0 : Int32) from by decide), if_pos (show nI 1 = (1 : Int32) from rfl)]
  · rw [if_neg (show ¬ nI 2 = (0 : Int32) from by decide), if_neg (show ¬ nI 2 = (1 : Int32) from by decide), if_pos (show nI 2 = (2 : Int32) from rfl)]
  · rw [if_neg (show ¬ nI 3 = (0 : Int32) from by decide), if_neg (show ¬ nI 3 = (1 : Int32) from by decide), if_neg (show ¬ nI 3 = (2 : Int32) from by decide), if_pos (show nI 3 = (3 : Int32) from rfl)]
  · rw [if_neg (show ¬ nI 4 = (0 : Int32) from by decide), if_neg (show ¬ nI 4 = (1 : Int32) from by decide), if_neg (show ¬ nI 4 = (2 : Int32) from by decide), if_neg (show ¬ nI 4 = (3 : Int32) from by decide), if_pos (show nI 4 = (4 : Int32) from rfl)]
  · rw [if_neg (show ¬ nI 5 = (0 : Int32) from by decide), if_neg (show ¬ nI 5 = (1 : Int32) from by decide), if_neg (show ¬ nI 5 = (2 : Int32) from by decide), if_neg (show ¬ nI 5 = (3 : Int32) from by decide), if_neg (show ¬ nI 5 = (4 : Int32) from by decide)]
theorem m_part {T : thT} {n k q : Nat} {M : dM} (hU : wfU T n) (hn : n ≤ 1920) (r : rmU T n M) (hk : k < n) (hq : q < 6) : (if nI q = 0 then gd (vp_in (nI k) 1920) <| if gI M 122 (nI k).toNatClampNeg = 0 then some ((0 : Int32), M) else some (1, M) else if nI q = 1 then gd (vp_in (nI k) 1920) <| some (gI M 123 (nI k).toNatClampNeg, M) else if nI q = 2 then gd (vp_in (nI k) 1920) <| some (gI M 124 (nI k).toNatClampNeg, M) else if nI q = 3 then gd (vp_in (nI k) 1920) <| some (gI M 125 (nI k).toNatClampNeg, M) else if nI q = 4 then gd (vp_in (nI k) 1920) <| some (gI M 126 (nI k).toNatClampNeg, M) else gd (vp_in (nI k) 1920) <| some (gI M 128 (nI k).toNatClampNeg, M)) = some (nI (T k q), M) := by
  obtain ⟨q0, q1, q2, q3, q4, q5, q6, q7⟩ := hU k hk
  obtain ⟨a0, a1, a2, a3, a4, a5, a6⟩ := r.2 k hk
  have d : q = 0 ∨ q = 1 ∨ q = 2 ∨ q = 3 ∨ q = 4 ∨ q = 5 := by omega
  rw [z_gd (z_in (n := k) (by omega) (by omega)), z_gd (z_in (n := k) (by omega) (by omega)), z_gd (z_in (n := k) (by omega) (by omega)), z_gd (z_in (n := k) (by omega) (by omega)), z_gd (z_in (n := k) (by omega) (by omega)), z_gd (z_in (n := k) (by omega) (by omega)), z_cl (n := k) (by omega), a0, a1, a2, a3, a4, a6]
  rcases d with rfl | rfl | rfl | rfl | rfl | rfl
  · rw [if_pos (show nI 0 = (0 : Int32) from rfl)]
    by_cases c : T k 0 = 0
    · rw [if_pos (show nI (T k 0) = (0 : Int32) from by rw [c]; rfl), c]; rfl
    · rw [if_neg (show ¬ nI (T k 0) = (0 : Int32) from z_ne (b := 0) (by omega) (by decide) c), show T k 0 = 1 by omega]; rfl
  · rw [if_neg (show ¬ nI 1 = (0 : Int32) from by decide), if_pos (show nI 1 = (1 : Int32) from rfl)]
  · rw [if_neg (show ¬ nI 2 = (0 : Int32) from by decide), if_neg (show ¬ nI 2 = (1 : Int32) from by decide), if_pos (show nI 2 = (2 : Int32) from rfl)]
  · rw [if_neg (show ¬ nI 3 = (0 : Int32) from by decide), if_neg (show ¬ nI 3 = (1 : Int32) from by decide), if_neg (show ¬ nI 3 = (2 : Int32) from by decide), if_pos (show nI 3 = (3 : Int32) from rfl)]
  · rw [if_neg (show ¬ nI 4 = (0 : Int32) from by decide), if_neg (show ¬ nI 4 = (1 : Int32) from by decide), if_neg (show ¬ nI 4 = (2 : Int32) from by decide), if_neg (show ¬ nI 4 = (3 : Int32) from by decide), if_pos (show nI 4 = (4 : Int32) from rfl)]
  · rw [if_neg (show ¬ nI 5 = (0 : Int32) from by decide), if_neg (show ¬ nI 5 = (1 : Int32) from by decide), if_neg (show ¬ nI 5 = (2 : Int32) from by decide), if_neg (show ¬ nI 5 = (3 : Int32) from by decide), if_neg (show ¬ nI 5 = (4 : Int32) from by decide)]
theorem op_found {A : sA} {Q : sQ} {v : Nat → Nat} {M : dM} (h : IV A Q v M) (wc : wC1 A Q M) (x k y : Int32) : opV kWo1 A Q v M (fun b M2 => (∃ M1, f_ax_found x k y M = some (b, M1) ∧ f_mo_found x k y M1 = some (b, M2)) ∧ wC1 A Q M2) := by
  have wc0 : wC1 A Q (sI M 66 0 0) := (swC1 A Q).use wc (chS_sI (S := [7600]) M 66 0 0 rfl) (by decide)
  have exx : f_mo_within x 0 9999 = f_ax_within x 10000 := z_mw0 x (n := 9999) (by decide)
  have eyy : f_mo_within y 0 5 = f_ax_within y 6 := z_mw0 y (n := 5) (by decide)
  rcases z_range x 10000 (by decide) with zx | ⟨s, hs, rfl⟩
  · have zx' : f_ax_within x 10000 = false := zx
    refine opV_no rfl h (x := 0) (b := -1) ⟨⟨M, ?_, ?_⟩, wc0⟩
    · unfold f_ax_found
      rw [if_neg (by rw [zx']; exact Bool.false_ne_true)]
    · unfold f_mo_found
      rw [exx, if_neg (by rw [zx']; exact Bool.false_ne_true)]
  have tx : f_ax_within (nI s) 10000 = true := by rw [show (10000 : Int32) = nI 10000 from rfl, z_within (by omega) (by omega)]; simp [hs]
  rcases z_range y 6 (by decide) with zy | ⟨q, hq, rfl⟩
  · have zy' : f_ax_within y 6 = false := zy
    refine opV_no rfl h (x := 0) (b := -1) ⟨⟨M, ?_, ?_⟩, wc0⟩
    · unfold f_ax_found
      rw [if_pos tx, if_neg (by rw [zy']; exact Bool.false_ne_true)]
    · unfold f_mo_found
      rw [exx, eyy, if_pos tx]
      by_cases c : k < 0
      · rw [if_pos c]
      · rw [if_neg c, if_neg (by rw [zy']; exact Bool.false_ne_true)]
  have ty : f_ax_within (nI q) 6 = true := by rw [show (6 : Int32) = nI 6 from rfl, z_within (by omega) (by omega)]; simp [hq]
  obtain ⟨M1, M2, a1, b1, r1, r2, wf, hn, i2, wc2, c2⟩ := iv_both h wc hs
  have hax : f_ax_found (nI s) k (nI q) M = if (f_ax_within k (gI M1 56 10)) = true then (f_wo_partOf k (nI q) M1).bind fun v3 => some (v3, M1) else some (-1, M1) := by
    unfold f_ax_found
    rw [if_pos tx, if_pos ty, a1, Option.bind_some]
  by_cases kn : k < 0
  · obtain ⟨N1, d1, d2, d3, d4, d5⟩ := iv_live h wc hs
    have e : N1 = M1 := Option.some.inj (d1.symm.trans a1)
    subst e
    have c0 : chS [7600] N1 (sI N1 66 0 0) := chS_sI N1 66 0 0 rfl
    refine ⟨-1, sI N1 66 0 0, ⟨⟨N1, ?_, ?_⟩, (swC1 A Q).use d4 c0 (by decide)⟩, iv_0 d3 0, (d5.mono (by decide)).trans (c0.mono (by decide))⟩
    · rw [hax, if_neg]
      unfold f_ax_within
      rw [if_pos kn]
      exact Bool.false_ne_true
    · unfold f_mo_found
      rw [exx, if_pos tx, if_pos kn]
  have hmo : f_mo_found (nI s) k (nI q) M1 = if k < (gI M2 66 88) then (if nI q = 0 then gd (vp_in k 1920) <| if gI M2 122 k.toNatClampNeg = 0 then some ((0 : Int32), M2) else some (1, M2) else if nI q = 1 then gd (vp_in k 1920) <| some (gI M2 123 k.toNatClampNeg, M2) else if nI q = 2 then gd (vp_in k 1920) <| some (gI M2 124 k.toNatClampNeg, M2) else if nI q = 3 then gd (vp_in k 1920) <| some (gI M2 125 k.toNatClampNeg, M2) else if nI q = 4 then gd (vp_in k 1920) <| some (gI M2 126 k.toNatClampNeg, M2) else gd (vp_in k 1920) <| some (gI M2 128 k.toNatClampNeg, M2)) else some (-1, M2) := by
    unfold f_mo_found
    rw [exx, eyy, if_pos tx, if_neg kn, if_pos ty, b1, Option.bind_some]
  generalize uX A Q s = X at r1 r2 wf hn
  obtain ⟨V, n, T⟩ := X
  have g10 : gI M1 56 10 = nI n := r1.2.1
  have g88 : gI M2 66 88 = nI n := r2.2.1
  have hn' : n ≤ 1920 := hn
  rcases z_range k n (by omega) with zk | ⟨j, hj, rfl⟩
  · have nlt : ¬ k < nI n := fun z => by
      unfold f_ax_within at zk
      rw [if_neg kn] at zk
      by_cases c : nI n ≤ k
      · rw [fa_le] at c
        rw [fa_lt] at z
        omega
      · rw [if_neg c] at zk
        cases zk
    refine ⟨-1, M2, ⟨⟨M1, ?_, ?_⟩, wc2⟩, i2, c2⟩
    · rw [hax, g10, if_neg (by rw [zk]; exact Bool.false_ne_true)]
    · rw [hmo, g88, if_neg nlt]
  · have tk : f_ax_within (nI j) (nI n) = true := by rw [z_within (by omega) (by omega)]; simp [hj]
    refine ⟨nI (T j q), M2, ⟨⟨M1, ?_, ?_⟩, wc2⟩, i2, c2⟩
    · rw [hax, g10, if_pos tk, c_partOf wf.2 hn' r1.2 hj hq]
      rfl
    · rw [hmo, g88, if_pos (z_ylt (by omega) (by omega) hj)]
      exact m_part wf.2 hn' r2.2 hj hq
