/-! ===== worlds: the reference writes a thing down ===== -/
def rmU (T : thT) (n : Nat) (M : dM) : Prop := gI M 66 88 = nI n ∧ ∀ k, k < n → gI M 122 k = nI (T k 0) ∧ gI M 123 k = nI (T k 1) ∧ gI M 124 k = nI (T k 2) ∧ gI M 125 k = nI (T k 3) ∧ gI M 126 k = nI (T k 4) ∧ gI M 127 k = nI (T k 6 - 1) ∧ gI M 128 k = nI (T k 5)
def kUm : List Nat := [91, 92, 93, 94, 95, 96, 97, 98, 99, 100, 122, 123, 124, 125, 126, 127, 128, 7688]
theorem nar_b : ∀ p, p < 2 → vp_nar .boolean (nI p) = nI p := by decide
theorem m_t325 {Q : sQ} {v : Nat → Nat} {T : thT} {M N4 : dM} {e : Nat → Nat} {n s b pr : Nat} {dw y2 : Int32} {u : Nat → Int32} (wq : wQ Q v) (mw : rmW Q v M) (he : wfE1 e) (hs : s < 8) (hb : e 3 = b) (hpr : pr < 4096) (hn : n < 1920) (hr : rmU T n M) (h67 : gI M 67 (10 * s + e 2) = nI (e 6 - 1)) (h4 : sI (sI (sI (sI M 100 14 y2) 100 15 dw) 100 16 (nI (pc pr 12) - 1)) 100 17 0 = N4) (hu : ∀ k, k < 17 → vM N4 k = u k) (h5 : jdg Q u = e 5) : ∃ M', t_mo_takes_325 (nI (e 2)) (nI (e 0)) (nI s) (nI b) (nI pr) (nI (e 1)) (nI (e 4)) dw 14 y2 M = some M' ∧ rmU (adT e n T) (n + 1) M' ∧ chS kUm M M' := by
  obtain ⟨q0, q1, q2, q3, q4, q5, q6, q7⟩ := he
  have c4 : chS [100] M N4 := by rw [← h4]; exact ((((chS.refl _ M).sI 100 _ _ rfl).sI 100 _ _ rfl).sI 100 _ _ rfl).sI 100 _ _ rfl
  have f4 : gI N4 66 88 = nI n := (c4.I 66 88 rfl).trans hr.1
  have l4 : gI N4 67 (10 * s + e 2) = nI (e 6 - 1) := (c4.I 67 _ rfl).trans h67
  have o4 : ∀ k, k < n → gI N4 122 k = nI (T k 0) ∧ gI N4 123 k = nI (T k 1) ∧ gI N4 124 k = nI (T k 2) ∧ gI N4 125 k = nI (T k 3) ∧ gI N4 126 k = nI (T k 4) ∧ gI N4 127 k = nI (T k 6 - 1) ∧ gI N4 128 k = nI (T k 5) := fun k hk => by
    rw [c4.I 122 k rfl, c4.I 123 k rfl, c4.I 124 k rfl, c4.I 125 k rfl, c4.I 126 k rfl, c4.I 127 k rfl, c4.I 128 k rfl]
    exact hr.2 k hk
  obtain ⟨N5, h5'⟩ : ∃ N5, N5 = sI N4 122 n (nI (e 0)) := ⟨_, rfl⟩
  obtain ⟨N6, h6⟩ : ∃ N6, N6 = sI N5 123 n (nI (e 1)) := ⟨_, rfl⟩
  obtain ⟨N7, h7⟩ : ∃ N7, N7 = sI N6 124 n (nI (e 2)) := ⟨_, rfl⟩
  obtain ⟨N8, h8⟩ : ∃ N8, N8 = sI N7 125 n (nI b) := ⟨_, rfl⟩
  obtain ⟨N9, h9⟩ : ∃ N9, N9 = sI N8 126 n (nI (e 4)) := ⟨_, rfl⟩
  obtain ⟨N10, h10⟩ : ∃ N10, N10 = sI N9 127 n (nI (e 6 - 1)) := ⟨_, rfl⟩
  have c5 : chS [122] N4 N5 := by rw [h5']; exact chS_sI N4 122 _ _ rfl
  have c6 : chS [123] N5 N6 := by rw [h6]; exact chS_sI N5 123 _ _ rfl
  have c7 : chS [124] N6 N7 := by rw [h7]; exact chS_sI N6 124 _ _ rfl
  have c8 : chS [125] N7 N8 := by rw [h8]; exact chS_sI N7 125 _ _ rfl
  have c9 : chS [126] N8 N9 := by rw [h9]; exact chS_sI N8 126 _ _ rfl
  have c10 : chS [127] N9 N10 := by rw [h10]; exact chS_sI N9 127 _ _ rfl
  have f5 : gI N5 66 88 = nI n := (c5.I 66 88 rfl).trans f4
  have f6 : gI N6 66 88 = nI n := (c6.I 66 88 rfl).trans f5
  have f7 : gI N7 66 88 = nI n := (c7.I 66 88 rfl).trans f6
  have f8 : gI N8 66 88 = nI n := (c8.I 66 88 rfl).trans f7
  have f9 : gI N9 66 88 = nI n := (c9.I 66 88 rfl).trans f8
  have f10 : gI N10 66 88 = nI n := (c10.I 66 88 rfl).trans f9
  have l9 : gI N9 67 (10 * s + e 2) = nI (e 6 - 1) := (c9.I 67 _ rfl).trans ((c8.I 67 _ rfl).trans ((c7.I 67 _ rfl).trans ((c6.I 67 _ rfl).trans ((c5.I 67 _ rfl).trans l4))))
  have k10 : chS kUm M N10 := ((((((c4.mono (by decide)).trans (c5.mono (by decide))).trans (c6.mono (by decide))).trans (c7.mono (by decide))).trans (c8.mono (by decide))).trans (c9.mono (by decide))).trans (c10.mono (by decide))
  have kA : chS [122, 123, 124, 125, 126, 127] N4 N10 := (((((c5.mono (by decide)).trans (c6.mono (by decide))).trans (c7.mono (by decide))).trans (c8.mono (by decide))).trans (c9.mono (by decide))).trans (c10.mono (by decide))
  have mw10 : rmW Q v N10 := rmW_w mw k10 (by decide)
  obtain ⟨M1, d1, d2⟩ := m_judged wq mw10
  have hj : jdg Q (vM N10) = e 5 := by
    rw [← h5]
    exact jdg_cong wq (fun k hk => (kA.I 100 (1 + k) rfl).trans (hu k hk))
  rw [hj] at d1
  have nb := nar_b _ q0
  have in80 : vp_in (10 * nI s + nI (e 2)) 80 = True := by
    rw [show (10 : Int32) * nI s = nI (10 * s) from z_mul 10 s, z_add]
    exact z_in (by omega) (by omega)
  have cl80 : (10 * nI s + nI (e 2)).toNatClampNeg = 10 * s + e 2 := by
    rw [show (10 : Int32) * nI s = nI (10 * s) from z_mul 10 s, z_add, z_cl (by omega)]
  have in19 : vp_in (nI n) 1920 = True := z_in (by omega) (by omega)
  have cln : (nI n).toNatClampNeg = n := z_cl (by omega)
  have fM1 : gI (sI M1 128 n (nI (e 5))) 66 88 = nI n := by rw [gI_sI, if_neg (by omega), d2.I 66 88 rfl]; exact f10
  refine ⟨sI (sI M1 128 n (nI (e 5))) 66 88 (nI (n + 1)), ?_, ⟨by rw [gI_sI, if_pos ⟨rfl, rfl⟩], fun k hk => ?_⟩, ((k10.trans (d2.mono (by decide))).sI 128 _ _ rfl).sI 66 88 _ rfl⟩
  · unfold t_mo_takes_325
    rw [z_gd (show vp_in (14 : Int32) 20 = True from z_in (n := 14) (by omega) (by omega)), m_bits hpr, Option.bind_some, show (14 : Int32).toNatClampNeg = 14 from rfl, h4, f4, z_gd in19, cln, nb, ← h5', f5, z_gd in19, cln, ← h6, f6, z_gd in19, cln, ← h7, f7, z_gd in19, cln, ← h8, f8, z_gd in19, cln, ← h9, z_gd in80, f9, z_gd in19, cln, cl80, l9, ← h10, d1, Option.bind_some, f10, z_gd in19, cln]
    show some (sI (sI M1 128 n (nI (e 5))) 66 88 (gI (sI M1 128 n (nI (e 5))) 66 88 + 1)) = _
    rw [fM1, show nI n + 1 = nI (n + 1) from z_add n 1]
  · have w10 : ∀ j, gI (sI (sI M1 128 n (nI (e 5))) 66 88 (nI (n + 1))) 128 j = if j = n then nI (e 5) else gI N4 128 j := fun j => by
      rw [gI_sI, if_neg (by omega), gI_sI]
      by_cases c : j = n
      · rw [if_pos ⟨rfl, c⟩, if_pos c]
      · rw [if_neg (fun z => c z.2), if_neg c, d2.I 128 j rfl, kA.I 128 j rfl]
    have ww : ∀ x j, x = 122 ∨ x = 123 ∨ x = 124 ∨ x = 125 ∨ x = 126 ∨ x = 127 → gI (sI (sI M1 128 n (nI (e 5))) 66 88 (nI (n + 1))) x j = gI N10 x j := fun x j hx => by
      rw [gI_sI, if_neg (by omega), gI_sI, if_neg (by omega)]
      rcases hx with rfl | rfl | rfl | rfl | rfl | rfl <;> exact d2.I _ j rfl
    have w127 : ∀ j, gI N10 127 j = if j = n then nI (e 6 - 1) else gI N4 127 j := fun j => by
      rw [h10, gI_sI]
      by_cases c : j = n
      · rw [if_pos ⟨rfl, c⟩, if_pos c]
      · rw [if_neg (fun z => c z.2), if_neg c, c9.I 127 j rfl, c8.I 127 j rfl, c7.I 127 j rfl, c6.I 127 j rfl, c5.I 127 j rfl]
    have w126 : ∀ j, gI N10 126 j = if j = n then nI (e 4) else gI N4 126 j := fun j => by
      rw [c10.I 126 j rfl, h9, gI_sI]
      by_cases c : j = n
      · rw [if_pos ⟨rfl, c⟩, if_pos c]
      · rw [if_neg (fun z => c z.2), if_neg c, c8.I 126 j rfl, c7.I 126 j rfl, c6.I 126 j rfl, c5.I 126 j rfl]
    have w125 : ∀ j, gI N10 125 j = if j = n then nI b else gI N4 125 j := fun j => by
      rw [c10.I 125 j rfl, c9.I 125 j rfl, h8, gI_sI]
      by_cases c : j = n
      · rw [if_pos ⟨rfl, c⟩, if_pos c]
      · rw [if_neg (fun z => c z.2), if_neg c, c7.I 125 j rfl, c6.I 125 j rfl, c5.I 125 j rfl]
    have w124 : ∀ j, gI N10 124 j = if j = n then nI (e 2) else gI N4 124 j := fun j => by
      rw [c10.I 124 j rfl, c9.I 124 j rfl, c8.I 124 j rfl, h7, gI_sI]
      by_cases c : j = n
      · rw [if_pos ⟨rfl, c⟩, if_pos c]
      · rw [if_neg (fun z => c z.2), if_neg c, c6.I 124 j rfl, c5.I 124 j rfl]
    have w123 : ∀ j, gI N10 123 j = if j = n then nI (e 1) else gI N4 123 j := fun j => by
      rw [c10.I 123 j rfl, c9.I 123 j rfl, c8.I 123 j rfl, c7.I 123 j rfl, h6, gI_sI]
      by_cases c : j = n
      · rw [if_pos ⟨rfl, c⟩, if_pos c]
      · rw [if_neg (fun z => c z.2), if_neg c, c5.I 123 j rfl]
    have w122 : ∀ j, gI N10 122 j = if j = n then nI (e 0) else gI N4 122 j := fun j => by
      rw [c10.I 122 j rfl, c9.I 122 j rfl, c8.I 122 j rfl, c7.I 122 j rfl, c6.I 122 j rfl, h5', gI_sI]
      by_cases c : j = n
      · rw [if_pos ⟨rfl, c⟩, if_pos c]
      · rw [if_neg (fun z => c z.2), if_neg c]
    rw [ww 122 k (by omega), ww 123 k (by omega), ww 124 k (by omega), ww 125 k (by omega), ww 126 k (by omega), ww 127 k (by omega), w122, w123, w124, w125, w126, w127, w10]
    by_cases c : k = n
    · subst c
      rw [adT_n]
      exact ⟨if_pos rfl, if_pos rfl, if_pos rfl, (if_pos rfl).trans (by rw [hb]), if_pos rfl, if_pos rfl, if_pos rfl⟩
    · rw [adT_k c]
      simp only [if_neg c]
      exact o4 k (by omega)
