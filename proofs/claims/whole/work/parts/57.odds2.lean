/-! ===== odds ===== -/
def odS (n g k h : Nat) : Nat → Nat
  | 0 => 0
  | m + 1 => odS n g k h m + wN g (h + m) * wN (n - g) (k - (h + m))
theorem odS_le {n g : Nat} (hn : n ≤ 40) (hg : g ≤ n) (k h : Nat) : ∀ m, odS n g k h m ≤ m * 2 ^ 40
  | 0 => Nat.zero_le _
  | m + 1 => by
    have ih := odS_le hn hg k h m
    have h1 := wN_le (n := g) (by omega) (h + m)
    have h2 := wN_le (n := n - g) (by omega) (k - (h + m))
    have h3 := Nat.mul_le_mul h1 h2
    rw [← Nat.pow_add, show g + (n - g) = n by omega] at h3
    have h4 : (2 : Nat) ^ n ≤ 2 ^ 40 := Nat.pow_le_pow_right (by decide) hn
    show odS n g k h m + _ ≤ _
    rw [Nat.succ_mul]
    omega
theorem odS_stop {n g k h m : Nat} (hm : g < h + m) : ∀ d, odS n g k h (m + d) = odS n g k h m
  | 0 => rfl
  | d + 1 => by
    show odS n g k h (m + d) + wN g (h + (m + d)) * _ = _
    rw [odS_stop hm d]
    unfold wN
    rw [if_neg (show ¬ h + (m + d) ≤ g by omega), Nat.zero_mul, Nat.add_zero]
theorem z_subI {a b : Nat} (h : b ≤ a) : nI a - nI b = nI (a - b) := z_sub h
theorem c_draws {n g k h : Nat} (hn : n ≤ 40) (hg : g ≤ n) (hk : k ≤ n) (hh : h ≤ k) (hhg : h ≤ g) : f_ch_drawsWith (nI n) (nI g) (nI k) (nI h) = some (lN (odS n g k h (k + 1 - h))) := by
  unfold f_ch_drawsWith
  have hmin : (if nI g < nI k then nI g else nI k) = nI (min g k) := by
    by_cases c : g < k
    · rw [if_pos (show nI g < nI k from by rw [z_lt (by omega) (by omega)]; exact c), Nat.min_eq_left (by omega)]
    · rw [if_neg (show ¬ nI g < nI k from by rw [z_lt (by omega) (by omega)]; exact c), Nat.min_eq_right (by omega)]
  have e0 : l_ch_drawsWith_6 (nI n) (nI g) (nI k) 0 (nI h) = some (lN (odS n g k h (min g k + 1 - h))) := by
    unfold l_ch_drawsWith_6
    refine lpc_seq (body := fun s : Int64 × Int32 => b_ch_drawsWith_6_6 (nI n) (nI g) (nI k) s.1 s.2) (fun m => (lN (odS n g k h m), nI (h + m))) (min g k + 1 - h) ?_ ?_
    · intro m hm
      show b_ch_drawsWith_6_6 (nI n) (nI g) (nI k) (lN (odS n g k h m)) (nI (h + m)) = some (.inl (lN (odS n g k h (m + 1)), nI (h + (m + 1))))
      unfold b_ch_drawsWith_6_6
      have b1 := odS_le hn hg k h m
      rw [hmin, if_neg (show ¬ nI (min g k) < nI (h + m) from by rw [z_lt (by omega) (by omega)]; omega), c_choose (by omega) (by omega), Option.bind_some, z_subI hg, z_subI (show h + m ≤ k by omega), c_choose (by omega) (by omega), Option.bind_some, z_lmul, z_ladd, show nI (h + m) + 1 = nI (h + (m + 1)) from z_add (h + m) 1]
      rfl
    · show b_ch_drawsWith_6_6 (nI n) (nI g) (nI k) (lN _) (nI (h + (min g k + 1 - h))) = _
      unfold b_ch_drawsWith_6_6
      rw [hmin, if_pos (show nI (min g k) < nI (h + (min g k + 1 - h)) from by rw [z_lt (by omega) (by omega)]; omega)]
  have e1 : odS n g k h (k + 1 - h) = odS n g k h (min g k + 1 - h) := by
    by_cases c : g < k
    · rw [Nat.min_eq_left (by omega), show k + 1 - h = (g + 1 - h) + (k - g) by omega]
      exact odS_stop (by omega) _
    · rw [Nat.min_eq_right (by omega)]
  rw [e0, e1, Option.bind_some]
theorem odS_sum {n g k h : Nat} (hn : n ≤ 40) (hg : g ≤ n) (hk : k ≤ n) (hh : h ≤ k) : odS n g k h (k + 1 - h) < 4611686018427387904 := by
  have b1 := odS_le hn hg k h (k + 1 - h)
  have : (k + 1 - h) * 2 ^ 40 ≤ 41 * 2 ^ 40 := Nat.mul_le_mul_right _ (by omega)
  omega
theorem m_odds {n g k h : Nat} {M : dM} (hn : n ≤ 40) (hg : g ≤ n) (hk : k ≤ n) (hh : h ≤ k) (h51 : gI M 66 51 = nI k) (h53 : gI M 66 53 = nI n) (h54 : gI M 66 54 = nI g) (x : Int32) {r : Int64} (hr : f_mo_lowest (lN (odS n g k h (k + 1 - h))) (lN (wN n k)) x = some r) : l_mo_odds_49 x 0 (nI h) M = some (r, M) := by
  unfold l_mo_odds_49
  refine lpc_seq (body := fun s : Int64 × Int32 => b_mo_odds_49_49 x s.1 s.2 M) (fun m => (lN (odS n g k h m), nI (h + m))) (k + 1 - h) ?_ ?_
  · intro m hm
    show b_mo_odds_49_49 x (lN (odS n g k h m)) (nI (h + m)) M = some (.inl (lN (odS n g k h (m + 1)), nI (h + (m + 1))))
    unfold b_mo_odds_49_49
    have b1 := odS_le hn hg k h m
    by_cases c : h + m ≤ 40
    · rw [h51, h53, h54, if_neg (show ¬ nI k < nI (h + m) from by rw [z_lt (by omega) (by omega)]; omega), m_ways (by omega) (by omega), Option.bind_some, z_subI hg, z_subI (show h + m ≤ k by omega), m_ways (by omega) (by omega), Option.bind_some, z_lmul, z_ladd, show nI (h + m) + 1 = nI (h + (m + 1)) from z_add (h + m) 1]
      rfl
    · omega
  · show b_mo_odds_49_49 x (lN (odS n g k h (k + 1 - h))) (nI (h + (k + 1 - h))) M = _
    unfold b_mo_odds_49_49
    rw [h51, h53, if_pos (show nI k < nI (h + (k + 1 - h)) from by rw [z_lt (by omega) (by omega)]; omega), m_ways (by omega) (by omega), Option.bind_some, hr, Option.bind_some]
theorem op_odds {A : sA} {Q : sQ} {v : Nat → Nat} {M : dM} (h : IV A Q v M) (x y z : Int32) : opV kQ A Q v M (fun (b : Int64) M2 => ∃ M1, f_ax_odds x y z M = some (b, M1) ∧ f_mo_odds x y z M1 = some (b, M2)) := by
  unfold f_ax_odds f_mo_odds
  have e1 : f_mo_isHand x = f_ax_within x 10 := z_hand x
  have e2 : f_mo_within y 0 2 = f_ax_within y 3 := z_mw0 y (n := 2) (by decide)
  have e3 : f_mo_within z 0 1 = f_ax_within z 2 := z_mw0 z (n := 1) (by decide)
  rw [e1, e2, e3]
  have hn := h.1.2.2.1.1
  by_cases zx : f_ax_within x 10 = true
  case neg =>
    rw [if_neg zx]
    exact opV_no rfl h (x := 0) (b := -1) ⟨M, rfl, by rw [if_neg zx]⟩
  by_cases zy : f_ax_within y 3 = true
  case neg =>
    rw [if_pos zx, if_neg zy]
    exact opV_no rfl h (x := 0) (b := -1) ⟨M, rfl, by rw [if_pos zx, if_neg zy]⟩
  by_cases zz : f_ax_within z 2 = true
  case neg =>
    rw [if_pos zx, if_pos zy, if_neg zz]
    exact opV_no rfl h (x := 0) (b := -1) ⟨M, rfl, by rw [if_pos zx, if_pos zy, if_neg zz]⟩
  rcases z_range x 10 (by decide) with q | ⟨b, hb, rfl⟩
  · rw [show f_ax_within x 10 = false from q] at zx; cases zx
  rcases z_range y 3 (by decide) with q | ⟨s, hs, rfl⟩
  · rw [show f_ax_within y 3 = false from q] at zy; cases zy
  obtain ⟨M1, a1, a2, a3, a4, a5, a6⟩ := iv_study h (Or.inl rfl : (1 : Nat) = 1 ∨ (1 : Nat) = 2)
  have a1' : f_ax_study 1 M = some M1 := a1
  have i1 := iv_0 a2 0
  obtain ⟨M2, b1, ⟨b2, b3, b4⟩, b5, b6, b7⟩ := m_counts i1 (nI b) hs
  have c : chS kQ M M2 := ((a6.mono (by decide)).sI 66 0 0 rfl).trans (b7.mono (by decide))
  have nb : ¬ nI b = -1 := fun z => by
    have := nI_toInt (n := b) (by omega)
    rw [z] at this
    have h2 : (-1 : Int32).toInt = -1 := rfl
    rw [h2] at this
    omega
  have f1 := c_findsOf a2.1 a2.2.1 (nI b)
  have f2 := c_findsOf a2.1 a2.2.1 (-1)
  have f3 := c_findsOfSort a2.1 a2.2.1 a4 (nI b) hs
  have f4 := c_findsOfSort a2.1 a2.2.1 a4 (-1) hs
  rw [whA_hand nb] at f1
  simp only [whA_hand nb] at f3
  have hall : fb_ct (whA A (-1)) (A 66 9) = A 66 9 := fb_ct_all.mpr (fun k _ => rfl)
  rw [hall] at f2
  simp only [whA_all, Bool.true_and] at f4
  have hg : fb_ct (soB A Q v s) (A 66 9) ≤ A 66 9 := fb_ct_le _ _
  have hk : fb_ct (whB A (nI b)) (A 66 9) ≤ A 66 9 := fb_ct_le _ _
  have hh : fb_ct (fun f => whB A (nI b) f && soB A Q v s f) (A 66 9) ≤ fb_ct (whB A (nI b)) (A 66 9) := fb_ct_sub (fun k _ hk => by
    rw [Bool.and_eq_true] at hk
    exact hk.1)
  have hhg : fb_ct (fun f => whB A (nI b) f && soB A Q v s f) (A 66 9) ≤ fb_ct (soB A Q v s) (A 66 9) := fb_ct_sub (fun k _ hk => by
    rw [Bool.and_eq_true] at hk
    exact hk.2)
  have hd := odS_sum hn hg hk hh
  have hw := wN_le hn (fb_ct (whB A (nI b)) (A 66 9))
  have h40 : (2 : Nat) ^ A 66 9 ≤ 2 ^ 40 := Nat.pow_le_pow_right (by decide) hn
  obtain ⟨r, r1, r2⟩ := fr_both hd (b := wN (A 66 9) (fb_ct (whB A (nI b)) (A 66 9))) (by omega) (wN_pos hn hk) z
  refine ⟨r, M2, ⟨M1, ?_, ?_⟩, b6, c⟩
  · rw [if_pos zx, if_pos zy, if_pos zz, a1', Option.bind_some, f2, Option.bind_some, f4, Option.bind_some, f1, Option.bind_some, f3, Option.bind_some, c_draws hn hg hk hh hhg, Option.bind_some, c_choose hn (by omega), Option.bind_some, r1, Option.bind_some]
  · rw [if_pos zx, if_pos zy, if_pos zz, b1, Option.bind_some, b3, m_odds hn hg hk hh b2 b5 b4 z r2, Option.bind_some]
