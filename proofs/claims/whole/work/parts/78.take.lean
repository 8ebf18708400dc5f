/-! ===== worlds: a thing is found, the class ===== -/
abbrev thT := Nat → Nat → Nat
abbrev wX := wV × Nat × thT
def gmT (T : thT) : Nat → Nat
  | 0 => 0
  | n + 1 => if gmT T n < T n 6 then T n 6 else gmT T n
def hcN (T : thT) (b n : Nat) : Nat := fb_ct (fun k => decide (T k 3 = b)) n
def sTy (e : Nat → Nat) (j : Nat) : Int32 :=
  if j < 6 then (if e 0 = j / 3 ∧ (j % 3 = 0 ∨ (j % 3 = 1 ∧ e 5 = 2) ∨ (j % 3 = 2 ∧ e 5 = 1)) then 1 else 0)
  else if e 1 / 2 ^ (j - 6) % 2 = 0 then 0 else if e 0 = 0 then -1 else 1
def tyI (T : thT) (j : Nat) : Nat → Int32
  | 0 => 0
  | n + 1 => tyI T j n + sTy (T n) j
def pkT (e : Nat → Nat) : Nat := e 0 + 2 * e 1 + 512 * e 2 + 8192 * e 3 + 131072 * e 4 + 16777216 * e 5
def adT (e : Nat → Nat) (n : Nat) (T : thT) : thT := fun k => if k = n then e else T k
theorem adT_n (e : Nat → Nat) (n : Nat) (T : thT) : adT e n T n = e := if_pos rfl
theorem adT_k {e : Nat → Nat} {n k : Nat} {T : thT} (h : k ≠ n) : adT e n T k = T k := if_neg h
theorem gmT_c {T T' : thT} : ∀ {n : Nat}, (∀ k, k < n → T k = T' k) → gmT T n = gmT T' n
  | 0, _ => rfl
  | n + 1, h => by
    have ih := gmT_c (n := n) (fun k hk => h k (by omega))
    show (if gmT T n < T n 6 then T n 6 else gmT T n) = (if gmT T' n < T' n 6 then T' n 6 else gmT T' n)
    rw [ih, h n (by omega)]
theorem tyI_c {T T' : thT} (j : Nat) : ∀ {n : Nat}, (∀ k, k < n → T k = T' k) → tyI T j n = tyI T' j n
  | 0, _ => rfl
  | n + 1, h => by
    have ih := tyI_c j (n := n) (fun k hk => h k (by omega))
    show tyI T j n + sTy (T n) j = tyI T' j n + sTy (T' n) j
    rw [ih, h n (by omega)]
theorem hcN_c {T T' : thT} (b : Nat) {n : Nat} (h : ∀ k, k < n → T k = T' k) : hcN T b n = hcN T' b n := fb_ct_cong (fun k hk => by rw [h k hk])
theorem gmT_a (e : Nat → Nat) (n : Nat) (T : thT) : gmT (adT e n T) (n + 1) = if gmT T n < e 6 then e 6 else gmT T n := by
  show (if gmT (adT e n T) n < adT e n T n 6 then adT e n T n 6 else gmT (adT e n T) n) = _
  rw [adT_n, gmT_c (T := adT e n T) (T' := T) (fun k hk => adT_k (by omega))]
theorem tyI_a (e : Nat → Nat) (n : Nat) (T : thT) (j : Nat) : tyI (adT e n T) j (n + 1) = tyI T j n + sTy e j := by
  show tyI (adT e n T) j n + sTy (adT e n T n) j = _
  rw [adT_n, tyI_c (T := adT e n T) (T' := T) j (fun k hk => adT_k (by omega))]
theorem hcN_a (e : Nat → Nat) (n : Nat) (T : thT) (b : Nat) : hcN (adT e n T) b (n + 1) = hcN T b n + (if e 3 = b then 1 else 0) := by
  unfold hcN
  rw [fb_ct_succ, adT_n]
  have := hcN_c (T := adT e n T) (T' := T) b (n := n) (fun k hk => adT_k (by omega))
  unfold hcN at this
  rw [this]
  by_cases c : e 3 = b
  · rw [if_pos c, if_pos (decide_eq_true c)]
  · rw [if_neg c, if_neg (by rw [decide_eq_true_iff]; exact c)]
def wfE1 (e : Nat → Nat) : Prop := e 0 < 2 ∧ e 1 < 256 ∧ e 2 < 10 ∧ e 3 < 10 ∧ e 4 < 100 ∧ e 5 < 3 ∧ 1 ≤ e 6 ∧ e 6 ≤ 10000
def wfU (T : thT) (n : Nat) : Prop := ∀ k, k < n → wfE1 (T k)
def rcU (T : thT) (n : Nat) (M : dM) : Prop := gI M 56 10 = nI n ∧ gI M 56 13 = ageI (gmT T n) ∧ (∀ k, k < n → gI M 62 k = nI (pkT (T k))) ∧ (∀ j, j < 14 → gI M 63 j = tyI T j n) ∧ ∀ b, b < 10 → gI M 64 b = nI (hcN T b n)
theorem gmT_le {T : thT} : ∀ {n : Nat}, wfU T n → gmT T n ≤ 10000
  | 0, _ => Nat.zero_le _
  | n + 1, h => by
    have ih := gmT_le (T := T) (n := n) (fun k hk => h k (by omega))
    have := (h n (by omega)).2.2.2.2.2.2.2
    show (if gmT T n < T n 6 then T n 6 else gmT T n) ≤ 10000
    split <;> omega
theorem wfU_a {T : thT} {n : Nat} {e : Nat → Nat} (h : wfU T n) (he : wfE1 e) : wfU (adT e n T) (n + 1) := fun k hk => by
  by_cases c : k = n
  · rw [c, adT_n]; exact he
  · rw [adT_k c]; exact h k (by omega)
/-! the tally -/
theorem z_neg01 : ∀ b, b < 2 → -(nI b) = if b = 0 then (0 : Int32) else -1 := by decide
theorem c_ty69 (e : Nat → Nat) (h0 : e 0 < 2) (h1 : e 1 < 256) : ∀ (m k : Nat) (M : dM), k + m = 8 → ∃ M', l_wo_addToTally_69 (nI (e 1)) (nI (e 0)) (nI k) M = some M' ∧ (∀ j, gI M' 63 j = if 6 + k ≤ j ∧ j < 14 then gI M 63 j + sTy e j else gI M 63 j) ∧ chS [63] M M' := by
  intro m
  induction m with
  | zero =>
    intro k M hk
    refine ⟨M, ?_, fun j => by rw [if_neg (by omega)], chS.refl _ _⟩
    unfold l_wo_addToTally_69
    refine lpc_out ?_
    show b_wo_addToTally_69_69 (nI (e 1)) (nI (e 0)) (nI k) M = _
    unfold b_wo_addToTally_69_69
    rw [if_pos (show (8 : Int32) ≤ nI k from z_yle (a := 8) (by omega) (by omega) (by omega))]
  | succ m ih =>
    intro k M hk
    have k1 : chS [63] M (sI M 63 (6 + k) (gI M 63 (6 + k) + sTy e (6 + k))) := chS_sI M 63 _ _ rfl
    obtain ⟨M', a1, a2, a3⟩ := ih (k + 1) (sI M 63 (6 + k) (gI M 63 (6 + k) + sTy e (6 + k))) (by omega)
    refine ⟨M', ?_, fun j => ?_, k1.trans a3⟩
    · unfold l_wo_addToTally_69 at a1 ⊢
      refine lpc_step (s' := (nI (k + 1), sI M 63 (6 + k) (gI M 63 (6 + k) + sTy e (6 + k)))) ?_ a1
      show b_wo_addToTally_69_69 (nI (e 1)) (nI (e 0)) (nI k) M = _
      have hs : sTy e (6 + k) = if e 1 / 2 ^ k % 2 = 0 then 0 else if e 0 = 0 then -1 else 1 := by
        unfold sTy
        rw [if_neg (by omega), show 6 + k - 6 = k by omega]
      have hb : e 1 / 2 ^ k % 2 < 2 := Nat.mod_lt _ (by decide)
      have fin : ∀ y : Int32, y = sTy e (6 + k) → b_wo_addToTally_69_107 (nI (e 1)) (nI (e 0)) (nI k) (nI (6 + k)) (gI M 63 (6 + k)) y M = some (Sum.inl (nI (k + 1), sI M 63 (6 + k) (gI M 63 (6 + k) + sTy e (6 + k)))) := fun y hy => by
        unfold b_wo_addToTally_69_107
        rw [z_gd (z_in (n := 6 + k) (by omega) (by omega)), z_cl (n := 6 + k) (by omega), hy, show nI k + 1 = nI (k + 1) from z_add k 1]
      unfold b_wo_addToTally_69_69
      rw [if_neg (show ¬ (8 : Int32) ≤ nI k from z_nle (a := 8) (by omega) (by omega) (by omega)), show (6 : Int32) + nI k = nI (6 + k) from z_add 6 k, z_gd (z_in (n := 6 + k) (by omega) (by omega)), z_cl (n := 6 + k) (by omega), z_shr (by omega) (by omega), show nI (e 1 / 2 ^ k) &&& 1 = nI (e 1 / 2 ^ k % 2 ^ 1) from fa_mask _ 1, show (2 : Nat) ^ 1 = 2 from rfl]
      by_cases c : e 0 = 0
      · rw [if_pos (show nI (e 0) = (0 : Int32) from by rw [c]; rfl)]
        refine fin _ ?_
        rw [hs, z_neg01 _ hb, if_pos c]
      · rw [if_neg (show ¬ nI (e 0) = (0 : Int32) from z_ne (b := 0) (by omega) (by decide) c)]
        refine fin _ ?_
        rw [hs, if_neg c]
        by_cases d : e 1 / 2 ^ k % 2 = 0
        · rw [if_pos d, d]; rfl
        · rw [if_neg d, show e 1 / 2 ^ k % 2 = 1 by omega]; rfl
    · rw [a2 j, gI_sI]
      by_cases c : j = 6 + k
      · subst c
        rw [if_neg (by omega), if_pos ⟨rfl, rfl⟩, if_pos (by omega)]
      · rw [if_neg (fun z : 63 = 63 ∧ j = 6 + k => c z.2)]
        by_cases d : 6 + (k + 1) ≤ j ∧ j < 14
        · rw [if_pos d, if_pos (by omega)]
        · rw [if_neg d, if_neg (by omega)]
theorem c_ty9 (e : Nat → Nat) (h0 : e 0 < 2) (h1 : e 1 < 256) (h5 : e 5 < 3) (M : dM) : t_wo_addToTally_9 (nI (e 1)) (nI (e 5)) (nI (e 0)) (nI (3 * e 0)) M = (l_wo_addToTally_69 (nI (e 1)) (nI (e 0)) 0 (sI (sI (sI M 63 (3 * e 0) (gI M 63 (3 * e 0) + 1)) 63 (3 * e 0 + 1) (gI M 63 (3 * e 0 + 1) + (if e 5 = 2 then 1 else 0))) 63 (3 * e 0 + 2) (gI M 63 (3 * e 0 + 2) + (if e 5 = 1 then 1 else 0)))).bind fun r => some r := by
  have g64 : ∀ (y2 y3 : Int32) (M0 : dM), t_wo_addToTally_64 (nI (e 1)) (nI (e 0)) (nI (3 * e 0 + 2)) y2 y3 M0 = (l_wo_addToTally_69 (nI (e 1)) (nI (e 0)) 0 (sI M0 63 (3 * e 0 + 2) (y2 + y3))).bind fun r => some r := fun y2 y3 M0 => by
    unfold t_wo_addToTally_64
    rw [z_gd (z_in (n := 3 * e 0 + 2) (by omega) (by omega)), z_cl (n := 3 * e 0 + 2) (by omega)]
  have g42 : ∀ (y2 y3 : Int32) (M0 : dM), t_wo_addToTally_42 (nI (e 1)) (nI (e 5)) (nI (e 0)) (nI (3 * e 0)) (nI (3 * e 0 + 1)) y2 y3 M0 = (l_wo_addToTally_69 (nI (e 1)) (nI (e 0)) 0 (sI (sI M0 63 (3 * e 0 + 1) (y2 + y3)) 63 (3 * e 0 + 2) (gI M0 63 (3 * e 0 + 2) + (if e 5 = 1 then 1 else 0)))).bind fun r => some r := fun y2 y3 M0 => by
    unfold t_wo_addToTally_42
    have gg : gI (sI M0 63 (3 * e 0 + 1) (y2 + y3)) 63 (3 * e 0 + 2) = gI M0 63 (3 * e 0 + 2) := by rw [gI_sI, if_neg (by omega)]
    rw [show nI (3 * e 0) + 2 = nI (3 * e 0 + 2) from z_add _ 2, z_gd (z_in (n := 3 * e 0 + 1) (by omega) (by omega)), z_gd (z_in (n := 3 * e 0 + 2) (by omega) (by omega)), z_cl (n := 3 * e 0 + 1) (by omega), z_cl (n := 3 * e 0 + 2) (by omega), gg]
    by_cases c : e 5 = 1
    · rw [if_pos (show nI (e 5) = (1 : Int32) from by rw [c]; rfl), if_pos c, g64]
    · rw [if_neg (show ¬ nI (e 5) = (1 : Int32) from z_ne (b := 1) (by omega) (by decide) c), if_neg c, g64]
  have gg1 : gI (sI M 63 (3 * e 0) (gI M 63 (3 * e 0) + 1)) 63 (3 * e 0 + 1) = gI M 63 (3 * e 0 + 1) := by rw [gI_sI, if_neg (by omega)]
  have gg2 : gI (sI M 63 (3 * e 0) (gI M 63 (3 * e 0) + 1)) 63 (3 * e 0 + 2) = gI M 63 (3 * e 0 + 2) := by rw [gI_sI, if_neg (by omega)]
  unfold t_wo_addToTally_9
  rw [show nI (3 * e 0) + 1 = nI (3 * e 0 + 1) from z_add _ 1, z_gd (z_in (n := 3 * e 0) (by omega) (by omega)), z_gd (z_in (n := 3 * e 0 + 1) (by omega) (by omega)), z_cl (n := 3 * e 0) (by omega), z_cl (n := 3 * e 0 + 1) (by omega), gg1]
  by_cases c : e 5 = 2
  · rw [if_pos (show nI (e 5) = (2 : Int32) from by rw [c]; rfl), if_pos c, g42, gg2]
  · rw [if_neg (show ¬ nI (e 5) = (2 : Int32) from z_ne (b := 2) (by omega) (by decide) c), if_neg c, g42, gg2]
theorem c_tally (e : Nat → Nat) (h0 : e 0 < 2) (h1 : e 1 < 256) (h5 : e 5 < 3) (M : dM) : ∃ M', f_wo_addToTally (nI (e 1)) (nI (e 5)) (nI (e 0)) M = some M' ∧ (∀ j, j < 14 → gI M' 63 j = gI M 63 j + sTy e j) ∧ chS [63] M M' := by
  have h9 := c_ty9 e h0 h1 h5 M
  generalize hM3 : sI (sI (sI M 63 (3 * e 0) (gI M 63 (3 * e 0) + 1)) 63 (3 * e 0 + 1) (gI M 63 (3 * e 0 + 1) + (if e 5 = 2 then 1 else 0))) 63 (3 * e 0 + 2) (gI M 63 (3 * e 0 + 2) + (if e 5 = 1 then 1 else 0)) = M3 at h9
  obtain ⟨M', a1, a2, a3⟩ := c_ty69 e h0 h1 8 0 M3 rfl
  have a1' : l_wo_addToTally_69 (nI (e 1)) (nI (e 0)) 0 M3 = some M' := a1
  rw [a1'] at h9
  have k3 : chS [63] M M3 := by rw [← hM3]; exact (((chS.refl _ M).sI 63 _ _ rfl).sI 63 _ _ rfl).sI 63 _ _ rfl
  have g3 : ∀ j, gI M3 63 j = if j = 3 * e 0 + 2 then gI M 63 (3 * e 0 + 2) + (if e 5 = 1 then 1 else 0) else if j = 3 * e 0 + 1 then gI M 63 (3 * e 0 + 1) + (if e 5 = 2 then 1 else 0) else if j = 3 * e 0 then gI M 63 (3 * e 0) + 1 else gI M 63 j := fun j => by
    rw [← hM3, gI_sI, gI_sI, gI_sI]
    simp only [true_and]
  refine ⟨M', ?_, fun j hj => ?_, k3.trans a3⟩
  · unfold f_wo_addToTally
    by_cases c : e 0 = 0
    · rw [if_pos (show nI (e 0) = (0 : Int32) from by rw [c]; rfl)]
      rw [c] at h9 ⊢
      exact h9
    · rw [if_neg (show ¬ nI (e 0) = (0 : Int32) from z_ne (b := 0) (by omega) (by decide) c)]
      have c1 : e 0 = 1 := by omega
      rw [c1] at h9 ⊢
      exact h9
  · rw [a2 j, g3]
    by_cases c6 : 6 ≤ j
    · rw [if_pos (by omega), if_neg (by omega), if_neg (by omega), if_neg (by omega)]
    · have hs : sTy e j = if e 0 = j / 3 ∧ (j % 3 = 0 ∨ (j % 3 = 1 ∧ e 5 = 2) ∨ (j % 3 = 2 ∧ e 5 = 1)) then 1 else 0 := by
        unfold sTy
        rw [if_pos (show j < 6 by omega)]
      rw [if_neg (show ¬ (6 + 0 ≤ j ∧ j < 14) by omega), hs]
      by_cases j2 : j = 3 * e 0 + 2
      · subst j2
        rw [if_pos rfl]
        by_cases c : e 5 = 1
        · rw [if_pos c, if_pos (by omega)]
        · rw [if_neg c, if_neg (by omega)]
      · rw [if_neg j2]
        by_cases j1 : j = 3 * e 0 + 1
        · subst j1
          rw [if_pos rfl]
          by_cases c : e 5 = 2
          · rw [if_pos c, if_pos (by omega)]
          · rw [if_neg c, if_neg (by omega)]
        · rw [if_neg j1]
          by_cases j0 : j = 3 * e 0
          · subst j0
            rw [if_pos rfl, if_pos (by omega)]
          · rw [if_neg j0, if_neg (by omega), Int32.add_zero]
