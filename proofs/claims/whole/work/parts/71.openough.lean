/-! ===== the call enough ===== -/
def eC (A : sA) (Q : sQ) (v : Nat → Nat) (M : dM) : Prop := gI M 39 9 = -2 ∨ gI M 39 9 = enN A Q v
theorem seC (A : sA) (Q : sQ) (v : Nat → Nat) : supp [4909] (eC A Q v) := by
  intro M M' h _ hr
  unfold eC
  rw [(h 39 9 rfl).1]
  exact hr
def kEn : List Nat := kQ ++ [43, 44, 31, 4909, 114]
theorem c_day {A : sA} {Q : sQ} {v : Nat → Nat} {M : dM} (i : IV A Q v M) (j : rcJ A Q (v 3) M) (e : eC A Q v M) : ∃ M', f_ju_dayOfEnough M = some (enN A Q v, M') ∧ eC A Q v M' ∧ chS [43, 44, 31, 4909] M M' := by
  unfold f_ju_dayOfEnough
  by_cases c : gI M 39 9 = -2
  · rw [if_pos c]
    have ht : f_la_isTold_27 20 M = some (decide (Q 20 ≠ none)) := c_told i.2.2.2.1 i.2.2.2.2.1 (r := 8) (by decide)
    rw [ht, Option.bind_some]
    have t30 : ∀ N : dM, t_ju_dayOfEnough_30 (enN A Q v) N = some (enN A Q v, sI N 39 9 (enN A Q v)) ∧ eC A Q v (sI N 39 9 (enN A Q v)) := fun N => by
      refine ⟨?_, Or.inr (by rw [gI_sI, if_pos ⟨rfl, rfl⟩])⟩
      unfold t_ju_dayOfEnough_30
      rw [gI_sI, if_pos ⟨rfl, rfl⟩]
    rcases hq : Q 20 with _ | ⟨a, r, b, cc, D⟩
    · have ee : enN A Q v = -1 := by unfold enN; rw [if_pos hq]
      have := t30 M
      rw [ee] at this ⊢
      exact ⟨_, this.1, this.2, chS_sI M 39 9 _ rfl⟩
    · have ee : enN A Q v = skD A Q v 1000 0 := by unfold enN; rw [if_neg (by rw [hq]; simp)]
      obtain ⟨M1, a1, a2, a3⟩ := c_fill43 8 0 M rfl (fun k hk => absurd hk (Nat.not_lt_zero _))
      obtain ⟨M2, b1, b2, b3⟩ := c_fill44 10 0 M1 rfl (fun k hk => absurd hk (Nat.not_lt_zero _))
      have c2 : chS [43, 44] M M2 := (a3.mono (by decide)).trans (b3.mono (by decide))
      have i2 := iv_keep i c2 (by decide +kernel)
      have ci : ciD A Q v 0 M2 := by
        refine ⟨fun k h1 h7 => ?_, fun q hq => ?_⟩
        · rw [b3.I 43 k rfl, a2 k (by omega)]
          have hk : k = 1 ∨ k = 2 ∨ k = 3 ∨ k = 4 ∨ k = 5 ∨ k = 6 := by omega
          rcases hk with rfl | rfl | rfl | rfl | rfl | rfl <;> rfl
        · rw [b2 q hq]; rfl
      obtain ⟨M3, d1, d2⟩ := c_20 i2.1 i2.2.2.2.1 hq 1000 0 0 M2 rfl i2.2.1 i2.2.2.2.2.1 ((srcJ A Q (v 3)).use j c2 (by decide)) ci (Nat.zero_le _) (fun f hf => absurd hf (Nat.not_lt_zero _))
      have a1' : l_jd_fill_43_5 0 0 8 M = some M1 := a1
      have b1' : l_jd_fill_44_5 0 0 10 M1 = some M2 := b1
      have d1' : l_ju_seekDay_20 0 0 M2 = some (skD A Q v 1000 0, M3) := d1
      have hs : f_ju_seekDay M = some (enN A Q v, M3) := by
        unfold f_ju_seekDay f_jd_fill_43 f_jd_fill_44
        rw [a1', Option.bind_some, Option.bind_some, b1', Option.bind_some, Option.bind_some, d1', Option.bind_some, ee]
      rw [if_pos (by simp), hs, Option.bind_some]
      exact ⟨_, (t30 M3).1, (t30 M3).2, ((c2.mono (by decide)).trans (d2.mono (by decide))).sI 39 9 _ rfl⟩
  · rw [if_neg c]
    rcases e with e | e
    · exact absurd e c
    · rw [e]
      exact ⟨M, rfl, Or.inr e, chS.refl _ _⟩
theorem op_enough {A : sA} {Q : sQ} {v : Nat → Nat} {M : dM} (h : IV A Q v M) (he : eC A Q v M) : opV kEn A Q v M (fun b M2 => (∃ M1, f_ax_enough M = some (b, M1) ∧ f_mo_enough M1 = some (b, M2)) ∧ eC A Q v M2) := by
  unfold f_ax_enough f_mo_enough
  obtain ⟨M1, a1, a2, a3, a4, a5, a6⟩ := iv_study h (Or.inl rfl : (1 : Nat) = 1 ∨ (1 : Nat) = 2)
  have a1' : f_ax_study 1 M = some M1 := a1
  obtain ⟨M2, b1, b2, b3⟩ := c_day a2 a4 ((seC A Q v).use he a6 (by decide))
  have i2 := iv_keep a2 b3 (by decide +kernel)
  have i20 := iv_0 i2 0
  have b2' := (seC A Q v).use b2 (chS_sI (S := [7600]) M2 66 0 0 rfl) (by decide)
  have c2 : chS kEn M (sI M2 66 0 0) := ((a6.mono (by decide)).trans (b3.mono (by decide))).sI 66 0 0 rfl
  have ht : (gI (sI M2 66 0 0) 82 20 = 0) = (Q 20 = none) := m_told i20.2.2.2.2.2.1 (r := 8) (by decide)
  rcases hq : Q 20 with _ | ⟨a, r, b, cc, D⟩
  · have ee : enN A Q v = -1 := by unfold enN; rw [if_pos hq]
    refine ⟨-1, sI M2 66 0 0, ⟨⟨M2, ?_, ?_⟩, b2'⟩, i20, c2⟩
    · rw [a1', Option.bind_some, b1, Option.bind_some, ee]
    · rw [if_pos (by rw [ht]; exact hq)]
  · have ee : enN A Q v = skD A Q v 1000 0 := by unfold enN; rw [if_neg (by rw [hq]; simp)]
    obtain ⟨M3, d1, d2, d3⟩ := m_e19 i20.1 i20.2.2.2.1 (A 66 9) 0 _ (Nat.zero_add _) i20.2.2.1 i20.2.2.2.2.2.1 (fun f hf => absurd hf (Nat.not_lt_zero _))
    have d1' : l_mo_enough_19 0 (sI M2 66 0 0) = some M3 := d1
    obtain ⟨M4, e1, e2⟩ := m_e59 i20.1 i20.2.2.2.1 hq 1000 0 M3 rfl d2
    have e1' : l_mo_enough_59 0 M3 = some (skD A Q v 1000 0, M4) := e1
    have c4 : chS kE9 (sI M2 66 0 0) M4 := d3.trans (e2.mono (by decide))
    refine ⟨enN A Q v, M4, ⟨⟨M2, ?_, ?_⟩, (seC A Q v).use b2' c4 (by decide)⟩, iv_keep i20 c4 (by decide +kernel), c2.trans (c4.mono (by decide))⟩
    · rw [a1', Option.bind_some, b1, Option.bind_some]
    · rw [if_neg (by rw [ht, hq]; simp), d1', Option.bind_some, e1', Option.bind_some, ee]
