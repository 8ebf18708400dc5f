/-! ===== the class' next token ===== -/
theorem z_ladd (a b : Nat) : lN a + lN b = lN (a + b) := lN_add a b
theorem z_lmul (a b : Nat) : lN a * lN b = lN (a * b) := lN_mul a b
theorem i8_ok : ∀ b, b < 128 → (nI b).toInt8.toInt32 = nI b := by decide +kernel
theorem b_iof {k x j : Nat} (hk : k < 10) (hx : x < 128) (hj : j < 1000) (M : dM) : b_jd_indexOfChar_7_7 k (nI (sl k)) (nI x) (nI j) M = if j < sl k then (if sb k j = x then some (.inr (nI j)) else some (.inl (nI (j + 1)))) else some (.inr (-1)) := by
  have hs := sl_lt k hk
  unfold b_jd_indexOfChar_7_7
  by_cases h : j < sl k
  · obtain ⟨h1, h2⟩ := sb_ok k hk j h
    rw [if_neg (z_nle (by omega) (by omega) h), z_gd (eq_true hk), if_pos h, show mz_len.getD k 0 = sl k from rfl, z_gd (z_in h (by omega)), z_cl (n := j) (by omega), h1]
    by_cases e : sb k j = x
    · rw [if_pos (by rw [e]), if_pos e]
    · rw [if_neg (z_ne (by omega) (by omega) e), if_neg e]
      show some (Sum.inl (nI j + nI 1)) = _
      rw [z_add]
  · rw [if_pos (z_yle (by omega) (by omega) (by omega)), if_neg h]
theorem z_iofc {k x : Nat} (hk : k < 10) (hx : x < 128) (M : dM) (j : Nat) (hj : j ≤ sl k) : ∃ v, l_jd_indexOfChar_7 k (nI (sl k)) (nI x) (nI j) M = some v ∧ (v < 0 ↔ ∀ i, j ≤ i → i < sl k → sb k i ≠ x) := by
  have hs := sl_lt k hk
  have hb := b_iof hk hx (j := j) (by omega) M
  unfold l_jd_indexOfChar_7
  by_cases h : j < sl k
  · rw [if_pos h] at hb
    by_cases e : sb k j = x
    · rw [if_pos e] at hb
      refine ⟨nI j, lpc_out hb, ?_⟩
      constructor
      · intro q
        exact absurd q (z_nlt (b := 0) (by omega) (by omega) (by omega))
      · intro q
        exact absurd e (q j (Nat.le_refl _) h)
    · rw [if_neg e] at hb
      obtain ⟨v, e1, e2⟩ := z_iofc hk hx M (j + 1) h
      refine ⟨v, lpc_step (s' := nI (j + 1)) hb e1, ?_⟩
      rw [e2]
      constructor
      · intro q i h1 h2
        by_cases hi : i = j
        · rw [hi]; exact e
        · exact q i (by omega) h2
      · intro q i h1 h2
        exact q i (by omega) h2
  · rw [if_neg h] at hb
    refine ⟨-1, lpc_out hb, ?_⟩
    constructor
    · intro _ i h1 h2
      omega
    · intro _
      decide
termination_by sl k - j
theorem sg_ok : ∀ x, x < 128 → ((∀ i, i < 8 → sb 7 i ≠ x) ↔ ¬ isSg x = true) := by decide +kernel
theorem sl7 : sl 7 = 8 := by decide +kernel
theorem z_sign {x : Nat} (hx : x < 128) (M : dM) : ∃ v, f_jd_indexOf_0f7a4 7 (nI x) M = some v ∧ (v < 0 ↔ ¬ isSg x = true) := by
  obtain ⟨v, h1, h2⟩ := z_iofc (k := 7) (by decide) hx M 0 (Nat.zero_le _)
  refine ⟨v, ?_, ?_⟩
  · have e4 : f_jd_indexOf_4cfef 7 (nI x) 0 (nI (sl 7)) M = some v := by
      unfold f_jd_indexOf_4cfef f_jd_canEncode f_jd_indexOfChar
      rw [if_neg (show ¬ nI x < (0 : Int32) from z_nlt (b := 0) (by omega) (by omega) (by omega)), if_neg (show ¬ (255 : Int32) < nI x from z_nlt (a := 255) (by omega) (by omega) (by omega)), if_pos rfl, z_gd (eq_true (by decide)), i8_ok x hx]
      rw [show nI (mz_len.getD 7 0) = nI (sl 7) from rfl]
      simp only [ite_self]
      rw [if_pos (show (0 : Int32) < nI (sl 7) from z_ylt (a := 0) (by omega) (by rw [sl7]; omega) (by rw [sl7]; omega))]
      have h1' : l_jd_indexOfChar_7 7 (nI (sl 7)) (nI x) 0 M = some v := h1
      rw [h1']
      rfl
    unfold f_jd_indexOf_0f7a4 f_jd_indexOf_7cf53
    rw [z_gd (eq_true (by decide)), z_gd (eq_true (by decide)), z_lat (by decide), Option.bind_some, if_pos rfl, z_len (by decide), Option.bind_some, e4]
    rfl
  · rw [h2, ← sg_ok x hx, sl7]
    constructor
    · intro q i hi
      exact q i (Nat.zero_le _) hi
    · intro q i _ hi
      exact q i hi
theorem nx_lo {T : Nat → Nat} {n p : Nat} (h : p < n) (l : isLo (T p) = true) : nx T n p = whl isLo T n p := by
  unfold nx
  rw [if_neg (by omega), if_pos l]
theorem kd_lo {T : Nat → Nat} {n p : Nat} (h : p < n) (l : isLo (T p) = true) : kd T n p = if whl isLo T n p - p ≤ 8 then 1 else 4 := by
  unfold kd
  rw [if_neg (by omega), if_pos l, nx_lo h l]
theorem nx_dg {T : Nat → Nat} {n p : Nat} (h : p < n) (l : ¬ isLo (T p) = true) (d : isDg (T p) = true) : nx T n p = whl isDg T n p := by
  unfold nx
  rw [if_neg (by omega), if_neg l, if_pos d]
theorem kd_dg {T : Nat → Nat} {n p : Nat} (h : p < n) (l : ¬ isLo (T p) = true) (d : isDg (T p) = true) : kd T n p = if whl isDg T n p - p ≤ 4 then 2 else 4 := by
  unfold kd
  rw [if_neg (by omega), if_neg l, if_pos d, nx_dg h l d]
theorem nx_ot {T : Nat → Nat} {n p : Nat} (h : p < n) (l : ¬ isLo (T p) = true) (d : ¬ isDg (T p) = true) : nx T n p = p + 1 := by
  unfold nx
  rw [if_neg (by omega), if_neg l, if_neg d]
theorem kd_ot {T : Nat → Nat} {n p : Nat} (h : p < n) (l : ¬ isLo (T p) = true) (d : ¬ isDg (T p) = true) : kd T n p = if isSg (T p) = true then 3 else 4 := by
  unfold kd
  rw [if_neg (by omega), if_neg l, if_neg d]
theorem nx_en {T : Nat → Nat} {n p : Nat} (h : ¬ p < n) : nx T n p = p := by
  unfold nx
  rw [if_pos (by omega)]
theorem kd_en {T : Nat → Nat} {n p : Nat} (h : ¬ p < n) : kd T n p = 0 := by
  unfold kd
  rw [if_pos (by omega)]
theorem kd_0 {T : Nat → Nat} {n p : Nat} : kd T n p = 0 ↔ ¬ p < n := by
  constructor
  · intro h
    unfold kd at h
    by_cases hp : n ≤ p
    · omega
    · rw [if_neg hp] at h
      split at h <;> split at h <;> first | omega | (split at h <;> omega)
  · exact kd_en
theorem c_word {T : Nat → Nat} {n p : Nat} {M : dM} (h : tpc T n M) (hp : p < n) (l : isLo (T p) = true) (h4 : gI M 32 4 = nI p) (h5 : gI M 32 5 = nI p) : ∃ M', f_re_readWord M = some M' ∧ tkc T n p M' ∧ chS [4203, 4205] M M' := by
  obtain ⟨M1, a1, a2, a3⟩ := c_letters p M h (by omega) h5
  have hn := h.1
  have hw := whl_ge isLo T n p (by omega)
  have h41 : gI M1 32 4 = nI p := by rw [a3.I 32 4 rfl]; exact h4
  unfold f_re_readWord t_re_readWord_52 t_re_readWord_72
  rw [a1, Option.bind_some, a2, h41, z_sub hw.1]
  have key : ∀ v : Nat, kd T n p = v → v ≠ 2 → tkc T n p (sI M1 32 3 (nI v)) ∧ chS [4203, 4205] M (sI M1 32 3 (nI v)) := fun v hv hv2 => by
    refine ⟨⟨by omega, ?_, ?_, ?_, fun z => absurd (hv.symm.trans z) hv2⟩, (a3.mono (by decide)).sI 32 3 _ rfl⟩
    · rw [gI_sI, if_neg (by omega)]; exact h41
    · rw [gI_sI, if_neg (by omega), a2, nx_lo hp l]
    · rw [gI_sI, if_pos ⟨rfl, rfl⟩, hv]
  by_cases h8 : whl isLo T n p - p ≤ 8
  · rw [if_neg (show ¬ (8 : Int32) < nI (whl isLo T n p - p) from z_nlt (a := 8) (by omega) (by omega) h8)]
    exact ⟨_, rfl, key 1 (by rw [kd_lo hp l, if_pos h8]) (by decide)⟩
  · rw [if_pos (show (8 : Int32) < nI (whl isLo T n p - p) from z_ylt (a := 8) (by omega) (by omega) (by omega))]
    exact ⟨_, rfl, key 4 (by rw [kd_lo hp l, if_neg h8]) (by decide)⟩
theorem c_number {T : Nat → Nat} {n p : Nat} {M : dM} (h : tpc T n M) (hp : p < n) (l : ¬ isLo (T p) = true) (d : isDg (T p) = true) (h4 : gI M 32 4 = nI p) (h5 : gI M 32 5 = nI p) : ∃ M', f_re_readNumber M = some M' ∧ tkc T n p M' ∧ chS [4203, 4205, 4206] M M' := by
  have c0 : chS [4205, 4206] M (sI M 32 6 0) := chS_sI M 32 6 _ rfl
  obtain ⟨M1, a1, a2, a3, a4⟩ := c_digits p 0 (sI M 32 6 0) (tpc_ch h c0 rfl) (by omega) (by rw [gI_sI, if_neg (by omega)]; exact h5) (by rw [gI_sI, if_pos ⟨rfl, rfl⟩]; rfl)
  rw [Nat.add_zero] at a2 a3
  have hn := h.1
  have hw := whl_ge isDg T n p (by omega)
  have c1 := c0.trans a4
  have h41 : gI M1 32 4 = nI p := by rw [c1.I 32 4 rfl]; exact h4
  unfold f_re_readNumber t_re_readNumber_81 t_re_readNumber_100
  rw [a1, Option.bind_some, a2, h41, z_sub hw.1]
  have key : ∀ v : Nat, kd T n p = v → tkc T n p (sI M1 32 3 (nI v)) ∧ chS [4203, 4205, 4206] M (sI M1 32 3 (nI v)) := fun v hv => by
    refine ⟨⟨by omega, ?_, ?_, ?_, fun _ => ?_⟩, (c1.mono (by decide)).sI 32 3 _ rfl⟩
    · rw [gI_sI, if_neg (by omega)]; exact h41
    · rw [gI_sI, if_neg (by omega), a2, nx_dg hp l d]
    · rw [gI_sI, if_pos ⟨rfl, rfl⟩, hv]
    · rw [gI_sI, if_neg (by omega), a3]
      unfold nu
      rw [nx_dg hp l d]
  by_cases h8 : whl isDg T n p - p ≤ 4
  · rw [if_neg (show ¬ (4 : Int32) < nI (whl isDg T n p - p) from z_nlt (a := 4) (by omega) (by omega) h8)]
    exact ⟨_, rfl, key 2 (by rw [kd_dg hp l d, if_pos h8])⟩
  · rw [if_pos (show (4 : Int32) < nI (whl isDg T n p - p) from z_ylt (a := 4) (by omega) (by omega) (by omega))]
    exact ⟨_, rfl, key 4 (by rw [kd_dg hp l d, if_neg h8])⟩
theorem c_t157 {T : Nat → Nat} {n p : Nat} {M : dM} (h : tpc T n M) (hp : p < n) (l : ¬ isLo (T p) = true) (d : ¬ isDg (T p) = true) (h4 : gI M 32 4 = nI p) (h5 : gI M 32 5 = nI p) : ∃ M', t_re_advance_157 M = some M' ∧ tkc T n p M' ∧ chS [4203, 4205, 4206] M M' := by
  have hn := h.1
  have hT := h.2.1 p hp
  obtain ⟨v, v1, v2⟩ := z_sign (x := T p) (by omega) M
  unfold t_re_advance_157
  rw [h4, z_gd (z_in (n := p) (by omega) (by omega)), z_cl (n := p) (by omega), h.2.2.2 p hp, v1, Option.bind_some]
  have key : ∀ v : Nat, kd T n p = v → v ≠ 2 → ∃ M', t_re_advance_180 (nI v) M = some M' ∧ tkc T n p M' ∧ chS [4203, 4205, 4206] M M' := fun v hv hv2 => by
    unfold t_re_advance_180
    refine ⟨_, rfl, ⟨by omega, ?_, ?_, ?_, fun z => absurd (hv.symm.trans z) hv2⟩, ((chS.refl _ M).sI 32 3 _ rfl).sI 32 5 _ rfl⟩
    · rw [gI_sI, if_neg (by omega), gI_sI, if_neg (by omega)]; exact h4
    · rw [gI_sI, if_pos ⟨rfl, rfl⟩, gI_sI, if_neg (by omega), h5, nx_ot hp l d]
      exact z_add p 1
    · rw [gI_sI, if_neg (by omega), gI_sI, if_pos ⟨rfl, rfl⟩, hv]
  by_cases hs : isSg (T p) = true
  · rw [if_neg (by rw [v2]; exact fun z => z hs)]
    exact key 3 (by rw [kd_ot hp l d, if_pos hs]) (by decide)
  · rw [if_pos (by rw [v2]; exact hs)]
    exact key 4 (by rw [kd_ot hp l d, if_neg hs]) (by decide)
theorem c_t122 {T : Nat → Nat} {n p : Nat} {M : dM} (h : tpc T n M) (hp : p < n) (l : ¬ isLo (T p) = true) (h4 : gI M 32 4 = nI p) (h5 : gI M 32 5 = nI p) : ∃ M', t_re_advance_122 M = some M' ∧ tkc T n p M' ∧ chS [4203, 4205, 4206] M M' := by
  have hn := h.1
  have hT := h.2.1 p hp
  unfold t_re_advance_122
  rw [h4, z_gd (z_in (n := p) (by omega) (by omega)), z_cl (n := p) (by omega), h.2.2.2 p hp]
  by_cases a : T p < 48
  · rw [if_pos (show nI (T p) < (48 : Int32) from z_ylt (b := 48) (by omega) (by omega) a)]
    exact c_t157 h hp l (by rw [isDg_iff]; omega) h4 h5
  · rw [if_neg (show ¬ nI (T p) < (48 : Int32) from z_nlt (b := 48) (by omega) (by omega) (by omega))]
    by_cases b : 57 < T p
    · rw [if_pos (show (57 : Int32) < nI (T p) from z_ylt (a := 57) (by omega) (by omega) b)]
      exact c_t157 h hp l (by rw [isDg_iff]; omega) h4 h5
    · rw [if_neg (show ¬ (57 : Int32) < nI (T p) from z_nlt (a := 57) (by omega) (by omega) (by omega))]
      obtain ⟨M', a1, a2, a3⟩ := c_number h hp l (by rw [isDg_iff]; omega) h4 h5
      rw [a1]
      exact ⟨M', rfl, a2, a3⟩
theorem c_t60 {T : Nat → Nat} {n p : Nat} {M : dM} (h : tpc T n M) (hp : p ≤ n) (h4 : gI M 32 4 = nI p) : ∃ M', t_re_advance_60 M = some M' ∧ tkc T n p M' ∧ chS [4203, 4205, 4206] M M' := by
  have hn := h.1
  unfold t_re_advance_60
  have c0 : chS [4203, 4205, 4206] M (sI M 32 5 (gI M 32 4)) := chS_sI M 32 5 _ rfl
  have e5 : gI (sI M 32 5 (gI M 32 4)) 32 5 = nI p := by rw [gI_sI, if_pos ⟨rfl, rfl⟩, h4]
  have e4 : gI (sI M 32 5 (gI M 32 4)) 32 4 = nI p := by rw [c0.I 32 4 rfl, h4]
  generalize sI M 32 5 (gI M 32 4) = X at c0 e5 e4 ⊢
  have hX := tpc_ch h c0 rfl
  rw [e4, hX.2.2.1]
  by_cases hpn : p < n
  · have hT := h.2.1 p hpn
    rw [if_pos (z_ylt (by omega) (by omega) hpn), z_gd (z_in (n := p) (by omega) (by omega)), z_cl (n := p) (by omega), hX.2.2.2 p hpn]
    by_cases a : T p < 97
    · rw [if_pos (show nI (T p) < (97 : Int32) from z_ylt (b := 97) (by omega) (by omega) a)]
      obtain ⟨M', a1, a2, a3⟩ := c_t122 hX hpn (by rw [isLo_iff]; omega) e4 e5
      exact ⟨M', a1, a2, c0.trans a3⟩
    · rw [if_neg (show ¬ nI (T p) < (97 : Int32) from z_nlt (b := 97) (by omega) (by omega) (by omega))]
      by_cases b : 122 < T p
      · rw [if_pos (show (122 : Int32) < nI (T p) from z_ylt (a := 122) (by omega) (by omega) b)]
        obtain ⟨M', a1, a2, a3⟩ := c_t122 hX hpn (by rw [isLo_iff]; omega) e4 e5
        exact ⟨M', a1, a2, c0.trans a3⟩
      · rw [if_neg (show ¬ (122 : Int32) < nI (T p) from z_nlt (a := 122) (by omega) (by omega) (by omega))]
        obtain ⟨M', a1, a2, a3⟩ := c_word hX hpn (by rw [isLo_iff]; omega) e4 e5
        rw [a1]
        exact ⟨M', rfl, a2, c0.trans (a3.mono (by decide))⟩
  · rw [if_neg (z_nlt (by omega) (by omega) (by omega))]
    refine ⟨_, rfl, ⟨hp, ?_, ?_, ?_, fun z => ?_⟩, c0.sI 32 3 _ rfl⟩
    · rw [gI_sI, if_neg (by omega)]; exact e4
    · rw [gI_sI, if_neg (by omega), e5, nx_en hpn]
    · rw [gI_sI, if_pos ⟨rfl, rfl⟩, kd_en hpn]; rfl
    · rw [kd_en hpn] at z; cases z
def kTk : List Nat := [4203, 4204, 4205, 4206]
/-- the class' next token -/
theorem c_advance {T : Nat → Nat} {n q : Nat} {M : dM} (h : tpc T n M) (hq : q ≤ n) (h5 : gI M 32 5 = nI q) : ∃ M', f_re_advance M = some M' ∧ tkc T n (sk T n q) M' ∧ chS kTk M M' := by
  unfold f_re_advance
  rw [h5]
  have c0 : chS kTk M (sI M 32 4 (nI q)) := chS_sI M 32 4 _ rfl
  obtain ⟨M1, a1, a2, a3⟩ := c_skip q _ (tpc_ch h c0 rfl) hq (by rw [gI_sI, if_pos ⟨rfl, rfl⟩])
  rw [a1, Option.bind_some]
  have c1 := c0.trans (a3.mono (by decide) : chS kTk _ M1)
  obtain ⟨M2, b1, b2, b3⟩ := c_t60 (tpc_ch h c1 rfl) (whl_ge isWs T n q hq).2 a2
  exact ⟨M2, b1, b2, c1.trans (b3.mono (by decide))⟩
