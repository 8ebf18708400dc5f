/-! ===== tokens of the tape ===== -/
/-- the first place from p on where f is not so -/
def wh (f : Nat → Bool) (T : Nat → Nat) (n : Nat) : Nat → Nat → Nat
  | 0, p => p
  | k + 1, p => if p < n ∧ f (T p) = true then wh f T n k (p + 1) else p
def whl (f : Nat → Bool) (T : Nat → Nat) (n p : Nat) : Nat := wh f T n (n - p) p
def isWs (x : Nat) : Bool := decide (x = 10 ∨ x = 32)
def isLo (x : Nat) : Bool := decide (97 ≤ x ∧ x ≤ 122)
def isDg (x : Nat) : Bool := decide (48 ≤ x ∧ x ≤ 57)
def isSg (x : Nat) : Bool := decide ((40 ≤ x ∧ x ≤ 43) ∨ x = 45 ∨ (59 ≤ x ∧ x ≤ 61))
theorem whl_go {f : Nat → Bool} {T : Nat → Nat} {n p : Nat} (h : p < n) (hf : f (T p) = true) : whl f T n p = whl f T n (p + 1) := by
  unfold whl
  rw [show n - p = (n - (p + 1)) + 1 by omega]
  show (if p < n ∧ f (T p) = true then wh f T n (n - (p + 1)) (p + 1) else p) = _
  rw [if_pos ⟨h, hf⟩]
theorem whl_no {f : Nat → Bool} {T : Nat → Nat} {n p : Nat} (h : ¬ (p < n ∧ f (T p) = true)) : whl f T n p = p := by
  unfold whl
  cases n - p with
  | zero => rfl
  | succ k =>
    show (if p < n ∧ f (T p) = true then wh f T n k (p + 1) else p) = _
    rw [if_neg h]
theorem whl_ge (f : Nat → Bool) (T : Nat → Nat) (n p : Nat) (hp : p ≤ n) : p ≤ whl f T n p ∧ whl f T n p ≤ n := by
  by_cases h : p < n ∧ f (T p) = true
  · rw [whl_go h.1 h.2]
    have := whl_ge f T n (p + 1) h.1
    omega
  · rw [whl_no h]
    exact ⟨Nat.le_refl _, hp⟩
termination_by n - p
theorem whl_end (f : Nat → Bool) (T : Nat → Nat) (n p : Nat) : ¬ (whl f T n p < n ∧ f (T (whl f T n p)) = true) := by
  by_cases h : p < n ∧ f (T p) = true
  · rw [whl_go h.1 h.2]
    exact whl_end f T n (p + 1)
  · rw [whl_no h]
    exact h
termination_by n - p
def sk (T : Nat → Nat) (n p : Nat) : Nat := whl isWs T n p
/-- where the token at p ends, what it is -/
def nx (T : Nat → Nat) (n p : Nat) : Nat := if n ≤ p then p else if isLo (T p) = true then whl isLo T n p else if isDg (T p) = true then whl isDg T n p else p + 1
def kd (T : Nat → Nat) (n p : Nat) : Nat := if n ≤ p then 0 else if isLo (T p) = true then (if nx T n p - p ≤ 8 then 1 else 4) else if isDg (T p) = true then (if nx T n p - p ≤ 4 then 2 else 4) else if isSg (T p) = true then 3 else 4
/-- the value of k digits from p on, and of k letters -/
def dv (T : Nat → Nat) (p : Nat) : Nat → Nat
  | 0 => 0
  | k + 1 => dv T p k * 10 + T (p + k) - 48
def ev (T : Nat → Nat) (p : Nat) : Nat → Nat
  | 0 => 0
  | k + 1 => ev T p k * 27 + T (p + k) - 96
def nu (T : Nat → Nat) (n p : Nat) : Nat := dv T p (nx T n p - p)
/-- the class' tape, and its token -/
def tpc (T : Nat → Nat) (n : Nat) (M : dM) : Prop := n ≤ 1000 ∧ (∀ i, i < n → T i ≤ 126) ∧ gI M 32 1 = nI n ∧ ∀ i, i < n → gI M 33 i = nI (T i)
def tkc (T : Nat → Nat) (n p : Nat) (M : dM) : Prop := p ≤ n ∧ gI M 32 4 = nI p ∧ gI M 32 5 = nI (nx T n p) ∧ gI M 32 3 = nI (kd T n p) ∧ (kd T n p = 2 → gI M 32 6 = nI (nu T n p))
theorem tpc_ch {T : Nat → Nat} {n : Nat} {S : List Nat} {M M' : dM} (h : tpc T n M) (c : chS S M M') (hd : disj [4201, 33] S = true) : tpc T n M' := by
  have : supp [4201, 33] (tpc T n) := by
    intro M M' e _ ⟨h0, h1, h2, h3⟩
    refine ⟨h0, h1, ?_, fun i hi => ?_⟩
    · rw [(e 32 1 rfl).1]; exact h2
    · rw [(e 33 i rfl).1]; exact h3 i hi
  exact this.use h c hd
theorem c_skip {T : Nat → Nat} {n : Nat} (p : Nat) (M : dM) (h : tpc T n M) (hp : p ≤ n) (h4 : gI M 32 4 = nI p) : ∃ M', l_re_advance_8 M = some M' ∧ gI M' 32 4 = nI (sk T n p) ∧ chS [4204] M M' := by
  obtain ⟨h0, h1, h2, h3⟩ := h
  have hb : b_re_advance_8_8 M = if p < n ∧ isWs (T p) = true then some (.inl (sI M 32 4 (nI (p + 1)))) else some (.inr M) := by
    unfold b_re_advance_8_8 b_re_advance_8_47
    rw [h2, h4, z_cl (n := p) (by omega)]
    by_cases hn : n ≤ p
    · rw [if_pos (z_yle (by omega) (by omega) hn), if_neg (by omega)]
    · rw [if_neg (z_nle (by omega) (by omega) (by omega)), z_gd (z_in (n := p) (by omega) (by omega)), h3 p (by omega)]
      have hT := h1 p (by omega)
      by_cases a : T p = 10
      · rw [if_pos (show nI (T p) = (10 : Int32) from by rw [a]; rfl), if_pos ⟨by omega, by unfold isWs; exact decide_eq_true (Or.inl a)⟩]
        show some (Sum.inl (sI M 32 4 (nI p + nI 1))) = _
        rw [z_add]
      · rw [if_neg (show ¬ nI (T p) = (10 : Int32) from z_ne (b := 10) (by omega) (by omega) a)]
        by_cases b : T p = 32
        · rw [if_pos (show nI (T p) = (32 : Int32) from by rw [b]; rfl), if_pos ⟨by omega, by unfold isWs; exact decide_eq_true (Or.inr b)⟩]
          show some (Sum.inl (sI M 32 4 (nI p + nI 1))) = _
          rw [z_add]
        · rw [if_neg (show ¬ nI (T p) = (32 : Int32) from z_ne (b := 32) (by omega) (by omega) b), if_neg (by rintro ⟨_, q⟩; unfold isWs at q; rcases of_decide_eq_true q with q | q <;> omega)]
  unfold l_re_advance_8
  by_cases hc : p < n ∧ isWs (T p) = true
  · obtain ⟨M', e1, e2, e3⟩ := c_skip (p + 1) (sI M 32 4 (nI (p + 1))) (tpc_ch ⟨h0, h1, h2, h3⟩ (chS_sI (S := [4204]) M 32 4 _ rfl) rfl) hc.1 (by rw [gI_sI, if_pos ⟨rfl, rfl⟩])
    refine ⟨M', lpc_step (s' := sI M 32 4 (nI (p + 1))) ?_ e1, ?_, (chS_sI M 32 4 _ rfl).trans e3⟩
    · rw [hb, if_pos hc]
    · rw [e2]
      unfold sk
      rw [whl_go hc.1 hc.2]
  · refine ⟨M, lpc_out ?_, ?_, chS.refl _ _⟩
    · rw [hb, if_neg hc]
    · rw [h4]
      unfold sk
      rw [whl_no hc]
termination_by n - p
theorem isLo_iff (x : Nat) : isLo x = true ↔ 97 ≤ x ∧ x ≤ 122 := by unfold isLo; exact decide_eq_true_iff
theorem isDg_iff (x : Nat) : isDg x = true ↔ 48 ≤ x ∧ x ≤ 57 := by unfold isDg; exact decide_eq_true_iff
theorem isSg_iff (x : Nat) : isSg x = true ↔ (40 ≤ x ∧ x ≤ 43) ∨ x = 45 ∨ (59 ≤ x ∧ x ≤ 61) := by unfold isSg; exact decide_eq_true_iff
theorem c_letters {T : Nat → Nat} {n : Nat} (p : Nat) (M : dM) (h : tpc T n M) (hp : p ≤ n) (h5 : gI M 32 5 = nI p) : ∃ M', l_re_readWord_0 M = some M' ∧ gI M' 32 5 = nI (whl isLo T n p) ∧ chS [4205] M M' := by
  obtain ⟨h0, h1, h2, h3⟩ := h
  have hb : b_re_readWord_0_0 M = if p < n ∧ isLo (T p) = true then some (.inl (sI M 32 5 (nI (p + 1)))) else some (.inr M) := by
    unfold b_re_readWord_0_0
    rw [h2, h5, z_cl (n := p) (by omega)]
    by_cases hn : n ≤ p
    · rw [if_pos (z_yle (by omega) (by omega) hn), if_neg (by omega)]
    · rw [if_neg (z_nle (by omega) (by omega) (by omega)), z_gd (z_in (n := p) (by omega) (by omega)), h3 p (by omega)]
      have hT := h1 p (by omega)
      by_cases a : T p < 97
      · rw [if_pos (show nI (T p) < (97 : Int32) from z_ylt (b := 97) (by omega) (by omega) a), if_neg (by rw [isLo_iff]; omega)]
      · rw [if_neg (show ¬ nI (T p) < (97 : Int32) from z_nlt (b := 97) (by omega) (by omega) (by omega))]
        by_cases b : 122 < T p
        · rw [if_pos (show (122 : Int32) < nI (T p) from z_ylt (a := 122) (by omega) (by omega) b), if_neg (by rw [isLo_iff]; omega)]
        · rw [if_neg (show ¬ (122 : Int32) < nI (T p) from z_nlt (a := 122) (by omega) (by omega) (by omega)), if_pos (by rw [isLo_iff]; omega)]
          show some (Sum.inl (sI M 32 5 (nI p + nI 1))) = _
          rw [z_add]
  unfold l_re_readWord_0
  by_cases hc : p < n ∧ isLo (T p) = true
  · obtain ⟨M', e1, e2, e3⟩ := c_letters (p + 1) (sI M 32 5 (nI (p + 1))) (tpc_ch ⟨h0, h1, h2, h3⟩ (chS_sI (S := [4205]) M 32 5 _ rfl) rfl) hc.1 (by rw [gI_sI, if_pos ⟨rfl, rfl⟩])
    refine ⟨M', lpc_step (s' := sI M 32 5 (nI (p + 1))) ?_ e1, ?_, (chS_sI M 32 5 _ rfl).trans e3⟩
    · rw [hb, if_pos hc]
    · rw [e2, whl_go hc.1 hc.2]
  · refine ⟨M, lpc_out ?_, ?_, chS.refl _ _⟩
    · rw [hb, if_neg hc]
    · rw [h5, whl_no hc]
termination_by n - p
theorem c_digits {T : Nat → Nat} {n : Nat} (b k : Nat) (M : dM) (h : tpc T n M) (hp : b + k ≤ n) (h5 : gI M 32 5 = nI (b + k)) (h6 : gI M 32 6 = nI (dv T b k)) : ∃ M', l_re_readNumber_5 M = some M' ∧ gI M' 32 5 = nI (whl isDg T n (b + k)) ∧ gI M' 32 6 = nI (dv T b (whl isDg T n (b + k) - b)) ∧ chS [4205, 4206] M M' := by
  obtain ⟨h0, h1, h2, h3⟩ := h
  have hb : b_re_readNumber_5_5 M = if b + k < n ∧ isDg (T (b + k)) = true then some (.inl (sI (sI M 32 6 (nI (dv T b (k + 1)))) 32 5 (nI (b + (k + 1))))) else some (.inr M) := by
    unfold b_re_readNumber_5_5
    rw [h2, h5, z_cl (n := b + k) (by omega)]
    by_cases hn : n ≤ b + k
    · rw [if_pos (z_yle (by omega) (by omega) hn), if_neg (by omega)]
    · rw [if_neg (z_nle (by omega) (by omega) (by omega)), z_gd (z_in (n := b + k) (by omega) (by omega)), h3 (b + k) (by omega)]
      have hT := h1 (b + k) (by omega)
      by_cases a : T (b + k) < 48
      · rw [if_pos (show nI (T (b + k)) < (48 : Int32) from z_ylt (b := 48) (by omega) (by omega) a), if_neg (by rw [isDg_iff]; omega)]
      · rw [if_neg (show ¬ nI (T (b + k)) < (48 : Int32) from z_nlt (b := 48) (by omega) (by omega) (by omega))]
        by_cases c : 57 < T (b + k)
        · rw [if_pos (show (57 : Int32) < nI (T (b + k)) from z_ylt (a := 57) (by omega) (by omega) c), if_neg (by rw [isDg_iff]; omega)]
        · rw [if_neg (show ¬ (57 : Int32) < nI (T (b + k)) from z_nlt (a := 57) (by omega) (by omega) (by omega)), if_pos (by rw [isDg_iff]; omega)]
          have e5 : ∀ x, gI (sI M 32 6 x) 32 5 = nI (b + k) := fun x => by rw [gI_sI, if_neg (by omega)]; exact h5
          have e6 : gI M 32 6 * 10 + nI (T (b + k)) - 48 = nI (dv T b (k + 1)) := by
            show gI M 32 6 * nI 10 + nI (T (b + k)) - nI 48 = nI (dv T b k * 10 + T (b + k) - 48)
            rw [h6, z_mul, z_add, z_sub (by omega)]
          rw [e6, e5]
          show some (Sum.inl (sI (sI M 32 6 (nI (dv T b (k + 1)))) 32 5 (nI (b + k) + nI 1))) = _
          rw [z_add]
          rfl
  unfold l_re_readNumber_5
  by_cases hc : b + k < n ∧ isDg (T (b + k)) = true
  · have cc : chS [4205, 4206] M (sI (sI M 32 6 (nI (dv T b (k + 1)))) 32 5 (nI (b + (k + 1)))) := (chS_sI M 32 6 _ rfl).sI 32 5 _ rfl
    obtain ⟨M', e1, e2, e3, e4⟩ := c_digits b (k + 1) _ (tpc_ch ⟨h0, h1, h2, h3⟩ cc rfl) hc.1 (by rw [gI_sI, if_pos ⟨rfl, rfl⟩]) (by rw [gI_sI, if_neg (by omega), gI_sI, if_pos ⟨rfl, rfl⟩])
    refine ⟨M', lpc_step (s' := sI (sI M 32 6 (nI (dv T b (k + 1)))) 32 5 (nI (b + (k + 1)))) ?_ e1, ?_, ?_, cc.trans e4⟩
    · rw [hb, if_pos hc]
    · rw [e2, whl_go hc.1 hc.2]
      rfl
    · rw [e3, whl_go hc.1 hc.2]
      rfl
  · refine ⟨M, lpc_out ?_, ?_, ?_, chS.refl _ _⟩
    · rw [hb, if_neg hc]
    · rw [h5, whl_no hc]
    · rw [whl_no hc, h6, Nat.add_sub_cancel_left]
termination_by n - (b + k)
/-! words of the class' constants -/
def sb (k i : Nat) : Nat := ((mz_byt.getD k []).getD i 0).toNatClampNeg
def sl (k : Nat) : Nat := mz_len.getD k 0
theorem sl_lt : ∀ k, k < 10 → sl k < 100 := by decide +kernel
theorem sb_ok : ∀ k, k < 10 → ∀ i, i < sl k → (mz_byt.getD k []).getD i 0 = nI (sb k i) ∧ sb k i < 128 := by decide +kernel
theorem chr_ok : ∀ b, b < 128 → ((nI b &&& 255).toUInt32 % 65536).toInt32 = nI b ∧ ((nI b).toUInt32 % 65536).toInt32 = nI b := by decide +kernel
theorem z_len {k : Nat} (hk : k < 10) : f_jd_length k = some (nI (sl k)) := by
  unfold f_jd_length f_jd_coder
  rw [z_gd (eq_true hk), if_neg (by decide), z_gd (eq_true hk), Option.bind_some]
  have : ∀ k, k < 10 → nI (mz_len.getD k 0) >>> ((0 : Int32) &&& 31) = nI (sl k) := by decide +kernel
  rw [this k hk]
theorem z_lat {k : Nat} (hk : k < 10) : f_jd_isLatin1 k = some true := by
  unfold f_jd_isLatin1
  rw [if_neg (by decide), z_gd (eq_true hk), if_pos rfl]
theorem z_chr {k i : Nat} (hk : k < 10) (hi : i < sl k) (M : dM) : f_jd_charAt_5068e k (nI i) M = some (nI (sb k i)) := by
  have hs := sl_lt k hk
  obtain ⟨h1, h2⟩ := sb_ok k hk i hi
  obtain ⟨h3, h4⟩ := chr_ok (sb k i) h2
  unfold f_jd_charAt_5068e f_jd_charAt_3b067 jd_checkIndex
  rw [z_gd (eq_true hk), z_lat hk, Option.bind_some, if_pos rfl, z_gd (eq_true hk)]
  rw [show mz_len.getD k 0 = sl k from rfl]
  rw [z_gd (p := ¬ nI i < 0 ∧ nI i < nI (sl k)) (eq_true ⟨z_nlt (b := 0) (by omega) (by omega) (by omega), z_ylt (by omega) (by omega) hi⟩), Option.bind_some, z_gd (z_in hi (by omega)), z_cl (n := i) (by omega), h1, h3, Option.bind_some]
  rw [z_gd (eq_true ?_)]
  show Value.int ((nI (sb k i)).toUInt32 % 65536).toInt32 = _
  rw [h4]
