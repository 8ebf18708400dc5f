/-! ===== chance: powers, ways, fractions; luck ===== -/
theorem c_power (m : Nat) {n : Nat} (hn : n < 2147483648) : f_ch_power (lN m) (nI n) = some (lN (m ^ n)) := by
  unfold f_ch_power l_ch_power_5
  have key := lpc_seq (body := fun s : Int64 × Int32 => b_ch_power_5_5 (lN m) (nI n) s.1 s.2) (x := lN (m ^ n)) (fun i => (lN (m ^ i), nI i)) n ?_ ?_
  · have e : ((1 : Int64), (0 : Int32)) = (lN (m ^ 0), nI 0) := rfl
    rw [e, key]
    rfl
  · intro i hi
    show b_ch_power_5_5 (lN m) (nI n) (lN (m ^ i)) (nI i) = _
    unfold b_ch_power_5_5
    rw [if_neg (nI_ge hi hn), lN_mul, nI_1, Nat.pow_succ]
  · show b_ch_power_5_5 (lN m) (nI n) (lN (m ^ n)) (nI n) = _
    unfold b_ch_power_5_5
    rw [if_pos (nI_le (Nat.le_refl n) hn)]
theorem m_power (m : Nat) {n : Nat} (hn : n < 2147483648) : f_mo_power (lN m) (nI n) = some (lN (m ^ n)) := by
  unfold f_mo_power l_mo_power_5
  have key := lpc_seq (body := fun s : Int64 × Int32 => b_mo_power_5_5 (lN m) (nI n) s.1 s.2) (x := lN (m ^ n)) (fun i => (lN (m ^ i), nI i)) n ?_ ?_
  · have e : ((1 : Int64), (0 : Int32)) = (lN (m ^ 0), nI 0) := rfl
    rw [e, key]
    rfl
  · intro i hi
    show b_mo_power_5_5 (lN m) (nI n) (lN (m ^ i)) (nI i) = _
    unfold b_mo_power_5_5
    rw [if_neg (nI_ge hi hn), lN_mul, nI_1, Nat.pow_succ]
  · show b_mo_power_5_5 (lN m) (nI n) (lN (m ^ n)) (nI n) = _
    unfold b_mo_power_5_5
    rw [if_pos (nI_le (Nat.le_refl n) hn)]
/-- the ways as both sides work them out -/
def cwN (n k : Nat) : Nat → Nat
  | 0 => 1
  | i + 1 => cwN n k i * (n - k + (i + 1)) / (i + 1)
def wN (n k : Nat) : Nat := if k ≤ n then cwN n k k else 0
def cwL (x0 x1 : Int32) : Nat → Int64
  | 0 => 1
  | i + 1 => (cwL x0 x1 i * ((x0 - x1) + nI (i + 1)).toInt64) / (nI (i + 1)).toInt64
set_option maxRecDepth 100000 in
theorem cwN_fit : ∀ n, n < 41 → ∀ k, k < n + 1 → ∀ i, i < k + 1 → cwN n k i * 41 < 9223372036854775808 := by decide +kernel
set_option maxRecDepth 100000 in
theorem wN_fit : ∀ n, n < 41 → ∀ k, k < n + 1 → 0 < cwN n k k ∧ cwN n k k ≤ 2 ^ n := by decide +kernel
theorem toL_ne0 {i : Nat} (h0 : 0 < i) (h : i < 2147483648) : ¬ (nI i).toInt64 = 0 := by
  rw [z_i2l h, fa_litL 0, pk_lEQ (by omega) (by decide)]
  omega
theorem c_chooseL (x0 : Int32) {k : Nat} (hk : k < 2147483647) : l_ch_choose_5 x0 (nI k) 1 1 = some (cwL x0 (nI k) k) := by
  unfold l_ch_choose_5
  refine lpc_seq (body := fun s : Int64 × Int32 => b_ch_choose_5_5 x0 (nI k) s.1 s.2) (x := cwL x0 (nI k) k) (fun i => (cwL x0 (nI k) i, nI (i + 1))) k ?_ ?_
  · intro i hi
    show b_ch_choose_5_5 x0 (nI k) (cwL x0 (nI k) i) (nI (i + 1)) = _
    unfold b_ch_choose_5_5
    rw [if_neg (nI_nlt (by omega) (by omega)), gd_t (toL_ne0 (by omega) (by omega)), nI_1]
    rfl
  · show b_ch_choose_5_5 x0 (nI k) (cwL x0 (nI k) k) (nI (k + 1)) = _
    unfold b_ch_choose_5_5
    rw [if_pos (nI_lt (by omega) (by omega))]
theorem m_waysL (x0 : Int32) {k : Nat} (hk : k < 2147483647) : l_mo_ways_16 x0 (nI k) 1 1 = some (cwL x0 (nI k) k) := by
  unfold l_mo_ways_16
  refine lpc_seq (body := fun s : Int64 × Int32 => b_mo_ways_16_16 x0 (nI k) s.1 s.2) (x := cwL x0 (nI k) k) (fun i => (cwL x0 (nI k) i, nI (i + 1))) k ?_ ?_
  · intro i hi
    show b_mo_ways_16_16 x0 (nI k) (cwL x0 (nI k) i) (nI (i + 1)) = _
    unfold b_mo_ways_16_16
    rw [if_neg (nI_nlt (by omega) (by omega)), gd_t (toL_ne0 (by omega) (by omega)), nI_1]
    rfl
  · show b_mo_ways_16_16 x0 (nI k) (cwL x0 (nI k) k) (nI (k + 1)) = _
    unfold b_mo_ways_16_16
    rw [if_pos (nI_lt (by omega) (by omega))]
theorem cwL_N {n k : Nat} (hn : n ≤ 40) (hk : k ≤ n) : ∀ i, i ≤ k → cwL (nI n) (nI k) i = lN (cwN n k i)
  | 0, _ => rfl
  | i + 1, hi => by
    have ih := cwL_N hn hk i (by omega)
    have hf := cwN_fit n (by omega) k (by omega) i (by omega)
    show (cwL (nI n) (nI k) i * ((nI n - nI k) + nI (i + 1)).toInt64) / (nI (i + 1)).toInt64 = lN (cwN n k i * (n - k + (i + 1)) / (i + 1))
    have hle : cwN n k i * (n - k + (i + 1)) ≤ cwN n k i * 41 := Nat.mul_le_mul_left _ (by omega)
    rw [ih, z_sub hk, nI_add, z_i2l (by omega), z_i2l (by omega), lN_mul, pk_lDiv (by omega) (by omega) (by omega)]
theorem c_choose {n k : Nat} (hn : n ≤ 40) (hk : k ≤ 40) : f_ch_choose (nI n) (nI k) = some (lN (wN n k)) := by
  unfold f_ch_choose
  rw [c_chooseL _ (by omega), Option.bind_some, fa_lit 0, if_neg (nI_nlt (Nat.zero_le _) (by omega))]
  unfold wN
  by_cases h : k ≤ n
  · rw [if_pos (nI_le h (by omega)), if_pos h, cwL_N hn h k (Nat.le_refl k)]
  · rw [if_neg (nI_ge (by omega) (by omega)), if_neg h]
    rfl
theorem m_ways {n k : Nat} (hn : n ≤ 40) (hk : k ≤ 40) : f_mo_ways (nI n) (nI k) = some (lN (wN n k)) := by
  unfold f_mo_ways
  rw [fa_lit 0, if_neg (nI_nlt (Nat.zero_le _) (by omega))]
  unfold wN
  by_cases h : k ≤ n
  · rw [if_pos (nI_le h (by omega)), if_pos h, m_waysL _ (by omega), Option.bind_some, cwL_N hn h k (Nat.le_refl k)]
  · rw [if_neg (nI_ge (by omega) (by omega)), if_neg h]
    rfl
theorem wN_le {n : Nat} (hn : n ≤ 40) (k : Nat) : wN n k ≤ 2 ^ n := by
  unfold wN
  split
  · exact (wN_fit n (by omega) k (by omega)).2
  · exact Nat.zero_le _
theorem wN_pos {n k : Nat} (hn : n ≤ 40) (hk : k ≤ n) : 0 < wN n k := by
  unfold wN
  rw [if_pos hk]
  exact (wN_fit n (by omega) k (by omega)).1
/-! fractions in lowest terms -/
theorem m_gcd (x0 x2 : Int64) (x4 : Int32) : ∀ (b a : Nat), a < 4611686018427387904 → b < 4611686018427387904 → l_mo_lowest_6 x0 x2 x4 (lN a) (lN b) = some (lN (Nat.gcd a b)) := by
  intro b
  induction b using Nat.strongRecOn with
  | _ b ih =>
    intro a ha hb
    unfold l_mo_lowest_6
    by_cases h0 : b = 0
    · subst h0
      refine lpc_out ?_
      show b_mo_lowest_6_6 x0 x2 x4 (lN a) (lN 0) = _
      unfold b_mo_lowest_6_6
      rw [if_pos (show lN 0 = 0 from rfl), Nat.gcd_zero_right]
    · have hlt := Nat.mod_lt a (show 0 < b by omega)
      refine lpc_step (s' := (lN b, lN (a % b))) ?_ ?_
      · show b_mo_lowest_6_6 x0 x2 x4 (lN a) (lN b) = _
        unfold b_mo_lowest_6_6
        have hne : ¬ lN b = 0 := by rw [fa_litL 0, pk_lEQ (by omega) (by decide)]; exact h0
        rw [if_neg hne, gd_t hne, pk_lRem (by omega) (by omega) (by omega)]
      · have := ih (a % b) hlt b hb (by omega)
        unfold l_mo_lowest_6 at this
        rw [this, Nat.gcd_comm b, ← Nat.gcd_rec, Nat.gcd_comm]
theorem half_mod {c r : Nat} (h : 0 < c % r) (hr : 0 < r) : r % (c % r) ≤ r / 2 := by
  have h1 := Nat.mod_lt c hr
  have h2 := Nat.mod_lt r h
  by_cases h3 : c % r ≤ r / 2
  · omega
  · have : r % (c % r) = r - c % r := by
      rw [Nat.mod_eq_sub_mod (by omega), Nat.mod_eq_of_lt (by omega)]
    omega
theorem c_gcd (x0 x2 : Int64) (x4 : Int32) : ∀ (k c r t : Nat), c < 4611686018427387904 → r < 4611686018427387904 → r < 2 ^ k → t + 2 * k ≤ 199 → l_ch_lowest_9 x0 x2 x4 (lN c) (lN r) (nI t) = some (lN (Nat.gcd c r))
  | 0, c, r, t, hc, hr, hk, ht => by
    have h0 : r = 0 := by simpa using hk
    subst h0
    unfold l_ch_lowest_9
    refine lpc_out ?_
    show b_ch_lowest_9_9 x0 x2 x4 (lN c) (lN 0) (nI t) = _
    unfold b_ch_lowest_9_9
    rw [if_neg (by rw [fa_lit 200]; exact nI_ge (by omega) (by omega)), if_pos (show lN 0 = 0 from rfl), Nat.gcd_zero_right]
  | k + 1, c, r, t, hc, hr, hk, ht => by
    have out : ∀ (c t : Nat), t < 200 → lpc (fun s : Int64 × Int64 × Int32 => b_ch_lowest_9_9 x0 x2 x4 s.1 s.2.1 s.2.2) (lN c, lN 0, nI t) = some (lN c) := fun c t ht => by
      refine lpc_out ?_
      show b_ch_lowest_9_9 x0 x2 x4 (lN c) (lN 0) (nI t) = _
      unfold b_ch_lowest_9_9
      rw [if_neg (by rw [fa_lit 200]; exact nI_ge (by omega) (by omega)), if_pos (show lN 0 = 0 from rfl)]
    have step : ∀ (c r t : Nat), c < 4611686018427387904 → 0 < r → r < 4611686018427387904 → t < 200 → b_ch_lowest_9_9 x0 x2 x4 (lN c) (lN r) (nI t) = some (.inl (lN r, lN (c % r), nI (t + 1))) := fun c r t h1 h2 h3 h4 => by
      unfold b_ch_lowest_9_9
      have hne : ¬ lN r = 0 := by rw [fa_litL 0, pk_lEQ (by omega) (by decide)]; omega
      rw [if_neg (by rw [fa_lit 200]; exact nI_ge (by omega) (by omega)), if_neg hne, gd_t hne, pk_lRem (by omega) (by omega) (by omega), nI_1]
    unfold l_ch_lowest_9
    by_cases h0 : r = 0
    · subst h0
      rw [out c t (by omega), Nat.gcd_zero_right]
    · have hlt := Nat.mod_lt c (show 0 < r by omega)
      refine lpc_step (step c r t hc (by omega) hr (by omega)) ?_
      have e1 : Nat.gcd c r = Nat.gcd r (c % r) := by rw [Nat.gcd_comm r, ← Nat.gcd_rec, Nat.gcd_comm]
      by_cases h1 : c % r = 0
      · rw [e1, h1, out r (t + 1) (by omega), Nat.gcd_zero_right]
      · have hlt2 := Nat.mod_lt r (show 0 < c % r by omega)
        refine lpc_step (step r (c % r) (t + 1) hr (by omega) (by omega) (by omega)) ?_
        have hh := half_mod (show 0 < c % r by omega) (show 0 < r by omega)
        have hp : 2 ^ (k + 1) = 2 ^ k * 2 := Nat.pow_succ ..
        have := c_gcd x0 x2 x4 k (c % r) (r % (c % r)) (t + 1 + 1) (by omega) (by omega) (by omega) (by omega)
        unfold l_ch_lowest_9 at this
        rw [this, e1]
        congr 2
        rw [Nat.gcd_comm (c % r), ← Nat.gcd_rec, Nat.gcd_comm]
/-- both sides' fractions -/
theorem fr_both {a b : Nat} (ha : a < 4611686018427387904) (hb : b < 4611686018427387904) (h0 : 0 < b) (x : Int32) : ∃ v, f_ch_lowest (lN a) (lN b) x = some v ∧ f_mo_lowest (lN a) (lN b) x = some v := by
  have hg : 0 < Nat.gcd a b := Nat.gcd_pos_of_pos_right _ h0
  have hgl : Nat.gcd a b ≤ b := Nat.gcd_le_right _ h0
  have hne : ¬ lN (Nat.gcd a b) = 0 := by rw [fa_litL 0, pk_lEQ (by omega) (by decide)]; omega
  have e1 := c_gcd (lN a) (lN b) x 62 b a 0 hb ha (by omega) (by omega)
  have e2 := m_gcd (lN a) (lN b) x b a ha hb
  rw [Nat.gcd_comm] at e1
  refine ⟨if x = 0 then lN a / lN (Nat.gcd a b) else lN b / lN (Nat.gcd a b), ?_, ?_⟩
  · have e1' : l_ch_lowest_9 (lN a) (lN b) x (lN b) (lN a) 0 = some (lN (Nat.gcd a b)) := e1
    unfold f_ch_lowest
    rw [e1', Option.bind_some]
    unfold t_ch_lowest_45 t_ch_lowest_55
    by_cases hx : x = 0
    · rw [if_pos hx, if_neg hne, gd_t hne, if_pos hx]
    · rw [if_neg hx, if_neg hne, gd_t hne, if_neg hx]
  · unfold f_mo_lowest
    rw [e2, Option.bind_some]
    by_cases hx : x = 0
    · rw [if_pos hx, gd_t hne, if_pos hx]
    · rw [if_neg hx, gd_t hne, if_neg hx]
/-! luck -/
def lkT (a q j : Nat) : Nat := wN q j * a ^ j * (10 - a) ^ (q - j)
def lkS (a q : Nat) : Nat → Nat
  | 0 => 0
  | n + 1 => lkS a q n + lkT a q n
/-- from k on -/
def lkU (a q k : Nat) : Nat → Nat
  | 0 => 0
  | n + 1 => lkU a q k n + lkT a q (k + n)
theorem lk_all : ∀ a, a < 10 → ∀ q, q < 7 → ∀ k, k < q + 1 → lkS a q k + lkU a q k (q + 1 - k) = 10 ^ q := by decide +kernel
theorem c_many {a q k : Nat} (ha : 1 ≤ a ∧ a < 10) (hq : q < 7) (hk : k ≤ q) : f_ch_findsSoMany (nI a) (nI q) (nI k) = some (lN (lkU a q k (q + 1 - k))) := by
  unfold f_ch_findsSoMany l_ch_findsSoMany_5
  have key := lpc_seq (body := fun s : Int64 × Int32 => b_ch_findsSoMany_5_5 (nI a) (nI q) s.1 s.2) (x := lN (lkU a q k (q + 1 - k))) (fun i => (lN (lkU a q k i), nI (k + i))) (q + 1 - k) ?_ ?_
  · have e : ((0 : Int64), nI k) = (lN (lkU a q k 0), nI (k + 0)) := rfl
    rw [e, key]
    rfl
  · intro i hi
    show b_ch_findsSoMany_5_5 (nI a) (nI q) (lN (lkU a q k i)) (nI (k + i)) = _
    unfold b_ch_findsSoMany_5_5
    rw [if_neg (nI_nlt (by omega) (by omega)), c_choose (by omega) (by omega), Option.bind_some, z_i2l (by omega), c_power _ (by omega), Option.bind_some, fa_lit 10, z_sub (by omega), z_i2l (by omega), z_sub (by omega), c_power _ (by omega), Option.bind_some, lN_mul, lN_mul, lN_add, nI_1]
    rfl
  · show b_ch_findsSoMany_5_5 (nI a) (nI q) _ (nI (k + (q + 1 - k))) = _
    unfold b_ch_findsSoMany_5_5
    rw [if_pos (nI_lt (by omega) (by omega))]
theorem m_none {a q k : Nat} (ha : 1 ≤ a ∧ a < 10) (hq : q < 7) (hk : k ≤ q) (x4 x5 : Int32) (M : dM) : l_mo_luck_64 (nI a) (nI q) (nI k) x4 x5 0 0 M = some (lN (lkS a q k)) := by
  unfold l_mo_luck_64
  refine lpc_seq (body := fun s : Int64 × Int32 => b_mo_luck_64_64 (nI a) (nI q) (nI k) x4 x5 s.1 s.2 M) (x := lN (lkS a q k)) (fun i => (lN (lkS a q i), nI i)) k ?_ ?_
  · intro i hi
    show b_mo_luck_64_64 (nI a) (nI q) (nI k) x4 x5 (lN (lkS a q i)) (nI i) M = _
    unfold b_mo_luck_64_64
    rw [if_neg (nI_ge hi (by omega)), m_ways (by omega) (by omega), Option.bind_some, z_i2l (by omega), m_power _ (by omega), Option.bind_some, fa_lit 10, z_sub (by omega), z_i2l (by omega), z_sub (by omega), m_power _ (by omega), Option.bind_some, lN_mul, lN_mul, lN_add, nI_1]
    rfl
  · show b_mo_luck_64_64 (nI a) (nI q) (nI k) x4 x5 (lN (lkS a q k)) (nI k) M = _
    unfold b_mo_luck_64_64
    rw [if_pos (nI_le (Nat.le_refl _) (by omega))]
theorem rng1 (x : Int32) {n : Nat} (hn : n < 1000) : (x < nI 1 ∨ nI n < x) ∨ ∃ k, 1 ≤ k ∧ k ≤ n ∧ x = nI k := by
  rcases pk_ix x (n := n + 1) (by omega) with h | h | ⟨j, h1, rfl⟩
  · left; left
    rw [fa_lt] at h ⊢
    have h1 : (nI 1).toInt = 1 := by decide
    have h0 : (0 : Int32).toInt = 0 := by decide
    omega
  · left; right
    rw [fa_le, nI_toInt (by omega)] at h
    rw [fa_lt, nI_toInt (by omega)]
    omega
  · by_cases h0 : j = 0
    · subst h0; left; left; decide
    · exact Or.inr ⟨j, by omega, by omega, rfl⟩
theorem mrng1 {x : Int32} {n : Nat} (h : x < nI 1 ∨ nI n < x) : f_mo_within x (nI 1) (nI n) = false := by
  unfold f_mo_within
  by_cases h1 : x < nI 1
  · simp only [h1, if_true]
  · have h2 : nI n < x := h.resolve_left h1
    simp only [h1, h2, if_true, if_false]
theorem op_luck (x1 x2 x3 x4 x5 : Int32) (M : dM) : ∃ v, f_ax_luck x1 x2 x3 x4 x5 = some v ∧ f_mo_luck x1 x2 x3 x4 x5 M = some (v, sI M 66 0 (nI 0)) := by
  have e5 : f_mo_within x5 (nI 0) (nI 1) = f_ax_within x5 (nI 2) := z_mw0 x5 (n := 1) (by decide)
  have no : f_ax_luck x1 x2 x3 x4 x5 = some (-lN 1) → f_mo_luck x1 x2 x3 x4 x5 M = some (-lN 1, sI M 66 0 (nI 0)) → ∃ v, f_ax_luck x1 x2 x3 x4 x5 = some v ∧ f_mo_luck x1 x2 x3 x4 x5 M = some (v, sI M 66 0 (nI 0)) := fun h1 h2 => ⟨_, h1, h2⟩
  rcases rng1 x1 (n := 9) (by decide) with h | ⟨a, a1, a2, rfl⟩
  · refine no ?_ ?_
    · unfold f_ax_luck
      simp only [fa_lit, fa_litL]
      by_cases h1 : x1 < nI 1
      · simp only [h1, if_true]
      · have h2 : nI 9 < x1 := h.resolve_left h1
        simp only [h1, h2, if_true, if_false]
    · unfold f_mo_luck
      simp only [fa_lit, fa_litL, mrng1 h, Bool.false_eq_true, if_false]
  have ka1 : ¬ nI a < nI 1 := nI_nlt a1 (by omega)
  have ka2 : ¬ nI 9 < nI a := nI_nlt a2 (by omega)
  have ka : f_mo_within (nI a) (nI 1) (nI 9) = true := by rw [z_mwithin (by omega) (by decide) (by decide)]; simp; omega
  rcases rng1 x2 (n := 6) (by decide) with h | ⟨q, q1, q2, rfl⟩
  · refine no ?_ ?_
    · unfold f_ax_luck
      simp only [fa_lit, fa_litL, ka1, ka2, if_false]
      by_cases h1 : x2 < nI 1
      · simp only [h1, if_true]
      · have h2 : nI 6 < x2 := h.resolve_left h1
        simp only [h1, h2, if_true, if_false]
    · unfold f_mo_luck
      simp only [fa_lit, fa_litL, ka, mrng1 h, Bool.false_eq_true, if_false, if_true]
  have kq1 : ¬ nI q < nI 1 := nI_nlt q1 (by omega)
  have kq2 : ¬ nI 6 < nI q := nI_nlt q2 (by omega)
  have kq : f_mo_within (nI q) (nI 1) (nI 6) = true := by rw [z_mwithin (by omega) (by decide) (by decide)]; simp; omega
  rcases z_range x3 (q + 1) (by omega) with h | ⟨k, hk, rfl⟩
  · have e3 : f_mo_within x3 (nI 0) (nI q) = false := by
      have := z_mw0 x3 (n := q) (by omega)
      rw [← h]; exact this
    refine no ?_ ?_
    · unfold f_ax_luck
      simp only [fa_lit, fa_litL, ka1, ka2, kq1, kq2, if_false]
      have ho := z_out h
      by_cases h1 : x3 < nI 0
      · simp only [h1, if_true]
      · have h2 : nI q < x3 := by
          have h3 := ho.resolve_left h1
          rw [fa_le, nI_toInt (by omega)] at h3
          rw [fa_lt, nI_toInt (by omega)]
          omega
        simp only [h1, h2, if_true, if_false]
    · unfold f_mo_luck
      simp only [fa_lit, fa_litL, ka, kq, e3, Bool.false_eq_true, if_false, if_true]
  have kk1 : ¬ nI k < nI 0 := nI_nlt (Nat.zero_le _) (by omega)
  have kk2 : ¬ nI q < nI k := nI_nlt (by omega) (by omega)
  have kk : f_mo_within (nI k) (nI 0) (nI q) = true := by rw [z_mwithin (by omega) (by decide) (by omega)]; simp; omega
  rcases rng1 x4 (n := 3) (by decide) with h | ⟨d, d1, d2, rfl⟩
  · refine no ?_ ?_
    · unfold f_ax_luck
      simp only [fa_lit, fa_litL, ka1, ka2, kq1, kq2, kk1, kk2, if_false]
      by_cases h1 : x4 < nI 1
      · simp only [h1, if_true]
      · have h2 : ¬ x4 ≤ nI 3 := Int32.not_le.mpr (h.resolve_left h1)
        simp only [h1, h2, if_true, if_false]
    · unfold f_mo_luck
      simp only [fa_lit, fa_litL, ka, kq, kk, mrng1 h, Bool.false_eq_true, if_false, if_true]
  have kd1 : ¬ nI d < nI 1 := nI_nlt d1 (by omega)
  have kd2 : nI d ≤ nI 3 := nI_le d2 (by decide)
  have kd : f_mo_within (nI d) (nI 1) (nI 3) = true := by rw [z_mwithin (by omega) (by decide) (by decide)]; simp; omega
  rcases z_range x5 2 (by decide) with h | ⟨x, hx, rfl⟩
  · refine no ?_ ?_
    · unfold f_ax_luck
      simp only [fa_lit, fa_litL, ka1, ka2, kq1, kq2, kk1, kk2, kd1, kd2, h, Bool.false_eq_true, if_false, if_true]
    · unfold f_mo_luck
      simp only [fa_lit, fa_litL, ka, kq, kk, kd, e5, h, Bool.false_eq_true, if_false, if_true]
  have kx : f_ax_within (nI x) (nI 2) = true := by rw [z_within (by omega) (by decide)]; simp [hx]
  have hsum := lk_all a (by omega) q (by omega) k (by omega)
  have hS : lkS a q k ≤ 10 ^ q := by omega
  have hpow : (lkS a q k) ^ d ≤ (10 ^ q) ^ d := Nat.pow_le_pow_left hS d
  have hbig : (10 ^ q) ^ d ≤ 10 ^ 18 := by
    rw [← Nat.pow_mul]
    exact Nat.pow_le_pow_right (by decide) (by
      have : q * d ≤ 6 * 3 := Nat.mul_le_mul q2 d2
      omega)
  have hpos : 0 < (10 ^ q) ^ d := Nat.pow_pos (Nat.pow_pos (by decide))
  obtain ⟨v, v1, v2⟩ := fr_both (a := (10 ^ q) ^ d - (lkS a q k) ^ d) (b := (10 ^ q) ^ d) (by omega) (by omega) hpos (nI x)
  refine ⟨v, ?_, ?_⟩
  · unfold f_ax_luck
    have c1 := c_power 10 (n := q) (by omega)
    have c2 := c_power (10 ^ q) (n := d) (by omega)
    have c3 := c_many ⟨a1, by omega⟩ (by omega : q < 7) (by omega : k ≤ q)
    have c4 := c_power (lkS a q k) (n := d) (by omega)
    have c5 : lN (10 ^ q) - lN (lkU a q k (q + 1 - k)) = lN (lkS a q k) := by
      rw [z_lsub (by omega)]
      congr 1
      omega
    simp only [fa_lit, fa_litL, ka1, ka2, kq1, kq2, kk1, kk2, kd1, kd2, kx, if_false, if_true, c1, c2, c3, c5, c4, z_lsub hpow, v1, Option.bind_some]
  · unfold f_mo_luck
    have c0 := m_none ⟨a1, by omega⟩ (by omega : q < 7) (by omega : k ≤ q) (nI d) (nI x) (sI M 66 0 (nI 0))
    have c0' : l_mo_luck_64 (nI a) (nI q) (nI k) (nI d) (nI x) (lN 0) (nI 0) (sI M 66 0 (nI 0)) = some (lN (lkS a q k)) := c0
    have c1 := m_power 10 (n := q) (by omega)
    have c2 := m_power (10 ^ q) (n := d) (by omega)
    have c4 := m_power (lkS a q k) (n := d) (by omega)
    simp only [fa_lit, fa_litL, ka, kq, kk, kd, e5, kx, if_true, c0', c1, c2, c4, z_lsub hpow, v2, Option.bind_some]
