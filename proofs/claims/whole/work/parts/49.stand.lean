/-! ===== what stands ===== -/
def psN (A : sA) (ok : Nat → Bool) (x : Nat) : Nat → Nat
  | 0 => x
  | k + 1 => if ok k = true ∧ andn (A 110 k) (psN A ok x k) = 0 then psN A ok x k ||| 2 ^ A 108 k else psN A ok x k
theorem psN_s (A : sA) (ok : Nat → Bool) (x k : Nat) : psN A ok x (k + 1) = if ok k = true ∧ andn (A 110 k) (psN A ok x k) = 0 then psN A ok x k ||| 2 ^ A 108 k else psN A ok x k := rfl
theorem psN_lt {A : sA} (w : wfG A) (ok : Nat → Bool) {x : Nat} (hx : x < 4096) : ∀ k, k ≤ A 66 69 → psN A ok x k < 4096
  | 0, _ => hx
  | k + 1, h => by
    have ih := psN_lt w ok hx k (by omega)
    rw [psN_s]
    split
    · exact Nat.or_lt_two_pow (n := 12) ih (Nat.pow_lt_pow_right (by decide) (w.2.1 k (by omega)).1)
    · exact ih
theorem psN_up (A : sA) (ok : Nat → Bool) (x b : Nat) (h : x.testBit b = true) : ∀ k, (psN A ok x k).testBit b = true
  | 0 => h
  | k + 1 => by
    have ih := psN_up A ok x b h k
    rw [psN_s]
    split
    · rw [fb_bit_set, ih]; rfl
    · exact ih
theorem psN_mid (A : sA) (ok : Nat → Bool) (x b j : Nat) (h : (psN A ok x j).testBit b = true) : ∀ d, (psN A ok x (j + d)).testBit b = true
  | 0 => h
  | d + 1 => by
    have ih := psN_mid A ok x b j h d
    show (psN A ok x (j + d + 1)).testBit b = true
    rw [psN_s]
    split
    · rw [fb_bit_set, ih]; rfl
    · exact ih
def psG (A : sA) (ok : Nat → Bool) (x : Nat) : Nat := psN A ok x (A 66 69)
def itG (A : sA) (ok : Nat → Bool) : Nat → Nat
  | 0 => 0
  | n + 1 => psG A ok (itG A ok n)
def swG (A : sA) (ok : Nat → Bool) : Nat := itG A ok 12
theorem itG_lt {A : sA} (w : wfG A) (ok : Nat → Bool) : ∀ n, itG A ok n < 4096
  | 0 => by show 0 < 4096; decide
  | n + 1 => psN_lt w ok (itG_lt w ok n) _ (Nat.le_refl _)
theorem bits_full {x y : Nat} (hx : x < 4096) (hy : y < 4096) (h : 12 ≤ pc x 12) (hb : ∀ b, x.testBit b = true → y.testBit b = true) : y = x := by
  have he : pc x 12 = 12 := by have := pc_le x 12; omega
  have ha := fb_ct_all.mp he
  refine nat_bits fun i => ?_
  by_cases c : i < 12
  · have h1 := ha i c
    rw [hb i h1]
    exact h1.symm
  · have h1 : x.testBit i = false := Nat.testBit_lt_two_pow (Nat.lt_of_lt_of_le (show x < 2 ^ 12 from hx) (Nat.pow_le_pow_right (by decide) (show 12 ≤ i by omega)))
    have h2 : y.testBit i = false := Nat.testBit_lt_two_pow (Nat.lt_of_lt_of_le (show y < 2 ^ 12 from hy) (Nat.pow_le_pow_right (by decide) (show 12 ≤ i by omega)))
    rw [h1, h2]
theorem pc_grow {x y : Nat} (hx : x < 4096) (hy : y < 4096) (hb : ∀ b, x.testBit b = true → y.testBit b = true) (hne : y ≠ x) : pc x 12 < pc y 12 := by
  have hex : ∃ i, i < 12 ∧ x.testBit i = false ∧ y.testBit i = true := by
    apply Classical.byContradiction
    intro z
    apply hne
    refine nat_bits fun i => ?_
    by_cases c : i < 12
    · cases h1 : x.testBit i with
      | true => rw [hb i h1]
      | false =>
        cases h2 : y.testBit i with
        | false => rfl
        | true => exact absurd ⟨i, c, h1, h2⟩ z
    · have h1 : x.testBit i = false := Nat.testBit_lt_two_pow (Nat.lt_of_lt_of_le (show x < 2 ^ 12 from hx) (Nat.pow_le_pow_right (by decide) (show 12 ≤ i by omega)))
      have h2 : y.testBit i = false := Nat.testBit_lt_two_pow (Nat.lt_of_lt_of_le (show y < 2 ^ 12 from hy) (Nat.pow_le_pow_right (by decide) (show 12 ≤ i by omega)))
      rw [h1, h2]
  obtain ⟨i, h1, h2, h3⟩ := hex
  have e1 := fb_ct_upd (fun k => x.testBit k) true h1
  have h4 : (if x.testBit i = true then 1 else 0) = 0 := by rw [h2]; rfl
  have e2 : fb_ct (fun k => if k = i then true else x.testBit k) 12 ≤ pc y 12 := fb_ct_sub (fun k _ hk => by
    have hk' : (if k = i then true else x.testBit k) = true := hk
    by_cases c : k = i
    · rw [c]; exact h3
    · rw [if_neg c] at hk'; exact hb k hk')
  have e1' : fb_ct (fun k => if k = i then true else x.testBit k) 12 + (if x.testBit i = true then 1 else 0) = pc x 12 + 1 := e1
  rw [h4] at e1'
  omega
theorem itG_fix {A : sA} (w : wfG A) (ok : Nat → Bool) : ∀ n, itG A ok (n + 1) = itG A ok n ∨ n + 1 ≤ pc (itG A ok (n + 1)) 12
  | 0 => by
    by_cases c : itG A ok 1 = itG A ok 0
    · exact Or.inl c
    · right
      have := pc_grow (itG_lt w ok 0) (itG_lt w ok 1) (fun b h => psN_up A ok _ b h _) c
      show 0 + 1 ≤ pc (itG A ok 1) 12
      omega
  | n + 1 => by
    by_cases c : itG A ok (n + 1 + 1) = itG A ok (n + 1)
    · exact Or.inl c
    · right
      rcases itG_fix w ok n with h | h
      · exact absurd (by show psG A ok (itG A ok (n + 1)) = itG A ok (n + 1); rw [h]; exact h) c
      · have := pc_grow (itG_lt w ok (n + 1)) (itG_lt w ok (n + 1 + 1)) (fun b hb => psN_up A ok _ b hb _) c
        omega
theorem itG_stay {A : sA} {ok : Nat → Bool} {n : Nat} (h : itG A ok (n + 1) = itG A ok n) : ∀ d, itG A ok (n + d) = itG A ok n
  | 0 => rfl
  | d + 1 => by
    have ih := itG_stay h d
    show psG A ok (itG A ok (n + d)) = _
    rw [ih]
    exact h
theorem swG_fix {A : sA} (w : wfG A) (ok : Nat → Bool) : psG A ok (swG A ok) = swG A ok := by
  rcases itG_fix w ok 11 with h | h
  · show psG A ok (itG A ok 12) = itG A ok 12
    rw [h]
    exact h
  · exact bits_full (itG_lt w ok 12) (itG_lt w ok 13) h (fun b hb => psN_up A ok _ b hb _)
theorem swG_at {A : sA} (w : wfG A) {ok : Nat → Bool} {n : Nat} (h : itG A ok (n + 1) = itG A ok n) : itG A ok n = swG A ok := by
  by_cases c : n ≤ 12
  · have := itG_stay h (12 - n)
    rw [show n + (12 - n) = 12 by omega] at this
    exact this.symm
  · have h2 : itG A ok (12 + 1) = itG A ok 12 := swG_fix w ok
    have := itG_stay h2 (n - 12)
    rw [show 12 + (n - 12) = n by omega] at this
    exact this
def okL (A : sA) (left i : Nat) : Bool := decide (andn (A 109 i) left = 0)
def okO (A : sA) (out i : Nat) : Bool := decide (A 109 i &&& out = 0)
theorem andn_le {a n : Nat} (b : Nat) (h : a < 2 ^ n) : andn a b < 2 ^ n := by
  unfold andn
  exact Nat.xor_lt_two_pow h (Nat.lt_of_le_of_lt Nat.and_le_left h)
theorem gf_lt {A : sA} (w : wfA A) {i : Nat} (hi : i < A 66 69) : A 109 i < 2 ^ 40 := Nat.lt_of_lt_of_le (w.2.2.2.2.2.1.2.1 i hi).2.1 (Nat.pow_le_pow_right (by decide) w.2.2.1.1)
theorem c_st18 {A : sA} {M : dM} (w : wfA A) (rc : rcA A M) (left : Nat) {x : Nat} (hx : x < 4096) (x4 x5 : Int32) : l_cl_standWith_18 (lN left) (nI x) x4 x5 (nI 0) M = some (nI (psG A (okL A left) x)) := by
  have hn := w.2.2.2.2.2.1.1
  unfold l_cl_standWith_18 psG
  refine lpc_seq (body := fun s : Int32 × Int32 => b_cl_standWith_18_18 (lN left) s.1 x4 x5 s.2 M) (fun k => (nI (psN A (okL A left) x k), nI k)) (A 66 69) ?_ ?_
  · intro k hk
    obtain ⟨g1, g2, g3⟩ := w.2.2.2.2.2.1.2.1 k hk
    obtain ⟨e1, e2, e3⟩ := rc.2.2.2.2.2.1.2 k hk
    have hp := psN_lt w.2.2.2.2.2.1 (okL A left) hx k (by omega)
    have h1 := andn_le left (gf_lt w hk)
    have h2 := andn_le (n := 12) (psN A (okL A left) x k) (show A 110 k < 2 ^ 12 from g3)
    show b_cl_standWith_18_18 (lN left) (nI (psN A (okL A left) x k)) x4 x5 (nI k) M = some (.inl (nI (psN A (okL A left) x (k + 1)), nI (k + 1)))
    unfold b_cl_standWith_18_18
    rw [rc.2.2.2.2.2.1.1, if_neg (z_nle (by omega) (by omega) hk), z_gd (z_in (n := k) (by omega) (by omega)), z_cl (n := k) (by omega), e1, e2, e3, z_andnL, z_andn, show nI k + 1 = nI (k + 1) from z_add k 1, psN_s]
    by_cases c1 : andn (A 109 k) left = 0
    · rw [if_pos (show lN _ = (0 : Int64) from by rw [c1]; rfl)]
      by_cases c2 : andn (A 110 k) (psN A (okL A left) x k) = 0
      · rw [if_pos (show nI _ = (0 : Int32) from by rw [c2]; rfl), if_pos ⟨decide_eq_true c1, c2⟩, z_1shl (by omega), z_or]
      · rw [if_neg (show ¬ nI _ = (0 : Int32) from z_ne (b := 0) (by omega) (by omega) c2), if_neg (fun z => c2 z.2)]
    · rw [if_neg (show ¬ lN _ = (0 : Int64) from z_lne (b := 0) (by omega) (by omega) c1), if_neg (fun z => c1 (of_decide_eq_true z.1))]
  · show b_cl_standWith_18_18 (lN left) (nI (psN A (okL A left) x (A 66 69))) x4 x5 (nI (A 66 69)) M = _
    unfold b_cl_standWith_18_18
    rw [rc.2.2.2.2.2.1.1, if_pos (z_yle (by omega) (by omega) (Nat.le_refl _))]
theorem c_standWith {A : sA} {M : dM} (w : wfA A) (rc : rcA A M) (left : Nat) : f_cl_standWith (lN left) M = some (nI (swG A (okL A left))) := by
  have go : ∀ m n, n + m = 12 → l_cl_standWith_5 (lN left) (nI (itG A (okL A left) n)) (nI n) M = some (nI (swG A (okL A left))) := by
    intro m
    induction m with
    | zero =>
      intro n hn
      have e : n = 12 := by omega
      subst e
      unfold l_cl_standWith_5
      refine lpc_out ?_
      show b_cl_standWith_5_5 (lN left) (nI (itG A (okL A left) 12)) (nI 12) M = _
      unfold b_cl_standWith_5_5
      rw [if_pos (by decide)]
      rfl
    | succ m ih =>
      intro n hn
      have h1 := itG_lt w.2.2.2.2.2.1 (okL A left) n
      have h2 := itG_lt w.2.2.2.2.2.1 (okL A left) (n + 1)
      have hb : b_cl_standWith_5_5 (lN left) (nI (itG A (okL A left) n)) (nI n) M = if itG A (okL A left) (n + 1) = itG A (okL A left) n then some (.inr (nI (itG A (okL A left) (n + 1)))) else some (.inl (nI (itG A (okL A left) (n + 1)), nI (n + 1))) := by
        unfold b_cl_standWith_5_5
        have e18 : l_cl_standWith_18 (lN left) (nI (itG A (okL A left) n)) (nI n) (nI (itG A (okL A left) n)) 0 M = some (nI (itG A (okL A left) (n + 1))) := c_st18 w rc left h1 _ _
        rw [if_neg (show ¬ (12 : Int32) ≤ nI n from z_nle (a := 12) (by omega) (by omega) (by omega)), e18, Option.bind_some, show nI n + 1 = nI (n + 1) from z_add n 1]
        by_cases c : itG A (okL A left) (n + 1) = itG A (okL A left) n
        · rw [if_pos (by rw [c]), if_pos c]
        · rw [if_neg (z_ne (by omega) (by omega) c), if_neg c]
      unfold l_cl_standWith_5 at ih ⊢
      by_cases c : itG A (okL A left) (n + 1) = itG A (okL A left) n
      · rw [if_pos c, c] at hb
        rw [← swG_at w.2.2.2.2.2.1 c]
        exact lpc_out hb
      · rw [if_neg c] at hb
        exact lpc_step (s' := (nI (itG A (okL A left) (n + 1)), nI (n + 1))) hb (ih (n + 1) (by omega))
  have h := go 12 0 rfl
  have h' : l_cl_standWith_5 (lN left) 0 0 M = some (nI (swG A (okL A left))) := h
  unfold f_cl_standWith
  rw [h']
  rfl
theorem z_bitq {m k : Nat} (hk : k < 31) (h : m < 2147483648) : ((nI m >>> (nI k &&& 31)) &&& 1 = (1 : Int32)) = (m.testBit k = true) := by
  have e : (nI m >>> (nI k &&& 31)) &&& 1 = nI (m / 2 ^ k % 2 ^ 1) := by
    rw [z_shr (by omega) h]
    exact fa_mask _ 1
  have hm2 := Nat.mod_lt (m / 2 ^ k) (show 0 < 2 ^ 1 by decide)
  rw [e, Nat.testBit_eq_decide_div_mod_eq, decide_eq_true_iff]
  refine propext ⟨fun z => ?_, fun z => ?_⟩
  · have z' : nI (m / 2 ^ k % 2 ^ 1) = nI 1 := z
    rw [z_eq (by omega) (by omega)] at z'
    exact z'
  · rw [show (2 : Nat) ^ 1 = 2 from rfl, z]; rfl
theorem m_st16 {A : sA} {M : dM} (w : wfA A) (rm : rmA A M) {out : Nat} {x : Nat} (hx : x < 4096) : l_mo_standsWithout_16 (lN out) (nI x) (nI 0) (nI 0) M = some (nI (psG A (okO A out) x), nI (if psG A (okO A out) x = x then 0 else 1)) := by
  have hn := w.2.2.2.2.2.1.1
  unfold l_mo_standsWithout_16 psG
  have key := lpc_seq (body := fun s : Int32 × Int32 × Int32 => b_mo_standsWithout_16_16 (lN out) s.1 s.2.1 s.2.2 M) (x := (nI (psN A (okO A out) x (A 66 69)), nI (if psN A (okO A out) x (A 66 69) = x then 0 else 1))) (fun k => (nI (psN A (okO A out) x k), nI (if psN A (okO A out) x k = x then 0 else 1), nI k)) (A 66 69) ?_ ?_
  · rw [show psN A (okO A out) x 0 = x from rfl, if_pos rfl] at key
    exact key
  · intro k hk
    obtain ⟨g1, g2, g3⟩ := w.2.2.2.2.2.1.2.1 k hk
    obtain ⟨e1, e2, e3⟩ := rm.2.2.2.2.2.1.2 k hk
    have hp := psN_lt w.2.2.2.2.2.1 (okO A out) hx k (by omega)
    have h1 : A 109 k &&& out < 2 ^ 40 := Nat.lt_of_le_of_lt Nat.and_le_left (gf_lt w hk)
    have h2 := andn_le (n := 12) (psN A (okO A out) x k) (show A 110 k < 2 ^ 12 from g3)
    show b_mo_standsWithout_16_16 (lN out) (nI (psN A (okO A out) x k)) (nI (if psN A (okO A out) x k = x then 0 else 1)) (nI k) M = some (.inl (nI (psN A (okO A out) x (k + 1)), nI (if psN A (okO A out) x (k + 1) = x then 0 else 1), nI (k + 1)))
    unfold b_mo_standsWithout_16_16
    rw [rm.2.2.2.2.2.1.1, if_neg (z_nle (by omega) (by omega) hk), z_gd (z_in (n := k) (by omega) (by omega)), z_cl (n := k) (by omega), e1, e2, e3, fb_andL, z_andn, show nI k + 1 = nI (k + 1) from z_add k 1]
    by_cases c0 : (psN A (okO A out) x k).testBit (A 108 k) = true
    · have es : psN A (okO A out) x (k + 1) = psN A (okO A out) x k := by
        rw [psN_s]
        split
        · refine nat_bits fun i => ?_
          rw [fb_bit_set]
          by_cases e : i = A 108 k
          · rw [e, c0]; rfl
          · rw [decide_eq_false e, Bool.or_false]
        · rfl
      rw [if_pos (by rw [z_bitq (by omega) (by omega)]; exact c0), es]
    · rw [if_neg (by rw [z_bitq (by omega) (by omega)]; exact c0), psN_s]
      by_cases c1 : A 109 k &&& out = 0
      · rw [if_pos (show lN _ = (0 : Int64) from by rw [c1]; rfl)]
        by_cases c2 : andn (A 110 k) (psN A (okO A out) x k) = 0
        · have hne : ¬ (psN A (okO A out) x k ||| 2 ^ A 108 k = x) := fun z => by
            have h3 : x.testBit (A 108 k) = true := by rw [← z, fb_bit_set, decide_eq_true rfl, Bool.or_true]
            exact c0 (psN_up A (okO A out) x _ h3 k)
          rw [if_pos (show nI _ = (0 : Int32) from by rw [c2]; rfl), if_pos ⟨decide_eq_true c1, c2⟩, z_1shl (by omega), z_or, if_neg hne]
          rfl
        · rw [if_neg (show ¬ nI _ = (0 : Int32) from z_ne (b := 0) (by omega) (by omega) c2), if_neg (show ¬ (okO A out k = true ∧ andn (A 110 k) (psN A (okO A out) x k) = 0) from fun z => c2 z.2)]
      · rw [if_neg (show ¬ lN _ = (0 : Int64) from z_lne (b := 0) (by omega) (by omega) c1), if_neg (show ¬ (okO A out k = true ∧ andn (A 110 k) (psN A (okO A out) x k) = 0) from fun z => c1 (of_decide_eq_true z.1))]
  · show b_mo_standsWithout_16_16 (lN out) _ _ (nI (A 66 69)) M = _
    unfold b_mo_standsWithout_16_16
    rw [rm.2.2.2.2.2.1.1, if_pos (z_yle (by omega) (by omega) (Nat.le_refl _))]
def swO (A : sA) (out : Nat) : Nat := swG A (okO A out)
theorem m_stands {A : sA} {M : dM} (w : wfA A) (rm : rmA A M) (out : Nat) : f_mo_standsWithout (lN out) M = some (nI (swO A out)) := by
  have step : ∀ n, b_mo_standsWithout_5_5 (lN out) (nI (itG A (okO A out) n)) (nI 1) M = some (.inl (nI (itG A (okO A out) (n + 1)), nI (if itG A (okO A out) (n + 1) = itG A (okO A out) n then 0 else 1))) := fun n => by
    have h1 := itG_lt w.2.2.2.2.2.1 (okO A out) n
    have e16 : l_mo_standsWithout_16 (lN out) (nI (itG A (okO A out) n)) 0 0 M = some (nI (itG A (okO A out) (n + 1)), nI (if itG A (okO A out) (n + 1) = itG A (okO A out) n then 0 else 1)) := m_st16 w rm h1
    unfold b_mo_standsWithout_5_5
    rw [if_neg (by decide), e16]
    rfl
  have go : ∀ m n, n + m = 13 → l_mo_standsWithout_5 (lN out) (nI (itG A (okO A out) n)) (nI 1) M = some (nI (swO A out)) := by
    intro m
    induction m with
    | zero =>
      intro n hn
      have e : n = 13 := by omega
      subst e
      have c : itG A (okO A out) 14 = itG A (okO A out) 13 := by
        have h2 : itG A (okO A out) (12 + 1) = itG A (okO A out) 12 := swG_fix w.2.2.2.2.2.1 (okO A out)
        show psG A (okO A out) (itG A (okO A out) 13) = _
        rw [h2]
        exact h2
      have hs := step 13
      rw [if_pos c] at hs
      unfold l_mo_standsWithout_5
      refine lpc_step (s' := (nI (itG A (okO A out) (13 + 1)), nI 0)) hs (lpc_out ?_)
      show b_mo_standsWithout_5_5 (lN out) (nI (itG A (okO A out) (13 + 1))) (nI 0) M = _
      unfold b_mo_standsWithout_5_5
      rw [if_pos (show nI 0 = (0 : Int32) from rfl), show itG A (okO A out) (13 + 1) = itG A (okO A out) 13 from c, swG_at w.2.2.2.2.2.1 c]
      rfl
    | succ m ih =>
      intro n hn
      have hs := step n
      unfold l_mo_standsWithout_5 at ih ⊢
      by_cases c : itG A (okO A out) (n + 1) = itG A (okO A out) n
      · rw [if_pos c] at hs
        refine lpc_step (s' := (nI (itG A (okO A out) (n + 1)), nI 0)) hs (lpc_out ?_)
        show b_mo_standsWithout_5_5 (lN out) (nI (itG A (okO A out) (n + 1))) (nI 0) M = _
        unfold b_mo_standsWithout_5_5
        rw [if_pos (show nI 0 = (0 : Int32) from rfl), c, swG_at w.2.2.2.2.2.1 c]
        rfl
      · rw [if_neg c] at hs
        exact lpc_step (s' := (nI (itG A (okO A out) (n + 1)), nI 1)) hs (ih (n + 1) (by omega))
  have h := go 13 0 rfl
  have h' : l_mo_standsWithout_5 (lN out) 0 1 M = some (nI (swO A out)) := h
  unfold f_mo_standsWithout
  rw [h']
  rfl
/-! the least set that is closed -/
theorem psN_cong {A : sA} {ok ok' : Nat → Bool} (x : Nat) : ∀ k, (∀ i, i < k → ok i = ok' i) → psN A ok x k = psN A ok' x k
  | 0, _ => rfl
  | k + 1, h => by
    rw [psN_s, psN_s, psN_cong x k (fun i hi => h i (by omega)), h k (by omega)]
theorem swG_cong {A : sA} {ok ok' : Nat → Bool} (h : ∀ i, i < A 66 69 → ok i = ok' i) : swG A ok = swG A ok' := by
  have : ∀ n, itG A ok n = itG A ok' n := by
    intro n
    induction n with
    | zero => rfl
    | succ n ih =>
      show psG A ok (itG A ok n) = psG A ok' (itG A ok' n)
      rw [ih]
      exact psN_cong _ _ h
  exact this 12
def allF (A : sA) : Nat := 2 ^ A 66 9 - 1
theorem allF_bit (A : sA) (b : Nat) : (allF A).testBit b = decide (b < A 66 9) := Nat.testBit_two_pow_sub_one _ b
theorem bit_hi {x n b : Nat} (h : x < 2 ^ n) (hb : x.testBit b = true) : b < n := by
  by_cases c : b < n
  · exact c
  · have := Nat.testBit_lt_two_pow (Nat.lt_of_lt_of_le h (Nat.pow_le_pow_right (by decide) (show n ≤ b by omega)))
    rw [this] at hb; cases hb
theorem okL_O {A : sA} (w : wfA A) {left out i : Nat} (hi : i < A 66 69) (h : ∀ b, b < A 66 9 → left.testBit b = !out.testBit b) : okL A left i = okO A out i := by
  have hg := (w.2.2.2.2.2.1.2.1 i hi).2.1
  have e : andn (A 109 i) left = A 109 i &&& out := by
    refine nat_bits fun b => ?_
    rw [andn_bit, Nat.testBit_and]
    by_cases c : (A 109 i).testBit b = true
    · rw [c, h b (bit_hi hg c), Bool.not_not]
    · rw [Bool.eq_false_iff.mpr c, Bool.false_and, Bool.false_and]
  unfold okL okO
  rw [e]
/-- the class' set with left is the reference's without the rest -/
theorem sw_eq {A : sA} (w : wfA A) {left out : Nat} (h : ∀ b, b < A 66 9 → left.testBit b = !out.testBit b) : swG A (okL A left) = swO A out := swG_cong (fun _ hi => okL_O w hi h)
theorem psN_mono {A : sA} {ok ok' : Nat → Bool} (hok : ∀ i, i < A 66 69 → ok i = true → ok' i = true) {x y : Nat} (hxy : ∀ b, x.testBit b = true → y.testBit b = true) : ∀ k, k ≤ A 66 69 → ∀ b, (psN A ok x k).testBit b = true → (psN A ok' y k).testBit b = true
  | 0, _ => hxy
  | k + 1, hk => by
    have ih := psN_mono hok hxy k (by omega)
    intro b hb
    rw [psN_s] at hb
    rw [psN_s]
    by_cases c : ok k = true ∧ andn (A 110 k) (psN A ok x k) = 0
    · have c' : ok' k = true ∧ andn (A 110 k) (psN A ok' y k) = 0 := by
        refine ⟨hok k (by omega) c.1, nat_bits fun i => ?_⟩
        have := congrArg (fun z => z.testBit i) c.2
        have h1 : (andn (A 110 k) (psN A ok x k)).testBit i = false := by rw [c.2]; exact Nat.zero_testBit i
        rw [andn_bit] at h1
        rw [andn_bit, Nat.zero_testBit]
        cases h2 : (A 110 k).testBit i with
        | false => rfl
        | true =>
          rw [h2, Bool.true_and] at h1
          have h3 : (psN A ok x k).testBit i = true := by
            cases h4 : (psN A ok x k).testBit i with
            | true => rfl
            | false => rw [h4] at h1; cases h1
          rw [ih i h3]
          rfl
      rw [if_pos c, fb_bit_set, Bool.or_eq_true] at hb
      rw [if_pos c', fb_bit_set, Bool.or_eq_true]
      exact hb.imp (ih b) id
    · rw [if_neg c] at hb
      have := ih b hb
      split
      · rw [fb_bit_set, this]; rfl
      · exact this
theorem swG_mono {A : sA} {ok ok' : Nat → Bool} (hok : ∀ i, i < A 66 69 → ok i = true → ok' i = true) {b : Nat} (hb : (swG A ok).testBit b = true) : (swG A ok').testBit b = true := by
  have : ∀ n b, (itG A ok n).testBit b = true → (itG A ok' n).testBit b = true := by
    intro n
    induction n with
    | zero => intro b h; exact h
    | succ n ih => exact psN_mono hok ih (A 66 69) (Nat.le_refl _)
  exact this 12 b hb
theorem swO_mono {A : sA} {out out' : Nat} (h : ∀ b, out'.testBit b = true → out.testBit b = true) {c : Nat} (hc : (swO A out).testBit c = true) : (swO A out').testBit c = true := by
  refine swG_mono (fun i hi hk => ?_) hc
  have e := of_decide_eq_true hk
  refine decide_eq_true (nat_bits fun b => ?_)
  rw [Nat.testBit_and, Nat.zero_testBit]
  have h1 : (A 109 i &&& out).testBit b = false := by rw [e]; exact Nat.zero_testBit b
  rw [Nat.testBit_and] at h1
  cases h2 : (A 109 i).testBit b with
  | false => rfl
  | true =>
    rw [h2, Bool.true_and] at h1
    cases h3 : out'.testBit b with
    | false => rfl
    | true => rw [h b h3] at h1; cases h1
/-- finds on which no ground leans don't matter -/
def usN (A : sA) : Nat → Nat
  | 0 => 0
  | n + 1 => usN A n ||| A 109 n
theorem usN_bit (A : sA) (b : Nat) : ∀ n, (usN A n).testBit b = true ↔ ∃ i, i < n ∧ (A 109 i).testBit b = true
  | 0 => by simp [usN]
  | n + 1 => by
    have ih := usN_bit A b n
    show (usN A n ||| A 109 n).testBit b = true ↔ _
    rw [Nat.testBit_or, Bool.or_eq_true, ih]
    constructor
    · rintro (⟨i, h1, h2⟩ | h)
      · exact ⟨i, by omega, h2⟩
      · exact ⟨n, by omega, h⟩
    · rintro ⟨i, h1, h2⟩
      by_cases e : i = n
      · rw [e] at h2; exact Or.inr h2
      · exact Or.inl ⟨i, by omega, h2⟩
def usF (A : sA) : Nat := usN A (A 66 69)
theorem swO_used {A : sA} {out out' : Nat} (h : ∀ b, (usF A).testBit b = true → out'.testBit b = out.testBit b) : swO A out = swO A out' := by
  refine swG_cong (fun i hi => ?_)
  have e : A 109 i &&& out = A 109 i &&& out' := by
    refine nat_bits fun b => ?_
    rw [Nat.testBit_and, Nat.testBit_and]
    cases c : (A 109 i).testBit b with
    | false => rfl
    | true => rw [h b ((usN_bit A b _).mpr ⟨i, hi, c⟩)]
  unfold okO
  rw [e]
