/-! ===== rules: the least set ===== -/
def rb8 (s : Nat) : Nat := pc s 8
noncomputable def bsp (S : Nat → Bool) (b : Option Nat) (s : Nat) : Option Nat := match b with
  | some x => if rb8 x ≤ rb8 s then some x else if S s = true then some s else some x
  | none => if S s = true then some s else none
noncomputable def bsF (S : Nat → Bool) : Nat → Option Nat
  | 0 => none
  | n + 1 => bsp S (bsF S n) n
theorem bsF_inv (S : Nat → Bool) : ∀ n s, s < n → S s = true → ∃ x, bsF S n = some x ∧ rb8 x ≤ rb8 s
  | 0, s, h, _ => absurd h (Nat.not_lt_zero _)
  | n + 1, s, h, hS => by
    show ∃ x, bsp S (bsF S n) n = some x ∧ _
    by_cases e : s = n
    · subst e
      unfold bsp
      cases hb : bsF S s with
      | none =>
        show ∃ x, (if S s = true then some s else none) = some x ∧ _
        rw [if_pos hS]; exact ⟨s, rfl, Nat.le_refl _⟩
      | some x =>
        show ∃ y, (if rb8 x ≤ rb8 s then some x else if S s = true then some s else some x) = some y ∧ _
        by_cases c : rb8 x ≤ rb8 s
        · rw [if_pos c]; exact ⟨x, rfl, c⟩
        · rw [if_neg c, if_pos hS]; exact ⟨s, rfl, Nat.le_refl _⟩
    · obtain ⟨x, h1, h2⟩ := bsF_inv S n s (by omega) hS
      rw [h1]
      show ∃ y, (if rb8 x ≤ rb8 n then some x else if S n = true then some n else some x) = some y ∧ _
      by_cases c : rb8 x ≤ rb8 n
      · rw [if_pos c]; exact ⟨x, rfl, h2⟩
      · rw [if_neg c]
        split
        · exact ⟨n, rfl, by omega⟩
        · exact ⟨x, rfl, h2⟩
theorem bsF_lt (S : Nat → Bool) : ∀ n x, bsF S n = some x → x < n
  | 0, x, h => by cases h
  | n + 1, x, h => by
    have h' : bsp S (bsF S n) n = some x := h
    unfold bsp at h'
    cases hb : bsF S n with
    | none =>
      rw [hb] at h'
      have h2 : (if S n = true then some n else none) = some x := h'
      split at h2
      · cases h2; omega
      · cases h2
    | some y =>
      have := bsF_lt S n y hb
      rw [hb] at h'
      have h2 : (if rb8 y ≤ rb8 n then some y else if S n = true then some n else some y) = some x := h'
      split at h2
      · cases h2; omega
      · split at h2
        · cases h2; omega
        · cases h2; omega
/-- a set with a rule that was not told never is the least -/
theorem bsp_skip {S : Nat → Bool} {R n : Nat} (hn : n < 256) (hS : ∀ s, S s = S (s &&& R)) (h : andn n R ≠ 0) : bsp S (bsF S n) n = bsF S n := by
  have ev : ∃ b, (andn n R).testBit b = true := Nat.exists_testBit_of_ne_zero h
  obtain ⟨b, hb⟩ := ev
  rw [andn_bit, Bool.and_eq_true] at hb
  have hb8 : b < 8 := bit_hi (n := 8) hn hb.1
  have hlt : n &&& R < n := by
    have h1 : n &&& R ≤ n := Nat.and_le_left
    have h2 : n &&& R ≠ n := fun z => by
      have := hb.1
      rw [← z, Nat.testBit_and] at this
      cases hr : R.testBit b with
      | false => rw [hr, Bool.and_false] at this; cases this
      | true => rw [hr] at hb; cases hb.2
    omega
  have hpc : rb8 (n &&& R) < rb8 n := by
    have h1 : fb_ct (fun i => (n &&& R).testBit i) 8 ≤ fb_ct (fun i => (n &&& R).testBit i || decide (i = b)) 8 := fb_ct_sub (fun k _ hk => by simp only [hk, Bool.true_or])
    have h2 : fb_ct (fun i => if i = b then false else n.testBit i) 8 + (if n.testBit b then 1 else 0) = fb_ct (fun i => n.testBit i) 8 + (if false then 1 else 0) := fb_ct_upd (fun i => n.testBit i) false hb8
    have h3 : fb_ct (fun i => (n &&& R).testBit i) 8 ≤ fb_ct (fun i => if i = b then false else n.testBit i) 8 := fb_ct_sub (fun k _ hk => by
      rw [Nat.testBit_and, Bool.and_eq_true] at hk
      by_cases e : k = b
      · subst e
        rw [hk.2] at hb
        cases hb.2
      · rw [if_neg e]; exact hk.1)
    rw [hb.1] at h2
    simp only [if_true, Bool.false_eq_true, if_false] at h2
    show fb_ct _ 8 < fb_ct _ 8
    omega
  cases hs : S n with
  | false =>
    unfold bsp
    cases bsF S n with
    | none => rw [hs]; rfl
    | some x => rw [hs]; simp
  | true =>
    obtain ⟨x, h1, h2⟩ := bsF_inv S n (n &&& R) hlt (by rw [← hS]; exact hs)
    rw [h1]
    show (if rb8 x ≤ rb8 n then some x else _) = some x
    rw [if_pos (by omega)]
def opI : Option Nat → Int32
  | some x => nI x
  | none => -1
theorem opI_m1 {o : Option Nat} (h : ∀ x, o = some x → x < 256) : (opI o = -1) = (o = none) := by
  cases o with
  | none => simp [opI]
  | some x =>
    have := h x rfl
    have h1 : ¬ nI x = -1 := fun z => by
      have := nI_toInt (n := x) (by omega)
      rw [z] at this
      have h2 : (-1 : Int32).toInt = -1 := rfl
      rw [h2] at this
      omega
    simp [opI, h1]
theorem bc8 {s : Nat} (hs : s < 256) : f_jd_bitCount_0f7a4 (nI s) = nI (rb8 s) := by
  rw [z_bcI (by omega), pc_ext (n := s) (m := 8) hs (by decide)]
  rfl
theorem mb8 {s : Nat} (hs : s < 256) : f_mo_bits (nI s) = some (nI (rb8 s)) := by
  rw [m_bits (by omega), pc_ext (n := s) (m := 8) hs (by decide)]
  rfl
theorem rb8_le (s : Nat) : rb8 s ≤ 8 := pc_le _ _
theorem c_least59 {A : sA} {Q : sQ} {v : Nat → Nat} {M : dM} (w : wfA A) (h : ∀ f, f < A 66 9 → rkB A Q v f = true → gI M 49 (fb_ct (rkB A Q v) f) = nI (ruF A Q v f)) {N : Nat} (hN : N = 256) : l_sy_leastRules_59 (nI (fb_ct (rkB A Q v) (A 66 9))) (-1) 0 M = some (opI (bsF (saB A Q v) N), M) := by
  unfold l_sy_leastRules_59
  refine lpc_seq (body := fun s : Int32 × Int32 => b_sy_leastRules_59_59 (nI (fb_ct (rkB A Q v) (A 66 9))) s.1 s.2 M) (fun k => (opI (bsF (saB A Q v) k), nI k)) N ?_ ?_
  · intro s hs0
    have hs : s < 256 := by omega
    show b_sy_leastRules_59_59 (nI (fb_ct (rkB A Q v) (A 66 9))) (opI (bsF (saB A Q v) s)) (nI s) M = some (.inl (opI (bsp (saB A Q v) (bsF (saB A Q v) s) s), nI (s + 1)))
    have hx := fun x (hx : bsF (saB A Q v) s = some x) => (Nat.lt_trans (bsF_lt _ _ _ hx) hs)
    have go : ∀ b : Option Nat, b_sy_leastRules_59_87 (nI (fb_ct (rkB A Q v) (A 66 9))) (opI b) (nI s) 1 M = some (.inl (if saB A Q v s = true then nI s else opI b, nI (s + 1))) := fun b => by
      unfold b_sy_leastRules_59_87
      rw [if_neg (show ¬ (1 : Int32) = 0 from by decide), c_stopsAll w h hs, Option.bind_some, show nI s + 1 = nI (s + 1) from z_add s 1]
      split <;> rfl
    unfold b_sy_leastRules_59_59 b_sy_leastRules_59_82
    rw [if_neg (show ¬ (256 : Int32) ≤ nI s from z_nle (a := 256) (by decide) (by omega) (by omega)), go]
    simp only [opI_m1 hx]
    cases hb : bsF (saB A Q v) s with
    | none =>
      rw [if_pos rfl]
      show _ = (some (Sum.inl (opI (if saB A Q v s = true then some s else none), nI (s + 1))) : Option ((Int32 × Int32) ⊕ (Int32 × dM)))
      split <;> rfl
    | some x =>
      have hx' := hx x hb
      rw [if_neg (fun z => by cases z)]
      show (if f_jd_bitCount_0f7a4 (nI x) ≤ f_jd_bitCount_0f7a4 (nI s) then _ else _) = (some (Sum.inl (opI (if rb8 x ≤ rb8 s then some x else if saB A Q v s = true then some s else some x), nI (s + 1))) : Option ((Int32 × Int32) ⊕ (Int32 × dM)))
      have r1 := rb8_le x
      have r2 := rb8_le s
      rw [bc8 hx', bc8 hs]
      by_cases c : rb8 x ≤ rb8 s
      · rw [if_pos (z_yle (by omega) (by omega) c), if_pos c]
        unfold b_sy_leastRules_59_87
        rw [if_pos rfl, show nI s + 1 = nI (s + 1) from z_add s 1]
      · rw [if_neg (z_nle (by omega) (by omega) (by omega)), if_neg c]
        split <;> rfl
  · show b_sy_leastRules_59_59 (nI (fb_ct (rkB A Q v) (A 66 9))) (opI (bsF (saB A Q v) N)) (nI N) M = _
    unfold b_sy_leastRules_59_59
    rw [if_pos (show (256 : Int32) ≤ nI N from by rw [hN]; decide)]
/-! the reference -/
noncomputable def rdF (Q : sQ) : Nat := bsN (fun r => decide (Q (12 + r) ≠ none)) 8
theorem m_ruled {Q : sQ} {v : Nat → Nat} {M : dM} (mw : rmW Q v M) : f_mo_ruled M = some (nI (rdF Q)) := by
  unfold f_mo_ruled
  have e0 : l_mo_ruled_4 0 0 M = some (nI (rdF Q)) := by
    unfold l_mo_ruled_4
    refine lpc_seq (body := fun s : Int32 × Int32 => b_mo_ruled_4_4 s.1 s.2 M) (fun k => (nI (bsN (fun r => decide (Q (12 + r) ≠ none)) k), nI k)) 8 ?_ ?_
    · intro k hk
      show b_mo_ruled_4_4 (nI (bsN (fun r => decide (Q (12 + r) ≠ none)) k)) (nI k) M = some (.inl (nI (bsN (fun r => decide (Q (12 + r) ≠ none)) (k + 1)), nI (k + 1)))
      unfold b_mo_ruled_4_4
      rw [if_neg (show ¬ (8 : Int32) ≤ nI k from z_nle (a := 8) (by decide) (by omega) (by omega)), show (12 : Int32) + nI k = nI (12 + k) from z_add 12 k, z_gd (z_in (n := 12 + k) (by omega) (by omega)), z_cl (n := 12 + k) (by omega), show nI k + 1 = nI (k + 1) from z_add k 1, bsN_s]
      by_cases c : Q (12 + k) = none
      · rw [if_pos (by rw [m_told mw (by omega)]; exact c), if_neg (by rw [decide_eq_true_iff]; exact fun z => z c), show (0 : Int32) = nI 0 from rfl, z_or, Nat.or_zero]
      · rw [if_neg (by rw [m_told mw (by omega)]; exact c), if_pos (decide_eq_true c), z_1shl (by omega), z_or]
    · show b_mo_ruled_4_4 (nI (bsN (fun r => decide (Q (12 + r) ≠ none)) 8)) (nI 8) M = _
      unfold b_mo_ruled_4_4
      rw [if_pos (show (8 : Int32) ≤ nI 8 from by decide)]
      rfl
  rw [e0, Option.bind_some]
theorem ru_R {A : sA} {Q : sQ} {v : Nat → Nat} (f s : Nat) : ruF A Q v f &&& s = ruF A Q v f &&& (s &&& rdF Q) := nat_bits fun b => by
  rw [Nat.testBit_and, Nat.testBit_and, Nat.testBit_and]
  unfold ruF rdF
  rw [bsN_bit, bsN_bit]
  cases hq : Q (12 + b) with
  | none =>
    have : ruB A Q v f b = false := lvN_none hq _
    rw [this]; simp
  | some t =>
    cases decide (b < 8) <;> cases ruB A Q v f b <;> cases s.testBit b <;> simp
theorem saB_R {A : sA} {Q : sQ} {v : Nat → Nat} (s : Nat) : saB A Q v s = saB A Q v (s &&& rdF Q) := by
  have e : saP A Q v s ↔ saP A Q v (s &&& rdF Q) := by
    unfold saP
    constructor
    · intro h f hf hk
      rw [← ru_R]; exact h f hf hk
    · intro h f hf hk
      rw [ru_R]; exact h f hf hk
  by_cases c : saP A Q v s
  · rw [saB_t c, saB_t (e.mp c)]
  · rw [saB_f c, saB_f (fun z => c (e.mpr z))]
/-- what the reference's search needs -/
def rgM (A : sA) (Q : sQ) (v : Nat → Nat) (M : dM) : Prop := rmA A M ∧ rmW Q v M ∧ rmK1 A Q v (A 66 9) M ∧ gJ M 66 63 = lN (duF A Q v)
theorem rgM_k {A : sA} {Q : sQ} {v : Nat → Nat} {M M' : dM} (h : rgM A Q v M) (c : chS kEa M M') : rgM A Q v M' := ⟨(srmA A).use h.1 c (by decide +kernel), rmW_w h.2.1 c (by decide), (srmK1 A Q v _).use h.2.2.1 c (by decide), (c.J 66 63 rfl).trans h.2.2.2⟩
theorem m_sa40 {A : sA} {Q : sQ} {v : Nat → Nat} (w : wfA A) (wq : wQ Q v) {s f : Nat} (hs : s < 256) (hR : andn s (rdF Q) = 0) (hf : f < A 66 9) : ∀ (d r : Nat) (M : dM), r + d = 8 → rgM A Q v M → ∃ M', l_mo_stopsAll_40 (nI s) (nI f) (if ruF A Q v f &&& (s &&& (2 ^ r - 1)) = 0 then 0 else 1) (nI r) M = some (if ruF A Q v f &&& s = 0 then 0 else 1, M') ∧ chS kEa M M' := by
  intro d
  induction d with
  | zero =>
    intro r M hr g
    have e : r = 8 := by omega
    subst e
    refine ⟨M, ?_, chS.refl _ _⟩
    have es : s &&& (2 ^ 8 - 1) = s := by rw [Nat.and_two_pow_sub_one_eq_mod]; exact Nat.mod_eq_of_lt hs
    rw [es]
    unfold l_mo_stopsAll_40
    refine lpc_out ?_
    show b_mo_stopsAll_40_40 (nI s) (nI f) _ (nI 8) M = _
    unfold b_mo_stopsAll_40_40
    rw [if_pos (show (8 : Int32) ≤ nI 8 from by decide)]
  | succ d ih =>
    intro r M hr g
    have hr8 : r < 8 := by omega
    have e1 : nI r + 1 = nI (r + 1) := z_add r 1
    have em : ∀ b, (ruF A Q v f &&& (s &&& (2 ^ (r + 1) - 1))).testBit b = ((ruF A Q v f &&& (s &&& (2 ^ r - 1))).testBit b || (decide (b = r) && (s.testBit r && ruB A Q v f r))) := fun b => by
      rw [Nat.testBit_and, Nat.testBit_and, Nat.testBit_and, Nat.testBit_and, Nat.testBit_two_pow_sub_one, Nat.testBit_two_pow_sub_one]
      unfold ruF
      rw [bsN_bit]
      by_cases e : b = r
      · subst e
        rw [decide_eq_true (show b < b + 1 by omega), decide_eq_false (Nat.lt_irrefl b), decide_eq_true (show b = b from rfl), decide_eq_true hr8]
        cases s.testBit b <;> cases ruB A Q v f b <;> rfl
      · rw [decide_eq_false e]
        by_cases c : b < r
        · rw [decide_eq_true c, decide_eq_true (show b < r + 1 by omega)]; simp
        · rw [decide_eq_false c, decide_eq_false (show ¬ b < r + 1 by omega)]; simp
    have z0 : ∀ x : Nat, x = 0 ↔ ∀ b, x.testBit b = false := fun x => ⟨fun h b => by rw [h, Nat.zero_testBit], fun h => nat_bits fun b => by rw [h b, Nat.zero_testBit]⟩
    have eT : (s.testBit r && ruB A Q v f r) = true → ruF A Q v f &&& (s &&& (2 ^ (r + 1) - 1)) ≠ 0 := fun h z => by
      have := (z0 _).mp z r
      rw [em, h, decide_eq_true (show r = r from rfl)] at this
      simp at this
    have eF : (s.testBit r && ruB A Q v f r) = false → ruF A Q v f &&& (s &&& (2 ^ (r + 1) - 1)) = ruF A Q v f &&& (s &&& (2 ^ r - 1)) := fun h => nat_bits fun b => by
      rw [em, h, Bool.and_false, Bool.or_false]
    have eN : ruF A Q v f &&& (s &&& (2 ^ r - 1)) ≠ 0 → ruF A Q v f &&& (s &&& (2 ^ (r + 1) - 1)) ≠ 0 := fun h z => h ((z0 _).mpr (fun b => by
      have := (z0 _).mp z b
      rw [em, Bool.or_eq_false_iff] at this
      exact this.1))
    have step : ∃ M1, b_mo_stopsAll_40_40 (nI s) (nI f) (if ruF A Q v f &&& (s &&& (2 ^ r - 1)) = 0 then 0 else 1) (nI r) M = some (.inl (if ruF A Q v f &&& (s &&& (2 ^ (r + 1) - 1)) = 0 then 0 else 1, nI (r + 1), M1)) ∧ chS kEa M M1 := by
      unfold b_mo_stopsAll_40_40 b_mo_stopsAll_40_71
      rw [if_neg (show ¬ (8 : Int32) ≤ nI r from z_nle (a := 8) (by decide) (by omega) (by omega)), e1]
      by_cases c : ruF A Q v f &&& (s &&& (2 ^ r - 1)) = 0
      · rw [if_pos c, if_pos rfl]
        by_cases c1 : s.testBit r = true
        · have hq : Q (12 + r) ≠ none := fun z => by
            have := (z0 _).mp hR r
            rw [andn_bit, c1] at this
            unfold rdF at this
            rw [bsN_bit, decide_eq_false (show ¬ Q (12 + r) ≠ none from fun h => h z), Bool.and_false] at this
            cases this
          obtain ⟨M1, a1, a2⟩ := m_isStopped w g.1 wq g.2.1 hr8 hf hq
          refine ⟨M1, ?_, a2⟩
          rw [if_pos (by rw [z_bitq (by omega) (by omega)]; exact c1), a1, Option.bind_some]
          show (if ruB A Q v f r = true then _ else _) = _
          by_cases c2 : ruB A Q v f r = true
          · rw [if_pos c2, if_neg (eT (by rw [c1, c2]; rfl))]
          · rw [if_neg c2, eF (by rw [Bool.eq_false_iff.mpr c2, Bool.and_false]), if_pos c]
        · refine ⟨M, ?_, chS.refl _ _⟩
          rw [if_neg (by rw [z_bitq (by omega) (by omega)]; exact c1), eF (by rw [Bool.eq_false_iff.mpr c1, Bool.false_and]), if_pos c]
      · refine ⟨M, ?_, chS.refl _ _⟩
        rw [if_neg c, if_neg (show ¬ (1 : Int32) = 0 from by decide), if_neg (eN c)]
    obtain ⟨M1, a1, a2⟩ := step
    obtain ⟨M2, b1, b2⟩ := ih (r + 1) M1 (by omega) (rgM_k g a2)
    refine ⟨M2, ?_, a2.trans b2⟩
    unfold l_mo_stopsAll_40 at b1 ⊢
    exact lpc_step (s' := (if ruF A Q v f &&& (s &&& (2 ^ (r + 1) - 1)) = 0 then 0 else 1, nI (r + 1), M1)) a1 b1
