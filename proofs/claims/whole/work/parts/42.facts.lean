/-! ===== facts ===== -/
theorem pc_ext {n m k : Nat} (h : n < 2 ^ m) (hk : m ≤ k) : pc n k = pc n m := by
  unfold pc
  rw [show k = m + (k - m) by omega, fb_ct_split]
  have : fb_ct (fun j => n.testBit (m + j)) (k - m) = 0 := fb_ct_zero.mpr (fun j _ => Nat.testBit_lt_two_pow (Nat.lt_of_lt_of_le h (Nat.pow_le_pow_right (by decide) (by omega))))
  omega
theorem pc_cong {n m k : Nat} (h : ∀ i, i < k → n.testBit i = m.testBit i) : pc n k = pc m k := fb_ct_cong h
theorem pc_del {x b m : Nat} (hb : b < m) (h : x.testBit b = true) : pc (andn x (2 ^ b)) m = pc x m - 1 := by
  have e : ∀ k, k < m → (andn x (2 ^ b)).testBit k = (fun k => if k = b then false else x.testBit k) k := fun k _ => by
    rw [andn_bit, Nat.testBit_two_pow]
    show _ = if k = b then false else x.testBit k
    by_cases c : k = b
    · rw [if_pos c, decide_eq_true c.symm]; simp
    · rw [if_neg c, decide_eq_false (fun z => c z.symm)]; simp
  have h1 : pc (andn x (2 ^ b)) m = fb_ct (fun k => if k = b then false else x.testBit k) m := fb_ct_cong e
  have h2 := fb_ct_upd (fun k => x.testBit k) false hb
  rw [h1]
  have h3 : (if x.testBit b = true then 1 else 0) = 1 := by rw [if_pos h]
  have h4 : (if false = true then 1 else 0) = 0 := rfl
  unfold pc
  have h2' : fb_ct (fun k => if k = b then false else x.testBit k) m + (if x.testBit b = true then 1 else 0) = fb_ct (fun k => x.testBit k) m + (if false = true then 1 else 0) := h2
  rw [h3, h4] at h2'
  omega
theorem pc_alone (A : sA) (s d b : Nat) {h : Nat} (hh : h ≤ 24) : pc (al A s d b % 2 ^ h) 24 = fb_ct (fun x => alb A s d b x) h := by
  have hlt : al A s d b % 2 ^ h < 2 ^ h := Nat.mod_lt _ (Nat.two_pow_pos h)
  rw [pc_ext hlt hh]
  refine fb_ct_cong (fun k hk => ?_)
  show (al A s d b % 2 ^ h).testBit k = _
  rw [Nat.testBit_mod_two_pow, al_bit, decide_eq_true hk, decide_eq_true (show k < 24 by omega), Bool.true_and, Bool.true_and]
theorem z_ahead : ∀ h, h < 25 → f_ax_hoursAhead (nI h) = nI (2 ^ h - 1) := by decide +kernel
theorem ageI_le {a g : Nat} (ha : a ≤ 10000) (h1 : a ≠ 0) (hg : g ≤ 10000) : (nI (a - 1) ≤ ageI g) = (a ≤ g) := by
  unfold ageI
  by_cases c : g = 0
  · rw [if_pos c]
    refine propext ⟨fun z => ?_, fun z => by omega⟩
    rw [fa_le, nI_toInt (by omega)] at z
    have : ((-1 : Int32)).toInt = -1 := by decide
    omega
  · rw [if_neg c, z_le (by omega) (by omega)]
    exact propext ⟨fun z => by omega, fun z => by omega⟩
theorem ageI_lt {a g : Nat} (ha : a ≤ 10000) (h1 : a ≠ 0) (hg : g ≤ 10000) : (nI (a - 1) < ageI g) = (a < g) := by
  unfold ageI
  by_cases c : g = 0
  · rw [if_pos c]
    refine propext ⟨fun z => ?_, fun z => by omega⟩
    rw [fa_lt, nI_toInt (by omega)] at z
    have : ((-1 : Int32)).toInt = -1 := by decide
    omega
  · rw [if_neg c, z_lt (by omega) (by omega)]
    exact propext ⟨fun z => by omega, fun z => by omega⟩
def gfc (A : sA) (s d h b l ms st fi tw k : Nat) : Nat := if k < 8 then ms / 2 ^ k % 2 else if k = 8 then A 67 (10 * s + l) - 1 else if k = 9 then l else if k = 10 then h else if k = 11 then st else if k = 12 then fi else if k = 13 then (if alb A s d b h = true then 1 else 0) else if k = 14 then fb_ct (fun x => alb A s d b x) h else if k = 15 then pc (pre A s d h) 12 - 1 else tw
theorem c_place {A : sA} {M : dM} (w : wfL A) (r : rcL A M) (o : rcO A M) {base s d h b : Nat} (hbase : base + 17 ≤ 697) (hs : s < 8) (hd : d < 1000) (hh : h < 24) (hb : b < 10) (hp : (pre A s d h).testBit b = true) : ∃ M', f_ju_placeFacts (nI base) (nI s) (nI d) (nI h) (nI b) M = some M' ∧ gI M' 40 (base + 10) = nI h ∧ gI M' 40 (base + 13) = nI (if alb A s d b h = true then 1 else 0) ∧ gI M' 40 (base + 14) = nI (fb_ct (fun x => alb A s d b x) h) ∧ gI M' 40 (base + 15) = nI (pc (pre A s d h) 12 - 1) ∧ (∀ j, j < base + 10 ∨ base + 16 ≤ j → gI M' 40 j = gI M 40 j) ∧ chS [40] M M' := by
  have hal := al_lt A s d b
  have e48 : ∀ y2 : Nat, ∀ M0 : dM, chS [40] M M0 → ∃ M', t_ju_placeFacts_48 (nI base) (nI s) (nI d) (nI h) (nI b) (nI (al A s d b)) (nI (base + 13)) (nI y2) M0 = some M' ∧ gI M' 40 (base + 13) = nI y2 ∧ gI M' 40 (base + 14) = nI (fb_ct (fun x => alb A s d b x) h) ∧ gI M' 40 (base + 15) = nI (pc (pre A s d h) 12 - 1) ∧ (∀ j, j < base + 13 ∨ base + 16 ≤ j → gI M' 40 j = gI M0 40 j) ∧ chS [40] M0 M' := fun y2 M0 c0 => by
    have e14 : f_jd_bitCount_0f7a4 (nI (al A s d b) &&& f_ax_hoursAhead (nI h)) = nI (fb_ct (fun x => alb A s d b x) h) := by
      rw [z_ahead h (by omega), fa_mask, z_bcI (Nat.lt_of_le_of_lt (Nat.mod_le _ _) hal), pc_alone A s d b (by omega)]
    unfold t_ju_placeFacts_48
    rw [show nI base + 14 = nI (base + 14) from z_add base 14, show nI base + 15 = nI (base + 15) from z_add base 15, z_gd (z_in (n := base + 13) (by omega) (by omega)), z_gd (z_in (n := base + 14) (by omega) (by omega)), e14, z_cl (n := base + 13) (by omega), z_cl (n := base + 14) (by omega), z_cl (n := base + 15) (by omega)]
    have c1 : chS [40] M0 (sI (sI M0 40 (base + 13) (nI y2)) 40 (base + 14) (nI (fb_ct (fun x => alb A s d b x) h))) := ((chS.refl _ M0).sI 40 _ _ rfl).sI 40 _ _ rfl
    rw [c_whoAt w ((srcL A).use r (c0.trans c1) (by decide)) hs hd hh, Option.bind_some, z_gd (z_in (n := base + 15) (by omega) (by omega))]
    have e15 : f_jd_bitCount_0f7a4 (nI (pre A s d h) &&& ((1 : Int32) <<< (nI b &&& 31) ^^^ (-1))) = nI (pc (pre A s d h) 12 - 1) := by
      have hp10 := pre_lt w s d h
      have ha : andn (pre A s d h) (2 ^ b) < 2 ^ 10 := by
        unfold andn
        exact Nat.xor_lt_two_pow hp10 (Nat.and_lt_two_pow _ (Nat.pow_lt_pow_right (by decide) hb))
      rw [z_1shl (by omega), z_andn, z_bcI (by omega), pc_ext ha (by decide), pc_del hb hp, ← pc_ext (k := 12) (m := 10) hp10 (by decide)]
    rw [e15]
    refine ⟨_, rfl, ?_, ?_, ?_, fun j hj => ?_, c1.sI 40 _ _ rfl⟩
    · rw [gI_sI, if_neg (by omega), gI_sI, if_neg (by omega), gI_sI, if_pos ⟨rfl, rfl⟩]
    · rw [gI_sI, if_neg (by omega), gI_sI, if_pos ⟨rfl, rfl⟩]
    · rw [gI_sI, if_pos ⟨rfl, rfl⟩]
    · rw [gI_sI, if_neg (by omega), gI_sI, if_neg (by omega), gI_sI, if_neg (by omega)]
  unfold f_ju_placeFacts
  rw [c_aloneHours w r o hb hs hd, Option.bind_some, show nI base + 10 = nI (base + 10) from z_add base 10, show nI base + 13 = nI (base + 13) from z_add base 13, z_gd (z_in (n := base + 10) (by omega) (by omega)), z_cl (n := base + 10) (by omega), z_hasBit (by omega) (by omega), al_bit, decide_eq_true hh, Bool.true_and]
  have c0 : chS [40] M (sI M 40 (base + 10) (nI h)) := chS_sI M 40 _ _ rfl
  have fin : ∀ y2 : Nat, y2 = (if alb A s d b h = true then 1 else 0) → ∃ M', t_ju_placeFacts_48 (nI base) (nI s) (nI d) (nI h) (nI b) (nI (al A s d b)) (nI (base + 13)) (nI y2) (sI M 40 (base + 10) (nI h)) = some M' ∧ gI M' 40 (base + 10) = nI h ∧ gI M' 40 (base + 13) = nI (if alb A s d b h = true then 1 else 0) ∧ gI M' 40 (base + 14) = nI (fb_ct (fun x => alb A s d b x) h) ∧ gI M' 40 (base + 15) = nI (pc (pre A s d h) 12 - 1) ∧ (∀ j, j < base + 10 ∨ base + 16 ≤ j → gI M' 40 j = gI M 40 j) ∧ chS [40] M M' := fun y2 hy => by
    obtain ⟨M', a1, a2, a3, a4, a5, a6⟩ := e48 y2 _ c0
    refine ⟨M', a1, ?_, by rw [a2, hy], a3, a4, fun j hj => ?_, c0.trans a6⟩
    · rw [a5 _ (by omega), gI_sI, if_pos ⟨rfl, rfl⟩]
    · rw [a5 j (by omega), gI_sI, if_neg (by omega)]
  by_cases c : alb A s d b h = true
  · rw [if_pos c]
    exact fin 1 (by rw [if_pos c])
  · rw [if_neg c]
    exact fin 0 (by rw [if_neg c])
theorem c_thing {A : sA} {M : dM} (w : wfS A) (r : rcS A M) {base s l ms g : Nat} (hbase : base + 17 ≤ 697) (hs : s < 8) (hl : l < 10) (hm : ms < 256) (ht : A 67 (10 * s + l) ≠ 0) (hg : g ≤ 10000) : ∃ M', f_ju_thingFacts (nI base) (nI s) (nI l) (nI ms) (ageI g) M = some (ageI (if g < A 67 (10 * s + l) then A 67 (10 * s + l) else g), M') ∧ (∀ k, k < 8 → gI M' 40 (base + k) = nI (ms / 2 ^ k % 2)) ∧ gI M' 40 (base + 8) = nI (A 67 (10 * s + l) - 1) ∧ gI M' 40 (base + 9) = nI l ∧ gI M' 40 (base + 12) = nI (if g < A 67 (10 * s + l) then 1 else 0) ∧ (∀ j, ¬ (base ≤ j ∧ j < base + 10) → j ≠ base + 12 → gI M' 40 j = gI M 40 j) ∧ chS [40] M M' := by
  have hag := (w.1 (10 * s + l) (by omega)).1
  have lp : ∀ m k (M : dM), k + m = 8 → ∃ M', l_ju_thingFacts_3 (nI base) (nI s) (nI l) (nI ms) (ageI g) (nI k) M = some M' ∧ (∀ i, k ≤ i → i < 8 → gI M' 40 (base + i) = nI (ms / 2 ^ i % 2)) ∧ (∀ j, ¬ (base + k ≤ j ∧ j < base + 8) → gI M' 40 j = gI M 40 j) ∧ chS [40] M M' := by
    intro m
    induction m with
    | zero =>
      intro k M hk
      refine ⟨M, ?_, fun i h1 h2 => by omega, fun _ _ => rfl, chS.refl _ _⟩
      unfold l_ju_thingFacts_3
      refine lpc_out ?_
      show b_ju_thingFacts_3_3 (nI base) (nI s) (nI l) (nI ms) (ageI g) (nI k) M = _
      unfold b_ju_thingFacts_3_3
      rw [if_pos (show (8 : Int32) ≤ nI k from z_yle (a := 8) (by omega) (by omega) (by omega))]
    | succ m ih =>
      intro k M hk
      have c : chS [40] M (sI M 40 (base + k) (nI (ms / 2 ^ k % 2))) := chS_sI M 40 _ _ rfl
      obtain ⟨M', a1, a2, a3, a4⟩ := ih (k + 1) (sI M 40 (base + k) (nI (ms / 2 ^ k % 2))) (by omega)
      refine ⟨M', ?_, fun i h1 h2 => ?_, fun j hj => ?_, c.trans a4⟩
      · unfold l_ju_thingFacts_3 at a1 ⊢
        refine lpc_step (s' := (nI (k + 1), sI M 40 (base + k) (nI (ms / 2 ^ k % 2)))) ?_ a1
        show b_ju_thingFacts_3_3 (nI base) (nI s) (nI l) (nI ms) (ageI g) (nI k) M = _
        unfold b_ju_thingFacts_3_3
        rw [if_neg (show ¬ (8 : Int32) ≤ nI k from z_nle (a := 8) (by omega) (by omega) (by omega)), z_add, z_gd (z_in (n := base + k) (by omega) (by omega)), z_cl (n := base + k) (by omega), z_shr (by omega) (by omega), show nI (ms / 2 ^ k) &&& 1 = nI (ms / 2 ^ k % 2 ^ 1) from fa_mask _ 1, show nI k + 1 = nI (k + 1) from z_add k 1]
      · by_cases e : i = k
        · rw [a3 _ (by omega), e, gI_sI, if_pos ⟨rfl, rfl⟩]
        · exact a2 i (by omega) h2
      · rw [a3 j (by omega), gI_sI, if_neg (by omega)]
  obtain ⟨Ma, a1, a2, a3, a4⟩ := lp 8 0 M rfl
  have a1' : l_ju_thingFacts_3 (nI base) (nI s) (nI l) (nI ms) (ageI g) 0 M = some Ma := a1
  have eA : f_si_ageOf (nI s) (nI l) Ma = some (nI (A 67 (10 * s + l) - 1)) := by
    unfold f_si_ageOf
    rw [show nI s * 10 = nI (s * 10) from z_mul s 10, z_add, z_gd (z_in (n := s * 10 + l) (by omega) (by omega)), z_cl (n := s * 10 + l) (by omega), a4.I 2 _ rfl, show s * 10 + l = 10 * s + l by omega, (r.2.1 (10 * s + l) (by omega)).1 ht]
  unfold f_ju_thingFacts
  rw [a1', Option.bind_some, eA, Option.bind_some, show nI base + 8 = nI (base + 8) from z_add base 8, show nI base + 9 = nI (base + 9) from z_add base 9, show nI base + 12 = nI (base + 12) from z_add base 12, z_gd (z_in (n := base + 8) (by omega) (by omega)), z_gd (z_in (n := base + 9) (by omega) (by omega)), z_cl (n := base + 8) (by omega), z_cl (n := base + 9) (by omega)]
  have cb : chS [40] Ma (sI (sI Ma 40 (base + 8) (nI (A 67 (10 * s + l) - 1))) 40 (base + 9) (nI l)) := ((chS.refl _ Ma).sI 40 _ _ rfl).sI 40 _ _ rfl
  have fin : ∀ y : Nat, y = (if g < A 67 (10 * s + l) then 1 else 0) → ∃ M', t_ju_thingFacts_84 (ageI g) (nI (A 67 (10 * s + l) - 1)) (nI (base + 12)) (nI y) (sI (sI Ma 40 (base + 8) (nI (A 67 (10 * s + l) - 1))) 40 (base + 9) (nI l)) = some (ageI (if g < A 67 (10 * s + l) then A 67 (10 * s + l) else g), M') ∧ (∀ k, k < 8 → gI M' 40 (base + k) = nI (ms / 2 ^ k % 2)) ∧ gI M' 40 (base + 8) = nI (A 67 (10 * s + l) - 1) ∧ gI M' 40 (base + 9) = nI l ∧ gI M' 40 (base + 12) = nI (if g < A 67 (10 * s + l) then 1 else 0) ∧ (∀ j, ¬ (base ≤ j ∧ j < base + 10) → j ≠ base + 12 → gI M' 40 j = gI M 40 j) ∧ chS [40] M M' := fun y hy => by
    unfold t_ju_thingFacts_84
    rw [z_gd (z_in (n := base + 12) (by omega) (by omega)), z_cl (n := base + 12) (by omega)]
    have em : (if nI (A 67 (10 * s + l) - 1) < ageI g then ageI g else nI (A 67 (10 * s + l) - 1)) = ageI (if g < A 67 (10 * s + l) then A 67 (10 * s + l) else g) := by
      by_cases c : A 67 (10 * s + l) < g
      · rw [if_pos (by rw [ageI_lt hag ht hg]; exact c), if_neg (by omega)]
      · rw [if_neg (by rw [ageI_lt hag ht hg]; exact c)]
        by_cases c2 : g < A 67 (10 * s + l)
        · rw [if_pos c2]
          unfold ageI
          rw [if_neg ht]
        · rw [if_neg c2, show g = A 67 (10 * s + l) by omega]
          unfold ageI
          rw [if_neg ht]
    rw [em]
    refine ⟨_, rfl, fun k hk => ?_, ?_, ?_, ?_, fun j h1 h2 => ?_, (a4.trans cb).sI 40 _ _ rfl⟩
    · rw [gI_sI, if_neg (by omega), gI_sI, if_neg (by omega), gI_sI, if_neg (by omega)]
      exact a2 k (Nat.zero_le _) hk
    · rw [gI_sI, if_neg (by omega), gI_sI, if_neg (by omega), gI_sI, if_pos ⟨rfl, rfl⟩]
    · rw [gI_sI, if_neg (by omega), gI_sI, if_pos ⟨rfl, rfl⟩]
    · rw [gI_sI, if_pos ⟨rfl, rfl⟩, hy]
    · rw [gI_sI, if_neg (by omega), gI_sI, if_neg (by omega), gI_sI, if_neg (by omega)]
      exact a3 j (by omega)
  by_cases c : A 67 (10 * s + l) ≤ g
  · rw [if_pos (by rw [ageI_le hag ht hg]; exact c)]
    exact fin 0 (by rw [if_neg (by omega)])
  · rw [if_neg (by rw [ageI_le hag ht hg]; exact c)]
    exact fin 1 (by rw [if_pos (by omega)])
/-! the reference's facts -/
def agF (A : sA) (f : Nat) : Nat := A 67 (10 * A 74 f + A 75 f)
def tw (A : sA) (far f g : Nat) : Bool := decide (f ≠ g) && (decide (A 80 f = A 80 g) && decide (far < A 68 (8 * A 74 f + A 74 g)))
def fiF (A : sA) (f : Nat) : Nat := if fb_ct (fun g => decide (agF A f ≤ agF A g)) f = 0 then 1 else 0
def twF (A : sA) (far f : Nat) : Nat := fb_ct (fun g => tw A far f g) (A 66 9)
def fc (A : sA) (far f k : Nat) : Nat := gfc A (A 74 f) (A 76 f) (A 77 f) (A 78 f) (A 75 f) (A 79 f) (A 80 f) (fiF A f) (twF A far f) k
theorem m_ageOf {A : sA} {M : dM} (w : wfA A) (rm : rmA A M) {f : Nat} (hf : f < A 66 9) : f_mo_ageOf (nI f) M = some (nI (agF A f - 1)) := by
  obtain ⟨q1, q2, q3, q4, q5, q6, q7, q8⟩ := w.2.2.1.2.1 f hf
  obtain ⟨e1, e2, e3, e4, e5, e6, e7⟩ := rm.2.2.1.2 f hf
  have hn := w.2.2.1.1
  unfold f_mo_ageOf
  rw [z_gd (z_in (n := f) (by omega) (by omega)), z_cl (n := f) (by omega), e1, e2, show (10 : Int32) * nI (A 74 f) = nI (10 * A 74 f) from z_mul 10 _, z_add, z_gd (z_in (n := 10 * A 74 f + A 75 f) (by omega) (by omega)), z_cl (n := 10 * A 74 f + A 75 f) (by omega), (rm.2.1.1 (10 * A 74 f + A 75 f) (by omega)).1]
  unfold ageI agF
  rw [if_neg q8]
theorem ag_ok {A : sA} (w : wfA A) {f : Nat} (hf : f < A 66 9) : agF A f ≤ 10000 ∧ agF A f ≠ 0 := by
  obtain ⟨q1, q2, q3, q4, q5, q6, q7, q8⟩ := w.2.2.1.2.1 f hf
  exact ⟨(w.2.1.1 (10 * A 74 f + A 75 f) (by omega)).1, q8⟩
theorem m_isTwin {A : sA} {M : dM} {far : Nat} (w : wfA A) (rm : rmA A M) (h33 : gI M 66 33 = nI far) (hfar : far ≤ 999) {f g : Nat} (hf : f < A 66 9) (hg : g < A 66 9) : f_mo_isTwin (nI f) (nI g) M = some (tw A far f g) := by
  obtain ⟨q1, q2, q3, q4, q5, q6, q7, q8⟩ := w.2.2.1.2.1 f hf
  obtain ⟨e1, e2, e3, e4, e5, e6, e7⟩ := rm.2.2.1.2 f hf
  obtain ⟨q1', q2', q3', q4', q5', q6', q7', q8'⟩ := w.2.2.1.2.1 g hg
  obtain ⟨e1', e2', e3', e4', e5', e6', e7'⟩ := rm.2.2.1.2 g hg
  have hn := w.2.2.1.1
  have hw := ((w.2.1.2 (A 74 f) q1).2 (A 74 g) q1').1
  unfold f_mo_isTwin tw
  by_cases c : f = g
  · rw [if_pos (by rw [c]), decide_eq_false (fun z => z c), Bool.false_and]
  · rw [if_neg (z_ne (by omega) (by omega) c), decide_eq_true c, Bool.true_and, z_gd (z_in (n := f) (by omega) (by omega)), z_gd (z_in (n := g) (by omega) (by omega)), z_cl (n := f) (by omega), z_cl (n := g) (by omega), e7, e7']
    by_cases c2 : A 80 f = A 80 g
    · rw [if_pos (by rw [c2]), decide_eq_true c2, Bool.true_and, e1, e1', show (8 : Int32) * nI (A 74 f) = nI (8 * A 74 f) from z_mul 8 _, z_add, z_gd (z_in (n := 8 * A 74 f + A 74 g) (by omega) (by omega)), z_cl (n := 8 * A 74 f + A 74 g) (by omega), rm.2.1.2 _ (by omega), h33]
      by_cases c3 : far < A 68 (8 * A 74 f + A 74 g)
      · rw [if_neg (z_nle (by omega) (by omega) c3), decide_eq_true c3]
      · rw [if_pos (z_yle (by omega) (by omega) (by omega)), decide_eq_false c3]
    · rw [if_neg (z_ne (by omega) (by omega) c2), decide_eq_false c2, Bool.false_and]
theorem m_bits {x : Nat} (hx : x < 4096) : f_mo_bits (nI x) = some (nI (pc x 12)) := by
  unfold f_mo_bits l_mo_bits_4
  have key := lpc_seq (body := fun s : Int32 × Int32 => b_mo_bits_4_4 (nI x) s.1 s.2) (x := nI (pc x 12)) (fun i => (nI (pc x i), nI i)) 12 ?_ ?_
  · rw [show ((0 : Int32), (0 : Int32)) = (nI (pc x 0), nI 0) from rfl, key]
    rfl
  · intro i hi
    show b_mo_bits_4_4 (nI x) (nI (pc x i)) (nI i) = _
    unfold b_mo_bits_4_4
    rw [if_neg (show ¬ (12 : Int32) ≤ nI i from z_nle (a := 12) (by omega) (by omega) hi), z_shr (by omega) (by omega), show nI (x / 2 ^ i) &&& 1 = nI (x / 2 ^ i % 2 ^ 1) from fa_mask _ 1, z_add, show nI i + 1 = nI (i + 1) from z_add i 1]
    have : pc x (i + 1) = pc x i + x / 2 ^ i % 2 ^ 1 := by
      unfold pc
      rw [fb_ct_succ]
      show _ + (if x.testBit i = true then 1 else 0) = _
      rw [Nat.testBit_eq_decide_div_mod_eq]
      have := Nat.mod_lt (x / 2 ^ i) (show 0 < 2 by decide)
      by_cases c : x / 2 ^ i % 2 = 1
      · rw [if_pos (decide_eq_true c)]
        show _ = _ + x / 2 ^ i % 2
        omega
      · rw [if_neg (by rw [decide_eq_true_iff]; exact c)]
        show _ = _ + x / 2 ^ i % 2
        omega
    rw [this]
  · show b_mo_bits_4_4 (nI x) (nI (pc x 12)) (nI 12) = _
    unfold b_mo_bits_4_4
    rw [if_pos (by decide)]
theorem m_130 {A : sA} {M : dM} (w : wfA A) (rm : rmA A M) {f : Nat} (hf : f < A 66 9) : l_mo_factOf_130 (nI f) 0 0 M = some (nI (fb_ct (fun g => decide (agF A f ≤ agF A g)) f)) := by
  have hn := w.2.2.1.1
  unfold l_mo_factOf_130
  refine lpc_seq (body := fun s : Int32 × Int32 => b_mo_factOf_130_130 (nI f) s.1 s.2 M) (fun i => (nI (fb_ct (fun g => decide (agF A f ≤ agF A g)) i), nI i)) f ?_ ?_
  · intro i hi
    obtain ⟨a1, a2⟩ := ag_ok w hf
    obtain ⟨b1, b2⟩ := ag_ok w (show i < A 66 9 by omega)
    show b_mo_factOf_130_130 (nI f) (nI (fb_ct (fun g => decide (agF A f ≤ agF A g)) i)) (nI i) M = _
    unfold b_mo_factOf_130_130
    rw [if_neg (z_nle (by omega) (by omega) hi), m_ageOf w rm (by omega), Option.bind_some, m_ageOf w rm hf, Option.bind_some, fb_ct_succ, show nI i + 1 = nI (i + 1) from z_add i 1]
    by_cases c : agF A f ≤ agF A i
    · rw [if_neg (z_nlt (by omega) (by omega) (by omega)), if_pos (decide_eq_true c)]
      show some (Sum.inl (nI _ + nI 1, _)) = _
      rw [z_add]
    · rw [if_pos (z_ylt (by omega) (by omega) (by omega)), if_neg (by rw [decide_eq_true_iff]; exact c)]
      show some (Sum.inl (nI _ + nI 0, _)) = _
      rw [z_add]
  · show b_mo_factOf_130_130 (nI f) _ (nI f) M = _
    unfold b_mo_factOf_130_130
    rw [if_pos (z_yle (by omega) (by omega) (Nat.le_refl _))]
theorem m_192 {A : sA} {M : dM} (w : wfA A) (rm : rmA A M) {f : Nat} (hf : f < A 66 9) : l_mo_factOf_192 (nI f) (nI (2 ^ A 78 f)) 0 0 M = some (nI (fb_ct (fun x => alb A (A 74 f) (A 76 f) (A 78 f) x) (A 77 f))) := by
  have hn := w.2.2.1.1
  obtain ⟨q1, q2, q3, q4, q5, q6, q7, q8⟩ := w.2.2.1.2.1 f hf
  obtain ⟨e1, e2, e3, e4, e5, e6, e7⟩ := rm.2.2.1.2 f hf
  have h2 : (2 : Nat) ^ A 78 f < 2 ^ 10 := Nat.pow_lt_pow_right (by decide) q5
  unfold l_mo_factOf_192
  refine lpc_seq (body := fun s : Int32 × Int32 => b_mo_factOf_192_192 (nI f) (nI (2 ^ A 78 f)) s.1 s.2 M) (fun i => (nI (fb_ct (fun x => alb A (A 74 f) (A 76 f) (A 78 f) x) i), nI i)) (A 77 f) ?_ ?_
  · intro i hi
    have hp := pre_lt w.1 (A 74 f) (A 76 f) i
    show b_mo_factOf_192_192 (nI f) (nI (2 ^ A 78 f)) (nI (fb_ct (fun x => alb A (A 74 f) (A 76 f) (A 78 f) x) i)) (nI i) M = _
    unfold b_mo_factOf_192_192
    rw [z_gd (z_in (n := f) (by omega) (by omega)), z_cl (n := f) (by omega), e4, if_neg (z_nle (by omega) (by omega) hi), e1, e3, m_presentAt w.1 rm.1 q1 q3 (by omega), Option.bind_some, fb_ct_succ, show nI i + 1 = nI (i + 1) from z_add i 1]
    by_cases c : pre A (A 74 f) (A 76 f) i = 2 ^ A 78 f
    · rw [if_pos (by rw [c]), if_pos (show alb A (A 74 f) (A 76 f) (A 78 f) i = true from decide_eq_true c)]
      show some (Sum.inl (nI _ + nI 1, _)) = _
      rw [z_add]
    · rw [if_neg (z_ne (by omega) (by omega) c), if_neg (show ¬ alb A (A 74 f) (A 76 f) (A 78 f) i = true from by unfold alb; rw [decide_eq_true_iff]; exact c)]
      show some (Sum.inl (nI _ + nI 0, _)) = _
      rw [z_add]
  · show b_mo_factOf_192_192 (nI f) (nI (2 ^ A 78 f)) _ (nI (A 77 f)) M = _
    unfold b_mo_factOf_192_192
    rw [z_gd (z_in (n := f) (by omega) (by omega)), z_cl (n := f) (by omega), e4, if_pos (z_yle (by omega) (by omega) (Nat.le_refl _))]
theorem m_255 {A : sA} {M : dM} {far : Nat} (w : wfA A) (rm : rmA A M) (h33 : gI M 66 33 = nI far) (hfar : far ≤ 999) {f : Nat} (hf : f < A 66 9) : l_mo_factOf_255 (nI f) 0 0 M = some (nI (twF A far f)) := by
  have hn := w.2.2.1.1
  unfold l_mo_factOf_255 twF
  refine lpc_seq (body := fun s : Int32 × Int32 => b_mo_factOf_255_255 (nI f) s.1 s.2 M) (fun i => (nI (fb_ct (fun g => tw A far f g) i), nI i)) (A 66 9) ?_ ?_
  · intro i hi
    show b_mo_factOf_255_255 (nI f) (nI (fb_ct (fun g => tw A far f g) i)) (nI i) M = _
    unfold b_mo_factOf_255_255
    rw [rm.2.2.1.1, if_neg (z_nle (by omega) (by omega) hi), m_isTwin w rm h33 hfar hf hi, Option.bind_some, fb_ct_succ, show nI i + 1 = nI (i + 1) from z_add i 1]
    by_cases c : tw A far f i = true
    · rw [if_pos c, if_pos c]
      show some (Sum.inl (nI _ + nI 1, _)) = _
      rw [z_add]
    · rw [if_neg c, if_neg c]
      show some (Sum.inl (nI _ + nI 0, _)) = _
      rw [z_add]
  · show b_mo_factOf_255_255 (nI f) _ (nI (A 66 9)) M = _
    unfold b_mo_factOf_255_255
    rw [rm.2.2.1.1, if_pos (z_yle (by omega) (by omega) (Nat.le_refl _))]
/-- the reference's factOf -/
theorem m_factOf {A : sA} {M : dM} {far : Nat} (w : wfA A) (rm : rmA A M) (h33 : gI M 66 33 = nI far) (hfar : far ≤ 999) {f k : Nat} (hf : f < A 66 9) (hk : k < 17) : f_mo_factOf (nI f) (nI k) M = some (nI (fc A far f k)) := by
  have hn := w.2.2.1.1
  obtain ⟨q1, q2, q3, q4, q5, q6, q7, q8⟩ := w.2.2.1.2.1 f hf
  obtain ⟨e1, e2, e3, e4, e5, e6, e7⟩ := rm.2.2.1.2 f hf
  have hp := pre_lt w.1 (A 74 f) (A 76 f) (A 77 f)
  have h2 : (2 : Nat) ^ A 78 f < 2 ^ 10 := Nat.pow_lt_pow_right (by decide) q5
  have hone : (1 : Int32) <<< (nI (A 78 f) &&& 31) = nI (2 ^ A 78 f) := z_1shl (by omega)
  unfold f_mo_factOf
  rw [z_gd (z_in (n := f) (by omega) (by omega)), z_cl (n := f) (by omega), e1, e2, e3, e4, e5, e6, e7, m_presentAt w.1 rm.1 q1 q3 q4, Option.bind_some, hone]
  have nk : ∀ j, j < 30 → k ≠ j → ¬ nI k = nI j := fun j hj h => z_ne (by omega) (by omega) h
  unfold fc gfc
  by_cases c8 : k < 8
  · rw [if_pos c8, if_neg (show ¬ nI k = (8 : Int32) from nk 8 (by decide) (by omega)), if_neg (show ¬ nI k = (9 : Int32) from nk 9 (by decide) (by omega)), if_neg (show ¬ nI k = (10 : Int32) from nk 10 (by decide) (by omega)), if_neg (show ¬ nI k = (11 : Int32) from nk 11 (by decide) (by omega)), if_neg (show ¬ nI k = (12 : Int32) from nk 12 (by decide) (by omega)), if_neg (show ¬ nI k = (13 : Int32) from nk 13 (by decide) (by omega)), if_neg (show ¬ nI k = (14 : Int32) from nk 14 (by decide) (by omega)), if_neg (show ¬ nI k = (15 : Int32) from nk 15 (by decide) (by omega)), if_neg (show ¬ nI k = (16 : Int32) from nk 16 (by decide) (by omega)), if_neg (show ¬ nI k = (17 : Int32) from nk 17 (by decide) (by omega)), if_neg (show ¬ nI k = (18 : Int32) from nk 18 (by decide) (by omega)), if_neg (show ¬ nI k = (19 : Int32) from nk 19 (by decide) (by omega)), z_shr (by omega) (by omega), show nI (A 79 f / 2 ^ k) &&& 1 = nI (A 79 f / 2 ^ k % 2 ^ 1) from fa_mask _ 1]
  · rw [if_neg c8]
    by_cases d8 : k = 8
    · subst d8
      rw [if_pos (show nI 8 = (8 : Int32) from rfl), m_ageOf w rm hf]
      rfl
    rw [if_neg (show ¬ nI k = (8 : Int32) from nk 8 (by decide) d8), if_neg d8]
    by_cases d9 : k = 9
    · subst d9
      rw [if_pos (show nI 9 = (9 : Int32) from rfl), if_pos rfl]
    rw [if_neg (show ¬ nI k = (9 : Int32) from nk 9 (by decide) d9), if_neg d9]
    by_cases d10 : k = 10
    · subst d10
      rw [if_pos (show nI 10 = (10 : Int32) from rfl), if_pos rfl]
    rw [if_neg (show ¬ nI k = (10 : Int32) from nk 10 (by decide) d10), if_neg d10]
    by_cases d11 : k = 11
    · subst d11
      rw [if_pos (show nI 11 = (11 : Int32) from rfl), if_pos rfl]
    rw [if_neg (show ¬ nI k = (11 : Int32) from nk 11 (by decide) d11), if_neg d11]
    by_cases d12 : k = 12
    · subst d12
      have hle := fb_ct_le (fun g => decide (agF A f ≤ agF A g)) f
      rw [if_pos (show nI 12 = (12 : Int32) from rfl), if_pos rfl, m_130 w rm hf, Option.bind_some]
      unfold fiF
      by_cases z : fb_ct (fun g => decide (agF A f ≤ agF A g)) f = 0
      · rw [if_pos (show nI _ = (0 : Int32) from by rw [z]; rfl), if_pos z]; rfl
      · rw [if_neg (show ¬ nI _ = (0 : Int32) from z_ne (b := 0) (by omega) (by omega) z), if_neg z]; rfl
    rw [if_neg (show ¬ nI k = (12 : Int32) from nk 12 (by decide) d12), if_neg d12]
    by_cases d13 : k = 13
    · subst d13
      rw [if_pos (show nI 13 = (13 : Int32) from rfl), if_pos rfl]
      by_cases z : pre A (A 74 f) (A 76 f) (A 77 f) = 2 ^ A 78 f
      · rw [if_pos (by rw [z]), if_pos (show alb A (A 74 f) (A 76 f) (A 78 f) (A 77 f) = true from decide_eq_true z)]; rfl
      · rw [if_neg (z_ne (by omega) (by omega) z), if_neg (show ¬ alb A (A 74 f) (A 76 f) (A 78 f) (A 77 f) = true from by unfold alb; rw [decide_eq_true_iff]; exact z)]; rfl
    rw [if_neg (show ¬ nI k = (13 : Int32) from nk 13 (by decide) d13), if_neg d13]
    by_cases d14 : k = 14
    · subst d14
      rw [if_pos (show nI 14 = (14 : Int32) from rfl), if_pos rfl, m_192 w rm hf]
      rfl
    rw [if_neg (show ¬ nI k = (14 : Int32) from nk 14 (by decide) d14), if_neg d14]
    by_cases d15 : k = 15
    · subst d15
      have hc : (pre A (A 74 f) (A 76 f) (A 77 f)).testBit (A 78 f) = true := w.2.2.2.2.2.2.1.1.1 f hf
      have h1 : 1 ≤ pc (pre A (A 74 f) (A 76 f) (A 77 f)) 12 := fb_ct_pos.mpr ⟨A 78 f, by omega, hc⟩
      rw [if_pos (show nI 15 = (15 : Int32) from rfl), if_pos rfl, m_bits (by omega), Option.bind_some]
      show some (nI _ - nI 1) = _
      rw [z_sub h1]
    rw [if_neg (show ¬ nI k = (15 : Int32) from nk 15 (by decide) d15), if_neg d15]
    have d16 : k = 16 := by omega
    subst d16
    rw [if_pos (show nI 16 = (16 : Int32) from rfl), m_255 w rm h33 hfar hf]
    rfl
