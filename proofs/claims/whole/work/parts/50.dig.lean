/-! ===== settled, dig again ===== -/
def seO (A : sA) (d o : Nat) : Nat := swO A (d ||| o) ||| andn 4095 (swO A o)
theorem swO_lt {A : sA} (w : wfA A) (o : Nat) : swO A o < 4096 := itG_lt w.2.2.2.2.2.1 _ 12
theorem seO_lt {A : sA} (w : wfA A) (d o : Nat) : seO A d o < 4096 := Nat.or_lt_two_pow (n := 12) (swO_lt w _) (andn_le _ (by decide))
theorem seO_bit {A : sA} (d o c : Nat) : (seO A d o).testBit c = ((swO A (d ||| o)).testBit c || (decide (c < 12) && !(swO A o).testBit c)) := by
  unfold seO
  rw [Nat.testBit_or, andn_bit, show (4095 : Nat) = 2 ^ 12 - 1 from rfl, Nat.testBit_two_pow_sub_one]
theorem m_settledBy {A : sA} {M : dM} (w : wfA A) (rm : rmA A M) (d o : Nat) : f_mo_settledBy (lN d) (lN o) M = some (nI (seO A d o)) := by
  unfold f_mo_settledBy seO
  rw [fb_orL, m_stands w rm, Option.bind_some, m_stands w rm, Option.bind_some, Int32.and_comm, show (4095 : Int32) = nI 4095 from rfl, z_andn, z_or]
def scL (A : sA) (s d : Nat) : Nat := swG A (okL A s) ||| andn 4095 (swG A (okL A (s ||| d)))
theorem c_settledWhen {A : sA} {M : dM} (w : wfA A) (rc : rcA A M) (s d : Nat) : f_cl_settledWhen (lN s) (lN d) M = some (nI (scL A s d)) := by
  unfold f_cl_settledWhen scL
  rw [c_standWith w rc, Option.bind_some, fb_orL, c_standWith w rc, Option.bind_some, show (4095 : Int32) = nI 4095 from rfl, z_andn, z_or]
theorem sc_se {A : sA} (w : wfA A) {s d du o : Nat} (h1 : ∀ b, b < A 66 9 → s.testBit b = !(du ||| o).testBit b) (h2 : ∀ b, b < A 66 9 → (s ||| d).testBit b = !o.testBit b) : scL A s d = seO A du o := by
  unfold scL seO
  rw [sw_eq w h1, sw_eq w h2]
theorem c_used {A : sA} {M : dM} (w : wfA A) (rc : rcA A M) : f_cl_findsInGrounds M = some (lN (usF A)) := by
  have hn := w.2.2.2.2.2.1.1
  unfold f_cl_findsInGrounds l_cl_findsInGrounds_4 usF
  have key := lpc_seq (body := fun s : Int64 × Int32 => b_cl_findsInGrounds_4_4 s.1 s.2 M) (x := lN (usN A (A 66 69))) (fun k => (lN (usN A k), nI k)) (A 66 69) ?_ ?_
  · rw [show ((0 : Int64), (0 : Int32)) = (lN (usN A 0), nI 0) from rfl, key]
    rfl
  · intro k hk
    obtain ⟨e1, e2, e3⟩ := rc.2.2.2.2.2.1.2 k hk
    show b_cl_findsInGrounds_4_4 (lN (usN A k)) (nI k) M = _
    unfold b_cl_findsInGrounds_4_4
    rw [rc.2.2.2.2.2.1.1, if_neg (z_nle (by omega) (by omega) hk), z_gd (z_in (n := k) (by omega) (by omega)), z_cl (n := k) (by omega), e2, fb_orL, show nI k + 1 = nI (k + 1) from z_add k 1]
    rfl
  · show b_cl_findsInGrounds_4_4 (lN (usN A (A 66 69))) (nI (A 66 69)) M = _
    unfold b_cl_findsInGrounds_4_4
    rw [rc.2.2.2.2.2.1.1, if_pos (z_yle (by omega) (by omega) (Nat.le_refl _))]
theorem c_findsAt {A : sA} {M : dM} (w : wfA A) (rc : rcA A M) {sb : Nat} (hs : sb < 256) : f_to_findsAt (nI sb) M = some (lN (bsN (fun f => sb.testBit (A 74 f)) (A 66 9))) := by
  have hn := w.2.2.1.1
  unfold f_to_findsAt l_to_findsAt_5
  have key := lpc_seq (body := fun s : Int64 × Int32 => b_to_findsAt_5_5 (nI sb) s.1 s.2 M) (x := lN (bsN (fun f => sb.testBit (A 74 f)) (A 66 9))) (fun k => (lN (bsN (fun f => sb.testBit (A 74 f)) k), nI k)) (A 66 9) ?_ ?_
  · rw [show ((0 : Int64), (0 : Int32)) = (lN (bsN (fun f => sb.testBit (A 74 f)) 0), nI 0) from rfl, key]
    rfl
  · intro k hk
    obtain ⟨e1, e2, e3, e4, e5, e6, e7⟩ := rc.2.2.1.2 k hk
    obtain ⟨q1, q2, q3, q4, q5, q6, q7, q8⟩ := w.2.2.1.2.1 k hk
    show b_to_findsAt_5_5 (nI sb) (lN (bsN (fun f => sb.testBit (A 74 f)) k)) (nI k) M = _
    unfold b_to_findsAt_5_5
    rw [rc.2.2.1.1, if_neg (z_nle (by omega) (by omega) hk), z_gd (z_in (n := k) (by omega) (by omega)), z_cl (n := k) (by omega), e1, z_hasBit (by omega) (by omega), z_1shlL (by omega), fb_orL, show nI k + 1 = nI (k + 1) from z_add k 1, bsN_s]
    by_cases c : sb.testBit (A 74 k) = true
    · rw [if_pos c, if_pos c]
    · rw [if_neg c, if_neg c]
  · show b_to_findsAt_5_5 (nI sb) _ (nI (A 66 9)) M = _
    unfold b_to_findsAt_5_5
    rw [rc.2.2.1.1, if_pos (z_yle (by omega) (by omega) (Nat.le_refl _))]
/-! subsets of a set, one after another -/
def nxS (m x : Nat) : Nat := bsN (fun i => m.testBit i && ((andn m x).testBit i ^^ decide (pc (andn m x) i ≠ 0))) 40
theorem z_next {m x : Nat} (hm : m < 2 ^ 40) (hx : ∀ b, x.testBit b = true → m.testBit b = true) : (lN x - lN m) &&& lN m = lN (nxS m x) := by
  have hL : lN m = lN x + lN (andn m x) := by
    apply Int64.toBitVec_inj.mp
    show BitVec.ofNat 64 m = BitVec.ofNat 64 x + BitVec.ofNat 64 (andn m x)
    rw [BitVec.add_eq_or_of_and_eq_zero]
    · apply BitVec.eq_of_getLsbD_eq
      intro i hi
      rw [BitVec.getLsbD_or, BitVec.getLsbD_ofNat, BitVec.getLsbD_ofNat, BitVec.getLsbD_ofNat, andn_bit, decide_eq_true hi]
      simp only [Bool.true_and]
      cases c : x.testBit i with
      | true => rw [hx i c]; rfl
      | false => simp
    · apply BitVec.eq_of_getLsbD_eq
      intro i hi
      rw [BitVec.getLsbD_and, BitVec.getLsbD_ofNat, BitVec.getLsbD_ofNat, BitVec.getLsbD_zero, andn_bit]
      cases x.testBit i <;> cases m.testBit i <;> simp
  have e1 : lN x - lN m = -(lN (andn m x)) := by
    rw [hL]
    apply Int64.toBitVec_inj.mp
    show (lN x).toBitVec - ((lN x).toBitVec + (lN (andn m x)).toBitVec) = -(lN (andn m x)).toBitVec
    generalize (lN x).toBitVec = a
    generalize (lN (andn m x)).toBitVec = b
    rw [BitVec.sub_eq_add_neg, BitVec.neg_add, BitVec.sub_eq_add_neg, ← BitVec.add_assoc, BitVec.add_right_neg, BitVec.zero_add]
  rw [e1]
  apply Int64.toBitVec_inj.mp
  apply BitVec.eq_of_getLsbD_eq
  intro i hi
  show (-(BitVec.ofNat 64 (andn m x)) &&& BitVec.ofNat 64 m).getLsbD i = (BitVec.ofNat 64 (nxS m x)).getLsbD i
  rw [BitVec.getLsbD_and, BitVec.getLsbD_neg, BitVec.getLsbD_ofNat, BitVec.getLsbD_ofNat, BitVec.getLsbD_ofNat, decide_eq_true hi]
  unfold nxS
  rw [bsN_bit]
  have hlow : decide (∃ j, j < i ∧ (BitVec.ofNat 64 (andn m x)).getLsbD j = true) = decide (pc (andn m x) i ≠ 0) := by
    rw [decide_eq_decide]
    constructor
    · rintro ⟨j, hj, h⟩ z
      rw [BitVec.getLsbD_ofNat, Bool.and_eq_true] at h
      have := fb_ct_zero.mp z j hj
      rw [h.2] at this; cases this
    · intro z
      have : 0 < pc (andn m x) i := by omega
      obtain ⟨j, hj, h⟩ := fb_ct_pos.mp this
      refine ⟨j, hj, ?_⟩
      rw [BitVec.getLsbD_ofNat, decide_eq_true (show j < 64 by omega)]
      exact h
  simp only [Bool.true_and]
  rw [hlow]
  by_cases c : m.testBit i = true
  · rw [c, decide_eq_true (bit_hi hm c)]
    simp
  · rw [Bool.eq_false_iff.mpr c]
    simp
def rkS (m x : Nat) : Nat → Nat
  | 0 => 0
  | n + 1 => rkS m x n + (if m.testBit n = true ∧ x.testBit n = true then 2 ^ pc m n else 0)
theorem pc_s (m n : Nat) : pc m (n + 1) = pc m n + (if m.testBit n = true then 1 else 0) := rfl
theorem rkS_lt (m x : Nat) : ∀ n, rkS m x n < 2 ^ pc m n
  | 0 => by show 0 < 2 ^ 0; decide
  | n + 1 => by
    have ih := rkS_lt m x n
    show rkS m x n + (if m.testBit n = true ∧ x.testBit n = true then 2 ^ pc m n else 0) < 2 ^ pc m (n + 1)
    rw [pc_s]
    by_cases c : m.testBit n = true
    · rw [if_pos c, Nat.pow_succ]
      split <;> omega
    · rw [if_neg c, if_neg (fun z => c z.1)]
      exact ih
theorem rkS_inj (m x z : Nat) : ∀ n, rkS m x n = rkS m z n → ∀ b, b < n → m.testBit b = true → x.testBit b = z.testBit b
  | 0, _, b, hb, _ => absurd hb (Nat.not_lt_zero _)
  | n + 1, h, b, hb, hm => by
    have l1 := rkS_lt m x n
    have l2 := rkS_lt m z n
    have h' : rkS m x n + (if m.testBit n = true ∧ x.testBit n = true then 2 ^ pc m n else 0) = rkS m z n + (if m.testBit n = true ∧ z.testBit n = true then 2 ^ pc m n else 0) := h
    by_cases c1 : m.testBit n = true ∧ x.testBit n = true
    · rw [if_pos c1] at h'
      by_cases c2 : m.testBit n = true ∧ z.testBit n = true
      · rw [if_pos c2] at h'
        by_cases e : b = n
        · rw [e, c1.2, c2.2]
        · exact rkS_inj m x z n (by omega) b (by omega) hm
      · rw [if_neg c2] at h'; omega
    · rw [if_neg c1] at h'
      by_cases c2 : m.testBit n = true ∧ z.testBit n = true
      · rw [if_pos c2] at h'; omega
      · rw [if_neg c2] at h'
        by_cases e : b = n
        · subst e
          cases h1 : x.testBit b with
          | true => exact absurd ⟨hm, h1⟩ c1
          | false =>
            cases h2 : z.testBit b with
            | true => exact absurd ⟨hm, h2⟩ c2
            | false => rfl
        · exact rkS_inj m x z n (by omega) b (by omega) hm
theorem nxS_bit (m x i : Nat) (hi : i < 40) : (nxS m x).testBit i = (m.testBit i && ((andn m x).testBit i ^^ decide (pc (andn m x) i ≠ 0))) := by
  unfold nxS
  rw [bsN_bit, decide_eq_true hi, Bool.true_and]
theorem rk_next {m x : Nat} (hx : ∀ b, x.testBit b = true → m.testBit b = true) : ∀ n, n ≤ 40 → (pc (andn m x) n ≠ 0 → rkS m (nxS m x) n = rkS m x n + 1) ∧ (pc (andn m x) n = 0 → rkS m (nxS m x) n = 0 ∧ rkS m x n + 1 = 2 ^ pc m n)
  | 0, _ => ⟨fun z => absurd rfl z, fun _ => ⟨rfl, rfl⟩⟩
  | n + 1, hn => by
    obtain ⟨i1, i2⟩ := rk_next hx n (by omega)
    have hb := nxS_bit m x n (by omega)
    have hd := andn_bit m x n
    show (pc (andn m x) (n + 1) ≠ 0 → rkS m (nxS m x) n + (if m.testBit n = true ∧ (nxS m x).testBit n = true then 2 ^ pc m n else 0) = rkS m x n + (if m.testBit n = true ∧ x.testBit n = true then 2 ^ pc m n else 0) + 1) ∧ (pc (andn m x) (n + 1) = 0 → rkS m (nxS m x) n + (if m.testBit n = true ∧ (nxS m x).testBit n = true then 2 ^ pc m n else 0) = 0 ∧ rkS m x n + (if m.testBit n = true ∧ x.testBit n = true then 2 ^ pc m n else 0) + 1 = 2 ^ pc m (n + 1))
    rw [pc_s, pc_s]
    cases cm : m.testBit n with
    | false =>
      have cd : (andn m x).testBit n = false := by rw [hd, cm]; rfl
      rw [cd]
      simp only [Bool.false_eq_true, false_and, if_false, Nat.add_zero]
      exact ⟨i1, i2⟩
    | true =>
      rw [cm] at hb hd
      by_cases c0 : pc (andn m x) n = 0
      · obtain ⟨j1, j2⟩ := i2 c0
        rw [c0, decide_eq_false (fun z => z rfl)] at hb
        cases cx : x.testBit n with
        | true =>
          have cd : (andn m x).testBit n = false := by rw [hd, cx]; rfl
          rw [cd] at hb
          rw [c0, cd, hb, j1]
          simp only [Bool.false_eq_true, Bool.true_and, Bool.xor_false, and_false, and_self, if_false, if_true, Nat.add_zero, ne_eq, not_true_eq_false, false_implies, true_and, forall_const, Bool.false_bne, bne_self_eq_false, and_true]
          rw [Nat.pow_succ]; omega
        | false =>
          have cd : (andn m x).testBit n = true := by rw [hd, cx]; rfl
          rw [cd] at hb
          have hb' : (nxS m x).testBit n = true := by rw [hb]; rfl
          rw [c0, cd, hb', j1]
          refine ⟨fun _ => ?_, fun z => by simp at z⟩
          simp only [Bool.false_eq_true, and_false, and_self, if_false, if_true]
          omega
      · have hi := i1 c0
        rw [decide_eq_true c0] at hb
        have hb' : (nxS m x).testBit n = x.testBit n := by
          rw [hb, hd]
          cases x.testBit n <;> rfl
        rw [hb', hi]
        refine ⟨fun _ => by omega, fun z => ?_⟩
        exact absurd (show pc (andn m x) n = 0 by omega) c0
def ocS (m : Nat) : Nat → Nat
  | 0 => 0
  | i + 1 => nxS m (ocS m i)
theorem ocS_sub (m : Nat) : ∀ i b, (ocS m i).testBit b = true → m.testBit b = true
  | 0, b, h => by
    rw [show ocS m 0 = 0 from rfl, Nat.zero_testBit] at h; cases h
  | i + 1, b, h => by
    have h' : (nxS m (ocS m i)).testBit b = true := h
    unfold nxS at h'
    rw [bsN_bit, Bool.and_eq_true, Bool.and_eq_true] at h'
    exact h'.2.1
theorem rk_zero (m : Nat) : ∀ n, rkS m 0 n = 0
  | 0 => rfl
  | n + 1 => by
    show rkS m 0 n + (if m.testBit n = true ∧ (0 : Nat).testBit n = true then 2 ^ pc m n else 0) = 0
    rw [rk_zero m n, Nat.zero_testBit, if_neg (fun z => by cases z.2)]
theorem ocS_rk (m : Nat) : ∀ i, i < 2 ^ pc m 40 → rkS m (ocS m i) 40 = i
  | 0, _ => rk_zero m 40
  | i + 1, h => by
    have ih := ocS_rk m i (by omega)
    obtain ⟨j1, j2⟩ := rk_next (ocS_sub m i) 40 (Nat.le_refl _)
    by_cases c : pc (andn m (ocS m i)) 40 = 0
    · have := (j2 c).2
      omega
    · have := j1 c
      show rkS m (nxS m (ocS m i)) 40 = i + 1
      omega
theorem ocS_all {m z : Nat} (hm : m < 2 ^ 40) (hz : ∀ b, z.testBit b = true → m.testBit b = true) : ∃ i, i < 2 ^ pc m 40 ∧ ocS m i = z := by
  refine ⟨rkS m z 40, rkS_lt m z 40, ?_⟩
  have e := ocS_rk m _ (rkS_lt m z 40)
  refine nat_bits fun b => ?_
  by_cases c : m.testBit b = true
  · exact rkS_inj m _ z 40 e b (bit_hi hm c) c
  · have h1 : (ocS m (rkS m z 40)).testBit b = false := Bool.eq_false_iff.mpr (fun y => c (ocS_sub m _ b y))
    have h2 : z.testBit b = false := Bool.eq_false_iff.mpr (fun y => c (hz b y))
    rw [h1, h2]
