/-! ===== ground, here, find ===== -/
theorem lpc_find {ξ : Type} {body : Int32 → Option (Int32 ⊕ ξ)} (n : Nat) (P : Nat → Prop) (yes no : ξ) (hs : ∀ i, i < n → ¬ P i → body (nI i) = some (.inl (nI (i + 1)))) (hy : ∀ i, i < n → P i → body (nI i) = some (.inr yes)) (hn : body (nI n) = some (.inr no)) : ((∃ i, i < n ∧ P i) → lpc body (nI 0) = some yes) ∧ ((¬ ∃ i, i < n ∧ P i) → lpc body (nI 0) = some no) := by
  constructor
  · intro h
    obtain ⟨i, h1, h2, h3⟩ := pk_least (fun i => i < n ∧ P i) h |> fun ⟨i, h1, h2⟩ => (⟨i, h1.1, h1.2, h2⟩ : ∃ i, i < n ∧ P i ∧ ∀ j, j < i → ¬ (j < n ∧ P j))
    exact lpc_seq (fun i => nI i) i (fun j hj => hs j (by omega) (fun hp => h3 j hj ⟨by omega, hp⟩)) (hy i h1 h2)
  · intro h
    exact lpc_seq (fun i => nI i) n (fun j hj => hs j hj (fun hp => h ⟨j, hj, hp⟩)) hn
theorem y_63 {k : Nat} (hk : k < 64) : ((nI k).toInt64 &&& lN 63) = lN k := z_63 k hk
theorem u_lshl {a k : Nat} (hk : k < 64) : lN a <<< ((nI k).toInt64 &&& lN 63) = lN (a * 2 ^ k) := wb_shl a hk
theorem z_lsub {a b : Nat} (h : b ≤ a) : lN a - lN b = lN (a - b) := lN_sub h
theorem c_allFinds {M : dM} {n : Nat} (h : gI M 12 7 = nI n) (hn : n < 64) : f_to_allFinds M = lN (2 ^ n - 1) := by
  unfold f_to_allFinds
  have := Nat.two_pow_pos n
  simp (disch := omega) only [fa_litL, h, u_lshl, Nat.one_mul, z_lsub]
theorem nat_hi {m n : Nat} (hm : m < 2 ^ 64) (hn : n ≤ 63) : m &&& ((2 ^ n - 1) ^^^ (2 ^ 64 - 1)) = 0 ↔ m < 2 ^ n := by
  constructor
  · intro h
    refine Nat.lt_pow_two_of_testBit m fun i hi => ?_
    by_cases h64 : i < 64
    · have h1 : (m &&& ((2 ^ n - 1) ^^^ (2 ^ 64 - 1))).testBit i = false := by rw [h]; simp
      rw [Nat.testBit_and, Nat.testBit_xor, Nat.testBit_two_pow_sub_one, Nat.testBit_two_pow_sub_one] at h1
      simp [h64, show ¬ i < n by omega] at h1
      exact h1
    · exact Nat.testBit_lt_two_pow (Nat.lt_of_lt_of_le hm (Nat.pow_le_pow_right (by decide) (by omega)))
  · intro h
    refine Nat.eq_of_testBit_eq fun i => ?_
    rw [Nat.testBit_and, Nat.testBit_xor, Nat.testBit_two_pow_sub_one, Nat.testBit_two_pow_sub_one, Nat.zero_testBit]
    by_cases hi : i < n
    · simp [hi, show i < 64 by omega]
    · rw [Nat.testBit_lt_two_pow (Nat.lt_of_lt_of_le h (Nat.pow_le_pow_right (by decide) (by omega))), Bool.false_and]
/-- a set of finds that are told, as the class tests it and as the reference does -/
theorem z_told {n : Nat} (hn : n ≤ 40) (x : Int64) : (∃ m, m < 2 ^ n ∧ x = lN m ∧ x &&& (lN (2 ^ n - 1) ^^^ (-lN 1)) = lN 0 ∧ ¬ x < lN 0 ∧ ¬ lN (2 ^ n) ≤ x) ∨ (¬ x &&& (lN (2 ^ n - 1) ^^^ (-lN 1)) = lN 0 ∧ (x < lN 0 ∨ lN (2 ^ n) ≤ x)) := by
  obtain ⟨m, hm, rfl⟩ := wb_of x
  have e1 : (-lN 1 : Int64) = lN (2 ^ 64 - 1) := by decide
  have h40 : 2 ^ n ≤ 2 ^ 40 := Nat.pow_le_pow_right (by decide) hn
  have hp := Nat.two_pow_pos n
  have hand : lN m &&& (lN (2 ^ n - 1) ^^^ (-lN 1)) = lN 0 ↔ m < 2 ^ n := by
    rw [e1, fb_xorL, fb_andL, ← nat_hi hm (by omega)]
    constructor
    · intro h
      have h2 := congrArg (fun z => z.toBitVec.toNat) h
      have hb : m &&& ((2 ^ n - 1) ^^^ (2 ^ 64 - 1)) < 2 ^ 64 := Nat.lt_of_le_of_lt Nat.and_le_left hm
      simp only [lN_nat hb, lN_nat (show 0 < 2 ^ 64 by decide)] at h2
      exact h2
    · intro h; rw [h]
  have hti := lN_ti hm
  have h0 : (lN 0).toInt = 0 := by decide
  have hp2 : (lN (2 ^ n)).toInt = ((2 ^ n : Nat) : Int) := pf_lI (by omega)
  by_cases h : m < 2 ^ n
  · left
    refine ⟨m, h, rfl, hand.mpr h, ?_, ?_⟩
    · rw [fa_lt64, hti, h0, if_pos (by omega)]; omega
    · rw [fa_le64, hti, hp2, if_pos (by omega)]; omega
  · right
    refine ⟨fun z => h (hand.mp z), ?_⟩
    by_cases h63 : m < 2 ^ 63
    · right; rw [fa_le64, hti, hp2, if_pos h63]; omega
    · left; rw [fa_lt64, hti, h0, if_neg h63]; omega
theorem ct_all (f : Nat → Nat) (m : Nat) : ∀ n, (∀ i, i < n → f i < m) → fb_sm (fun c => fb_ct (fun i => decide (f i = c)) n) m = n
  | 0, _ => by
    have : ∀ k, fb_sm (fun c => fb_ct (fun i => decide (f i = c)) 0) k = 0 := by
      intro k
      induction k with
      | zero => rfl
      | succ k ih => rw [fb_sm_succ, ih]; rfl
    exact this m
  | n + 1, h => by
    have ih := ct_all f m n (fun i hi => h i (by omega))
    have e : fb_sm (fun c => fb_ct (fun i => decide (f i = c)) (n + 1)) m = fb_sm (fun c => fb_ct (fun i => decide (f i = c)) n + (if c = f n then 1 else 0)) m := fb_sm_cong (fun c _ => by
      rw [fb_ct_succ]
      by_cases hc : c = f n
      · subst hc; simp
      · rw [if_neg hc, if_neg (by simpa using fun e => hc e.symm)])
    have e2 : ∀ k, fb_sm (fun c => if c = f n then 1 else 0) k = if f n < k then 1 else 0 := by
      intro k
      induction k with
      | zero => rfl
      | succ k ih =>
        rw [fb_sm_succ, ih]
        by_cases h1 : f n < k
        · rw [if_pos h1, if_neg (by omega), if_pos (by omega)]
        · by_cases h2 : k = f n
          · rw [if_neg h1, if_pos h2, if_pos (by omega)]
          · rw [if_neg h1, if_neg h2, if_neg (by omega)]
    rw [e, fb_sm_add, ih, e2, if_pos (h n (by omega))]
theorem ct_room {f : Nat → Nat} {n c : Nat} (h : ∀ i, i < n → f i < 12) (h3 : ∀ c, c < 12 → fb_ct (fun i => decide (f i = c)) n ≤ 3) (hc : c < 12) (h2 : fb_ct (fun i => decide (f i = c)) n ≤ 2) : n < 36 := by
  have e := ct_all f 12 n h
  have l : fb_sm (fun c => fb_ct (fun i => decide (f i = c)) n) 12 + (if c = c then 1 else 0) ≤ fb_sm (fun _ => 3) 12 := by
    have e2 : fb_sm (fun k => fb_ct (fun i => decide (f i = k)) n + (if k = c then 1 else 0)) 12 ≤ fb_sm (fun _ => 3) 12 := fb_sm_le (fun k hk => by
      by_cases e : k = c
      · subst e; simp only [if_true]; omega
      · simp only [e, if_false]; exact h3 k hk)
    rw [fb_sm_add] at e2
    have e3 : fb_sm (fun k => if k = c then 1 else 0) 12 = 1 := by
      have : ∀ c, c < 12 → fb_sm (fun k => if k = c then 1 else 0) 12 = 1 := by decide
      exact this c hc
    rw [e3] at e2
    simpa using e2
  rw [e, fb_sm_const] at l
  simp at l
  omega
def ctG (A : sA) (c n : Nat) : Nat := fb_ct (fun i => decide (A 108 i = c)) n
theorem ctG_le (A : sA) (c n : Nat) : ctG A c n ≤ n := fb_ct_le _ n
theorem ctG_s (A : sA) (c n : Nat) : ctG A c (n + 1) = if A 108 n = c then ctG A c n + 1 else ctG A c n := by
  unfold ctG
  rw [fb_ct_succ]
  by_cases h : A 108 n = c <;> simp [h]
theorem c_ctG {A : sA} {M : dM} (w : wfG A) (r : rcG A M) {c : Nat} (hc : c < 12) (x2 : Int64) (x4 : Int32) : l_cl_tellGround_6 (nI c) x2 x4 (nI 0) (nI 0) M = some (nI (ctG A c (A 66 69))) := by
  have hn := w.1
  have e0 := r.1
  unfold l_cl_tellGround_6
  refine lpc_seq (body := fun s : Int32 × Int32 => b_cl_tellGround_6_6 (nI c) x2 x4 s.1 s.2 M) (fun i => (nI (ctG A c i), nI i)) (A 66 69) (fun i hi => ?_) ?_
  · obtain ⟨h1, h2, h3⟩ := r.2 i hi
    have w1 := (w.2.1 i hi).1
    show b_cl_tellGround_6_6 _ _ _ _ _ M = _
    unfold b_cl_tellGround_6_6
    simp (disch := omega) only [e0, z_le, z_eq, z_cl, z_in, z_gdT, h1, z_add, fa_lit]
    rw [if_neg (by omega), ctG_s]
    by_cases c1 : A 108 i = c <;> simp [c1]
  · show b_cl_tellGround_6_6 _ _ _ _ _ M = _
    unfold b_cl_tellGround_6_6
    simp (disch := omega) only [e0, z_le]
    rw [if_pos (Nat.le_refl _)]
theorem m_ctG {A : sA} {M : dM} (w : wfG A) (r : rmG A M) {c : Nat} (hc : c < 12) (x2 : Int64) (x4 : Int32) : l_mo_ground_63 (nI c) x2 x4 (nI 0) (nI 0) M = some (nI (ctG A c (A 66 69))) := by
  have hn := w.1
  have e0 := r.1
  unfold l_mo_ground_63
  refine lpc_seq (body := fun s : Int32 × Int32 => b_mo_ground_63_63 (nI c) x2 x4 s.1 s.2 M) (fun i => (nI (ctG A c i), nI i)) (A 66 69) (fun i hi => ?_) ?_
  · obtain ⟨h1, h2, h3⟩ := r.2 i hi
    have w1 := (w.2.1 i hi).1
    show b_mo_ground_63_63 _ _ _ _ _ M = _
    unfold b_mo_ground_63_63
    simp (disch := omega) only [e0, z_le, z_eq, z_cl, z_in, z_gdT, h1, z_add, fa_lit, Nat.add_zero]
    rw [if_neg (by omega), ctG_s]
    by_cases c1 : A 108 i = c <;> simp [c1]
  · show b_mo_ground_63_63 _ _ _ _ _ M = _
    unfold b_mo_ground_63_63
    simp (disch := omega) only [e0, z_le]
    rw [if_pos (Nat.le_refl _)]
def kGro : List Nat := [6004, 51, 52, 53, 108, 109, 110, 7669, 7600] ++ kFr
theorem op_ground {A : sA} {M : dM} (w : wfA A) (rc : rcA A M) (rm : rmA A M) (x1 : Int32) (x2 : Int64) (x3 : Int32) : opT kGro A M (fun b M2 => ∃ M1, f_ax_ground x1 x2 x3 M = some (b, M1) ∧ f_mo_ground x1 x2 x3 M1 = some (b, M2)) := by
  have e8 : f_mo_within x1 (nI 0) (nI 11) = f_ax_within x1 (nI 12) := z_mw0 x1 (n := 11) (by decide)
  have e10 : f_mo_within x3 (nI 0) (nI 4095) = f_ax_within x3 (nI 4096) := z_mw0 x3 (n := 4095) (by decide)
  rcases z_range x1 12 (by decide) with h0 | ⟨c, hc12, rfl⟩
  · exact opT_no (b := false) (x := nI 0) (by decide) w rc rm ⟨M, by unfold f_ax_ground; simp only [fa_lit, e8, e10, h0, Bool.false_eq_true, if_false, if_true, ite_self], by unfold f_mo_ground; simp only [fa_lit, e8, e10, h0, Bool.false_eq_true, if_false, if_true, ite_self]⟩
  have k_c : f_ax_within (nI c) (nI 12) = true := by rw [z_within (by omega) (by decide)]; simp [hc12]
  have nf := w.2.2.1.1
  have gf := rc.2.2.1.1
  have mf := rm.2.2.1.1
  have haf : f_to_allFinds M = lN (2 ^ A 66 9 - 1) := c_allFinds gf (by omega)
  have hp := Nat.two_pow_pos (A 66 9)
  have h40 : 2 ^ A 66 9 ≤ 2 ^ 40 := Nat.pow_le_pow_right (by decide) nf
  have cn : chS [7600] M (sI M 66 0 (nI 0)) := (chS.refl _ M).sI 66 0 _ rfl
  rcases z_told nf x2 with ⟨m, hm, rfl, a1, a2, a3⟩ | ⟨a1, a2⟩
  rotate_left
  · refine opT_no (b := false) (x := nI 0) (by decide) w rc rm ⟨M, ?_, ?_⟩
    · unfold f_ax_ground
      simp only [fa_lit, fa_litL, k_c, haf, a1, if_true, if_false]
    · unfold f_mo_ground
      simp (disch := omega) only [fa_lit, fa_litL, e8, e10, k_c, if_true, cn.I 66 9 rfl, mf, u_lshl, Nat.one_mul]
      rcases a2 with a2 | a2
      · rw [if_pos a2]
      · simp only [a2, if_true, ite_self]
  rcases z_range x3 4096 (by decide) with h0 | ⟨q, hq, rfl⟩
  · refine opT_no (b := false) (x := nI 0) (by decide) w rc rm ⟨M, ?_, ?_⟩
    · unfold f_ax_ground
      simp only [fa_lit, fa_litL, k_c, haf, a1, if_true, h0, Bool.false_eq_true, if_false]
    · unfold f_mo_ground
      simp (disch := omega) only [fa_lit, fa_litL, e8, e10, k_c, if_true, cn.I 66 9 rfl, mf, u_lshl, Nat.one_mul, a2, a3, if_false, h0, Bool.false_eq_true]
  have k_q : f_ax_within (nI q) (nI 4096) = true := by rw [z_within (by omega) (by decide)]; simp [hq]
  by_cases hz : m = 0 ∧ q = 0
  · obtain ⟨rfl, rfl⟩ := hz
    refine opT_no (b := false) (x := nI 0) (by decide) w rc rm ⟨M, ?_, ?_⟩
    · unfold f_ax_ground
      simp only [fa_lit, fa_litL, k_c, haf, a1, if_true, k_q]
    · unfold f_mo_ground
      simp (disch := omega) only [fa_lit, fa_litL, e8, e10, k_c, if_true, cn.I 66 9 rfl, mf, u_lshl, Nat.one_mul, a2, a3, if_false, k_q]
  have hax : f_ax_ground (nI c) (lN m) (nI q) M = t_ax_ground_53 (nI c) (lN m) (nI q) M := by
    unfold f_ax_ground
    simp (disch := omega) only [fa_lit, fa_litL, k_c, haf, a1, if_true, k_q, z_leq, z_eq]
    by_cases h1 : m = 0
    · rw [if_pos h1, if_neg (by omega)]
    · rw [if_neg h1]
  have hmo : ∀ M1 : dM, gI M1 66 9 = nI (A 66 9) → f_mo_ground (nI c) (lN m) (nI q) M1 = t_mo_ground_57 (nI c) (lN m) (nI q) (sI M1 66 0 (nI 0)) := by
    intro M1 h9
    have cn1 : chS [7600] M1 (sI M1 66 0 (nI 0)) := (chS.refl _ M1).sI 66 0 _ rfl
    unfold f_mo_ground
    simp (disch := omega) only [fa_lit, fa_litL, e8, e10, k_c, if_true, cn1.I 66 9 rfl, h9, u_lshl, Nat.one_mul, a2, a3, if_false, k_q, z_leq, z_eq]
    by_cases h1 : m = 0
    · rw [if_pos h1, if_neg (by omega)]
    · rw [if_neg h1]
  have n0 := w.2.2.2.2.2.1.1
  have g0 := rc.2.2.2.2.2.1.1
  have m0 := rm.2.2.2.2.2.1.1
  have hct := c_ctG w.2.2.2.2.2.1 rc.2.2.2.2.2.1 hc12 (lN m) (nI q)
  have hcl := ctG_le A c (A 66 69)
  have h3 : ctG A c (A 66 69) ≤ 3 := w.2.2.2.2.2.1.2.2 c hc12
  by_cases hn0 : ctG A c (A 66 69) = 3
  · refine opT_no (b := false) (x := nI 0) (by decide) w rc rm ⟨M, ?_, ?_⟩
    · rw [hax]
      unfold t_ax_ground_53 f_cl_tellGround
      simp (disch := omega) only [fa_lit, hct, Option.bind_some, z_le, hn0, Nat.le_refl, if_true, Bool.false_eq_true, if_false]
    · rw [hmo M mf]
      unfold t_mo_ground_57
      have := m_ctG w.2.2.2.2.2.1 ((srmG A).use rm.2.2.2.2.2.1 cn (by decide)) hc12 (lN m) (nI q)
      simp (disch := omega) only [fa_lit, this, Option.bind_some, z_eq, hn0, if_true]
  have hn : A 66 69 < 36 := ct_room (fun i hi => (w.2.2.2.2.2.1.2.1 i hi).1) w.2.2.2.2.2.1.2.2 hc12 (by show ctG A c (A 66 69) ≤ 2; omega)
  have hc : f_ax_ground (nI c) (lN m) (nI q) M = some (true, f_ax_changed (sI (sI (sJ (sI M 51 (A 66 69) (nI c)) 52 (A 66 69) (lN m)) 53 (A 66 69) (nI q)) 50 4 (nI (A 66 69 + 1)))) := by
    rw [hax]
    unfold t_ax_ground_53 f_cl_tellGround
    simp (disch := omega) only [fa_lit, hct, Option.bind_some, z_le, z_lt, g0, hn, if_true, z_in, z_cl, z_gdT, gI_sI, gI_sJ, Nat.reduceEqDiff, and_false, false_and, if_false, z_add]
    rw [if_neg (by omega)]
    simp only [Option.bind_some, if_true]
  revert hc
  generalize hM' : sI (sI (sJ (sI M 51 (A 66 69) (nI c)) 52 (A 66 69) (lN m)) 53 (A 66 69) (nI q)) 50 4 (nI (A 66 69 + 1)) = M'
  intro hc
  have c0 : chS [51, 52, 53, 6004] M M' := by rw [← hM']; exact ((((chS.refl _ M).sI 51 _ _ rfl).sJ 52 _ _ rfl).sI 53 _ _ rfl).sI 50 4 _ rfl
  have c01 : chS (51 :: 52 :: 53 :: 6004 :: kFr) M (f_ax_changed M') := chS_changed (c0.mono (by decide)) (by decide)
  have cn1 : chS [7600] (f_ax_changed M') (sI (f_ax_changed M') 66 0 (nI 0)) := (chS.refl _ _).sI 66 0 _ rfl
  have m1 : gI (sI (f_ax_changed M') 66 0 (nI 0)) 66 69 = nI (A 66 69) := by rw [cn1.I 66 69 rfl, c01.I 66 69 rfl]; exact m0
  have hm2 : f_mo_ground (nI c) (lN m) (nI q) (f_ax_changed M') = some (true, sI (sI (sJ (sI (sI (f_ax_changed M') 66 0 (nI 0)) 108 (A 66 69) (nI c)) 109 (A 66 69) (lN m)) 110 (A 66 69) (nI q)) 66 69 (nI (A 66 69 + 1))) := by
    rw [hmo _ (by rw [c01.I 66 9 rfl]; exact mf)]
    unfold t_mo_ground_57
    have := m_ctG w.2.2.2.2.2.1 ((srmG A).use rm.2.2.2.2.2.1 ((c01.mono (S' := [51, 52, 53, 6004, 7600] ++ kFr) (by decide)).trans (cn1.mono (by decide))) (by decide)) hc12 (lN m) (nI q)
    generalize sI (f_ax_changed M') 66 0 (nI 0) = M3 at *
    simp (disch := omega) only [fa_lit, this, Option.bind_some, z_eq, m1, hn0, z_in, z_cl, z_gdT, gI_sI, gI_sJ, Nat.reduceEqDiff, and_false, false_and, if_false, z_add]
  generalize hM2 : sI (sI (sJ (sI (sI (f_ax_changed M') 66 0 (nI 0)) 108 (A 66 69) (nI c)) 109 (A 66 69) (lN m)) 110 (A 66 69) (nI q)) 66 69 (nI (A 66 69 + 1)) = M2
  have d2 : chS [108, 109, 110, 7669, 7600] (f_ax_changed M') M2 := by rw [← hM2]; exact (((((chS.refl _ _).sI 66 0 _ rfl).sI 108 _ _ rfl).sJ 109 _ _ rfl).sI 110 _ _ rfl).sI 66 69 _ rfl
  have d : chS (108 :: 109 :: 110 :: 7669 :: 7600 :: kFr) M' M2 := (chS_changed (chS.refl _ M') (by decide)).trans (d2.mono (by decide))
  have cc : chS kGro M M2 := (c0.mono (by decide)).trans (d.mono (by decide))
  generalize hB : aU (aU (aU (aU A 108 (A 66 69) c) 109 (A 66 69) m) 110 (A 66 69) q) 66 69 (A 66 69 + 1) = B
  have b0 : B 66 69 = A 66 69 + 1 := by rw [← hB]; simp [aU_at]
  have b9 : B 66 9 = A 66 9 := by rw [← hB]; simp [aU_at]
  have b1 : ∀ j, B 108 j = if j = A 66 69 then c else A 108 j := fun j => by rw [← hB]; simp [aU_at]
  have b2 : ∀ j, B 109 j = if j = A 66 69 then m else A 109 j := fun j => by rw [← hB]; simp [aU_at]
  have b3 : ∀ j, B 110 j = if j = A 66 69 then q else A 110 j := fun j => by rw [← hB]; simp [aU_at]
  refine ⟨true, B, M2, ⟨f_ax_changed M', hc, by rw [← hM2]; exact hm2⟩, ?_, ?_, ?_, cc, Or.inr ⟨sfresh.use (fresh_changed M') d2 (by decide), (by rw [← hB]; simp [aU])⟩⟩
  · have hG : wfG B := by
      refine ⟨by omega, fun i hi => ?_, fun c' hc' => ?_⟩
      · rw [b1, b2, b3, b9]
        by_cases e : i = A 66 69
        · rw [if_pos e, if_pos e, if_pos e]; exact ⟨hc12, hm, hq⟩
        · rw [if_neg e, if_neg e, if_neg e]; exact w.2.2.2.2.2.1.2.1 i (by omega)
      · have e1 : ∀ k, k ≤ A 66 69 → ctG B c' k = ctG A c' k := fun k hk => fb_ct_cong (fun i hi => by rw [b1, if_neg (by omega)])
        have h3' : ctG A c' (A 66 69) ≤ 3 := w.2.2.2.2.2.1.2.2 c' hc'
        show ctG B c' (B 66 69) ≤ 3
        rw [b0, ctG_s, e1 _ (Nat.le_refl _), b1, if_pos rfl]
        by_cases e : c = c'
        · subst e; rw [if_pos rfl]; omega
        · rw [if_neg e]; exact h3'
    have hK : wfK B := by
      have hcons : cons B (A 66 9) (A 66 3) (A 66 69 + 1) := by
        obtain ⟨k1, k2⟩ := w.2.2.2.2.2.2.1.1
        have k3 : cons B (A 66 9) (A 66 3) 0 := by
          subst hB
          exact cons_congr (A := A) (fun i _ => ⟨rfl, rfl, rfl, rfl, rfl⟩) (fun i _ => ⟨rfl, rfl, rfl, rfl⟩) (fun i hi => absurd hi (by omega)) ⟨k1, fun i hi => absurd hi (by omega)⟩
        refine ⟨k3.1, fun i hi => ?_⟩
        · rw [b2]
          by_cases e : i = A 66 69
          · rw [if_pos e]; exact hm
          · rw [if_neg e]; exact k2 i (by omega)
      subst hB
      exact wfK_add w.2.2.2.2.2.2.1 (fun i _ => ⟨rfl, rfl, rfl, rfl, rfl⟩) (fun i _ => ⟨rfl, rfl, rfl, rfl⟩) (fun i hi => by rw [b2, if_neg (by omega)]) (fun _ => rfl) (fun _ => rfl) (Nat.le_refl _) (Nat.le_refl _) (Nat.le_refl _) (Nat.le_refl _) (by omega) rfl (by rw [b0]; exact hcons)
    subst hB
    exact ⟨w.1, w.2.1, w.2.2.1, w.2.2.2.1, w.2.2.2.2.1, hG, hK, w.2.2.2.2.2.2.2.1, w.2.2.2.2.2.2.2.2⟩
  · have hE : rcG B M2 := by
      refine ⟨?_, fun i hi => ?_⟩
      · rw [d.I 50 4 rfl, ← hM', gI_sI, if_pos ⟨rfl, rfl⟩, b0]
      · rw [b1, b2, b3, d.I 51 i rfl, d.J 52 i rfl, d.I 53 i rfl, ← hM']
        simp only [gI_sI, gJ_sI, gI_sJ, gJ_sJ, Nat.reduceEqDiff, false_and, if_false, true_and]
        by_cases e : i = A 66 69
        · simp [e]
        · have := rc.2.2.2.2.2.1.2 i (by omega)
          simp [e, this.1, this.2.1, this.2.2]
    subst hB
    refine ⟨(srcL A).use rc.1 cc (by decide), (srcS A).use rc.2.1 cc (by decide), (srcF A).use rc.2.2.1 cc (by decide), (srcE A).use rc.2.2.2.1 cc (by decide), (srcP A).use rc.2.2.2.2.1 cc (by decide), ?_, (srcK A).use rc.2.2.2.2.2.2.1 cc (by decide), (srcT A).use rc.2.2.2.2.2.2.2.1 cc (by decide), (srcD A).use rc.2.2.2.2.2.2.2.2 cc (by decide)⟩
    exact hE
  · have hE : rmG B M2 := by
      refine ⟨?_, fun i hi => ?_⟩
      · rw [← hM2, gI_sI, if_pos ⟨rfl, rfl⟩, b0]
      · rw [b1, b2, b3, ← hM2]
        simp only [gI_sI, gJ_sI, gI_sJ, gJ_sJ, Nat.reduceEqDiff, false_and, if_false, true_and, c01.I 108 i rfl, c01.J 109 i rfl, c01.I 110 i rfl]
        by_cases e : i = A 66 69
        · simp [e]
        · have := rm.2.2.2.2.2.1.2 i (by omega)
          simp [e, this.1, this.2.1, this.2.2]
    subst hB
    refine ⟨(srmL A).use rm.1 cc (by decide), (srmS A).use rm.2.1 cc (by decide), (srmF A).use rm.2.2.1 cc (by decide), (srmE A).use rm.2.2.2.1 cc (by decide), (srmP A).use rm.2.2.2.2.1 cc (by decide), ?_, (srmK A).use rm.2.2.2.2.2.2.1 cc (by decide), (srmT A).use rm.2.2.2.2.2.2.2.1 cc (by decide), (srmD A).use rm.2.2.2.2.2.2.2.2 cc (by decide)⟩
    exact hE
