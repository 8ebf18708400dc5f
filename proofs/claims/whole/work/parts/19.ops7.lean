/-! ===== feed ===== -/
theorem sar_shr (x : Int64) {s : Nat} (hs : s ≤ 56) : (x >>> ((nI s).toInt64 &&& 63)) &&& 255 = (x.toUInt64 >>> ((nI s).toInt64.toUInt64 &&& Int64.toUInt64 63)).toInt64 &&& 255 := by
  apply wb_inj
  rw [z_63 s (by omega), wb_cu s (by omega)]
  show x.toBitVec.sshiftRight' ((lN s).toBitVec.smod 64) &&& 255#64 = (x.toBitVec >>> ((UInt64.ofNat s).toBitVec % 64)) &&& 255#64
  have h1 : (UInt64.ofNat s).toBitVec % 64 = BitVec.ofNat 64 s := by
    apply BitVec.eq_of_toNat_eq
    show (BitVec.ofNat 64 s).toNat % 64 = (BitVec.ofNat 64 s).toNat
    rw [BitVec.toNat_ofNat]
    omega
  have h2 : (BitVec.ofNat 64 s).toNat = s := by rw [BitVec.toNat_ofNat]; omega
  rw [lN_bv, wb_sm s (by omega), h1]
  apply BitVec.eq_of_getLsbD_eq
  intro i hi
  have h255 : (255#64).getLsbD i = decide (i < 8) := by
    rw [BitVec.getLsbD_ofNat, show (255 : Nat) = 2 ^ 8 - 1 from rfl, Nat.testBit_two_pow_sub_one]
    simp [hi]
  rw [BitVec.getLsbD_and, BitVec.getLsbD_and, h255]
  by_cases h8 : i < 8
  · rw [BitVec.sshiftRight_eq', BitVec.getLsbD_sshiftRight, BitVec.ushiftRight_eq', BitVec.getLsbD_ushiftRight, h2, if_pos (by omega), show decide (64 ≤ i) = false from by simpa using hi]
    rfl
  · simp [h8]
theorem byt_m (x : Int64) {s : Nat} (hs : s ≤ 56) : ((x.toUInt64 >>> ((nI s).toInt64.toUInt64 &&& Int64.toUInt64 63)).toInt64 &&& 255).toInt32 = nI (uN x / 2 ^ s % 256) := by
  have h := uN_sk x (k := s) (by omega)
  obtain ⟨n, hn, e⟩ := wb_of (x.toUInt64 >>> ((nI s).toInt64.toUInt64 &&& Int64.toUInt64 63)).toInt64
  have hu : uN (x.toUInt64 >>> ((nI s).toInt64.toUInt64 &&& Int64.toUInt64 63)).toInt64 = n := by
    rw [e]; exact wb_tn hn
  rw [e, show (255 : Int64) = lN (2 ^ 8 - 1) from rfl, fb_maskL, lN_i, ← h, hu]
theorem byt_c (x : Int64) {s : Nat} (hs : s ≤ 56) : ((x >>> ((nI s).toInt64 &&& 63)) &&& 255).toInt32 = nI (uN x / 2 ^ s % 256) := by
  rw [sar_shr x hs, byt_m x hs]
def okS (b : Nat) : Bool := b == 10 || (decide (32 ≤ b) && decide (b ≤ 126))
/-- one sign more behind the tape, if it is one and there is room -/
def addS (A : sA) (b : Nat) : sA := if okS b = true ∧ A 66 17 < 1000 then aU (aU A 81 (A 66 17) b) 66 17 (A 66 17 + 1) else A
def addsS (A : sA) (by_ : Nat → Nat) : Nat → sA
  | 0 => A
  | n + 1 => addS (addsS A by_ n) (by_ n)
theorem addS_off (A : sA) (b k j : Nat) (hk : k ≠ 81) (hj : ¬ (k = 66 ∧ j = 17)) : addS A b k j = A k j := by
  unfold addS
  split
  · rw [aU_at, if_neg hj, aU_at, if_neg (fun z => hk z.1)]
  · rfl
theorem addsS_off (A : sA) (f : Nat → Nat) (k j : Nat) (hk : k ≠ 81) (hj : ¬ (k = 66 ∧ j = 17)) : ∀ n, addsS A f n k j = A k j
  | 0 => rfl
  | n + 1 => (addS_off _ _ k j hk hj).trans (addsS_off A f k j hk hj n)
theorem wfT_addS {A : sA} (w : wfT A) (b : Nat) : wfT (addS A b) := by
  unfold addS
  split
  · rename_i h
    refine ⟨?_, fun i hi => ?_⟩
    · rw [aU_at, if_pos ⟨rfl, rfl⟩]; omega
    · rw [aU_at, if_pos ⟨rfl, rfl⟩] at hi
      rw [aU_at, if_neg (by omega), aU_at]
      by_cases e : i = A 66 17
      · rw [if_pos ⟨rfl, e⟩]
        have := h.1
        unfold okS at this
        simp at this
        omega
      · rw [if_neg (fun z => e z.2)]
        exact w.2 i (by omega)
  · exact w
/-- the class takes a sign -/
def tkC (A : sA) (b : Nat) (M : dM) : dM := if okS b = true ∧ A 66 17 < 1000 then sI (sI M 33 (A 66 17) (nI b)) 32 1 (nI (A 66 17 + 1)) else M
theorem rcT_tk {A : sA} {M : dM} (r : rcT A M) (b : Nat) : rcT (addS A b) (tkC A b M) := by
  unfold addS tkC
  split
  · refine ⟨?_, fun i hi => ?_⟩
    · rw [gI_sI, if_pos ⟨rfl, rfl⟩, aU_at, if_pos ⟨rfl, rfl⟩]
    · rw [aU_at, if_pos ⟨rfl, rfl⟩] at hi
      simp only [gI_sI, aU_at, Nat.reduceEqDiff, false_and, if_false, true_and]
      by_cases e : i = A 66 17
      · rw [if_pos e, if_pos e]
      · rw [if_neg e, if_neg e]
        exact r.2 i (by omega)
  · exact r
theorem chS_tkC {S : List Nat} {M M' : dM} (h : chS S M M') (A : sA) (b : Nat) (h1 : S.contains 33 = true) (h2 : S.contains 4201 = true) : chS S M (tkC A b M') := by
  unfold tkC
  split
  · exact (h.sI 33 _ _ h1).sI 32 1 _ h2
  · exact h
def tkM (A : sA) (b : Nat) (M : dM) : dM := if okS b = true ∧ A 66 17 < 1000 then sI (sI M 81 (A 66 17) (nI b)) 66 17 (nI (A 66 17 + 1)) else M
theorem rmT_tk {A : sA} {M : dM} (r : rmT A M) (b : Nat) : rmT (addS A b) (tkM A b M) := by
  unfold addS tkM
  split
  · refine ⟨?_, fun i hi => ?_⟩
    · rw [gI_sI, if_pos ⟨rfl, rfl⟩, aU_at, if_pos ⟨rfl, rfl⟩]
    · rw [aU_at, if_pos ⟨rfl, rfl⟩] at hi
      simp only [gI_sI, aU_at, Nat.reduceEqDiff, false_and, if_false, true_and]
      by_cases e : i = A 66 17
      · rw [if_pos e, if_pos e]
      · rw [if_neg e, if_neg e]
        exact r.2 i (by omega)
  · exact r
theorem chS_tkM {S : List Nat} {M M' : dM} (h : chS S M M') (A : sA) (b : Nat) (h1 : S.contains 81 = true) (h2 : S.contains 7617 = true) : chS S M (tkM A b M') := by
  unfold tkM
  split
  · exact (h.sI 81 _ _ h1).sI 66 17 _ h2
  · exact h
def tksC (A : sA) (f : Nat → Nat) (M : dM) : Nat → dM
  | 0 => M
  | n + 1 => tkC (addsS A f n) (f n) (tksC A f M n)
def tksM (A : sA) (f : Nat → Nat) (M : dM) : Nat → dM
  | 0 => M
  | n + 1 => tkM (addsS A f n) (f n) (tksM A f M n)
theorem wfT_adds {A : sA} (w : wfT A) (f : Nat → Nat) : ∀ n, wfT (addsS A f n)
  | 0 => w
  | n + 1 => wfT_addS (wfT_adds w f n) _
theorem rcT_tks {A : sA} {M : dM} (r : rcT A M) (f : Nat → Nat) : ∀ n, rcT (addsS A f n) (tksC A f M n)
  | 0 => r
  | n + 1 => rcT_tk (rcT_tks r f n) _
theorem rmT_tks {A : sA} {M : dM} (r : rmT A M) (f : Nat → Nat) : ∀ n, rmT (addsS A f n) (tksM A f M n)
  | 0 => r
  | n + 1 => rmT_tk (rmT_tks r f n) _
theorem chS_tksC (A : sA) (f : Nat → Nat) (M : dM) : ∀ n, chS [33, 4201] M (tksC A f M n)
  | 0 => chS.refl _ M
  | n + 1 => chS_tkC (chS_tksC A f M n) _ _ rfl rfl
theorem chS_tksM (A : sA) (f : Nat → Nat) (M : dM) : ∀ n, chS [81, 7617] M (tksM A f M n)
  | 0 => chS.refl _ M
  | n + 1 => chS_tkM (chS_tksM A f M n) _ _ rfl rfl
/-- the bytes of a long, the highest first -/
def bytL (x : Int64) (i : Nat) : Nat := uN x / 2 ^ (56 - 8 * i) % 256
theorem bytL_lt (x : Int64) (i : Nat) : bytL x i < 256 := Nat.mod_lt _ (by decide)
theorem nar_c : ∀ b, b < 256 → vp_nar .char ((nI b).toUInt32 % 65536).toInt32 = nI b := by decide +kernel
theorem c_take {A : sA} {M : dM} (w : wfT A) (r : rcT A M) (x : Int64) {s b : Nat} (hs : s ≤ 56) (hb : b = uN x / 2 ^ s % 256) : b_re_takeSigns_3_3 x (nI s) M = some (.inl (nI s + (-8), tkC A b M)) := by
  have hlt : b < 256 := by rw [hb]; exact Nat.mod_lt _ (by decide)
  have n0 := w.1
  unfold b_re_takeSigns_3_3
  rw [if_neg (by rw [fa_lit 0]; exact nI_nlt (Nat.zero_le _) (by omega)), byt_c x hs, ← hb]
  have h38 : okS b = true → b_re_takeSigns_3_38 x (nI s) (nI b) M = some (.inl (nI s + (-8), tkC A b M)) := by
    intro hk
    unfold b_re_takeSigns_3_38
    by_cases h1 : A 66 17 < 1000
    · have htk : tkC A b M = sI (sI M 33 (A 66 17) (nI b)) 32 1 (nI (A 66 17 + 1)) := if_pos ⟨hk, h1⟩
      rw [htk, r.1, if_neg (by rw [fa_lit 1000]; exact nI_ge h1 (by omega))]
      have hc := nar_c b hlt
      have hv : vp_in (nI (A 66 17)) 1000 := nI_in h1 (by decide)
      have hg : gI (sI M 33 (A 66 17) (nI b)) 32 1 = nI (A 66 17) := by rw [gI_sI, if_neg (by omega)]; exact r.1
      rw [gd_t hv, hc, nI_clamp (by omega), hg, nI_1]
    · have htk : tkC A b M = M := if_neg (fun z => h1 z.2)
      rw [htk, r.1, if_pos (by rw [fa_lit 1000]; exact nI_le (by omega) (by omega))]
  have hno : okS b = false → tkC A b M = M := fun h => if_neg (fun z => by rw [h] at z; cases z.1)
  have q1 : (nI b = 10) = (b = 10) := z_eq (b := 10) (by omega) (by decide)
  have q2 : (nI b < 32) = (b < 32) := z_lt (b := 32) (by omega) (by decide)
  have q3 : (126 < nI b) = (126 < b) := z_lt (a := 126) (by decide) (by omega)
  simp only [q1, q2, q3]
  by_cases c1 : b = 10
  · rw [if_pos c1]; exact h38 (by subst c1; rfl)
  · rw [if_neg c1]
    by_cases c2 : b < 32
    · rw [if_pos c2, hno (by unfold okS; simp; omega)]
    · rw [if_neg c2]
      by_cases c3 : 126 < b
      · rw [if_pos c3, hno (by unfold okS; simp; omega)]
      · rw [if_neg c3]; exact h38 (by unfold okS; simp; omega)
theorem c_takeSigns {A : sA} {M : dM} (w : wfT A) (r : rcT A M) (x : Int64) : f_re_takeSigns x M = some (tksC A (bytL x) M 8) := by
  unfold f_re_takeSigns l_re_takeSigns_3
  have key := lpc_seq (body := fun s : Int32 × dM => b_re_takeSigns_3_3 x s.1 s.2) (x := tksC A (bytL x) M 8) (fun i => (if i < 8 then nI (56 - 8 * i) else -8, tksC A (bytL x) M i)) 8 ?_ ?_
  · have e : ((56 : Int32), M) = (if 0 < 8 then nI (56 - 8 * 0) else -8, tksC A (bytL x) M 0) := rfl
    rw [e, key]
    rfl
  · intro i hi
    show b_re_takeSigns_3_3 x (if i < 8 then nI (56 - 8 * i) else -8) (tksC A (bytL x) M i) = _
    rw [if_pos hi, c_take (wfT_adds w _ i) (rcT_tks r _ i) x (b := bytL x i) (by omega) rfl]
    have : nI (56 - 8 * i) + (-8) = (if i + 1 < 8 then nI (56 - 8 * (i + 1)) else -8) := by
      have h : ∀ i, i < 8 → nI (56 - 8 * i) + (-8) = (if i + 1 < 8 then nI (56 - 8 * (i + 1)) else -8) := by decide
      exact h i hi
    rw [this]
    rfl
  · show b_re_takeSigns_3_3 x (-8) (tksC A (bytL x) M 8) = _
    unfold b_re_takeSigns_3_3
    rw [if_pos (by decide)]
/-- the bytes of three longs -/
def byt3 (a b c : Int64) (i : Nat) : Nat := if i < 8 then bytL a i else if i < 16 then bytL b (i - 8) else bytL c (i - 16)
theorem byt3_0 {a b c : Int64} {i : Nat} (h : i < 8) : byt3 a b c i = bytL a i := by unfold byt3; rw [if_pos h]
theorem byt3_1 {a b c : Int64} {i : Nat} (h : i < 8) : byt3 a b c (8 + i) = bytL b i := by
  unfold byt3
  rw [if_neg (show ¬ 8 + i < 8 by omega), if_pos (show 8 + i < 16 by omega), Nat.add_sub_cancel_left]
theorem byt3_2 {a b c : Int64} {i : Nat} : byt3 a b c (16 + i) = bytL c i := by
  unfold byt3
  rw [if_neg (show ¬ 16 + i < 8 by omega), if_neg (show ¬ 16 + i < 16 by omega), Nat.add_sub_cancel_left]
theorem addsS_add (A : sA) (f : Nat → Nat) (m : Nat) : ∀ n, addsS A f (m + n) = addsS (addsS A f m) (fun i => f (m + i)) n
  | 0 => rfl
  | n + 1 => by
    show addS (addsS A f (m + n)) (f (m + n)) = _
    rw [addsS_add A f m n]
    rfl
theorem addsS_cong (A : sA) {f g : Nat → Nat} : ∀ n, (∀ i, i < n → f i = g i) → addsS A f n = addsS A g n
  | 0, _ => rfl
  | n + 1, h => by
    show addS _ _ = addS _ _
    rw [addsS_cong A n (fun i hi => h i (by omega)), h n (by omega)]
theorem c_feed {A : sA} {M : dM} (w : wfT A) (r : rcT A M) (a b c : Int64) : ∃ M1, f_ax_feed a b c M = some (nI (addsS A (byt3 a b c) 24 66 17), M1) ∧ rcT (addsS A (byt3 a b c) 24) M1 ∧ chS [33, 4201] M M1 := by
  have e : addsS A (byt3 a b c) 24 = addsS (addsS (addsS A (bytL a) 8) (bytL b) 8) (bytL c) 8 := by
    have h1 : addsS A (byt3 a b c) 24 = addsS (addsS A (byt3 a b c) 16) (fun i => byt3 a b c (16 + i)) 8 := addsS_add A _ 16 8
    have h2 : addsS A (byt3 a b c) 16 = addsS (addsS A (byt3 a b c) 8) (fun i => byt3 a b c (8 + i)) 8 := addsS_add A _ 8 8
    rw [h1, h2, addsS_cong A 8 (fun i hi => byt3_0 hi), addsS_cong _ 8 (fun i hi => byt3_1 hi), addsS_cong _ 8 (fun i hi => byt3_2)]
  have r1 := rcT_tks r (bytL a) 8
  have w1 := wfT_adds w (bytL a) 8
  have r2 := rcT_tks r1 (bytL b) 8
  have w2 := wfT_adds w1 (bytL b) 8
  have r3 := rcT_tks r2 (bytL c) 8
  refine ⟨tksC (addsS (addsS A (bytL a) 8) (bytL b) 8) (bytL c) (tksC (addsS A (bytL a) 8) (bytL b) (tksC A (bytL a) M 8) 8) 8, ?_, ?_, (chS_tksC A (bytL a) M 8).trans ((chS_tksC _ (bytL b) _ 8).trans (chS_tksC _ (bytL c) _ 8))⟩
  · unfold f_ax_feed
    rw [c_takeSigns w r a, Option.bind_some, c_takeSigns w1 r1 b, Option.bind_some, c_takeSigns w2 r2 c, Option.bind_some, r3.1, e]
  · rw [e]; exact r3
theorem m_feed1 {A : sA} {M : dM} (w : wfT A) (r : rmT A M) (x1 x3 x5 y : Int64) {i b : Nat} (hi : i < 24) (hb : b = uN y / 2 ^ (56 - 8 * (i % 8)) % 256) : b_mo_feed_8_39 x1 x3 x5 (nI i) y M = some (.inl (nI (i + 1), tkM A b M)) := by
  have hlt : b < 256 := by rw [hb]; exact Nat.mod_lt _ (by decide)
  have n0 := w.1
  have hsh : (56 : Int32) - 8 * (nI i &&& 7) = nI (56 - 8 * (i % 8)) := by
    have h : ∀ i, i < 24 → (56 : Int32) - 8 * (nI i &&& 7) = nI (56 - 8 * (i % 8)) := by decide +kernel
    exact h i hi
  unfold b_mo_feed_8_39
  rw [hsh, byt_m y (by omega), ← hb, r.1]
  have hno : okS b = false → tkM A b M = M := fun h => if_neg (fun z => by rw [h] at z; cases z.1)
  by_cases h1 : A 66 17 < 1000
  · rw [if_neg (by rw [fa_lit 1000]; exact nI_ge h1 (by omega))]
    have h93 : okS b = true → b_mo_feed_8_93 x1 x3 x5 (nI i) (nI b) M = some (.inl (nI (i + 1), tkM A b M)) := by
      intro hk
      unfold b_mo_feed_8_93
      have htk : tkM A b M = sI (sI M 81 (A 66 17) (nI b)) 66 17 (nI (A 66 17 + 1)) := if_pos ⟨hk, h1⟩
      have hv : vp_in (nI (A 66 17)) 1000 := nI_in h1 (by decide)
      have hg : gI (sI M 81 (A 66 17) (nI b)) 66 17 = nI (A 66 17) := by rw [gI_sI, if_neg (by omega)]; exact r.1
      rw [htk, r.1, gd_t hv, nI_clamp (by omega), hg, nI_1, nI_1]
    have q1 : (nI b = 10) = (b = 10) := z_eq (b := 10) (by omega) (by decide)
    have q2 : (nI b < 32) = (b < 32) := z_lt (b := 32) (by omega) (by decide)
    have q3 : (126 < nI b) = (126 < b) := z_lt (a := 126) (by decide) (by omega)
    simp only [q1, q2, q3]
    by_cases c1 : b = 10
    · rw [if_pos c1]; exact h93 (by subst c1; rfl)
    · rw [if_neg c1]
      by_cases c2 : b < 32
      · rw [if_pos c2, hno (by unfold okS; simp; omega), nI_1]
      · rw [if_neg c2]
        by_cases c3 : 126 < b
        · rw [if_pos c3, hno (by unfold okS; simp; omega), nI_1]
        · rw [if_neg c3]; exact h93 (by unfold okS; simp; omega)
  · rw [if_pos (by rw [fa_lit 1000]; exact nI_le (by omega) (by omega)), nI_1]
    have : tkM A b M = M := if_neg (fun z => h1 z.2)
    rw [this]
theorem m_feed {A : sA} {M : dM} (w : wfT A) (r : rmT A M) (a b c : Int64) : ∃ M1, f_mo_feed a b c M = some (nI (addsS A (byt3 a b c) 24 66 17), M1) ∧ rmT (addsS A (byt3 a b c) 24) M1 ∧ chS [81, 7617, 7600] M M1 := by
  have cn : chS [7600] M (sI M 66 0 0) := (chS.refl _ M).sI 66 0 _ rfl
  have r0 := (srmT A).use r cn (by decide)
  have r3 := rmT_tks r0 (byt3 a b c) 24
  refine ⟨tksM A (byt3 a b c) (sI M 66 0 0) 24, ?_, r3, (cn.mono (by decide)).trans ((chS_tksM _ _ _ 24).mono (by decide))⟩
  unfold f_mo_feed l_mo_feed_8
  have key := lpc_seq (body := fun s : Int32 × dM => b_mo_feed_8_8 a b c s.1 s.2) (x := (nI (addsS A (byt3 a b c) 24 66 17), tksM A (byt3 a b c) (sI M 66 0 0) 24)) (fun i => (nI i, tksM A (byt3 a b c) (sI M 66 0 0) i)) 24 ?_ ?_
  · have e : ((0 : Int32), sI M 66 0 0) = (nI 0, tksM A (byt3 a b c) (sI M 66 0 0) 0) := rfl
    rw [e, key]
    rfl
  · intro i hi
    show b_mo_feed_8_8 a b c (nI i) (tksM A (byt3 a b c) (sI M 66 0 0) i) = _
    unfold b_mo_feed_8_8
    have wi := wfT_adds w (byt3 a b c) i
    have ri := rmT_tks r0 (byt3 a b c) i
    rw [if_neg (by rw [fa_lit 24]; exact nI_ge hi (by omega))]
    have q8 : (8 ≤ nI i) = (8 ≤ i) := z_le (a := 8) (by decide) (by omega)
    have q16 : (16 ≤ nI i) = (16 ≤ i) := z_le (a := 16) (by decide) (by omega)
    simp only [q8, q16]
    by_cases h8 : 8 ≤ i
    · rw [if_pos h8]
      by_cases h16 : 16 ≤ i
      · rw [if_pos h16, m_feed1 wi ri a b c c (b := byt3 a b c i) hi (by unfold byt3 bytL; rw [if_neg (by omega), if_neg (by omega), show i % 8 = i - 16 by omega])]
        rfl
      · rw [if_neg h16, m_feed1 wi ri a b c b (b := byt3 a b c i) hi (by unfold byt3 bytL; rw [if_neg (by omega), if_pos (by omega), show i % 8 = i - 8 by omega])]
        rfl
    · rw [if_neg h8, m_feed1 wi ri a b c a (b := byt3 a b c i) hi (by unfold byt3 bytL; rw [if_pos (by omega), show i % 8 = i by omega])]
      rfl
  · show b_mo_feed_8_8 a b c (nI 24) (tksM A (byt3 a b c) (sI M 66 0 0) 24) = _
    unfold b_mo_feed_8_8
    rw [if_pos (by decide), r3.1]
