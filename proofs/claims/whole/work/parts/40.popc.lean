/-! ===== how many bits ===== -/
def mk (c : Nat) : Nat → Nat
  | 0 => 0
  | k + 1 => c + 256 * mk c k
theorem and_split {a c : Nat} (ha : a < 256) (hc : c < 256) (b d : Nat) : (a + 256 * b) &&& (c + 256 * d) = (a &&& c) + 256 * (b &&& d) := by
  have e : ∀ x y, x + 256 * y = 2 ^ 8 * y + x := fun x y => by omega
  have hac : a &&& c < 2 ^ 8 := Nat.and_lt_two_pow _ hc
  rw [e, e, e]
  refine Nat.eq_of_testBit_eq fun j => ?_
  rw [Nat.testBit_and, Nat.testBit_two_pow_mul_add _ ha, Nat.testBit_two_pow_mul_add _ hc, Nat.testBit_two_pow_mul_add _ hac]
  split
  · rw [Nat.testBit_and]
  · rw [Nat.testBit_and]
def ps1 (k n : Nat) : Nat := n - (n / 2 &&& mk 85 k)
def ps2 (k n : Nat) : Nat := (n &&& mk 51 k) + (n / 4 &&& mk 51 k)
def ps3 (k n : Nat) : Nat := (n + n / 16) &&& mk 15 k
theorem lo1 : ∀ a, a < 256 → (∀ r, r < 2 → (a / 2 + 128 * r) &&& 85 = a / 2 &&& 85) ∧ (a / 2 &&& 85) ≤ a := by decide +kernel
theorem lo2 : ∀ a, a < 256 → ∀ r, r < 4 → (a / 4 + 64 * r) &&& 51 = a / 4 &&& 51 := by decide +kernel
theorem lo3 : ∀ a, a < 256 → ((a / 16) ≤ 4 ∧ a % 16 ≤ 4) → ∀ r, r < 5 → (a + (a / 16 + 16 * r)) &&& 15 = (a + a / 16) &&& 15 := by decide +kernel
theorem lo4 : ∀ a, a < 256 → ps2 1 (ps1 1 a) < 256 ∧ ps2 1 (ps1 1 a) / 16 ≤ 4 ∧ ps2 1 (ps1 1 a) % 16 ≤ 4 ∧ ps1 1 a < 256 ∧ ps3 1 (ps2 1 (ps1 1 a)) = fb_ct (fun i => a.testBit i) 8 := by decide +kernel
theorem ps1_s {a : Nat} (ha : a < 256) (k b : Nat) : ps1 (k + 1) (a + 256 * b) = ps1 1 a + 256 * ps1 k b := by
  obtain ⟨h1, h2⟩ := lo1 a ha
  have e : (a + 256 * b) / 2 = (a / 2 + 128 * (b % 2)) + 256 * (b / 2) := by omega
  have e1 : (a + 256 * b) / 2 &&& mk 85 (k + 1) = (a / 2 &&& 85) + 256 * (b / 2 &&& mk 85 k) := by
    rw [e]
    show _ &&& (85 + 256 * mk 85 k) = _
    rw [and_split (by omega) (by decide), h1 _ (Nat.mod_lt _ (by decide))]
  have e2 : b / 2 &&& mk 85 k ≤ b / 2 := Nat.and_le_left
  have e3 : ps1 1 a = a - (a / 2 &&& 85) := rfl
  rw [e3]
  unfold ps1
  rw [e1]
  omega
theorem ps2_s {a : Nat} (ha : a < 256) (k b : Nat) : ps2 (k + 1) (a + 256 * b) = ps2 1 a + 256 * ps2 k b := by
  have e : (a + 256 * b) / 4 = (a / 4 + 64 * (b % 4)) + 256 * (b / 4) := by omega
  have e1 : (a + 256 * b) / 4 &&& mk 51 (k + 1) = (a / 4 &&& 51) + 256 * (b / 4 &&& mk 51 k) := by
    rw [e]
    show _ &&& (51 + 256 * mk 51 k) = _
    rw [and_split (by omega) (by decide), lo2 a ha _ (Nat.mod_lt _ (by decide))]
  have e0 : (a + 256 * b) &&& mk 51 (k + 1) = (a &&& 51) + 256 * (b &&& mk 51 k) := and_split ha (by decide) b (mk 51 k)
  have e3 : ps2 1 a = (a &&& 51) + (a / 4 &&& 51) := rfl
  rw [e3]
  unfold ps2
  rw [e1, e0]
  omega
theorem ps3_s {a b : Nat} (ha : a < 256) (h1 : a / 16 ≤ 4) (h2 : a % 16 ≤ 4) (hb : b % 16 ≤ 4) (k : Nat) : ps3 (k + 1) (a + 256 * b) = ps3 1 a + 256 * ps3 k b := by
  have e : (a + 256 * b) + (a + 256 * b) / 16 = (a + (a / 16 + 16 * (b % 16))) + 256 * (b + b / 16) := by omega
  have e3 : ps3 1 a = (a + a / 16) &&& 15 := rfl
  rw [e3]
  unfold ps3
  rw [e]
  show _ &&& (15 + 256 * mk 15 k) = _
  rw [and_split (by omega) (by decide), lo3 a ha ⟨h1, h2⟩ _ (by omega)]
def pP (k n : Nat) : Nat := ps3 k (ps2 k (ps1 k n))
def pB : Nat → Nat → Nat
  | 0, _ => 0
  | k + 1, n => fb_ct (fun i => (n % 256).testBit i) 8 + 256 * pB k (n / 256)
theorem pP_s {a : Nat} (ha : a < 256) (k b : Nat) : pP (k + 1) (a + 256 * b) = fb_ct (fun i => a.testBit i) 8 + 256 * pP k b ∧ ps2 (k + 1) (ps1 (k + 1) (a + 256 * b)) % 16 ≤ 4 := by
  obtain ⟨g1, g2, g3, g4, g5⟩ := lo4 a ha
  have e : ps2 (k + 1) (ps1 (k + 1) (a + 256 * b)) = ps2 1 (ps1 1 a) + 256 * ps2 k (ps1 k b) := by rw [ps1_s ha, ps2_s g4]
  have hb : ps2 k (ps1 k b) % 16 ≤ 4 := by
    cases k with
    | zero =>
      have : ps2 0 (ps1 0 b) = 0 := by
        show (_ &&& 0) + (_ &&& 0) = 0
        rw [Nat.and_zero, Nat.and_zero]
      rw [this]
      decide
    | succ k =>
      have h2 : b % 256 < 256 := Nat.mod_lt _ (by decide)
      have eb : b = b % 256 + 256 * (b / 256) := by omega
      obtain ⟨j1, j2, j3, j4, j5⟩ := lo4 (b % 256) h2
      have e2 : ps2 (k + 1) (ps1 (k + 1) b) = ps2 1 (ps1 1 (b % 256)) + 256 * ps2 k (ps1 k (b / 256)) := by
        rw [← ps2_s j4, ← ps1_s h2, ← eb]
      rw [e2]
      omega
  refine ⟨?_, ?_⟩
  · show ps3 (k + 1) (ps2 (k + 1) (ps1 (k + 1) (a + 256 * b))) = _
    rw [e, ps3_s g1 g2 g3 hb, g5]
    rfl
  · rw [e]
    omega
theorem pP_eq : ∀ k n, pP k n = pB k n
  | 0, n => by
    show (_ &&& 0) = 0
    exact Nat.and_zero _
  | k + 1, n => by
    have h2 : n % 256 < 256 := Nat.mod_lt _ (by decide)
    have eb : n = n % 256 + 256 * (n / 256) := by omega
    show _ = fb_ct (fun i => (n % 256).testBit i) 8 + 256 * pB k (n / 256)
    rw [← pP_eq k (n / 256), ← (pP_s h2 k (n / 256)).1, ← eb]
/-- how many of the first m bits are set -/
def pc (n m : Nat) : Nat := fb_ct (fun i => n.testBit i) m
theorem pc_8 (n m : Nat) : pc n (8 + m) = pc (n % 256) 8 + pc (n / 256) m := by
  unfold pc
  rw [fb_ct_split]
  congr 1
  · refine fb_ct_cong (fun k hk => ?_)
    rw [show (256 : Nat) = 2 ^ 8 from rfl, Nat.testBit_mod_two_pow]
    simp [hk]
  · refine fb_ct_cong (fun k hk => ?_)
    rw [show (256 : Nat) = 2 ^ 8 from rfl, Nat.testBit_div_two_pow, Nat.add_comm]
theorem pc_le (n m : Nat) : pc n m ≤ m := fb_ct_le _ _
theorem pc_zero (m : Nat) : pc 0 m = 0 := fb_ct_zero.mpr (fun k _ => Nat.zero_testBit k)
noncomputable def L1 (x : Int64) : Int64 := x - (((x.toUInt64 >>> ((1 : Int32).toInt64.toUInt64 &&& Int64.toUInt64 63)).toInt64) &&& 6148914691236517205)
noncomputable def L2 (x : Int64) : Int64 := (x &&& 3689348814741910323) + (((x.toUInt64 >>> ((2 : Int32).toInt64.toUInt64 &&& Int64.toUInt64 63)).toInt64) &&& 3689348814741910323)
noncomputable def L3 (x : Int64) : Int64 := (x + ((x.toUInt64 >>> ((4 : Int32).toInt64.toUInt64 &&& Int64.toUInt64 63)).toInt64)) &&& 1085102592571150095
noncomputable def L4 (x : Int64) : Int64 := x + ((x.toUInt64 >>> ((8 : Int32).toInt64.toUInt64 &&& Int64.toUInt64 63)).toInt64)
noncomputable def L5 (x : Int64) : Int64 := x + ((x.toUInt64 >>> ((16 : Int32).toInt64.toUInt64 &&& Int64.toUInt64 63)).toInt64)
noncomputable def L6 (x : Int64) : Int64 := x + ((x.toUInt64 >>> ((32 : Int32).toInt64.toUInt64 &&& Int64.toUInt64 63)).toInt64)
theorem popL_eq (a : Int64) : f_jd_bitCount_95d88 a = (L6 (L5 (L4 (L3 (L2 (L1 a)))))).toInt32 &&& 127 := rfl
theorem mk_L : mk 85 8 = 6148914691236517205 ∧ mk 51 8 = 3689348814741910323 ∧ mk 15 8 = 1085102592571150095 := by decide +kernel
theorem mk_I : mk 85 4 = 1431655765 ∧ mk 51 4 = 858993459 ∧ mk 15 4 = 252645135 := by decide +kernel
theorem z_bcL {n : Nat} (h : n < 1099511627776) : f_jd_bitCount_95d88 (lN n) = nI (pc n 40) := by
  obtain ⟨k1, k2, k3⟩ := mk_L
  have sh : ∀ {m : Nat} (k : Nat), m < 18446744073709551616 → k < 64 → ((lN m).toUInt64 >>> ((nI k).toInt64.toUInt64 &&& Int64.toUInt64 63)).toInt64 = lN (m / 2 ^ k) := fun k hm hk => wb_shr hm hk
  have b1 : ps1 8 n ≤ n := Nat.sub_le _ _
  have b2 : ps2 8 (ps1 8 n) < 18446744073709551616 := by
    have u1 : ps1 8 n &&& mk 51 8 ≤ mk 51 8 := Nat.and_le_right
    have u2 : ps1 8 n / 4 &&& mk 51 8 ≤ mk 51 8 := Nat.and_le_right
    unfold ps2
    rw [k2] at u1 u2 ⊢
    omega
  have e1 : L1 (lN n) = lN (ps1 8 n) := by
    unfold L1 ps1
    rw [show (1 : Int32) = nI 1 from rfl, sh 1 (by omega) (by decide), show (6148914691236517205 : Int64) = lN (mk 85 8) from by rw [k1]; rfl, fb_andL, z_lsub (Nat.le_trans Nat.and_le_left (Nat.div_le_self _ _))]
  have e2 : L2 (lN (ps1 8 n)) = lN (ps2 8 (ps1 8 n)) := by
    unfold L2 ps2
    rw [show (2 : Int32) = nI 2 from rfl, sh 2 (by omega) (by decide), show (3689348814741910323 : Int64) = lN (mk 51 8) from by rw [k2]; rfl, fb_andL, fb_andL, z_ladd]
  have e3 : L3 (lN (ps2 8 (ps1 8 n))) = lN (pP 8 n) := by
    unfold L3 pP ps3
    rw [show (4 : Int32) = nI 4 from rfl, sh 4 b2 (by decide), show (1085102592571150095 : Int64) = lN (mk 15 8) from by rw [k3]; rfl, z_ladd, fb_andL]
  have e8 : ∀ m, pc (m % 256) 8 ≤ 8 := fun m => pc_le _ _
  have ep : pP 8 n = pc (n % 256) 8 + 256 * (pc (n / 256 % 256) 8 + 256 * (pc (n / 256 / 256 % 256) 8 + 256 * (pc (n / 256 / 256 / 256 % 256) 8 + 256 * pc (n / 256 / 256 / 256 / 256 % 256) 8))) := by
    rw [pP_eq]
    have z : n / 256 / 256 / 256 / 256 / 256 = 0 := by omega
    show pc (n % 256) 8 + 256 * (pc (n / 256 % 256) 8 + 256 * (pc (n / 256 / 256 % 256) 8 + 256 * (pc (n / 256 / 256 / 256 % 256) 8 + 256 * (pc (n / 256 / 256 / 256 / 256 % 256) 8 + 256 * (pc (n / 256 / 256 / 256 / 256 / 256 % 256) 8 + 256 * (pc (n / 256 / 256 / 256 / 256 / 256 / 256 % 256) 8 + 256 * (pc (n / 256 / 256 / 256 / 256 / 256 / 256 / 256 % 256) 8 + 256 * 0))))))) = _
    rw [z]
    have p0 : pc 0 8 = 0 := pc_zero 8
    rw [show (0 : Nat) % 256 = 0 from rfl, p0]
    simp
  have en : pc n 40 = pc (n % 256) 8 + (pc (n / 256 % 256) 8 + (pc (n / 256 / 256 % 256) 8 + (pc (n / 256 / 256 / 256 % 256) 8 + pc (n / 256 / 256 / 256 / 256 % 256) 8))) := by
    rw [show (40 : Nat) = 8 + (8 + (8 + (8 + (8 + 0)))) from rfl, pc_8, pc_8, pc_8, pc_8, pc_8]
    rfl
  have q0 := e8 n
  have q1 := e8 (n / 256)
  have q2 := e8 (n / 256 / 256)
  have q3 := e8 (n / 256 / 256 / 256)
  have q4 := e8 (n / 256 / 256 / 256 / 256)
  rw [popL_eq, e1, e2, e3, en, ep]
  generalize pc (n % 256) 8 = c0 at *
  generalize pc (n / 256 % 256) 8 = c1 at *
  generalize pc (n / 256 / 256 % 256) 8 = c2 at *
  generalize pc (n / 256 / 256 / 256 % 256) 8 = c3 at *
  generalize pc (n / 256 / 256 / 256 / 256 % 256) 8 = c4 at *
  generalize hm : c0 + 256 * (c1 + 256 * (c2 + 256 * (c3 + 256 * c4))) = m
  have e4 : L4 (lN m) = lN (m + m / 2 ^ 8) := by
    unfold L4
    rw [show (8 : Int32) = nI 8 from rfl, sh 8 (by omega) (by decide), z_ladd]
  have e5 : L5 (lN (m + m / 2 ^ 8)) = lN (m + m / 2 ^ 8 + (m + m / 2 ^ 8) / 2 ^ 16) := by
    unfold L5
    rw [show (16 : Int32) = nI 16 from rfl, sh 16 (by omega) (by decide), z_ladd]
  have e6 : L6 (lN (m + m / 2 ^ 8 + (m + m / 2 ^ 8) / 2 ^ 16)) = lN (m + m / 2 ^ 8 + (m + m / 2 ^ 8) / 2 ^ 16 + (m + m / 2 ^ 8 + (m + m / 2 ^ 8) / 2 ^ 16) / 2 ^ 32) := by
    unfold L6
    rw [show (32 : Int32) = nI 32 from rfl, sh 32 (by omega) (by decide), z_ladd]
  have m1 : m / 2 ^ 8 = c1 + 256 * (c2 + 256 * (c3 + 256 * c4)) := by omega
  have m2 : m + m / 2 ^ 8 = (c0 + c1) + 256 * ((c1 + c2) + 256 * ((c2 + c3) + 256 * ((c3 + c4) + 256 * c4))) := by rw [m1]; omega
  have m3 : (m + m / 2 ^ 8) / 2 ^ 16 = (c2 + c3) + 256 * ((c3 + c4) + 256 * c4) := by rw [m2]; clear m1 m2 hm e4 e5 e6; omega
  have m4 : m + m / 2 ^ 8 + (m + m / 2 ^ 8) / 2 ^ 16 = (c0 + c1 + c2 + c3) + 256 * ((c1 + c2 + c3 + c4) + 256 * ((c2 + c3 + c4) + 256 * ((c3 + c4) + 256 * c4))) := by rw [m3, m2]; clear m1 m2 m3 hm e4 e5 e6; omega
  have m5 : (m + m / 2 ^ 8 + (m + m / 2 ^ 8) / 2 ^ 16) / 2 ^ 32 = c4 := by rw [m4]; clear m1 m2 m3 m4 hm e4 e5 e6; omega
  rw [e4, e5, e6, lN_i, show (127 : Int32) = nI (2 ^ 7 - 1) from rfl, fa_mask, m5, m4]
  congr 1
  clear m1 m2 m3 m4 m5 hm e4 e5 e6
  omega
noncomputable def I1 (x : Int32) : Int32 := x - (((x.toUInt32 >>> ((1 : Int32).toUInt32 &&& Int32.toUInt32 31)).toInt32) &&& 1431655765)
noncomputable def I2 (x : Int32) : Int32 := (x &&& 858993459) + (((x.toUInt32 >>> ((2 : Int32).toUInt32 &&& Int32.toUInt32 31)).toInt32) &&& 858993459)
noncomputable def I3 (x : Int32) : Int32 := (x + ((x.toUInt32 >>> ((4 : Int32).toUInt32 &&& Int32.toUInt32 31)).toInt32)) &&& 252645135
noncomputable def I4 (x : Int32) : Int32 := x + ((x.toUInt32 >>> ((8 : Int32).toUInt32 &&& Int32.toUInt32 31)).toInt32)
noncomputable def I5 (x : Int32) : Int32 := x + ((x.toUInt32 >>> ((16 : Int32).toUInt32 &&& Int32.toUInt32 31)).toInt32)
theorem popI_eq (a : Int32) : f_jd_bitCount_0f7a4 a = I5 (I4 (I3 (I2 (I1 a)))) &&& 63 := rfl
theorem ui_c : ∀ k, k < 32 → ((nI k).toUInt32 &&& Int32.toUInt32 31) = UInt32.ofNat k := by decide +kernel
theorem z_ush {n k : Nat} (hn : n < 4294967296) (hk : k < 32) : ((nI n).toUInt32 >>> ((nI k).toUInt32 &&& Int32.toUInt32 31)).toInt32 = nI (n / 2 ^ k) := by
  rw [ui_c k hk]
  apply Int32.toBitVec_inj.mp
  apply BitVec.eq_of_toNat_eq
  show ((nI n).toUInt32 >>> UInt32.ofNat k).toNat = (BitVec.ofNat 32 _).toNat
  have h1 : (UInt32.ofNat k).toNat = k := by
    show (BitVec.ofNat 32 k).toNat = k
    rw [BitVec.toNat_ofNat, Nat.mod_eq_of_lt (by omega)]
  have h2 : (nI n).toUInt32.toNat = n := by
    show (BitVec.ofNat 32 n).toNat = n
    rw [BitVec.toNat_ofNat, Nat.mod_eq_of_lt hn]
  rw [UInt32.toNat_shiftRight, h1, h2, Nat.mod_eq_of_lt hk, Nat.shiftRight_eq_div_pow, BitVec.toNat_ofNat, Nat.mod_eq_of_lt (Nat.lt_of_le_of_lt (Nat.div_le_self _ _) hn)]
theorem z_bcI {n : Nat} (h : n < 16777216) : f_jd_bitCount_0f7a4 (nI n) = nI (pc n 24) := by
  obtain ⟨k1, k2, k3⟩ := mk_I
  have b1 : ps1 4 n ≤ n := Nat.sub_le _ _
  have b2 : ps2 4 (ps1 4 n) < 4294967296 := by
    have u1 : ps1 4 n &&& mk 51 4 ≤ mk 51 4 := Nat.and_le_right
    have u2 : ps1 4 n / 4 &&& mk 51 4 ≤ mk 51 4 := Nat.and_le_right
    unfold ps2
    rw [k2] at u1 u2 ⊢
    omega
  have e1 : I1 (nI n) = nI (ps1 4 n) := by
    unfold I1 ps1
    rw [show (1 : Int32) = nI 1 from rfl, z_ush (k := 1) (by omega) (by decide), show (1431655765 : Int32) = nI (mk 85 4) from by rw [k1]; rfl, z_and, z_sub (Nat.le_trans Nat.and_le_left (Nat.div_le_self _ _))]
  have e2 : I2 (nI (ps1 4 n)) = nI (ps2 4 (ps1 4 n)) := by
    unfold I2 ps2
    rw [show (2 : Int32) = nI 2 from rfl, z_ush (k := 2) (by omega) (by decide), show (858993459 : Int32) = nI (mk 51 4) from by rw [k2]; rfl, z_and, z_and, z_add]
  have e3 : I3 (nI (ps2 4 (ps1 4 n))) = nI (pP 4 n) := by
    unfold I3 pP ps3
    rw [show (4 : Int32) = nI 4 from rfl, z_ush (k := 4) b2 (by decide), show (252645135 : Int32) = nI (mk 15 4) from by rw [k3]; rfl, z_add, z_and]
  have e8 : ∀ m, pc (m % 256) 8 ≤ 8 := fun m => pc_le _ _
  have ep : pP 4 n = pc (n % 256) 8 + 256 * (pc (n / 256 % 256) 8 + 256 * pc (n / 256 / 256 % 256) 8) := by
    rw [pP_eq]
    have z : n / 256 / 256 / 256 = 0 := by omega
    show pc (n % 256) 8 + 256 * (pc (n / 256 % 256) 8 + 256 * (pc (n / 256 / 256 % 256) 8 + 256 * (pc (n / 256 / 256 / 256 % 256) 8 + 256 * 0))) = _
    rw [z]
    have p0 : pc 0 8 = 0 := pc_zero 8
    rw [show (0 : Nat) % 256 = 0 from rfl, p0]
    simp
  have en : pc n 24 = pc (n % 256) 8 + (pc (n / 256 % 256) 8 + pc (n / 256 / 256 % 256) 8) := by
    rw [show (24 : Nat) = 8 + (8 + (8 + 0)) from rfl, pc_8, pc_8, pc_8]
    rfl
  have q0 := e8 n
  have q1 := e8 (n / 256)
  have q2 := e8 (n / 256 / 256)
  rw [popI_eq, e1, e2, e3, en, ep]
  generalize pc (n % 256) 8 = c0 at *
  generalize pc (n / 256 % 256) 8 = c1 at *
  generalize pc (n / 256 / 256 % 256) 8 = c2 at *
  generalize hm : c0 + 256 * (c1 + 256 * c2) = m
  have e4 : I4 (nI m) = nI (m + m / 2 ^ 8) := by
    unfold I4
    rw [show (8 : Int32) = nI 8 from rfl, z_ush (k := 8) (by omega) (by decide), z_add]
  have e5 : I5 (nI (m + m / 2 ^ 8)) = nI (m + m / 2 ^ 8 + (m + m / 2 ^ 8) / 2 ^ 16) := by
    unfold I5
    rw [show (16 : Int32) = nI 16 from rfl, z_ush (k := 16) (by omega) (by decide), z_add]
  have m1 : m / 2 ^ 8 = c1 + 256 * c2 := by omega
  have m2 : m + m / 2 ^ 8 = (c0 + c1) + 256 * ((c1 + c2) + 256 * c2) := by rw [m1]; omega
  have m3 : (m + m / 2 ^ 8) / 2 ^ 16 = c2 := by rw [m2]; clear m1 m2 hm e4 e5; omega
  rw [e4, e5, show (63 : Int32) = nI (2 ^ 6 - 1) from rfl, fa_mask, m3, m2]
  congr 1
  clear m1 m2 m3 hm e4 e5
  omega
