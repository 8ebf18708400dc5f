/-! ===== the law: its loop (made by genlaw3.py) ===== -/
theorem lw_and (x : Int32) : ∃ j, j < 64 ∧ x &&& 63 = nI j := by
  have e : (x &&& 63).toBitVec = x.toBitVec &&& 63#32 := rfl
  refine ⟨(x &&& 63).toBitVec.toNat, ?_, ?_⟩
  · rw [e, BitVec.toNat_and]
    exact Nat.and_lt_two_pow (n := 6) _ (by decide)
  · apply Int32.toBitVec_inj.mp
    show _ = BitVec.ofNat 32 _
    rw [BitVec.ofNat_toNat, BitVec.setWidth_eq]
theorem lw_top {Ls i : Nat} (hL : Ls ≤ 4096) (hi : 8 * i ≤ Ls) (h : ¬ (Int32.ofNat Ls - 8 < nI (8 * i))) : 8 * i + 8 ≤ Ls := by
  by_cases c : 8 ≤ Ls
  · have e : Int32.ofNat Ls - 8 = nI (Ls - 8) := z_sub (a := Ls) (b := 8) c
    rw [e, z_lt (by omega) (by omega)] at h
    omega
  · have hi0 : i = 0 := by omega
    subst hi0
    have hz : ∀ n, n < 8 → Int32.ofNat n - 8 < nI (8 * 0) := by decide
    exact absurd (hz Ls (by omega)) h
theorem lw_sw : decode cL_law 40 = .ok (.tableswitch 1860 0 37 #[168, 217, 266, 339, 440, 587, 600, 649, 717, 742, 779, 828, 878, 952, 977, 1026, 1051, 1076, 1101, 1182, 1207, 1232, 1269, 1294, 1307, 1344, 1381, 1406, 1431, 1444, 1497, 1546, 1595, 1644, 1681, 1730, 1767, 1835], 168) := by decide +kernel
theorem lw_over : ∀ k, k < 64 → 38 ≤ k → (37 : Int) < (nI k).toInt := by decide
section LAWL
variable {b0 Ls : Nat} {xs : Nat → Int32} {d mc ms i : Nat} {A : sA} {Q : sQ} {v : Nat → Nat} {M : dM}
set_option maxRecDepth 100000 in
set_option maxHeartbeats 4000000 in
theorem law_at (h : INV i A Q v M) (hi : 8 * i + 8 ≤ Ls) (hL : Ls ≤ 4096) (hd : 100 ≤ d) (K : ∀ A Q v M2, INV (i + 1) A Q v M2 → lawW (lawP ezE b0 Ls xs) d mc ms lawQ 1900 (lawL i) [] M2) : lawW (lawP ezE b0 Ls xs) d (1 + mc) (6 + ms) lawQ 33 (lawL i) [] M := by
  have K1 : ∀ A Q v M2, INV (i + 1) A Q v M2 → lawW (lawP ezE b0 Ls xs) d (1 + mc) (6 + ms) lawQ 1900 (lawL i) [] M2 := fun A Q v M2 h => gx_less (by omega) (by omega) (K A Q v M2 h)
  have K0 : ∀ A Q v M2, INV i A Q v M2 → lawW (lawP ezE b0 Ls xs) d (1 + mc) (6 + ms) lawQ 1900 (lawL i) [] M2 := fun A Q v M2 h => K1 A Q v M2 (inv_le h (Nat.le_succ i))
  have K2 : ∀ A Q v M2, INV i A Q v M2 → lawW (lawP ezE b0 Ls xs) d mc ms lawQ 1900 (lawL i) [] M2 := fun A Q v M2 h => K A Q v M2 (inv_le h (Nat.le_succ i))
  refine gx_aload_n (i := 0) (n := 34) ⟨by decide +kernel, rfl⟩ rfl ?_
  refine gx_iload (i := 4) (n := 36) ⟨by decide +kernel, rfl⟩ rfl ?_
  refine gx_sld (n := 37) ⟨by decide +kernel, rfl⟩ (of_eq_true (z_in (n := 8 * i) (by omega) (by omega))) ?_
  rw [z_cl (n := 8 * i) (by omega)]
  refine gx_bipush (i := 63) (v := 63) (n := 39) ⟨by decide +kernel, rfl⟩ (by decide) ?_
  refine gx_iand (n := 40) ⟨by decide +kernel, rfl⟩ ?_
  obtain ⟨j, hj, e⟩ := lw_and (xs (8 * i))
  rw [e]
  clear e
  match j, hj with
  | 0, _ => exact gx_tabIn (off := 168) (t := 208) lw_sw (by decide) (by decide) (by decide) (by decide) (lc_0 h hi hL hd K0)
  | 1, _ => exact gx_tabIn (off := 217) (t := 257) lw_sw (by decide) (by decide) (by decide) (by decide) (lc_1 h hi hL hd K0)
  | 2, _ => exact gx_tabIn (off := 266) (t := 306) lw_sw (by decide) (by decide) (by decide) (by decide) (lc_2 h hi hL hd K0)
  | 3, _ => exact gx_tabIn (off := 339) (t := 379) lw_sw (by decide) (by decide) (by decide) (by decide) (lc_3 h hi hL hd K0)
  | 4, _ => exact gx_tabIn (off := 440) (t := 480) lw_sw (by decide) (by decide) (by decide) (by decide) (lc_4 h hi hL hd K0)
  | 5, _ => exact gx_tabIn (off := 587) (t := 627) lw_sw (by decide) (by decide) (by decide) (by decide) (lc_5 h hi hL hd K0)
  | 6, _ => exact gx_tabIn (off := 600) (t := 640) lw_sw (by decide) (by decide) (by decide) (by decide) (lc_6 h hi hL hd K0)
  | 7, _ => exact gx_tabIn (off := 649) (t := 689) lw_sw (by decide) (by decide) (by decide) (by decide) (lc_7 h hi hL hd K2)
  | 8, _ => exact gx_tabIn (off := 717) (t := 757) lw_sw (by decide) (by decide) (by decide) (by decide) (lc_8 h hi hL hd K0)
  | 9, _ => exact gx_tabIn (off := 742) (t := 782) lw_sw (by decide) (by decide) (by decide) (by decide) (lc_9 h hi hL hd K0)
  | 10, _ => exact gx_tabIn (off := 779) (t := 819) lw_sw (by decide) (by decide) (by decide) (by decide) (lc_10 h hi hL hd K0)
  | 11, _ => exact gx_tabIn (off := 828) (t := 868) lw_sw (by decide) (by decide) (by decide) (by decide) (lc_11 h hi hL hd K0)
  | 12, _ => exact gx_tabIn (off := 878) (t := 918) lw_sw (by decide) (by decide) (by decide) (by decide) (lc_12 h hi hL hd K0)
  | 13, _ => exact gx_tabIn (off := 952) (t := 992) lw_sw (by decide) (by decide) (by decide) (by decide) (lc_13 h hi hL hd K0)
  | 14, _ => exact gx_tabIn (off := 977) (t := 1017) lw_sw (by decide) (by decide) (by decide) (by decide) (lc_14 h hi hL hd K0)
  | 15, _ => exact gx_tabIn (off := 1026) (t := 1066) lw_sw (by decide) (by decide) (by decide) (by decide) (lc_15 h hi hL hd K0)
  | 16, _ => exact gx_tabIn (off := 1051) (t := 1091) lw_sw (by decide) (by decide) (by decide) (by decide) (lc_16 h hi hL hd K0)
  | 17, _ => exact gx_tabIn (off := 1076) (t := 1116) lw_sw (by decide) (by decide) (by decide) (by decide) (lc_17 h hi hL hd K0)
  | 18, _ => exact gx_tabIn (off := 1101) (t := 1141) lw_sw (by decide) (by decide) (by decide) (by decide) (lc_18 h hi hL hd K0)
  | 19, _ => exact gx_tabIn (off := 1182) (t := 1222) lw_sw (by decide) (by decide) (by decide) (by decide) (lc_19 h hi hL hd K0)
  | 20, _ => exact gx_tabIn (off := 1207) (t := 1247) lw_sw (by decide) (by decide) (by decide) (by decide) (lc_20 h hi hL hd K0)
  | 21, _ => exact gx_tabIn (off := 1232) (t := 1272) lw_sw (by decide) (by decide) (by decide) (by decide) (lc_21 h hi hL hd K0)
  | 22, _ => exact gx_tabIn (off := 1269) (t := 1309) lw_sw (by decide) (by decide) (by decide) (by decide) (lc_22 h hi hL hd K0)
  | 23, _ => exact gx_tabIn (off := 1294) (t := 1334) lw_sw (by decide) (by decide) (by decide) (by decide) (lc_23 h hi hL hd K0)
  | 24, _ => exact gx_tabIn (off := 1307) (t := 1347) lw_sw (by decide) (by decide) (by decide) (by decide) (lc_24 h hi hL hd K0)
  | 25, _ => exact gx_tabIn (off := 1344) (t := 1384) lw_sw (by decide) (by decide) (by decide) (by decide) (lc_25 h hi hL hd K0)
  | 26, _ => exact gx_tabIn (off := 1381) (t := 1421) lw_sw (by decide) (by decide) (by decide) (by decide) (lc_26 h hi hL hd K0)
  | 27, _ => exact gx_tabIn (off := 1406) (t := 1446) lw_sw (by decide) (by decide) (by decide) (by decide) (lc_27 h hi hL hd K0)
  | 28, _ => exact gx_tabIn (off := 1431) (t := 1471) lw_sw (by decide) (by decide) (by decide) (by decide) (lc_28 h hi hL hd K0)
  | 29, _ => exact gx_tabIn (off := 1444) (t := 1484) lw_sw (by decide) (by decide) (by decide) (by decide) (lc_29 (by omega) h hi hL hd K1)
  | 30, _ => exact gx_tabIn (off := 1497) (t := 1537) lw_sw (by decide) (by decide) (by decide) (by decide) (lc_30 h hi hL hd K0)
  | 31, _ => exact gx_tabIn (off := 1546) (t := 1586) lw_sw (by decide) (by decide) (by decide) (by decide) (lc_31 h hi hL hd K0)
  | 32, _ => exact gx_tabIn (off := 1595) (t := 1635) lw_sw (by decide) (by decide) (by decide) (by decide) (lc_32 h hi hL hd K0)
  | 33, _ => exact gx_tabIn (off := 1644) (t := 1684) lw_sw (by decide) (by decide) (by decide) (by decide) (lc_33 h hi hL hd K0)
  | 34, _ => exact gx_tabIn (off := 1681) (t := 1721) lw_sw (by decide) (by decide) (by decide) (by decide) (lc_34 h hi hL hd K0)
  | 35, _ => exact gx_tabIn (off := 1730) (t := 1770) lw_sw (by decide) (by decide) (by decide) (by decide) (lc_35 h hi hL hd K0)
  | 36, _ => exact gx_tabIn (off := 1767) (t := 1807) lw_sw (by decide) (by decide) (by decide) (by decide) (lc_36 h hi hL hd K2)
  | 37, _ => exact gx_tabIn (off := 1835) (t := 1875) lw_sw (by decide) (by decide) (by decide) (by decide) (lc_37 h hi hL hd K0)
  | j + 38, hj => exact gx_tabOut (t := 1900) lw_sw (Or.inr (lw_over _ hj (Nat.le_add_left _ _))) (by decide) (K0 A Q v M h)
set_option maxRecDepth 100000 in
theorem law_loop (hL : Ls ≤ 4096) (hd : 100 ≤ d) : ∀ (m i : Nat) (A : sA) (Q : sQ) (v : Nat → Nat) (M : dM), 8 * (i + m) ≤ Ls → Ls < 8 * (i + m) + 8 → INV i A Q v M → lawW (lawP ezE b0 Ls xs) d m (6 * m) lawQ 23 (lawL i) [] M := by
  intro m
  induction m with
  | zero =>
    intro i A Q v M h1 h2 h
    refine gx_iload (i := 4) (n := 25) ⟨by decide +kernel, rfl⟩ rfl ?_
    refine gx_aload_n (i := 0) (n := 26) ⟨by decide +kernel, rfl⟩ rfl ?_
    refine gx_slen (n := 27) ⟨by decide +kernel, rfl⟩ ?_
    refine gx_bipush (i := 8) (v := 8) (n := 29) ⟨by decide +kernel, rfl⟩ (by decide) ?_
    refine gx_isub (n := 30) ⟨by decide +kernel, rfl⟩ ?_
    refine gx_icmp_gt (off := 1876) (t := 1906) (n := 33) ⟨by decide +kernel, rfl, by decide⟩ (fun _ => ?_) (fun c => ?_)
    · refine gx_iconst (i := 1) (v := 1) (n := 1907) ⟨by decide +kernel, rfl⟩ (by decide) ?_
      exact gx_ireturn (n := 1908) ⟨by decide +kernel, rfl⟩ rfl rfl rfl
    · have := lw_top hL (by omega) c
      omega
  | succ m ih =>
    intro i A Q v M h1 h2 h
    refine gx_iload (i := 4) (n := 25) ⟨by decide +kernel, rfl⟩ rfl ?_
    refine gx_aload_n (i := 0) (n := 26) ⟨by decide +kernel, rfl⟩ rfl ?_
    refine gx_slen (n := 27) ⟨by decide +kernel, rfl⟩ ?_
    refine gx_bipush (i := 8) (v := 8) (n := 29) ⟨by decide +kernel, rfl⟩ (by decide) ?_
    refine gx_isub (n := 30) ⟨by decide +kernel, rfl⟩ ?_
    refine gx_icmp_gt (off := 1876) (t := 1906) (n := 33) ⟨by decide +kernel, rfl, by decide⟩ (fun _ => ?_) (fun c => ?_)
    · refine gx_iconst (i := 1) (v := 1) (n := 1907) ⟨by decide +kernel, rfl⟩ (by decide) ?_
      exact gx_ireturn (n := 1908) ⟨by decide +kernel, rfl⟩ rfl rfl rfl
    · have hi := lw_top hL (by omega) c
      have e1 : m + 1 = 1 + m := Nat.add_comm m 1
      have e2 : 6 * (m + 1) = 6 + 6 * m := by omega
      rw [e2, e1]
      refine law_at (mc := m) (ms := 6 * m) h hi hL hd (fun A2 Q2 v2 M2 g => ?_)
      refine gx_iinc (i := 4) (z := 8) (b := nI (8 * (i + 1))) (n := 1903) ⟨by decide +kernel, rfl⟩ rfl ?_ (Nat.le_of_ble_eq_true rfl) (fun o ho => by cases ho; exact Or.inr rfl) ?_
      · show nI (8 * i) + nI 8 = nI (8 * (i + 1))
        rw [z_add, Nat.mul_succ]
      refine gx_goto (off := -1880) (t := 23) (n := 1906) ⟨by decide +kernel, rfl, by decide⟩ ?_
      exact ih (i + 1) A2 Q2 v2 M2 (by omega) (by omega) g
end LAWL
