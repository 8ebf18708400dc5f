/-! ===== worlds: the draws ===== -/
noncomputable def drS : Nat → Nat := Classical.choose (p := fun f : Nat → Nat => ∀ s, f s = (s * 1103515245 + 12345) % 2147483648) ⟨fun s => (s * 1103515245 + 12345) % 2147483648, fun _ => rfl⟩
theorem drS_e (s : Nat) : drS s = (s * 1103515245 + 12345) % 2147483648 := Classical.choose_spec (p := fun f : Nat → Nat => ∀ s, f s = (s * 1103515245 + 12345) % 2147483648) ⟨fun s => (s * 1103515245 + 12345) % 2147483648, fun _ => rfl⟩ s
noncomputable def drV : Nat → Nat := Classical.choose (p := fun f : Nat → Nat => ∀ s, f s = drS s / 65536 % 10) ⟨fun s => drS s / 65536 % 10, fun _ => rfl⟩
theorem drV_e (s : Nat) : drV s = drS s / 65536 % 10 := Classical.choose_spec (p := fun f : Nat → Nat => ∀ s, f s = drS s / 65536 % 10) ⟨fun s => drS s / 65536 % 10, fun _ => rfl⟩ s
theorem drS_lt (s : Nat) : drS s < 2147483648 := by rw [drS_e]; exact Nat.mod_lt _ (by decide)
theorem drV_lt (s : Nat) : drV s < 10 := by rw [drV_e]; exact Nat.mod_lt _ (by decide)
theorem z_l2i : ∀ k, k < 10 → (lN k).toInt32 = nI k := by decide +kernel
theorem z_lrem {a m : Nat} (ha : a < 4611686018427387904) (hm : m < 4611686018427387904) (h0 : 0 < m) : lN a - lN a / lN m * lN m = lN (a % m) := by
  have h1 : a / m * m ≤ a := Nat.div_mul_le_self a m
  rw [pk_lDiv (by omega) (by omega) (by omega), z_lmul, z_lsub h1]
  have := Nat.div_add_mod a m
  have h2 : a / m * m = m * (a / m) := Nat.mul_comm _ _
  rw [show a - a / m * m = a % m by omega]
theorem z_drv {t : Nat} (ht : t < 2147483648) : ((lN t / 65536) - (lN t / 65536) / 10 * 10).toInt32 = nI (t / 65536 % 10) := by
  have h1 : t / 65536 ≤ t := Nat.div_le_self _ _
  rw [show (65536 : Int64) = lN 65536 from rfl, show (10 : Int64) = lN 10 from rfl, pk_lDiv (by omega) (by omega) (by omega), z_lrem (by omega) (by decide) (by decide), z_l2i _ (Nat.mod_lt _ (by decide))]
theorem c_draw {M : dM} {s : Nat} (hs : s < 2147483648) (h : gJ M 56 8 = lN s) : f_wo_draw M = some (nI (drV s), sJ M 56 8 (lN (drS s))) := by
  have h1 : s * 1103515245 + 12345 < 4611686018427387904 := by omega
  have e : ((gJ M 56 8) * 1103515245 + 12345) &&& 2147483647 = lN (drS s) := by
    rw [h, show (1103515245 : Int64) = lN 1103515245 from rfl, show (12345 : Int64) = lN 12345 from rfl, show (2147483647 : Int64) = lN (2 ^ 31 - 1) from rfl, z_lmul, z_ladd, z_land (by omega) (by decide), Nat.and_two_pow_sub_one_eq_mod, drS_e]
  unfold f_wo_draw
  rw [e, gJ_sJ, if_pos ⟨rfl, rfl⟩, z_drv (drS_lt s), drV_e]
theorem m_draws {M : dM} {s : Nat} (hs : s < 2147483648) (h : gJ M 66 85 = lN s) : f_mo_draws M = some (nI (drV s), sJ M 66 85 (lN (drS s))) := by
  have h1 : s * 1103515245 + 12345 < 4611686018427387904 := by omega
  have e : (((gJ M 66 85) * 1103515245) + 12345) - (((gJ M 66 85) * 1103515245) + 12345) / 2147483648 * 2147483648 = lN (drS s) := by
    rw [h, show (1103515245 : Int64) = lN 1103515245 from rfl, show (12345 : Int64) = lN 12345 from rfl, show (2147483648 : Int64) = lN 2147483648 from rfl, z_lmul, z_ladd, z_lrem h1 (by decide) (by decide), drS_e]
  unfold f_mo_draws
  rw [e, gJ_sJ, if_pos ⟨rfl, rfl⟩, z_drv (drS_lt s), drV_e]
/-! the layers of a site -/
def laC (A : sA) (s n : Nat) : Nat := fb_ct (fun l => lay0 A (10 * s + l)) n
theorem c_layersAt {A : sA} {M : dM} (rc : rcA A M) {s : Nat} (hs : s < 8) : f_si_layersAt (nI s) M = some (nI (laC A s 10)) := by
  have hl := layN10 A s
  have e1 : pc (layN A s 10) 24 = laC A s 10 := by
    rw [pc_ext (n := layN A s 10) (m := 10) (layN_lt A s 10) (by decide)]
    exact fb_ct_cong (fun k hk => by
      show (layN A s 10).testBit k = _
      rw [Bool.eq_iff_iff, layN_bit]
      unfold lay0
      rw [decide_eq_true_iff]
      exact ⟨fun z => z.2, fun z => ⟨hk, z⟩⟩)
  unfold f_si_layersAt
  rw [z_gd (z_in (n := s) (by omega) (by omega)), z_cl (n := s) (by omega), rc.2.1.1 s hs, z_bcI (by omega), e1]
theorem m_layersOf {A : sA} {M : dM} (w : wfA A) (rm : rmA A M) {s : Nat} (hs : s < 8) : f_mo_layersOf (nI s) M = some (nI (laC A s 10)) := by
  unfold f_mo_layersOf
  have e0 : l_mo_layersOf_4 (nI s) 0 0 M = some (nI (laC A s 10)) := by
    unfold l_mo_layersOf_4
    refine lpc_seq (body := fun q : Int32 × Int32 => b_mo_layersOf_4_4 (nI s) q.1 q.2 M) (fun k => (nI (laC A s k), nI k)) 10 ?_ ?_
    · intro l hl
      show b_mo_layersOf_4_4 (nI s) (nI (laC A s l)) (nI l) M = some (.inl (nI (laC A s (l + 1)), nI (l + 1)))
      have h1 := (w.2.1.1 (10 * s + l) (by omega)).1
      have ei : (10 : Int32) * nI s + nI l = nI (10 * s + l) := by rw [show (10 : Int32) = nI 10 from rfl, z_mul, z_add]
      unfold b_mo_layersOf_4_4
      rw [if_neg (show ¬ (10 : Int32) ≤ nI l from z_nle (a := 10) (by decide) (by omega) (by omega)), ei, z_gd (z_in (n := 10 * s + l) (by omega) (by omega)), z_cl (n := 10 * s + l) (by omega), (rm.2.1.1 (10 * s + l) (by omega)).1, show nI l + 1 = nI (l + 1) from z_add l 1]
      unfold laC
      rw [fb_ct_succ]
      unfold ageI
      by_cases c : A 67 (10 * s + l) = 0
      · rw [if_pos c, if_pos (show (-1 : Int32) < 0 from by decide), if_neg (by unfold lay0; rw [decide_eq_true_iff]; exact fun z => z c)]
        show some (Sum.inl (nI _ + nI 0, _)) = _
        rw [z_add]
      · rw [if_neg c, if_neg (show ¬ nI (A 67 (10 * s + l) - 1) < (0 : Int32) from by rw [show (0 : Int32) = nI 0 from rfl, z_lt (by omega) (by omega)]; omega), if_pos (show lay0 A (10 * s + l) = true from decide_eq_true c)]
        show some (Sum.inl (nI _ + nI 1, _)) = _
        rw [z_add]
    · show b_mo_layersOf_4_4 (nI s) (nI (laC A s 10)) (nI 10) M = _
      unfold b_mo_layersOf_4_4
      rw [if_pos (show (10 : Int32) ≤ nI 10 from by decide)]
  rw [e0, Option.bind_some]
