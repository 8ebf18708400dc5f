/-! ===== the constructors, walked (made by gencons.py) ===== -/
set_option maxRecDepth 100000 in
set_option maxHeartbeats 4000000 in
theorem co_X7_init_1 : mz_Ok mX7_init 1 4 232 [.ref 1] (kcL 2) (kcR 0) (kcI 0) kcJ (kcQ 6 4 0) := by
  refine mz_ok (by decide +kernel) (Nat.le_of_ble_eq_true rfl) (L0 := [some (.ref 1)]) rfl (mz_of_gz ?_)
  refine gx_aload_n (i := 0) (n := 1) ⟨by decide +kernel, rfl⟩ rfl ?_
  refine gx_obj (n := 4) ⟨by decide +kernel, rfl⟩ nwl_RX7_3 nwo_i nwo_c (Nat.le_of_ble_eq_true rfl) (by decide) ?_
  refine gx_aload_n (i := 0) (n := 5) ⟨by decide +kernel, rfl⟩ rfl ?_
  refine gx_bipush (i := 80) (v := 80) (n := 7) ⟨by decide +kernel, rfl⟩ (by decide) ?_
  refine kx_newa (atype := .int) (N := 80) (n := 9) 2 (kcL_len 2 (by decide)) (kcL_s 2 rfl) ⟨by decide +kernel, rfl⟩ rfl rfl nwa_int (by decide) rfl (by decide) (kcR_hi 0 2 (by decide +kernel)) (kcI_hi 0 2 (by decide +kernel)) rfl rfl ?_
  refine gx_putR (n := 12) ⟨by decide +kernel, rfl⟩ kfX7_9 (kcL_at 3 1 rfl) (Or.inr ⟨by decide +kernel, rfl, fun C T N h => by cases h; rfl⟩) rfl (Or.inl (by rw [kcL_len 3 (by decide)]; decide)) ?_
  rw [kcR_s 0 (k := 1) (j := 0) (q := 2) rfl]
  refine gx_aload_n (i := 0) (n := 13) ⟨by decide +kernel, rfl⟩ rfl ?_
  refine gx_bipush (i := 80) (v := 80) (n := 15) ⟨by decide +kernel, rfl⟩ (by decide) ?_
  refine kx_newa (atype := .int) (N := 80) (n := 17) 3 (kcL_len 3 (by decide)) (kcL_s 3 rfl) ⟨by decide +kernel, rfl⟩ rfl rfl nwa_int (by decide) rfl (by decide) (kcR_hi 1 3 (by decide +kernel)) (kcI_hi 0 3 (by decide +kernel)) rfl rfl ?_
  refine gx_putR (n := 20) ⟨by decide +kernel, rfl⟩ kfX7_15 (kcL_at 4 1 rfl) (Or.inr ⟨by decide +kernel, rfl, fun C T N h => by cases h; rfl⟩) rfl (Or.inl (by rw [kcL_len 4 (by decide)]; decide)) ?_
  rw [kcR_s 1 (k := 1) (j := 1) (q := 3) rfl]
  refine gx_aload_n (i := 0) (n := 21) ⟨by decide +kernel, rfl⟩ rfl ?_
  refine gx_bipush (i := 8) (v := 8) (n := 23) ⟨by decide +kernel, rfl⟩ (by decide) ?_
  refine kx_newa (atype := .int) (N := 8) (n := 25) 4 (kcL_len 4 (by decide)) (kcL_s 4 rfl) ⟨by decide +kernel, rfl⟩ rfl rfl nwa_int (by decide) rfl (by decide) (kcR_hi 2 4 (by decide +kernel)) (kcI_hi 0 4 (by decide +kernel)) rfl rfl ?_
  refine gx_putR (n := 28) ⟨by decide +kernel, rfl⟩ kfX7_18 (kcL_at 5 1 rfl) (Or.inr ⟨by decide +kernel, rfl, fun C T N h => by cases h; rfl⟩) rfl (Or.inl (by rw [kcL_len 5 (by decide)]; decide)) ?_
  rw [kcR_s 2 (k := 1) (j := 2) (q := 4) rfl]
  refine gx_aload_n (i := 0) (n := 29) ⟨by decide +kernel, rfl⟩ rfl ?_
  refine gx_bipush (i := 64) (v := 64) (n := 31) ⟨by decide +kernel, rfl⟩ (by decide) ?_
  refine kx_newa (atype := .int) (N := 64) (n := 33) 5 (kcL_len 5 (by decide)) (kcL_s 5 rfl) ⟨by decide +kernel, rfl⟩ rfl rfl nwa_int (by decide) rfl (by decide) (kcR_hi 3 5 (by decide +kernel)) (kcI_hi 0 5 (by decide +kernel)) rfl rfl ?_
  refine gx_putR (n := 36) ⟨by decide +kernel, rfl⟩ kfX7_21 (kcL_at 6 1 rfl) (Or.inr ⟨by decide +kernel, rfl, fun C T N h => by cases h; rfl⟩) rfl (Or.inl (by rw [kcL_len 6 (by decide)]; decide)) ?_
  rw [kcR_s 3 (k := 1) (j := 3) (q := 5) rfl]
  exact gx_return (n := 37) ⟨by decide +kernel, rfl⟩ rfl ⟨rfl, rfl, rfl, rfl, rfl⟩
set_option maxRecDepth 100000 in
set_option maxHeartbeats 4000000 in
theorem co_X4_init_6 : mz_Ok mX4_init 1 5 400 [.ref 6] (kcL 7) (kcR 5) (kcI 0) kcJ (kcQ 12 10 0) := by
  refine mz_ok (by decide +kernel) (Nat.le_of_ble_eq_true rfl) (L0 := [some (.ref 6)]) rfl (mz_of_gz ?_)
  refine gx_aload_n (i := 0) (n := 1) ⟨by decide +kernel, rfl⟩ rfl ?_
  refine gx_obj (n := 4) ⟨by decide +kernel, rfl⟩ nwl_RX4_3 nwo_i nwo_c (Nat.le_of_ble_eq_true rfl) (by decide) ?_
  refine gx_aload_n (i := 0) (n := 5) ⟨by decide +kernel, rfl⟩ rfl ?_
  refine gx_bipush (i := 80) (v := 80) (n := 7) ⟨by decide +kernel, rfl⟩ (by decide) ?_
  refine kx_newa (atype := .int) (N := 80) (n := 9) 7 (kcL_len 7 (by decide)) (kcL_s 7 rfl) ⟨by decide +kernel, rfl⟩ rfl rfl nwa_int (by decide) rfl (by decide) (kcR_hi 5 7 (by decide +kernel)) (kcI_hi 0 7 (by decide +kernel)) rfl rfl ?_
  refine gx_putR (n := 12) ⟨by decide +kernel, rfl⟩ kfX4_9 (kcL_at 8 6 rfl) (Or.inr ⟨by decide +kernel, rfl, fun C T N h => by cases h; rfl⟩) rfl (Or.inl (by rw [kcL_len 8 (by decide)]; decide)) ?_
  rw [kcR_s 5 (k := 6) (j := 0) (q := 7) rfl]
  refine gx_aload_n (i := 0) (n := 13) ⟨by decide +kernel, rfl⟩ rfl ?_
  refine gx_bipush (i := 80) (v := 80) (n := 15) ⟨by decide +kernel, rfl⟩ (by decide) ?_
  refine kx_newa (atype := .int) (N := 80) (n := 17) 8 (kcL_len 8 (by decide)) (kcL_s 8 rfl) ⟨by decide +kernel, rfl⟩ rfl rfl nwa_int (by decide) rfl (by decide) (kcR_hi 6 8 (by decide +kernel)) (kcI_hi 0 8 (by decide +kernel)) rfl rfl ?_
  refine gx_putR (n := 20) ⟨by decide +kernel, rfl⟩ kfX4_15 (kcL_at 9 6 rfl) (Or.inr ⟨by decide +kernel, rfl, fun C T N h => by cases h; rfl⟩) rfl (Or.inl (by rw [kcL_len 9 (by decide)]; decide)) ?_
  rw [kcR_s 6 (k := 6) (j := 1) (q := 8) rfl]
  refine gx_aload_n (i := 0) (n := 21) ⟨by decide +kernel, rfl⟩ rfl ?_
  refine gx_bipush (i := 80) (v := 80) (n := 23) ⟨by decide +kernel, rfl⟩ (by decide) ?_
  refine kx_newa (atype := .int) (N := 80) (n := 25) 9 (kcL_len 9 (by decide)) (kcL_s 9 rfl) ⟨by decide +kernel, rfl⟩ rfl rfl nwa_int (by decide) rfl (by decide) (kcR_hi 7 9 (by decide +kernel)) (kcI_hi 0 9 (by decide +kernel)) rfl rfl ?_
  refine gx_putR (n := 28) ⟨by decide +kernel, rfl⟩ kfX4_18 (kcL_at 10 6 rfl) (Or.inr ⟨by decide +kernel, rfl, fun C T N h => by cases h; rfl⟩) rfl (Or.inl (by rw [kcL_len 10 (by decide)]; decide)) ?_
  rw [kcR_s 7 (k := 6) (j := 2) (q := 9) rfl]
  refine gx_aload_n (i := 0) (n := 29) ⟨by decide +kernel, rfl⟩ rfl ?_
  refine gx_bipush (i := 80) (v := 80) (n := 31) ⟨by decide +kernel, rfl⟩ (by decide) ?_
  refine kx_newa (atype := .int) (N := 80) (n := 33) 10 (kcL_len 10 (by decide)) (kcL_s 10 rfl) ⟨by decide +kernel, rfl⟩ rfl rfl nwa_int (by decide) rfl (by decide) (kcR_hi 8 10 (by decide +kernel)) (kcI_hi 0 10 (by decide +kernel)) rfl rfl ?_
  refine gx_putR (n := 36) ⟨by decide +kernel, rfl⟩ kfX4_21 (kcL_at 11 6 rfl) (Or.inr ⟨by decide +kernel, rfl, fun C T N h => by cases h; rfl⟩) rfl (Or.inl (by rw [kcL_len 11 (by decide)]; decide)) ?_
  rw [kcR_s 8 (k := 6) (j := 3) (q := 10) rfl]
  refine gx_aload_n (i := 0) (n := 37) ⟨by decide +kernel, rfl⟩ rfl ?_
  refine gx_bipush (i := 80) (v := 80) (n := 39) ⟨by decide +kernel, rfl⟩ (by decide) ?_
  refine kx_newa (atype := .int) (N := 80) (n := 41) 11 (kcL_len 11 (by decide)) (kcL_s 11 rfl) ⟨by decide +kernel, rfl⟩ rfl rfl nwa_int (by decide) rfl (by decide) (kcR_hi 9 11 (by decide +kernel)) (kcI_hi 0 11 (by decide +kernel)) rfl rfl ?_
  refine gx_putR (n := 44) ⟨by decide +kernel, rfl⟩ kfX4_24 (kcL_at 12 6 rfl) (Or.inr ⟨by decide +kernel, rfl, fun C T N h => by cases h; rfl⟩) rfl (Or.inl (by rw [kcL_len 12 (by decide)]; decide)) ?_
  rw [kcR_s 9 (k := 6) (j := 4) (q := 11) rfl]
  exact gx_return (n := 45) ⟨by decide +kernel, rfl⟩ rfl ⟨rfl, rfl, rfl, rfl, rfl⟩
set_option maxRecDepth 100000 in
set_option maxHeartbeats 4000000 in
theorem co_X9_init_12 : mz_Ok mX9_init 1 11 380 [.ref 12] (kcL 13) (kcR 11) (kcI 0) kcJ (kcQ 24 22 0) := by
  refine mz_ok (by decide +kernel) (Nat.le_of_ble_eq_true rfl) (L0 := [some (.ref 12)]) rfl (mz_of_gz ?_)
  refine gx_aload_n (i := 0) (n := 1) ⟨by decide +kernel, rfl⟩ rfl ?_
  refine gx_obj (n := 4) ⟨by decide +kernel, rfl⟩ nwl_RX9_3 nwo_i nwo_c (Nat.le_of_ble_eq_true rfl) (by decide) ?_
  refine gx_aload_n (i := 0) (n := 5) ⟨by decide +kernel, rfl⟩ rfl ?_
  refine gx_bipush (i := 40) (v := 40) (n := 7) ⟨by decide +kernel, rfl⟩ (by decide) ?_
  refine kx_newa (atype := .int) (N := 40) (n := 9) 13 (kcL_len 13 (by decide)) (kcL_s 13 rfl) ⟨by decide +kernel, rfl⟩ rfl rfl nwa_int (by decide) rfl (by decide) (kcR_hi 11 13 (by decide +kernel)) (kcI_hi 0 13 (by decide +kernel)) rfl rfl ?_
  refine gx_putR (n := 12) ⟨by decide +kernel, rfl⟩ kfX9_9 (kcL_at 14 12 rfl) (Or.inr ⟨by decide +kernel, rfl, fun C T N h => by cases h; rfl⟩) rfl (Or.inl (by rw [kcL_len 14 (by decide)]; decide)) ?_
  rw [kcR_s 11 (k := 12) (j := 0) (q := 13) rfl]
  refine gx_aload_n (i := 0) (n := 13) ⟨by decide +kernel, rfl⟩ rfl ?_
  refine gx_bipush (i := 40) (v := 40) (n := 15) ⟨by decide +kernel, rfl⟩ (by decide) ?_
  refine kx_newa (atype := .int) (N := 40) (n := 17) 14 (kcL_len 14 (by decide)) (kcL_s 14 rfl) ⟨by decide +kernel, rfl⟩ rfl rfl nwa_int (by decide) rfl (by decide) (kcR_hi 12 14 (by decide +kernel)) (kcI_hi 0 14 (by decide +kernel)) rfl rfl ?_
  refine gx_putR (n := 20) ⟨by decide +kernel, rfl⟩ kfX9_15 (kcL_at 15 12 rfl) (Or.inr ⟨by decide +kernel, rfl, fun C T N h => by cases h; rfl⟩) rfl (Or.inl (by rw [kcL_len 15 (by decide)]; decide)) ?_
  rw [kcR_s 12 (k := 12) (j := 1) (q := 14) rfl]
  refine gx_aload_n (i := 0) (n := 21) ⟨by decide +kernel, rfl⟩ rfl ?_
  refine gx_bipush (i := 40) (v := 40) (n := 23) ⟨by decide +kernel, rfl⟩ (by decide) ?_
  refine kx_newa (atype := .int) (N := 40) (n := 25) 15 (kcL_len 15 (by decide)) (kcL_s 15 rfl) ⟨by decide +kernel, rfl⟩ rfl rfl nwa_int (by decide) rfl (by decide) (kcR_hi 13 15 (by decide +kernel)) (kcI_hi 0 15 (by decide +kernel)) rfl rfl ?_
  refine gx_putR (n := 28) ⟨by decide +kernel, rfl⟩ kfX9_18 (kcL_at 16 12 rfl) (Or.inr ⟨by decide +kernel, rfl, fun C T N h => by cases h; rfl⟩) rfl (Or.inl (by rw [kcL_len 16 (by decide)]; decide)) ?_
  rw [kcR_s 13 (k := 12) (j := 2) (q := 15) rfl]
  refine gx_aload_n (i := 0) (n := 29) ⟨by decide +kernel, rfl⟩ rfl ?_
  refine gx_bipush (i := 40) (v := 40) (n := 31) ⟨by decide +kernel, rfl⟩ (by decide) ?_
  refine kx_newa (atype := .int) (N := 40) (n := 33) 16 (kcL_len 16 (by decide)) (kcL_s 16 rfl) ⟨by decide +kernel, rfl⟩ rfl rfl nwa_int (by decide) rfl (by decide) (kcR_hi 14 16 (by decide +kernel)) (kcI_hi 0 16 (by decide +kernel)) rfl rfl ?_
  refine gx_putR (n := 36) ⟨by decide +kernel, rfl⟩ kfX9_21 (kcL_at 17 12 rfl) (Or.inr ⟨by decide +kernel, rfl, fun C T N h => by cases h; rfl⟩) rfl (Or.inl (by rw [kcL_len 17 (by decide)]; decide)) ?_
  rw [kcR_s 14 (k := 12) (j := 3) (q := 16) rfl]
  refine gx_aload_n (i := 0) (n := 37) ⟨by decide +kernel, rfl⟩ rfl ?_
  refine gx_bipush (i := 40) (v := 40) (n := 39) ⟨by decide +kernel, rfl⟩ (by decide) ?_
  refine kx_newa (atype := .int) (N := 40) (n := 41) 17 (kcL_len 17 (by decide)) (kcL_s 17 rfl) ⟨by decide +kernel, rfl⟩ rfl rfl nwa_int (by decide) rfl (by decide) (kcR_hi 15 17 (by decide +kernel)) (kcI_hi 0 17 (by decide +kernel)) rfl rfl ?_
  refine gx_putR (n := 44) ⟨by decide +kernel, rfl⟩ kfX9_24 (kcL_at 18 12 rfl) (Or.inr ⟨by decide +kernel, rfl, fun C T N h => by cases h; rfl⟩) rfl (Or.inl (by rw [kcL_len 18 (by decide)]; decide)) ?_
  rw [kcR_s 15 (k := 12) (j := 4) (q := 17) rfl]
  refine gx_aload_n (i := 0) (n := 45) ⟨by decide +kernel, rfl⟩ rfl ?_
  refine gx_bipush (i := 40) (v := 40) (n := 47) ⟨by decide +kernel, rfl⟩ (by decide) ?_
  refine kx_newa (atype := .int) (N := 40) (n := 49) 18 (kcL_len 18 (by decide)) (kcL_s 18 rfl) ⟨by decide +kernel, rfl⟩ rfl rfl nwa_int (by decide) rfl (by decide) (kcR_hi 16 18 (by decide +kernel)) (kcI_hi 0 18 (by decide +kernel)) rfl rfl ?_
  refine gx_putR (n := 52) ⟨by decide +kernel, rfl⟩ kfX9_27 (kcL_at 19 12 rfl) (Or.inr ⟨by decide +kernel, rfl, fun C T N h => by cases h; rfl⟩) rfl (Or.inl (by rw [kcL_len 19 (by decide)]; decide)) ?_
  rw [kcR_s 16 (k := 12) (j := 5) (q := 18) rfl]
  refine gx_aload_n (i := 0) (n := 53) ⟨by decide +kernel, rfl⟩ rfl ?_
  refine gx_bipush (i := 40) (v := 40) (n := 55) ⟨by decide +kernel, rfl⟩ (by decide) ?_
  refine kx_newa (atype := .int) (N := 40) (n := 57) 19 (kcL_len 19 (by decide)) (kcL_s 19 rfl) ⟨by decide +kernel, rfl⟩ rfl rfl nwa_int (by decide) rfl (by decide) (kcR_hi 17 19 (by decide +kernel)) (kcI_hi 0 19 (by decide +kernel)) rfl rfl ?_
  refine gx_putR (n := 60) ⟨by decide +kernel, rfl⟩ kfX9_30 (kcL_at 20 12 rfl) (Or.inr ⟨by decide +kernel, rfl, fun C T N h => by cases h; rfl⟩) rfl (Or.inl (by rw [kcL_len 20 (by decide)]; decide)) ?_
  rw [kcR_s 17 (k := 12) (j := 6) (q := 19) rfl]
  refine gx_aload_n (i := 0) (n := 61) ⟨by decide +kernel, rfl⟩ rfl ?_
  refine gx_bipush (i := 20) (v := 20) (n := 63) ⟨by decide +kernel, rfl⟩ (by decide) ?_
  refine kx_newa (atype := .int) (N := 20) (n := 65) 20 (kcL_len 20 (by decide)) (kcL_s 20 rfl) ⟨by decide +kernel, rfl⟩ rfl rfl nwa_int (by decide) rfl (by decide) (kcR_hi 18 20 (by decide +kernel)) (kcI_hi 0 20 (by decide +kernel)) rfl rfl ?_
  refine gx_putR (n := 68) ⟨by decide +kernel, rfl⟩ kfX9_33 (kcL_at 21 12 rfl) (Or.inr ⟨by decide +kernel, rfl, fun C T N h => by cases h; rfl⟩) rfl (Or.inl (by rw [kcL_len 21 (by decide)]; decide)) ?_
  rw [kcR_s 18 (k := 12) (j := 8) (q := 20) rfl]
  refine gx_aload_n (i := 0) (n := 69) ⟨by decide +kernel, rfl⟩ rfl ?_
  refine gx_bipush (i := 20) (v := 20) (n := 71) ⟨by decide +kernel, rfl⟩ (by decide) ?_
  refine kx_newa (atype := .int) (N := 20) (n := 73) 21 (kcL_len 21 (by decide)) (kcL_s 21 rfl) ⟨by decide +kernel, rfl⟩ rfl rfl nwa_int (by decide) rfl (by decide) (kcR_hi 19 21 (by decide +kernel)) (kcI_hi 0 21 (by decide +kernel)) rfl rfl ?_
  refine gx_putR (n := 76) ⟨by decide +kernel, rfl⟩ kfX9_36 (kcL_at 22 12 rfl) (Or.inr ⟨by decide +kernel, rfl, fun C T N h => by cases h; rfl⟩) rfl (Or.inl (by rw [kcL_len 22 (by decide)]; decide)) ?_
  rw [kcR_s 19 (k := 12) (j := 9) (q := 21) rfl]
  refine gx_aload_n (i := 0) (n := 77) ⟨by decide +kernel, rfl⟩ rfl ?_
  refine gx_bipush (i := 20) (v := 20) (n := 79) ⟨by decide +kernel, rfl⟩ (by decide) ?_
  refine kx_newa (atype := .int) (N := 20) (n := 81) 22 (kcL_len 22 (by decide)) (kcL_s 22 rfl) ⟨by decide +kernel, rfl⟩ rfl rfl nwa_int (by decide) rfl (by decide) (kcR_hi 20 22 (by decide +kernel)) (kcI_hi 0 22 (by decide +kernel)) rfl rfl ?_
  refine gx_putR (n := 84) ⟨by decide +kernel, rfl⟩ kfX9_39 (kcL_at 23 12 rfl) (Or.inr ⟨by decide +kernel, rfl, fun C T N h => by cases h; rfl⟩) rfl (Or.inl (by rw [kcL_len 23 (by decide)]; decide)) ?_
  rw [kcR_s 20 (k := 12) (j := 10) (q := 22) rfl]
  refine gx_aload_n (i := 0) (n := 85) ⟨by decide +kernel, rfl⟩ rfl ?_
  refine gx_bipush (i := 40) (v := 40) (n := 87) ⟨by decide +kernel, rfl⟩ (by decide) ?_
  refine kx_newa (atype := .int) (N := 40) (n := 89) 23 (kcL_len 23 (by decide)) (kcL_s 23 rfl) ⟨by decide +kernel, rfl⟩ rfl rfl nwa_int (by decide) rfl (by decide) (kcR_hi 21 23 (by decide +kernel)) (kcI_hi 0 23 (by decide +kernel)) rfl rfl ?_
  refine gx_putR (n := 92) ⟨by decide +kernel, rfl⟩ kfX9_42 (kcL_at 24 12 rfl) (Or.inr ⟨by decide +kernel, rfl, fun C T N h => by cases h; rfl⟩) rfl (Or.inl (by rw [kcL_len 24 (by decide)]; decide)) ?_
  rw [kcR_s 21 (k := 12) (j := 12) (q := 23) rfl]
  exact gx_return (n := 93) ⟨by decide +kernel, rfl⟩ rfl ⟨rfl, rfl, rfl, rfl, rfl⟩
set_option maxRecDepth 100000 in
set_option maxHeartbeats 4000000 in
theorem co_X5_init_24 : mz_Ok mX5_init 1 2 24 [.ref 24] (kcL 25) (kcR 23) (kcI 0) kcJ (kcQ 27 25 0) := by
  refine mz_ok (by decide +kernel) (Nat.le_of_ble_eq_true rfl) (L0 := [some (.ref 24)]) rfl (mz_of_gz ?_)
  refine gx_aload_n (i := 0) (n := 1) ⟨by decide +kernel, rfl⟩ rfl ?_
  refine gx_obj (n := 4) ⟨by decide +kernel, rfl⟩ nwl_RX5_3 nwo_i nwo_c (Nat.le_of_ble_eq_true rfl) (by decide) ?_
  refine gx_aload_n (i := 0) (n := 5) ⟨by decide +kernel, rfl⟩ rfl ?_
  refine gx_bipush (i := 20) (v := 20) (n := 7) ⟨by decide +kernel, rfl⟩ (by decide) ?_
  refine kx_newa (atype := .int) (N := 20) (n := 9) 25 (kcL_len 25 (by decide)) (kcL_s 25 rfl) ⟨by decide +kernel, rfl⟩ rfl rfl nwa_int (by decide) rfl (by decide) (kcR_hi 23 25 (by decide +kernel)) (kcI_hi 0 25 (by decide +kernel)) rfl rfl ?_
  refine gx_putR (n := 12) ⟨by decide +kernel, rfl⟩ kfX5_11 (kcL_at 26 24 rfl) (Or.inr ⟨by decide +kernel, rfl, fun C T N h => by cases h; rfl⟩) rfl (Or.inl (by rw [kcL_len 26 (by decide)]; decide)) ?_
  rw [kcR_s 23 (k := 24) (j := 0) (q := 25) rfl]
  refine gx_aload_n (i := 0) (n := 13) ⟨by decide +kernel, rfl⟩ rfl ?_
  refine gx_iconst (i := 4) (v := 4) (n := 14) ⟨by decide +kernel, rfl⟩ (by decide) ?_
  refine kx_newa (atype := .int) (N := 4) (n := 16) 26 (kcL_len 26 (by decide)) (kcL_s 26 rfl) ⟨by decide +kernel, rfl⟩ rfl rfl nwa_int (by decide) rfl (by decide) (kcR_hi 24 26 (by decide +kernel)) (kcI_hi 0 26 (by decide +kernel)) rfl rfl ?_
  refine gx_putR (n := 19) ⟨by decide +kernel, rfl⟩ kfX5_15 (kcL_at 27 24 rfl) (Or.inr ⟨by decide +kernel, rfl, fun C T N h => by cases h; rfl⟩) rfl (Or.inl (by rw [kcL_len 27 (by decide)]; decide)) ?_
  rw [kcR_s 24 (k := 24) (j := 1) (q := 26) rfl]
  exact gx_return (n := 20) ⟨by decide +kernel, rfl⟩ rfl ⟨rfl, rfl, rfl, rfl, rfl⟩
set_option maxRecDepth 100000 in
set_option maxHeartbeats 4000000 in
theorem co_X3_init_27 : mz_Ok mX3_init 1 4 1074 [.ref 27] (kcL 28) (kcR 26) (kcI 0) kcJ (kcQ 32 30 2) := by
  refine mz_ok (by decide +kernel) (Nat.le_of_ble_eq_true rfl) (L0 := [some (.ref 27)]) rfl (mz_of_gz ?_)
  refine gx_aload_n (i := 0) (n := 1) ⟨by decide +kernel, rfl⟩ rfl ?_
  refine gx_obj (n := 4) ⟨by decide +kernel, rfl⟩ nwl_RX3_5 nwo_i nwo_c (Nat.le_of_ble_eq_true rfl) (by decide) ?_
  refine gx_aload_n (i := 0) (n := 5) ⟨by decide +kernel, rfl⟩ rfl ?_
  refine gx_sipush (i := 1000) (v := 1000) (n := 8) ⟨by decide +kernel, rfl⟩ (by decide) ?_
  refine kx_newa (atype := .int) (N := 1000) (n := 10) 28 (kcL_len 28 (by decide)) (kcL_s 28 rfl) ⟨by decide +kernel, rfl⟩ rfl rfl nwa_int (by decide) rfl (by decide) (kcR_hi 26 28 (by decide +kernel)) (kcI_hi 0 28 (by decide +kernel)) rfl rfl ?_
  refine gx_putR (n := 13) ⟨by decide +kernel, rfl⟩ kfX3_11 (kcL_at 29 27 rfl) (Or.inr ⟨by decide +kernel, rfl, fun C T N h => by cases h; rfl⟩) rfl (Or.inl (by rw [kcL_len 29 (by decide)]; decide)) ?_
  rw [kcR_s 26 (k := 27) (j := 0) (q := 28) rfl]
  refine gx_aload_n (i := 0) (n := 14) ⟨by decide +kernel, rfl⟩ rfl ?_
  refine gx_bipush (i := 21) (v := 21) (n := 16) ⟨by decide +kernel, rfl⟩ (by decide) ?_
  refine kx_newa (atype := .int) (N := 21) (n := 18) 29 (kcL_len 29 (by decide)) (kcL_s 29 rfl) ⟨by decide +kernel, rfl⟩ rfl rfl nwa_int (by decide) rfl (by decide) (kcR_hi 27 29 (by decide +kernel)) (kcI_hi 0 29 (by decide +kernel)) rfl rfl ?_
  refine gx_putR (n := 21) ⟨by decide +kernel, rfl⟩ kfX3_15 (kcL_at 30 27 rfl) (Or.inr ⟨by decide +kernel, rfl, fun C T N h => by cases h; rfl⟩) rfl (Or.inl (by rw [kcL_len 30 (by decide)]; decide)) ?_
  rw [kcR_s 27 (k := 27) (j := 2) (q := 29) rfl]
  refine gx_aload_n (i := 0) (n := 22) ⟨by decide +kernel, rfl⟩ rfl ?_
  refine gx_bipush (i := 21) (v := 21) (n := 24) ⟨by decide +kernel, rfl⟩ (by decide) ?_
  refine kx_newa (atype := .int) (N := 21) (n := 26) 30 (kcL_len 30 (by decide)) (kcL_s 30 rfl) ⟨by decide +kernel, rfl⟩ rfl rfl nwa_int (by decide) rfl (by decide) (kcR_hi 28 30 (by decide +kernel)) (kcI_hi 0 30 (by decide +kernel)) rfl rfl ?_
  refine gx_putR (n := 29) ⟨by decide +kernel, rfl⟩ kfX3_18 (kcL_at 31 27 rfl) (Or.inr ⟨by decide +kernel, rfl, fun C T N h => by cases h; rfl⟩) rfl (Or.inl (by rw [kcL_len 31 (by decide)]; decide)) ?_
  rw [kcR_s 28 (k := 27) (j := 3) (q := 30) rfl]
  refine gx_aload_n (i := 0) (n := 30) ⟨by decide +kernel, rfl⟩ rfl ?_
  refine gx_iconst (i := 3) (v := 3) (n := 31) ⟨by decide +kernel, rfl⟩ (by decide) ?_
  refine gx_putI (n := 34) ⟨by decide +kernel, rfl⟩ kfX3_21 (kcL_at 31 27 rfl) (by decide +kernel) rfl rfl rfl ?_
  rw [kcI_s 0 (k := 27) (j := 6) (x := 3) rfl]
  refine gx_aload_n (i := 0) (n := 35) ⟨by decide +kernel, rfl⟩ rfl ?_
  refine gx_bipush (i := 100) (v := 100) (n := 37) ⟨by decide +kernel, rfl⟩ (by decide) ?_
  refine gx_putI (n := 40) ⟨by decide +kernel, rfl⟩ kfX3_25 (kcL_at 31 27 rfl) (by decide +kernel) rfl rfl rfl ?_
  rw [kcI_s 1 (k := 27) (j := 7) (x := 100) rfl]
  refine gx_aload_n (i := 0) (n := 41) ⟨by decide +kernel, rfl⟩ rfl ?_
  refine gx_bipush (i := 32) (v := 32) (n := 43) ⟨by decide +kernel, rfl⟩ (by decide) ?_
  refine kx_newa (atype := .int) (N := 32) (n := 45) 31 (kcL_len 31 (by decide)) (kcL_s 31 rfl) ⟨by decide +kernel, rfl⟩ rfl rfl nwa_int (by decide) rfl (by decide) (kcR_hi 29 31 (by decide +kernel)) (kcI_hi 2 31 (by decide +kernel)) rfl rfl ?_
  refine gx_putR (n := 48) ⟨by decide +kernel, rfl⟩ kfX3_28 (kcL_at 32 27 rfl) (Or.inr ⟨by decide +kernel, rfl, fun C T N h => by cases h; rfl⟩) rfl (Or.inl (by rw [kcL_len 32 (by decide)]; decide)) ?_
  rw [kcR_s 29 (k := 27) (j := 8) (q := 31) rfl]
  exact gx_return (n := 49) ⟨by decide +kernel, rfl⟩ rfl ⟨rfl, rfl, rfl, rfl, rfl⟩
set_option maxRecDepth 100000 in
set_option maxHeartbeats 4000000 in
theorem co_X3_init_34 : mz_Ok mX3_init 1 4 1074 [.ref 34] (kcL 35) (kcR 32) (kcI 2) kcJ (kcQ 39 36 4) := by
  refine mz_ok (by decide +kernel) (Nat.le_of_ble_eq_true rfl) (L0 := [some (.ref 34)]) rfl (mz_of_gz ?_)
  refine gx_aload_n (i := 0) (n := 1) ⟨by decide +kernel, rfl⟩ rfl ?_
  refine gx_obj (n := 4) ⟨by decide +kernel, rfl⟩ nwl_RX3_5 nwo_i nwo_c (Nat.le_of_ble_eq_true rfl) (by decide) ?_
  refine gx_aload_n (i := 0) (n := 5) ⟨by decide +kernel, rfl⟩ rfl ?_
  refine gx_sipush (i := 1000) (v := 1000) (n := 8) ⟨by decide +kernel, rfl⟩ (by decide) ?_
  refine kx_newa (atype := .int) (N := 1000) (n := 10) 35 (kcL_len 35 (by decide)) (kcL_s 35 rfl) ⟨by decide +kernel, rfl⟩ rfl rfl nwa_int (by decide) rfl (by decide) (kcR_hi 32 35 (by decide +kernel)) (kcI_hi 2 35 (by decide +kernel)) rfl rfl ?_
  refine gx_putR (n := 13) ⟨by decide +kernel, rfl⟩ kfX3_11 (kcL_at 36 34 rfl) (Or.inr ⟨by decide +kernel, rfl, fun C T N h => by cases h; rfl⟩) rfl (Or.inl (by rw [kcL_len 36 (by decide)]; decide)) ?_
  rw [kcR_s 32 (k := 34) (j := 0) (q := 35) rfl]
  refine gx_aload_n (i := 0) (n := 14) ⟨by decide +kernel, rfl⟩ rfl ?_
  refine gx_bipush (i := 21) (v := 21) (n := 16) ⟨by decide +kernel, rfl⟩ (by decide) ?_
  refine kx_newa (atype := .int) (N := 21) (n := 18) 36 (kcL_len 36 (by decide)) (kcL_s 36 rfl) ⟨by decide +kernel, rfl⟩ rfl rfl nwa_int (by decide) rfl (by decide) (kcR_hi 33 36 (by decide +kernel)) (kcI_hi 2 36 (by decide +kernel)) rfl rfl ?_
  refine gx_putR (n := 21) ⟨by decide +kernel, rfl⟩ kfX3_15 (kcL_at 37 34 rfl) (Or.inr ⟨by decide +kernel, rfl, fun C T N h => by cases h; rfl⟩) rfl (Or.inl (by rw [kcL_len 37 (by decide)]; decide)) ?_
  rw [kcR_s 33 (k := 34) (j := 2) (q := 36) rfl]
  refine gx_aload_n (i := 0) (n := 22) ⟨by decide +kernel, rfl⟩ rfl ?_
  refine gx_bipush (i := 21) (v := 21) (n := 24) ⟨by decide +kernel, rfl⟩ (by decide) ?_
  refine kx_newa (atype := .int) (N := 21) (n := 26) 37 (kcL_len 37 (by decide)) (kcL_s 37 rfl) ⟨by decide +kernel, rfl⟩ rfl rfl nwa_int (by decide) rfl (by decide) (kcR_hi 34 37 (by decide +kernel)) (kcI_hi 2 37 (by decide +kernel)) rfl rfl ?_
  refine gx_putR (n := 29) ⟨by decide +kernel, rfl⟩ kfX3_18 (kcL_at 38 34 rfl) (Or.inr ⟨by decide +kernel, rfl, fun C T N h => by cases h; rfl⟩) rfl (Or.inl (by rw [kcL_len 38 (by decide)]; decide)) ?_
  rw [kcR_s 34 (k := 34) (j := 3) (q := 37) rfl]
  refine gx_aload_n (i := 0) (n := 30) ⟨by decide +kernel, rfl⟩ rfl ?_
  refine gx_iconst (i := 3) (v := 3) (n := 31) ⟨by decide +kernel, rfl⟩ (by decide) ?_
  refine gx_putI (n := 34) ⟨by decide +kernel, rfl⟩ kfX3_21 (kcL_at 38 34 rfl) (by decide +kernel) rfl rfl rfl ?_
  rw [kcI_s 2 (k := 34) (j := 6) (x := 3) rfl]
  refine gx_aload_n (i := 0) (n := 35) ⟨by decide +kernel, rfl⟩ rfl ?_
  refine gx_bipush (i := 100) (v := 100) (n := 37) ⟨by decide +kernel, rfl⟩ (by decide) ?_
  refine gx_putI (n := 40) ⟨by decide +kernel, rfl⟩ kfX3_25 (kcL_at 38 34 rfl) (by decide +kernel) rfl rfl rfl ?_
  rw [kcI_s 3 (k := 34) (j := 7) (x := 100) rfl]
  refine gx_aload_n (i := 0) (n := 41) ⟨by decide +kernel, rfl⟩ rfl ?_
  refine gx_bipush (i := 32) (v := 32) (n := 43) ⟨by decide +kernel, rfl⟩ (by decide) ?_
  refine kx_newa (atype := .int) (N := 32) (n := 45) 38 (kcL_len 38 (by decide)) (kcL_s 38 rfl) ⟨by decide +kernel, rfl⟩ rfl rfl nwa_int (by decide) rfl (by decide) (kcR_hi 35 38 (by decide +kernel)) (kcI_hi 4 38 (by decide +kernel)) rfl rfl ?_
  refine gx_putR (n := 48) ⟨by decide +kernel, rfl⟩ kfX3_28 (kcL_at 39 34 rfl) (Or.inr ⟨by decide +kernel, rfl, fun C T N h => by cases h; rfl⟩) rfl (Or.inl (by rw [kcL_len 39 (by decide)]; decide)) ?_
  rw [kcR_s 35 (k := 34) (j := 8) (q := 38) rfl]
  exact gx_return (n := 49) ⟨by decide +kernel, rfl⟩ rfl ⟨rfl, rfl, rfl, rfl, rfl⟩
set_option maxRecDepth 100000 in
set_option maxHeartbeats 4000000 in
theorem co_X6_init_32 : mz_Ok mX6_init 2 6 2083 [.ref 32] (kcL 33) (kcR 31) (kcI 2) kcJ (kcQ 39 38 4) := by
  refine mz_ok (by decide +kernel) (Nat.le_of_ble_eq_true rfl) (L0 := [some (.ref 32)]) rfl (mz_of_gz ?_)
  refine gx_aload_n (i := 0) (n := 1) ⟨by decide +kernel, rfl⟩ rfl ?_
  refine gx_obj (n := 4) ⟨by decide +kernel, rfl⟩ nwl_RX6_3 nwo_i nwo_c (Nat.le_of_ble_eq_true rfl) (by decide) ?_
  refine gx_aload_n (i := 0) (n := 5) ⟨by decide +kernel, rfl⟩ rfl ?_
  refine gx_sipush (i := 1000) (v := 1000) (n := 8) ⟨by decide +kernel, rfl⟩ (by decide) ?_
  refine kx_newa (atype := .char) (N := 1000) (n := 10) 33 (kcL_len 33 (by decide)) (kcL_s 33 rfl) ⟨by decide +kernel, rfl⟩ rfl rfl nwa_char (by decide) rfl (by decide) (kcR_hi 31 33 (by decide +kernel)) (kcI_hi 2 33 (by decide +kernel)) rfl rfl ?_
  refine gx_putR (n := 13) ⟨by decide +kernel, rfl⟩ kfX6_9 (kcL_at 34 32 rfl) (Or.inr ⟨by decide +kernel, rfl, fun C T N h => by cases h; rfl⟩) rfl (Or.inl (by rw [kcL_len 34 (by decide)]; decide)) ?_
  rw [kcR_s 31 (k := 32) (j := 0) (q := 33) rfl]
  refine gx_aload_n (i := 0) (n := 14) ⟨by decide +kernel, rfl⟩ rfl ?_
  refine kx_new (ci := 2) (N := 9) (n := 17) 34 (kcL_len 34 (by decide)) (kcL_s 34 rfl) ⟨by decide +kernel, rfl⟩ ck3 nwc_RX6_15 nwi_RX3 nwi_RX3z (by decide) (kcR_hi 32 34 (by decide +kernel)) (kcI_hi 2 34 (by decide +kernel)) rfl rfl ?_
  refine gx_dup_r (n := 18) ⟨by decide +kernel, rfl⟩ ?_
  refine gx_callI (mc := 0) (ms := 0) (mc1 := 4) (ms1 := 1074) (d' := 1) (k := 34) (vs := []) (n := 21) ⟨by decide +kernel, rfl⟩ kmX3_init klX6_17 kiX3_init rfl rfl co_X3_init_34 rfl rfl (by decide) (by decide) (by rw [kcL_len 35 (by decide)]; decide) (by rw [kcL_len 35 (by decide)]; decide) ?_
  rintro r Λ' R' I' J' ⟨rfl, rfl, rfl, rfl, rfl⟩
  refine gx_putR (n := 24) ⟨by decide +kernel, rfl⟩ kfX6_18 (kcL_at 39 32 rfl) (Or.inr ⟨by decide +kernel, rfl, fun C T N h => by cases h; rfl⟩) rfl (Or.inl (by rw [kcL_len 39 (by decide)]; decide)) ?_
  rw [kcR_s 36 (k := 32) (j := 2) (q := 34) rfl]
  refine gx_aload_n (i := 0) (n := 25) ⟨by decide +kernel, rfl⟩ rfl ?_
  refine gx_ldcS (s := 0) (n := 27) ⟨by decide +kernel, rfl⟩ rfl rfl ?_
  refine gx_putR (n := 30) ⟨by decide +kernel, rfl⟩ kfX6_24 (kcL_at 39 32 rfl) (Or.inl (by decide +kernel)) rfl (Or.inr (by decide)) ?_
  rw [kcR_s 37 (k := 32) (j := 10) (q := 1000000) rfl]
  exact gx_return (n := 31) ⟨by decide +kernel, rfl⟩ rfl ⟨rfl, rfl, rfl, rfl, rfl⟩
set_option maxRecDepth 100000 in
set_option maxHeartbeats 4000000 in
theorem co_X2_init_39 : mz_Ok mX2_init 1 5 795 [.ref 39, .ref 1, .ref 6, .ref 12, .ref 27] (kcL 40) (kcR 39) (kcI 4) kcJ (kcQ 45 48 5) := by
  refine mz_ok (by decide +kernel) (Nat.le_of_ble_eq_true rfl) (L0 := [some (.ref 39), some (.ref 1), some (.ref 6), some (.ref 12), some (.ref 27)]) rfl (mz_of_gz ?_)
  refine gx_aload_n (i := 0) (n := 1) ⟨by decide +kernel, rfl⟩ rfl ?_
  refine gx_obj (n := 4) ⟨by decide +kernel, rfl⟩ nwl_RX2_3 nwo_i nwo_c (Nat.le_of_ble_eq_true rfl) (by decide) ?_
  refine gx_aload_n (i := 0) (n := 5) ⟨by decide +kernel, rfl⟩ rfl ?_
  refine gx_sipush (i := 697) (v := 697) (n := 8) ⟨by decide +kernel, rfl⟩ (by decide) ?_
  refine kx_newa (atype := .int) (N := 697) (n := 10) 40 (kcL_len 40 (by decide)) (kcL_s 40 rfl) ⟨by decide +kernel, rfl⟩ rfl rfl nwa_int (by decide) rfl (by decide) (kcR_hi 39 40 (by decide +kernel)) (kcI_hi 4 40 (by decide +kernel)) rfl rfl ?_
  refine gx_putR (n := 13) ⟨by decide +kernel, rfl⟩ kfX2_9 (kcL_at 41 39 rfl) (Or.inr ⟨by decide +kernel, rfl, fun C T N h => by cases h; rfl⟩) rfl (Or.inl (by rw [kcL_len 41 (by decide)]; decide)) ?_
  rw [kcR_s 39 (k := 39) (j := 4) (q := 40) rfl]
  refine gx_aload_n (i := 0) (n := 14) ⟨by decide +kernel, rfl⟩ rfl ?_
  refine gx_bipush (i := 40) (v := 40) (n := 16) ⟨by decide +kernel, rfl⟩ (by decide) ?_
  refine kx_newa (atype := .int) (N := 40) (n := 18) 41 (kcL_len 41 (by decide)) (kcL_s 41 rfl) ⟨by decide +kernel, rfl⟩ rfl rfl nwa_int (by decide) rfl (by decide) (kcR_hi 40 41 (by decide +kernel)) (kcI_hi 4 41 (by decide +kernel)) rfl rfl ?_
  refine gx_putR (n := 21) ⟨by decide +kernel, rfl⟩ kfX2_15 (kcL_at 42 39 rfl) (Or.inr ⟨by decide +kernel, rfl, fun C T N h => by cases h; rfl⟩) rfl (Or.inl (by rw [kcL_len 42 (by decide)]; decide)) ?_
  rw [kcR_s 40 (k := 39) (j := 5) (q := 41) rfl]
  refine gx_aload_n (i := 0) (n := 22) ⟨by decide +kernel, rfl⟩ rfl ?_
  refine gx_bipush (i := 40) (v := 40) (n := 24) ⟨by decide +kernel, rfl⟩ (by decide) ?_
  refine kx_newa (atype := .long) (N := 40) (n := 26) 42 (kcL_len 42 (by decide)) (kcL_s 42 rfl) ⟨by decide +kernel, rfl⟩ rfl rfl nwa_long (by decide) rfl (by decide) (kcR_hi 41 42 (by decide +kernel)) (kcI_hi 4 42 (by decide +kernel)) rfl rfl ?_
  refine gx_putR (n := 29) ⟨by decide +kernel, rfl⟩ kfX2_18 (kcL_at 43 39 rfl) (Or.inr ⟨by decide +kernel, rfl, fun C T N h => by cases h; rfl⟩) rfl (Or.inl (by rw [kcL_len 43 (by decide)]; decide)) ?_
  rw [kcR_s 41 (k := 39) (j := 6) (q := 42) rfl]
  refine gx_aload_n (i := 0) (n := 30) ⟨by decide +kernel, rfl⟩ rfl ?_
  refine gx_bipush (i := 8) (v := 8) (n := 32) ⟨by decide +kernel, rfl⟩ (by decide) ?_
  refine kx_newa (atype := .int) (N := 8) (n := 34) 43 (kcL_len 43 (by decide)) (kcL_s 43 rfl) ⟨by decide +kernel, rfl⟩ rfl rfl nwa_int (by decide) rfl (by decide) (kcR_hi 42 43 (by decide +kernel)) (kcI_hi 4 43 (by decide +kernel)) rfl rfl ?_
  refine gx_putR (n := 37) ⟨by decide +kernel, rfl⟩ kfX2_22 (kcL_at 44 39 rfl) (Or.inr ⟨by decide +kernel, rfl, fun C T N h => by cases h; rfl⟩) rfl (Or.inl (by rw [kcL_len 44 (by decide)]; decide)) ?_
  rw [kcR_s 42 (k := 39) (j := 7) (q := 43) rfl]
  refine gx_aload_n (i := 0) (n := 38) ⟨by decide +kernel, rfl⟩ rfl ?_
  refine gx_bipush (i := 10) (v := 10) (n := 40) ⟨by decide +kernel, rfl⟩ (by decide) ?_
  refine kx_newa (atype := .int) (N := 10) (n := 42) 44 (kcL_len 44 (by decide)) (kcL_s 44 rfl) ⟨by decide +kernel, rfl⟩ rfl rfl nwa_int (by decide) rfl (by decide) (kcR_hi 43 44 (by decide +kernel)) (kcI_hi 4 44 (by decide +kernel)) rfl rfl ?_
  refine gx_putR (n := 45) ⟨by decide +kernel, rfl⟩ kfX2_25 (kcL_at 45 39 rfl) (Or.inr ⟨by decide +kernel, rfl, fun C T N h => by cases h; rfl⟩) rfl (Or.inl (by rw [kcL_len 45 (by decide)]; decide)) ?_
  rw [kcR_s 43 (k := 39) (j := 8) (q := 44) rfl]
  refine gx_aload_n (i := 0) (n := 46) ⟨by decide +kernel, rfl⟩ rfl ?_
  refine gx_bipush (i := (-2)) (v := (-2)) (n := 48) ⟨by decide +kernel, rfl⟩ (by decide) ?_
  refine gx_putI (n := 51) ⟨by decide +kernel, rfl⟩ kfX2_28 (kcL_at 45 39 rfl) (by decide +kernel) rfl rfl rfl ?_
  rw [kcI_s 4 (k := 39) (j := 9) (x := (-2)) rfl]
  refine gx_aload_n (i := 0) (n := 52) ⟨by decide +kernel, rfl⟩ rfl ?_
  refine gx_aload_n (i := 1) (n := 53) ⟨by decide +kernel, rfl⟩ rfl ?_
  refine gx_putR (n := 56) ⟨by decide +kernel, rfl⟩ kfX2_32 (kcL_at 45 39 rfl) (Or.inr ⟨by decide +kernel, rfl, fun C T N h => by cases h; rfl⟩) rfl (Or.inl (by rw [kcL_len 45 (by decide)]; decide)) ?_
  rw [kcR_s 44 (k := 39) (j := 0) (q := 1) rfl]
  refine gx_aload_n (i := 0) (n := 57) ⟨by decide +kernel, rfl⟩ rfl ?_
  refine gx_aload_n (i := 2) (n := 58) ⟨by decide +kernel, rfl⟩ rfl ?_
  refine gx_putR (n := 61) ⟨by decide +kernel, rfl⟩ kfX2_36 (kcL_at 45 39 rfl) (Or.inr ⟨by decide +kernel, rfl, fun C T N h => by cases h; rfl⟩) rfl (Or.inl (by rw [kcL_len 45 (by decide)]; decide)) ?_
  rw [kcR_s 45 (k := 39) (j := 1) (q := 6) rfl]
  refine gx_aload_n (i := 0) (n := 62) ⟨by decide +kernel, rfl⟩ rfl ?_
  refine gx_aload_n (i := 3) (n := 63) ⟨by decide +kernel, rfl⟩ rfl ?_
  refine gx_putR (n := 66) ⟨by decide +kernel, rfl⟩ kfX2_40 (kcL_at 45 39 rfl) (Or.inr ⟨by decide +kernel, rfl, fun C T N h => by cases h; rfl⟩) rfl (Or.inl (by rw [kcL_len 45 (by decide)]; decide)) ?_
  rw [kcR_s 46 (k := 39) (j := 2) (q := 12) rfl]
  refine gx_aload_n (i := 0) (n := 67) ⟨by decide +kernel, rfl⟩ rfl ?_
  refine gx_aload (i := 4) (n := 69) ⟨by decide +kernel, rfl⟩ rfl ?_
  refine gx_putR (n := 72) ⟨by decide +kernel, rfl⟩ kfX2_44 (kcL_at 45 39 rfl) (Or.inr ⟨by decide +kernel, rfl, fun C T N h => by cases h; rfl⟩) rfl (Or.inl (by rw [kcL_len 45 (by decide)]; decide)) ?_
  rw [kcR_s 47 (k := 39) (j := 3) (q := 27) rfl]
  exact gx_return (n := 73) ⟨by decide +kernel, rfl⟩ rfl ⟨rfl, rfl, rfl, rfl, rfl⟩
set_option maxRecDepth 100000 in
set_option maxHeartbeats 4000000 in
theorem co_X8_init_45 : mz_Ok mX8_init 1 4 1144 [.ref 45, .ref 6, .ref 12, .ref 27, .ref 39] (kcL 46) (kcR 49) (kcI 5) kcJ (kcQ 50 57 5) := by
  refine mz_ok (by decide +kernel) (Nat.le_of_ble_eq_true rfl) (L0 := [some (.ref 45), some (.ref 6), some (.ref 12), some (.ref 27), some (.ref 39)]) rfl (mz_of_gz ?_)
  refine gx_aload_n (i := 0) (n := 1) ⟨by decide +kernel, rfl⟩ rfl ?_
  refine gx_obj (n := 4) ⟨by decide +kernel, rfl⟩ nwl_RX8_3 nwo_i nwo_c (Nat.le_of_ble_eq_true rfl) (by decide) ?_
  refine gx_aload_n (i := 0) (n := 5) ⟨by decide +kernel, rfl⟩ rfl ?_
  refine gx_bipush (i := 40) (v := 40) (n := 7) ⟨by decide +kernel, rfl⟩ (by decide) ?_
  refine kx_newa (atype := .int) (N := 40) (n := 9) 46 (kcL_len 46 (by decide)) (kcL_s 46 rfl) ⟨by decide +kernel, rfl⟩ rfl rfl nwa_int (by decide) rfl (by decide) (kcR_hi 49 46 (by decide +kernel)) (kcI_hi 5 46 (by decide +kernel)) rfl rfl ?_
  refine gx_putR (n := 12) ⟨by decide +kernel, rfl⟩ kfX8_9 (kcL_at 47 45 rfl) (Or.inr ⟨by decide +kernel, rfl, fun C T N h => by cases h; rfl⟩) rfl (Or.inl (by rw [kcL_len 47 (by decide)]; decide)) ?_
  rw [kcR_s 49 (k := 45) (j := 4) (q := 46) rfl]
  refine gx_aload_n (i := 0) (n := 13) ⟨by decide +kernel, rfl⟩ rfl ?_
  refine gx_bipush (i := 40) (v := 40) (n := 15) ⟨by decide +kernel, rfl⟩ (by decide) ?_
  refine kx_newa (atype := .int) (N := 40) (n := 17) 47 (kcL_len 47 (by decide)) (kcL_s 47 rfl) ⟨by decide +kernel, rfl⟩ rfl rfl nwa_int (by decide) rfl (by decide) (kcR_hi 50 47 (by decide +kernel)) (kcI_hi 5 47 (by decide +kernel)) rfl rfl ?_
  refine gx_putR (n := 20) ⟨by decide +kernel, rfl⟩ kfX8_15 (kcL_at 48 45 rfl) (Or.inr ⟨by decide +kernel, rfl, fun C T N h => by cases h; rfl⟩) rfl (Or.inl (by rw [kcL_len 48 (by decide)]; decide)) ?_
  rw [kcR_s 50 (k := 45) (j := 5) (q := 47) rfl]
  refine gx_aload_n (i := 0) (n := 21) ⟨by decide +kernel, rfl⟩ rfl ?_
  refine gx_sipush (i := 1024) (v := 1024) (n := 24) ⟨by decide +kernel, rfl⟩ (by decide) ?_
  refine kx_newa (atype := .boolean) (N := 1024) (n := 26) 48 (kcL_len 48 (by decide)) (kcL_s 48 rfl) ⟨by decide +kernel, rfl⟩ rfl rfl nwa_boolean (by decide) rfl (by decide) (kcR_hi 51 48 (by decide +kernel)) (kcI_hi 5 48 (by decide +kernel)) rfl rfl ?_
  refine gx_putR (n := 29) ⟨by decide +kernel, rfl⟩ kfX8_18 (kcL_at 49 45 rfl) (Or.inr ⟨by decide +kernel, rfl, fun C T N h => by cases h; rfl⟩) rfl (Or.inl (by rw [kcL_len 49 (by decide)]; decide)) ?_
  rw [kcR_s 51 (k := 45) (j := 8) (q := 48) rfl]
  refine gx_aload_n (i := 0) (n := 30) ⟨by decide +kernel, rfl⟩ rfl ?_
  refine gx_bipush (i := 40) (v := 40) (n := 32) ⟨by decide +kernel, rfl⟩ (by decide) ?_
  refine kx_newa (atype := .int) (N := 40) (n := 34) 49 (kcL_len 49 (by decide)) (kcL_s 49 rfl) ⟨by decide +kernel, rfl⟩ rfl rfl nwa_int (by decide) rfl (by decide) (kcR_hi 52 49 (by decide +kernel)) (kcI_hi 5 49 (by decide +kernel)) rfl rfl ?_
  refine gx_putR (n := 37) ⟨by decide +kernel, rfl⟩ kfX8_22 (kcL_at 50 45 rfl) (Or.inr ⟨by decide +kernel, rfl, fun C T N h => by cases h; rfl⟩) rfl (Or.inl (by rw [kcL_len 50 (by decide)]; decide)) ?_
  rw [kcR_s 52 (k := 45) (j := 14) (q := 49) rfl]
  refine gx_aload_n (i := 0) (n := 38) ⟨by decide +kernel, rfl⟩ rfl ?_
  refine gx_aload_n (i := 1) (n := 39) ⟨by decide +kernel, rfl⟩ rfl ?_
  refine gx_putR (n := 42) ⟨by decide +kernel, rfl⟩ kfX8_25 (kcL_at 50 45 rfl) (Or.inr ⟨by decide +kernel, rfl, fun C T N h => by cases h; rfl⟩) rfl (Or.inl (by rw [kcL_len 50 (by decide)]; decide)) ?_
  rw [kcR_s 53 (k := 45) (j := 0) (q := 6) rfl]
  refine gx_aload_n (i := 0) (n := 43) ⟨by decide +kernel, rfl⟩ rfl ?_
  refine gx_aload_n (i := 2) (n := 44) ⟨by decide +kernel, rfl⟩ rfl ?_
  refine gx_putR (n := 47) ⟨by decide +kernel, rfl⟩ kfX8_29 (kcL_at 50 45 rfl) (Or.inr ⟨by decide +kernel, rfl, fun C T N h => by cases h; rfl⟩) rfl (Or.inl (by rw [kcL_len 50 (by decide)]; decide)) ?_
  rw [kcR_s 54 (k := 45) (j := 1) (q := 12) rfl]
  refine gx_aload_n (i := 0) (n := 48) ⟨by decide +kernel, rfl⟩ rfl ?_
  refine gx_aload_n (i := 3) (n := 49) ⟨by decide +kernel, rfl⟩ rfl ?_
  refine gx_putR (n := 52) ⟨by decide +kernel, rfl⟩ kfX8_33 (kcL_at 50 45 rfl) (Or.inr ⟨by decide +kernel, rfl, fun C T N h => by cases h; rfl⟩) rfl (Or.inl (by rw [kcL_len 50 (by decide)]; decide)) ?_
  rw [kcR_s 55 (k := 45) (j := 2) (q := 27) rfl]
  refine gx_aload_n (i := 0) (n := 53) ⟨by decide +kernel, rfl⟩ rfl ?_
  refine gx_aload (i := 4) (n := 55) ⟨by decide +kernel, rfl⟩ rfl ?_
  refine gx_putR (n := 58) ⟨by decide +kernel, rfl⟩ kfX8_37 (kcL_at 50 45 rfl) (Or.inr ⟨by decide +kernel, rfl, fun C T N h => by cases h; rfl⟩) rfl (Or.inl (by rw [kcL_len 50 (by decide)]; decide)) ?_
  rw [kcR_s 56 (k := 45) (j := 3) (q := 39) rfl]
  exact gx_return (n := 59) ⟨by decide +kernel, rfl⟩ rfl ⟨rfl, rfl, rfl, rfl, rfl⟩
set_option maxRecDepth 100000 in
set_option maxHeartbeats 4000000 in
theorem co_X1_init_50 : mz_Ok mX1_init 1 5 117 [.ref 50, .ref 12] (kcL 51) (kcR 58) (kcI 5) kcJ (kcQ 56 64 6) := by
  refine mz_ok (by decide +kernel) (Nat.le_of_ble_eq_true rfl) (L0 := [some (.ref 50), some (.ref 12)]) rfl (mz_of_gz ?_)
  refine gx_aload_n (i := 0) (n := 1) ⟨by decide +kernel, rfl⟩ rfl ?_
  refine gx_obj (n := 4) ⟨by decide +kernel, rfl⟩ nwl_RX1_3 nwo_i nwo_c (Nat.le_of_ble_eq_true rfl) (by decide) ?_
  refine gx_aload_n (i := 0) (n := 5) ⟨by decide +kernel, rfl⟩ rfl ?_
  refine gx_bipush (i := 36) (v := 36) (n := 7) ⟨by decide +kernel, rfl⟩ (by decide) ?_
  refine kx_newa (atype := .int) (N := 36) (n := 9) 51 (kcL_len 51 (by decide)) (kcL_s 51 rfl) ⟨by decide +kernel, rfl⟩ rfl rfl nwa_int (by decide) rfl (by decide) (kcR_hi 58 51 (by decide +kernel)) (kcI_hi 5 51 (by decide +kernel)) rfl rfl ?_
  refine gx_putR (n := 12) ⟨by decide +kernel, rfl⟩ kfX1_9 (kcL_at 52 50 rfl) (Or.inr ⟨by decide +kernel, rfl, fun C T N h => by cases h; rfl⟩) rfl (Or.inl (by rw [kcL_len 52 (by decide)]; decide)) ?_
  rw [kcR_s 58 (k := 50) (j := 1) (q := 51) rfl]
  refine gx_aload_n (i := 0) (n := 13) ⟨by decide +kernel, rfl⟩ rfl ?_
  refine gx_bipush (i := 36) (v := 36) (n := 15) ⟨by decide +kernel, rfl⟩ (by decide) ?_
  refine kx_newa (atype := .long) (N := 36) (n := 17) 52 (kcL_len 52 (by decide)) (kcL_s 52 rfl) ⟨by decide +kernel, rfl⟩ rfl rfl nwa_long (by decide) rfl (by decide) (kcR_hi 59 52 (by decide +kernel)) (kcI_hi 5 52 (by decide +kernel)) rfl rfl ?_
  refine gx_putR (n := 20) ⟨by decide +kernel, rfl⟩ kfX1_15 (kcL_at 53 50 rfl) (Or.inr ⟨by decide +kernel, rfl, fun C T N h => by cases h; rfl⟩) rfl (Or.inl (by rw [kcL_len 53 (by decide)]; decide)) ?_
  rw [kcR_s 59 (k := 50) (j := 2) (q := 52) rfl]
  refine gx_aload_n (i := 0) (n := 21) ⟨by decide +kernel, rfl⟩ rfl ?_
  refine gx_bipush (i := 36) (v := 36) (n := 23) ⟨by decide +kernel, rfl⟩ (by decide) ?_
  refine kx_newa (atype := .int) (N := 36) (n := 25) 53 (kcL_len 53 (by decide)) (kcL_s 53 rfl) ⟨by decide +kernel, rfl⟩ rfl rfl nwa_int (by decide) rfl (by decide) (kcR_hi 60 53 (by decide +kernel)) (kcI_hi 5 53 (by decide +kernel)) rfl rfl ?_
  refine gx_putR (n := 28) ⟨by decide +kernel, rfl⟩ kfX1_19 (kcL_at 54 50 rfl) (Or.inr ⟨by decide +kernel, rfl, fun C T N h => by cases h; rfl⟩) rfl (Or.inl (by rw [kcL_len 54 (by decide)]; decide)) ?_
  rw [kcR_s 60 (k := 50) (j := 3) (q := 53) rfl]
  refine gx_aload_n (i := 0) (n := 29) ⟨by decide +kernel, rfl⟩ rfl ?_
  refine gx_iconst (i := 3) (v := 3) (n := 30) ⟨by decide +kernel, rfl⟩ (by decide) ?_
  refine kx_newa (atype := .int) (N := 3) (n := 32) 54 (kcL_len 54 (by decide)) (kcL_s 54 rfl) ⟨by decide +kernel, rfl⟩ rfl rfl nwa_int (by decide) rfl (by decide) (kcR_hi 61 54 (by decide +kernel)) (kcI_hi 5 54 (by decide +kernel)) rfl rfl ?_
  refine gx_putR (n := 35) ⟨by decide +kernel, rfl⟩ kfX1_22 (kcL_at 55 50 rfl) (Or.inr ⟨by decide +kernel, rfl, fun C T N h => by cases h; rfl⟩) rfl (Or.inl (by rw [kcL_len 55 (by decide)]; decide)) ?_
  rw [kcR_s 61 (k := 50) (j := 5) (q := 54) rfl]
  refine gx_aload_n (i := 0) (n := 36) ⟨by decide +kernel, rfl⟩ rfl ?_
  refine gx_iconst (i := (-1)) (v := (-1)) (n := 37) ⟨by decide +kernel, rfl⟩ (by decide) ?_
  refine gx_putI (n := 40) ⟨by decide +kernel, rfl⟩ kfX1_25 (kcL_at 55 50 rfl) (by decide +kernel) rfl rfl rfl ?_
  rw [kcI_s 5 (k := 50) (j := 6) (x := (-1)) rfl]
  refine gx_aload_n (i := 0) (n := 41) ⟨by decide +kernel, rfl⟩ rfl ?_
  refine gx_bipush (i := 6) (v := 6) (n := 43) ⟨by decide +kernel, rfl⟩ (by decide) ?_
  refine kx_newa (atype := .int) (N := 6) (n := 45) 55 (kcL_len 55 (by decide)) (kcL_s 55 rfl) ⟨by decide +kernel, rfl⟩ rfl rfl nwa_int (by decide) rfl (by decide) (kcR_hi 62 55 (by decide +kernel)) (kcI_hi 6 55 (by decide +kernel)) rfl rfl ?_
  refine gx_putR (n := 48) ⟨by decide +kernel, rfl⟩ kfX1_29 (kcL_at 56 50 rfl) (Or.inr ⟨by decide +kernel, rfl, fun C T N h => by cases h; rfl⟩) rfl (Or.inl (by rw [kcL_len 56 (by decide)]; decide)) ?_
  rw [kcR_s 62 (k := 50) (j := 8) (q := 55) rfl]
  refine gx_aload_n (i := 0) (n := 49) ⟨by decide +kernel, rfl⟩ rfl ?_
  refine gx_aload_n (i := 1) (n := 50) ⟨by decide +kernel, rfl⟩ rfl ?_
  refine gx_putR (n := 53) ⟨by decide +kernel, rfl⟩ kfX1_32 (kcL_at 56 50 rfl) (Or.inr ⟨by decide +kernel, rfl, fun C T N h => by cases h; rfl⟩) rfl (Or.inl (by rw [kcL_len 56 (by decide)]; decide)) ?_
  rw [kcR_s 63 (k := 50) (j := 0) (q := 12) rfl]
  exact gx_return (n := 54) ⟨by decide +kernel, rfl⟩ rfl ⟨rfl, rfl, rfl, rfl, rfl⟩
set_option maxRecDepth 100000 in
set_option maxHeartbeats 4000000 in
theorem co_X10_init_56 : mz_Ok mX10_init 1 9 2340 [.ref 56, .ref 1, .ref 6, .ref 39] (kcL 57) (kcR 65) (kcI 6) kcJ (kcQ 66 77 7) := by
  refine mz_ok (by decide +kernel) (Nat.le_of_ble_eq_true rfl) (L0 := [some (.ref 56), some (.ref 1), some (.ref 6), some (.ref 39)]) rfl (mz_of_gz ?_)
  refine gx_aload_n (i := 0) (n := 1) ⟨by decide +kernel, rfl⟩ rfl ?_
  refine gx_obj (n := 4) ⟨by decide +kernel, rfl⟩ nwl_RX10_5 nwo_i nwo_c (Nat.le_of_ble_eq_true rfl) (by decide) ?_
  refine gx_aload_n (i := 0) (n := 5) ⟨by decide +kernel, rfl⟩ rfl ?_
  refine gx_bipush (i := 10) (v := 10) (n := 7) ⟨by decide +kernel, rfl⟩ (by decide) ?_
  refine kx_newa (atype := .int) (N := 10) (n := 9) 57 (kcL_len 57 (by decide)) (kcL_s 57 rfl) ⟨by decide +kernel, rfl⟩ rfl rfl nwa_int (by decide) rfl (by decide) (kcR_hi 65 57 (by decide +kernel)) (kcI_hi 6 57 (by decide +kernel)) rfl rfl ?_
  refine gx_putR (n := 12) ⟨by decide +kernel, rfl⟩ kfX10_11 (kcL_at 58 56 rfl) (Or.inr ⟨by decide +kernel, rfl, fun C T N h => by cases h; rfl⟩) rfl (Or.inl (by rw [kcL_len 58 (by decide)]; decide)) ?_
  rw [kcR_s 65 (k := 56) (j := 3) (q := 57) rfl]
  refine gx_aload_n (i := 0) (n := 13) ⟨by decide +kernel, rfl⟩ rfl ?_
  refine gx_bipush (i := 10) (v := 10) (n := 15) ⟨by decide +kernel, rfl⟩ (by decide) ?_
  refine kx_newa (atype := .int) (N := 10) (n := 17) 58 (kcL_len 58 (by decide)) (kcL_s 58 rfl) ⟨by decide +kernel, rfl⟩ rfl rfl nwa_int (by decide) rfl (by decide) (kcR_hi 66 58 (by decide +kernel)) (kcI_hi 6 58 (by decide +kernel)) rfl rfl ?_
  refine gx_putR (n := 20) ⟨by decide +kernel, rfl⟩ kfX10_15 (kcL_at 59 56 rfl) (Or.inr ⟨by decide +kernel, rfl, fun C T N h => by cases h; rfl⟩) rfl (Or.inl (by rw [kcL_len 59 (by decide)]; decide)) ?_
  rw [kcR_s 66 (k := 56) (j := 4) (q := 58) rfl]
  refine gx_aload_n (i := 0) (n := 21) ⟨by decide +kernel, rfl⟩ rfl ?_
  refine gx_bipush (i := 16) (v := 16) (n := 23) ⟨by decide +kernel, rfl⟩ (by decide) ?_
  refine kx_newa (atype := .int) (N := 16) (n := 25) 59 (kcL_len 59 (by decide)) (kcL_s 59 rfl) ⟨by decide +kernel, rfl⟩ rfl rfl nwa_int (by decide) rfl (by decide) (kcR_hi 67 59 (by decide +kernel)) (kcI_hi 6 59 (by decide +kernel)) rfl rfl ?_
  refine gx_putR (n := 28) ⟨by decide +kernel, rfl⟩ kfX10_18 (kcL_at 60 56 rfl) (Or.inr ⟨by decide +kernel, rfl, fun C T N h => by cases h; rfl⟩) rfl (Or.inl (by rw [kcL_len 60 (by decide)]; decide)) ?_
  rw [kcR_s 67 (k := 56) (j := 5) (q := 59) rfl]
  refine gx_aload_n (i := 0) (n := 29) ⟨by decide +kernel, rfl⟩ rfl ?_
  refine gx_bipush (i := 72) (v := 72) (n := 31) ⟨by decide +kernel, rfl⟩ (by decide) ?_
  refine kx_newa (atype := .int) (N := 72) (n := 33) 60 (kcL_len 60 (by decide)) (kcL_s 60 rfl) ⟨by decide +kernel, rfl⟩ rfl rfl nwa_int (by decide) rfl (by decide) (kcR_hi 68 60 (by decide +kernel)) (kcI_hi 6 60 (by decide +kernel)) rfl rfl ?_
  refine gx_putR (n := 36) ⟨by decide +kernel, rfl⟩ kfX10_21 (kcL_at 61 56 rfl) (Or.inr ⟨by decide +kernel, rfl, fun C T N h => by cases h; rfl⟩) rfl (Or.inl (by rw [kcL_len 61 (by decide)]; decide)) ?_
  rw [kcR_s 68 (k := 56) (j := 6) (q := 60) rfl]
  refine gx_aload_n (i := 0) (n := 37) ⟨by decide +kernel, rfl⟩ rfl ?_
  refine gx_bipush (i := 8) (v := 8) (n := 39) ⟨by decide +kernel, rfl⟩ (by decide) ?_
  refine kx_newa (atype := .int) (N := 8) (n := 41) 61 (kcL_len 61 (by decide)) (kcL_s 61 rfl) ⟨by decide +kernel, rfl⟩ rfl rfl nwa_int (by decide) rfl (by decide) (kcR_hi 69 61 (by decide +kernel)) (kcI_hi 6 61 (by decide +kernel)) rfl rfl ?_
  refine gx_putR (n := 44) ⟨by decide +kernel, rfl⟩ kfX10_24 (kcL_at 62 56 rfl) (Or.inr ⟨by decide +kernel, rfl, fun C T N h => by cases h; rfl⟩) rfl (Or.inl (by rw [kcL_len 62 (by decide)]; decide)) ?_
  rw [kcR_s 69 (k := 56) (j := 7) (q := 61) rfl]
  refine gx_aload_n (i := 0) (n := 45) ⟨by decide +kernel, rfl⟩ rfl ?_
  refine gx_sipush (i := 1920) (v := 1920) (n := 48) ⟨by decide +kernel, rfl⟩ (by decide) ?_
  refine kx_newa (atype := .int) (N := 1920) (n := 50) 62 (kcL_len 62 (by decide)) (kcL_s 62 rfl) ⟨by decide +kernel, rfl⟩ rfl rfl nwa_int (by decide) rfl (by decide) (kcR_hi 70 62 (by decide +kernel)) (kcI_hi 6 62 (by decide +kernel)) rfl rfl ?_
  refine gx_putR (n := 53) ⟨by decide +kernel, rfl⟩ kfX10_27 (kcL_at 63 56 rfl) (Or.inr ⟨by decide +kernel, rfl, fun C T N h => by cases h; rfl⟩) rfl (Or.inl (by rw [kcL_len 63 (by decide)]; decide)) ?_
  rw [kcR_s 70 (k := 56) (j := 9) (q := 62) rfl]
  refine gx_aload_n (i := 0) (n := 54) ⟨by decide +kernel, rfl⟩ rfl ?_
  refine gx_bipush (i := 14) (v := 14) (n := 56) ⟨by decide +kernel, rfl⟩ (by decide) ?_
  refine kx_newa (atype := .int) (N := 14) (n := 58) 63 (kcL_len 63 (by decide)) (kcL_s 63 rfl) ⟨by decide +kernel, rfl⟩ rfl rfl nwa_int (by decide) rfl (by decide) (kcR_hi 71 63 (by decide +kernel)) (kcI_hi 6 63 (by decide +kernel)) rfl rfl ?_
  refine gx_putR (n := 61) ⟨by decide +kernel, rfl⟩ kfX10_30 (kcL_at 64 56 rfl) (Or.inr ⟨by decide +kernel, rfl, fun C T N h => by cases h; rfl⟩) rfl (Or.inl (by rw [kcL_len 64 (by decide)]; decide)) ?_
  rw [kcR_s 71 (k := 56) (j := 11) (q := 63) rfl]
  refine gx_aload_n (i := 0) (n := 62) ⟨by decide +kernel, rfl⟩ rfl ?_
  refine gx_bipush (i := 10) (v := 10) (n := 64) ⟨by decide +kernel, rfl⟩ (by decide) ?_
  refine kx_newa (atype := .int) (N := 10) (n := 66) 64 (kcL_len 64 (by decide)) (kcL_s 64 rfl) ⟨by decide +kernel, rfl⟩ rfl rfl nwa_int (by decide) rfl (by decide) (kcR_hi 72 64 (by decide +kernel)) (kcI_hi 6 64 (by decide +kernel)) rfl rfl ?_
  refine gx_putR (n := 69) ⟨by decide +kernel, rfl⟩ kfX10_33 (kcL_at 65 56 rfl) (Or.inr ⟨by decide +kernel, rfl, fun C T N h => by cases h; rfl⟩) rfl (Or.inl (by rw [kcL_len 65 (by decide)]; decide)) ?_
  rw [kcR_s 72 (k := 56) (j := 12) (q := 64) rfl]
  refine gx_aload_n (i := 0) (n := 70) ⟨by decide +kernel, rfl⟩ rfl ?_
  refine gx_iconst (i := (-1)) (v := (-1)) (n := 71) ⟨by decide +kernel, rfl⟩ (by decide) ?_
  refine gx_putI (n := 74) ⟨by decide +kernel, rfl⟩ kfX10_36 (kcL_at 65 56 rfl) (by decide +kernel) rfl rfl rfl ?_
  rw [kcI_s 6 (k := 56) (j := 14) (x := (-1)) rfl]
  refine gx_aload_n (i := 0) (n := 75) ⟨by decide +kernel, rfl⟩ rfl ?_
  refine gx_sipush (i := 280) (v := 280) (n := 78) ⟨by decide +kernel, rfl⟩ (by decide) ?_
  refine kx_newa (atype := .int) (N := 280) (n := 80) 65 (kcL_len 65 (by decide)) (kcL_s 65 rfl) ⟨by decide +kernel, rfl⟩ rfl rfl nwa_int (by decide) rfl (by decide) (kcR_hi 73 65 (by decide +kernel)) (kcI_hi 7 65 (by decide +kernel)) rfl rfl ?_
  refine gx_putR (n := 83) ⟨by decide +kernel, rfl⟩ kfX10_40 (kcL_at 66 56 rfl) (Or.inr ⟨by decide +kernel, rfl, fun C T N h => by cases h; rfl⟩) rfl (Or.inl (by rw [kcL_len 66 (by decide)]; decide)) ?_
  rw [kcR_s 73 (k := 56) (j := 15) (q := 65) rfl]
  refine gx_aload_n (i := 0) (n := 84) ⟨by decide +kernel, rfl⟩ rfl ?_
  refine gx_aload_n (i := 1) (n := 85) ⟨by decide +kernel, rfl⟩ rfl ?_
  refine gx_putR (n := 88) ⟨by decide +kernel, rfl⟩ kfX10_43 (kcL_at 66 56 rfl) (Or.inr ⟨by decide +kernel, rfl, fun C T N h => by cases h; rfl⟩) rfl (Or.inl (by rw [kcL_len 66 (by decide)]; decide)) ?_
  rw [kcR_s 74 (k := 56) (j := 0) (q := 1) rfl]
  refine gx_aload_n (i := 0) (n := 89) ⟨by decide +kernel, rfl⟩ rfl ?_
  refine gx_aload_n (i := 2) (n := 90) ⟨by decide +kernel, rfl⟩ rfl ?_
  refine gx_putR (n := 93) ⟨by decide +kernel, rfl⟩ kfX10_47 (kcL_at 66 56 rfl) (Or.inr ⟨by decide +kernel, rfl, fun C T N h => by cases h; rfl⟩) rfl (Or.inl (by rw [kcL_len 66 (by decide)]; decide)) ?_
  rw [kcR_s 75 (k := 56) (j := 1) (q := 6) rfl]
  refine gx_aload_n (i := 0) (n := 94) ⟨by decide +kernel, rfl⟩ rfl ?_
  refine gx_aload_n (i := 3) (n := 95) ⟨by decide +kernel, rfl⟩ rfl ?_
  refine gx_putR (n := 98) ⟨by decide +kernel, rfl⟩ kfX10_51 (kcL_at 66 56 rfl) (Or.inr ⟨by decide +kernel, rfl, fun C T N h => by cases h; rfl⟩) rfl (Or.inl (by rw [kcL_len 66 (by decide)]; decide)) ?_
  rw [kcR_s 76 (k := 56) (j := 2) (q := 39) rfl]
  exact gx_return (n := 99) ⟨by decide +kernel, rfl⟩ rfl ⟨rfl, rfl, rfl, rfl, rfl⟩
set_option maxRecDepth 100000 in
set_option maxHeartbeats 4000000 in
theorem co_X11_init_0 : mz_Ok mX11_init 3 65 8689 [.ref 0] (kcL 1) (kcR 0) (kcI 0) kcJ (kcQ 66 78 8) := by
  refine mz_ok (by decide +kernel) (Nat.le_of_ble_eq_true rfl) (L0 := [some (.ref 0)]) rfl (mz_of_gz ?_)
  refine gx_aload_n (i := 0) (n := 1) ⟨by decide +kernel, rfl⟩ rfl ?_
  refine gx_obj (n := 4) ⟨by decide +kernel, rfl⟩ nwl_RX11_1 nwo_i nwo_c (Nat.le_of_ble_eq_true rfl) (by decide) ?_
  refine gx_aload_n (i := 0) (n := 5) ⟨by decide +kernel, rfl⟩ rfl ?_
  refine kx_new (ci := 6) (N := 4) (n := 8) 1 (kcL_len 1 (by decide)) (kcL_s 1 rfl) ⟨by decide +kernel, rfl⟩ ck7 nwc_RX11_7 nwi_RX7 nwi_RX7z (by decide) (kcR_hi 0 1 (by decide +kernel)) (kcI_hi 0 1 (by decide +kernel)) rfl rfl ?_
  refine gx_dup_r (n := 9) ⟨by decide +kernel, rfl⟩ ?_
  refine gx_callI (mc := 60) (ms := 8453) (mc1 := 4) (ms1 := 232) (d' := 1) (k := 1) (vs := []) (n := 12) ⟨by decide +kernel, rfl⟩ kmX7_init klX11_9 kiX7_init rfl rfl co_X7_init_1 rfl rfl (by decide) (by decide) (by rw [kcL_len 2 (by decide)]; decide) (by rw [kcL_len 2 (by decide)]; decide) ?_
  rintro r Λ' R' I' J' ⟨rfl, rfl, rfl, rfl, rfl⟩
  refine gx_putR (n := 15) ⟨by decide +kernel, rfl⟩ kfX11_10 (kcL_at 6 0 rfl) (Or.inr ⟨by decide +kernel, rfl, fun C T N h => by cases h; rfl⟩) rfl (Or.inl (by rw [kcL_len 6 (by decide)]; decide)) ?_
  rw [kcR_s 4 (k := 0) (j := 0) (q := 1) rfl]
  refine gx_aload_n (i := 0) (n := 16) ⟨by decide +kernel, rfl⟩ rfl ?_
  refine kx_new (ci := 3) (N := 7) (n := 19) 6 (kcL_len 6 (by decide)) (kcL_s 6 rfl) ⟨by decide +kernel, rfl⟩ ck4 nwc_RX11_16 nwi_RX4 nwi_RX4z (by decide) (kcR_hi 5 6 (by decide +kernel)) (kcI_hi 0 6 (by decide +kernel)) rfl rfl ?_
  refine gx_dup_r (n := 20) ⟨by decide +kernel, rfl⟩ ?_
  refine gx_callI (mc := 54) (ms := 8046) (mc1 := 5) (ms1 := 400) (d' := 1) (k := 6) (vs := []) (n := 23) ⟨by decide +kernel, rfl⟩ kmX4_init klX11_18 kiX4_init rfl rfl co_X4_init_6 rfl rfl (by decide) (by decide) (by rw [kcL_len 7 (by decide)]; decide) (by rw [kcL_len 7 (by decide)]; decide) ?_
  rintro r Λ' R' I' J' ⟨rfl, rfl, rfl, rfl, rfl⟩
  refine gx_putR (n := 26) ⟨by decide +kernel, rfl⟩ kfX11_19 (kcL_at 12 0 rfl) (Or.inr ⟨by decide +kernel, rfl, fun C T N h => by cases h; rfl⟩) rfl (Or.inl (by rw [kcL_len 12 (by decide)]; decide)) ?_
  rw [kcR_s 10 (k := 0) (j := 1) (q := 6) rfl]
  refine gx_aload_n (i := 0) (n := 27) ⟨by decide +kernel, rfl⟩ rfl ?_
  refine kx_new (ci := 8) (N := 14) (n := 30) 12 (kcL_len 12 (by decide)) (kcL_s 12 rfl) ⟨by decide +kernel, rfl⟩ ck9 nwc_RX11_23 nwi_RX9 nwi_RX9z (by decide) (kcR_hi 11 12 (by decide +kernel)) (kcI_hi 0 12 (by decide +kernel)) rfl rfl ?_
  refine gx_dup_r (n := 31) ⟨by decide +kernel, rfl⟩ ?_
  refine gx_callI (mc := 42) (ms := 7652) (mc1 := 11) (ms1 := 380) (d' := 1) (k := 12) (vs := []) (n := 34) ⟨by decide +kernel, rfl⟩ kmX9_init klX11_25 kiX9_init rfl rfl co_X9_init_12 rfl rfl (by decide) (by decide) (by rw [kcL_len 13 (by decide)]; decide) (by rw [kcL_len 13 (by decide)]; decide) ?_
  rintro r Λ' R' I' J' ⟨rfl, rfl, rfl, rfl, rfl⟩
  refine gx_putR (n := 37) ⟨by decide +kernel, rfl⟩ kfX11_26 (kcL_at 24 0 rfl) (Or.inr ⟨by decide +kernel, rfl, fun C T N h => by cases h; rfl⟩) rfl (Or.inl (by rw [kcL_len 24 (by decide)]; decide)) ?_
  rw [kcR_s 22 (k := 0) (j := 2) (q := 12) rfl]
  refine gx_aload_n (i := 0) (n := 38) ⟨by decide +kernel, rfl⟩ rfl ?_
  refine kx_new (ci := 4) (N := 3) (n := 41) 24 (kcL_len 24 (by decide)) (kcL_s 24 rfl) ⟨by decide +kernel, rfl⟩ ck5 nwc_RX11_30 nwi_RX5 nwi_RX5z (by decide) (kcR_hi 23 24 (by decide +kernel)) (kcI_hi 0 24 (by decide +kernel)) rfl rfl ?_
  refine gx_dup_r (n := 42) ⟨by decide +kernel, rfl⟩ ?_
  refine gx_callI (mc := 39) (ms := 7625) (mc1 := 2) (ms1 := 24) (d' := 1) (k := 24) (vs := []) (n := 45) ⟨by decide +kernel, rfl⟩ kmX5_init klX11_32 kiX5_init rfl rfl co_X5_init_24 rfl rfl (by decide) (by decide) (by rw [kcL_len 25 (by decide)]; decide) (by rw [kcL_len 25 (by decide)]; decide) ?_
  rintro r Λ' R' I' J' ⟨rfl, rfl, rfl, rfl, rfl⟩
  refine gx_putR (n := 48) ⟨by decide +kernel, rfl⟩ kfX11_33 (kcL_at 27 0 rfl) (Or.inr ⟨by decide +kernel, rfl, fun C T N h => by cases h; rfl⟩) rfl (Or.inl (by rw [kcL_len 27 (by decide)]; decide)) ?_
  rw [kcR_s 25 (k := 0) (j := 3) (q := 24) rfl]
  refine gx_aload_n (i := 0) (n := 49) ⟨by decide +kernel, rfl⟩ rfl ?_
  refine kx_new (ci := 2) (N := 9) (n := 52) 27 (kcL_len 27 (by decide)) (kcL_s 27 rfl) ⟨by decide +kernel, rfl⟩ ck3 nwc_RX11_37 nwi_RX3 nwi_RX3z (by decide) (kcR_hi 26 27 (by decide +kernel)) (kcI_hi 0 27 (by decide +kernel)) rfl rfl ?_
  refine gx_dup_r (n := 53) ⟨by decide +kernel, rfl⟩ ?_
  refine gx_callI (mc := 34) (ms := 6542) (mc1 := 4) (ms1 := 1074) (d' := 1) (k := 27) (vs := []) (n := 56) ⟨by decide +kernel, rfl⟩ kmX3_init klX11_39 kiX3_init rfl rfl co_X3_init_27 rfl rfl (by decide) (by decide) (by rw [kcL_len 28 (by decide)]; decide) (by rw [kcL_len 28 (by decide)]; decide) ?_
  rintro r Λ' R' I' J' ⟨rfl, rfl, rfl, rfl, rfl⟩
  refine gx_putR (n := 59) ⟨by decide +kernel, rfl⟩ kfX11_40 (kcL_at 32 0 rfl) (Or.inr ⟨by decide +kernel, rfl, fun C T N h => by cases h; rfl⟩) rfl (Or.inl (by rw [kcL_len 32 (by decide)]; decide)) ?_
  rw [kcR_s 30 (k := 0) (j := 4) (q := 27) rfl]
  refine gx_aload_n (i := 0) (n := 60) ⟨by decide +kernel, rfl⟩ rfl ?_
  refine kx_new (ci := 5) (N := 11) (n := 63) 32 (kcL_len 32 (by decide)) (kcL_s 32 rfl) ⟨by decide +kernel, rfl⟩ ck6 nwc_RX11_44 nwi_RX6 nwi_RX6z (by decide) (kcR_hi 31 32 (by decide +kernel)) (kcI_hi 2 32 (by decide +kernel)) rfl rfl ?_
  refine gx_dup_r (n := 64) ⟨by decide +kernel, rfl⟩ ?_
  refine gx_callI (mc := 27) (ms := 4448) (mc1 := 6) (ms1 := 2083) (d' := 2) (k := 32) (vs := []) (n := 67) ⟨by decide +kernel, rfl⟩ kmX6_init klX11_46 kiX6_init rfl rfl co_X6_init_32 rfl rfl (by decide) (by decide) (by rw [kcL_len 33 (by decide)]; decide) (by rw [kcL_len 33 (by decide)]; decide) ?_
  rintro r Λ' R' I' J' ⟨rfl, rfl, rfl, rfl, rfl⟩
  refine gx_putR (n := 70) ⟨by decide +kernel, rfl⟩ kfX11_47 (kcL_at 39 0 rfl) (Or.inr ⟨by decide +kernel, rfl, fun C T N h => by cases h; rfl⟩) rfl (Or.inl (by rw [kcL_len 39 (by decide)]; decide)) ?_
  rw [kcR_s 38 (k := 0) (j := 5) (q := 32) rfl]
  refine gx_aload_n (i := 0) (n := 71) ⟨by decide +kernel, rfl⟩ rfl ?_
  refine kx_new (ci := 1) (N := 10) (n := 74) 39 (kcL_len 39 (by decide)) (kcL_s 39 rfl) ⟨by decide +kernel, rfl⟩ ck2 nwc_RX11_51 nwi_RX2 nwi_RX2z (by decide) (kcR_hi 39 39 (by decide +kernel)) (kcI_hi 4 39 (by decide +kernel)) rfl rfl ?_
  refine gx_dup_r (n := 75) ⟨by decide +kernel, rfl⟩ ?_
  refine gx_aload_n (i := 0) (n := 76) ⟨by decide +kernel, rfl⟩ rfl ?_
  refine gx_getR (n := 79) (q := 1) ⟨by decide +kernel, rfl⟩ kfX11_10 (kcL_at 40 0 rfl) rfl (by decide +kernel) ?_
  refine gx_aload_n (i := 0) (n := 80) ⟨by decide +kernel, rfl⟩ rfl ?_
  refine gx_getR (n := 83) (q := 6) ⟨by decide +kernel, rfl⟩ kfX11_19 (kcL_at 40 0 rfl) rfl (by decide +kernel) ?_
  refine gx_aload_n (i := 0) (n := 84) ⟨by decide +kernel, rfl⟩ rfl ?_
  refine gx_getR (n := 87) (q := 12) ⟨by decide +kernel, rfl⟩ kfX11_26 (kcL_at 40 0 rfl) rfl (by decide +kernel) ?_
  refine gx_aload_n (i := 0) (n := 88) ⟨by decide +kernel, rfl⟩ rfl ?_
  refine gx_getR (n := 91) (q := 27) ⟨by decide +kernel, rfl⟩ kfX11_40 (kcL_at 40 0 rfl) rfl (by decide +kernel) ?_
  refine gx_callI (mc := 21) (ms := 3643) (mc1 := 5) (ms1 := 795) (d' := 1) (k := 39) (vs := [.ref 1, .ref 6, .ref 12, .ref 27]) (n := 94) ⟨by decide +kernel, rfl⟩ kmX2_init klX11_53 kiX2_init rfl rfl co_X2_init_39 rfl rfl (by decide) (by decide) (by rw [kcL_len 40 (by decide)]; decide) (by rw [kcL_len 40 (by decide)]; decide) ?_
  rintro r Λ' R' I' J' ⟨rfl, rfl, rfl, rfl, rfl⟩
  refine gx_putR (n := 97) ⟨by decide +kernel, rfl⟩ kfX11_56 (kcL_at 45 0 rfl) (Or.inr ⟨by decide +kernel, rfl, fun C T N h => by cases h; rfl⟩) rfl (Or.inl (by rw [kcL_len 45 (by decide)]; decide)) ?_
  rw [kcR_s 48 (k := 0) (j := 6) (q := 39) rfl]
  refine gx_aload_n (i := 0) (n := 98) ⟨by decide +kernel, rfl⟩ rfl ?_
  refine kx_new (ci := 7) (N := 15) (n := 101) 45 (kcL_len 45 (by decide)) (kcL_s 45 rfl) ⟨by decide +kernel, rfl⟩ ck8 nwc_RX11_60 nwi_RX8 nwi_RX8z (by decide) (kcR_hi 49 45 (by decide +kernel)) (kcI_hi 5 45 (by decide +kernel)) rfl rfl ?_
  refine gx_dup_r (n := 102) ⟨by decide +kernel, rfl⟩ ?_
  refine gx_aload_n (i := 0) (n := 103) ⟨by decide +kernel, rfl⟩ rfl ?_
  refine gx_getR (n := 106) (q := 6) ⟨by decide +kernel, rfl⟩ kfX11_19 (kcL_at 46 0 rfl) rfl (by decide +kernel) ?_
  refine gx_aload_n (i := 0) (n := 107) ⟨by decide +kernel, rfl⟩ rfl ?_
  refine gx_getR (n := 110) (q := 12) ⟨by decide +kernel, rfl⟩ kfX11_26 (kcL_at 46 0 rfl) rfl (by decide +kernel) ?_
  refine gx_aload_n (i := 0) (n := 111) ⟨by decide +kernel, rfl⟩ rfl ?_
  refine gx_getR (n := 114) (q := 27) ⟨by decide +kernel, rfl⟩ kfX11_40 (kcL_at 46 0 rfl) rfl (by decide +kernel) ?_
  refine gx_aload_n (i := 0) (n := 115) ⟨by decide +kernel, rfl⟩ rfl ?_
  refine gx_getR (n := 118) (q := 39) ⟨by decide +kernel, rfl⟩ kfX11_56 (kcL_at 46 0 rfl) rfl (by decide +kernel) ?_
  refine gx_callI (mc := 16) (ms := 2484) (mc1 := 4) (ms1 := 1144) (d' := 1) (k := 45) (vs := [.ref 6, .ref 12, .ref 27, .ref 39]) (n := 121) ⟨by decide +kernel, rfl⟩ kmX8_init klX11_62 kiX8_init rfl rfl co_X8_init_45 rfl rfl (by decide) (by decide) (by rw [kcL_len 46 (by decide)]; decide) (by rw [kcL_len 46 (by decide)]; decide) ?_
  rintro r Λ' R' I' J' ⟨rfl, rfl, rfl, rfl, rfl⟩
  refine gx_putR (n := 124) ⟨by decide +kernel, rfl⟩ kfX11_65 (kcL_at 50 0 rfl) (Or.inr ⟨by decide +kernel, rfl, fun C T N h => by cases h; rfl⟩) rfl (Or.inl (by rw [kcL_len 50 (by decide)]; decide)) ?_
  rw [kcR_s 57 (k := 0) (j := 7) (q := 45) rfl]
  refine gx_aload_n (i := 0) (n := 125) ⟨by decide +kernel, rfl⟩ rfl ?_
  refine kx_new (ci := 0) (N := 10) (n := 128) 50 (kcL_len 50 (by decide)) (kcL_s 50 rfl) ⟨by decide +kernel, rfl⟩ ck1 nwc_RX11_69 nwi_RX1 nwi_RX1z (by decide) (kcR_hi 58 50 (by decide +kernel)) (kcI_hi 5 50 (by decide +kernel)) rfl rfl ?_
  refine gx_dup_r (n := 129) ⟨by decide +kernel, rfl⟩ ?_
  refine gx_aload_n (i := 0) (n := 130) ⟨by decide +kernel, rfl⟩ rfl ?_
  refine gx_getR (n := 133) (q := 12) ⟨by decide +kernel, rfl⟩ kfX11_26 (kcL_at 51 0 rfl) rfl (by decide +kernel) ?_
  refine gx_callI (mc := 10) (ms := 2357) (mc1 := 5) (ms1 := 117) (d' := 1) (k := 50) (vs := [.ref 12]) (n := 136) ⟨by decide +kernel, rfl⟩ kmX1_init klX11_71 kiX1_init rfl rfl co_X1_init_50 rfl rfl (by decide) (by decide) (by rw [kcL_len 51 (by decide)]; decide) (by rw [kcL_len 51 (by decide)]; decide) ?_
  rintro r Λ' R' I' J' ⟨rfl, rfl, rfl, rfl, rfl⟩
  refine gx_putR (n := 139) ⟨by decide +kernel, rfl⟩ kfX11_74 (kcL_at 56 0 rfl) (Or.inr ⟨by decide +kernel, rfl, fun C T N h => by cases h; rfl⟩) rfl (Or.inl (by rw [kcL_len 56 (by decide)]; decide)) ?_
  rw [kcR_s 64 (k := 0) (j := 8) (q := 50) rfl]
  refine gx_aload_n (i := 0) (n := 140) ⟨by decide +kernel, rfl⟩ rfl ?_
  refine kx_new (ci := 9) (N := 17) (n := 143) 56 (kcL_len 56 (by decide)) (kcL_s 56 rfl) ⟨by decide +kernel, rfl⟩ ck10 nwc_RX11_78 nwi_RX10 nwi_RX10z (by decide) (kcR_hi 65 56 (by decide +kernel)) (kcI_hi 6 56 (by decide +kernel)) rfl rfl ?_
  refine gx_dup_r (n := 144) ⟨by decide +kernel, rfl⟩ ?_
  refine gx_aload_n (i := 0) (n := 145) ⟨by decide +kernel, rfl⟩ rfl ?_
  refine gx_getR (n := 148) (q := 1) ⟨by decide +kernel, rfl⟩ kfX11_10 (kcL_at 57 0 rfl) rfl (by decide +kernel) ?_
  refine gx_aload_n (i := 0) (n := 149) ⟨by decide +kernel, rfl⟩ rfl ?_
  refine gx_getR (n := 152) (q := 6) ⟨by decide +kernel, rfl⟩ kfX11_19 (kcL_at 57 0 rfl) rfl (by decide +kernel) ?_
  refine gx_aload_n (i := 0) (n := 153) ⟨by decide +kernel, rfl⟩ rfl ?_
  refine gx_getR (n := 156) (q := 39) ⟨by decide +kernel, rfl⟩ kfX11_56 (kcL_at 57 0 rfl) rfl (by decide +kernel) ?_
  refine gx_callI (mc := 0) (ms := 0) (mc1 := 9) (ms1 := 2340) (d' := 1) (k := 56) (vs := [.ref 1, .ref 6, .ref 39]) (n := 159) ⟨by decide +kernel, rfl⟩ kmX10_init klX11_80 kiX10_init rfl rfl co_X10_init_56 rfl rfl (by decide) (by decide) (by rw [kcL_len 57 (by decide)]; decide) (by rw [kcL_len 57 (by decide)]; decide) ?_
  rintro r Λ' R' I' J' ⟨rfl, rfl, rfl, rfl, rfl⟩
  refine gx_putR (n := 162) ⟨by decide +kernel, rfl⟩ kfX11_83 (kcL_at 66 0 rfl) (Or.inr ⟨by decide +kernel, rfl, fun C T N h => by cases h; rfl⟩) rfl (Or.inl (by rw [kcL_len 66 (by decide)]; decide)) ?_
  rw [kcR_s 77 (k := 0) (j := 9) (q := 56) rfl]
  refine gx_aload_n (i := 0) (n := 163) ⟨by decide +kernel, rfl⟩ rfl ?_
  refine gx_iconst (i := 0) (v := 0) (n := 164) ⟨by decide +kernel, rfl⟩ (by decide) ?_
  refine gx_putI (n := 167) ⟨by decide +kernel, rfl⟩ kfX11_87 (kcL_at 66 0 rfl) (by decide +kernel) rfl rfl rfl ?_
  rw [kcI_s 7 (k := 0) (j := 10) (x := 0) rfl]
  exact gx_return (n := 168) ⟨by decide +kernel, rfl⟩ rfl ⟨rfl, rfl, rfl, rfl, rfl⟩
set_option maxRecDepth 100000 in
theorem co_X12_init_66_b : gz_wp gz_T mX12_init 1 0 0 (kcQ 132 143 90) 552 [some (.ref 66), some (.int 80)] [] (kcL 132) (kcR 143) (kcI 88) kcJ := by
  refine gx_aload_n (i := 0) (n := 553) ⟨by decide +kernel, rfl⟩ rfl ?_
  refine gx_iconst (i := 3) (v := 3) (n := 554) ⟨by decide +kernel, rfl⟩ (by decide) ?_
  refine gx_putI (n := 557) ⟨by decide +kernel, rfl⟩ kfX12_207 (kcL_at 132 66 rfl) (by decide +kernel) rfl rfl rfl ?_
  rw [kcI_s 88 (k := 66) (j := 32) (x := 3) rfl]
  refine gx_aload_n (i := 0) (n := 558) ⟨by decide +kernel, rfl⟩ rfl ?_
  refine gx_bipush (i := 100) (v := 100) (n := 560) ⟨by decide +kernel, rfl⟩ (by decide) ?_
  refine gx_putI (n := 563) ⟨by decide +kernel, rfl⟩ kfX12_211 (kcL_at 132 66 rfl) (by decide +kernel) rfl rfl rfl ?_
  rw [kcI_s 89 (k := 66) (j := 33) (x := 100) rfl]
  exact gx_return (n := 564) ⟨by decide +kernel, rfl⟩ rfl ⟨rfl, rfl, rfl, rfl, rfl⟩
set_option maxRecDepth 100000 in
theorem co_X12_init_66_l : ∀ (m i : Nat), i + m = 80 → gz_wp gz_T mX12_init 1 0 0 (kcQ 132 143 90) 533 [some (.ref 66), some (.int (nI i))] [] (kcL 132) (kcR 143) (kcI (8 + i)) kcJ := by
  intro m
  induction m with
  | zero =>
    intro i hi
    have e : i = 80 := by omega
    subst e
    refine gx_iload_n (i := 1) (n := 534) ⟨by decide +kernel, rfl⟩ rfl ?_
    refine gx_bipush (i := 80) (v := 80) (n := 536) ⟨by decide +kernel, rfl⟩ (by decide) ?_
    refine gx_icmp_ge (n := 539) (t := 552) (off := 16) ⟨by decide +kernel, rfl, by decide⟩ (fun _ => ?_) (fun c => absurd (show (80 : Int32) ≤ nI 80 from by decide) c)
    exact co_X12_init_66_b
  | succ m ih =>
    intro i hi
    have hlt : ¬ (80 : Int32) ≤ nI i := z_nle (a := 80) (by omega) (by omega) (by omega)
    refine gx_iload_n (i := 1) (n := 534) ⟨by decide +kernel, rfl⟩ rfl ?_
    refine gx_bipush (i := 80) (v := 80) (n := 536) ⟨by decide +kernel, rfl⟩ (by decide) ?_
    refine gx_icmp_ge (n := 539) (t := 552) (off := 16) ⟨by decide +kernel, rfl, by decide⟩ (fun c => absurd c hlt) (fun _ => ?_)
    refine gx_aload_n (i := 0) (n := 540) ⟨by decide +kernel, rfl⟩ rfl ?_
    refine gx_getR (n := 543) (q := 67) ⟨by decide +kernel, rfl⟩ kfX12_7 (kcL_at 132 66 rfl) rfl (by decide +kernel) ?_
    refine gx_iload_n (i := 1) (n := 544) ⟨by decide +kernel, rfl⟩ rfl ?_
    refine gx_iconst (i := (-1)) (v := (-1)) (n := 545) ⟨by decide +kernel, rfl⟩ (by decide) ?_
    refine gx_iastore (N := 80) (n := 546) ⟨by decide +kernel, rfl⟩ (kcL_at 132 67 rfl) (of_eq_true (z_in (n := i) (by omega) (by omega))) ?_
    rw [z_cl (n := i) (by omega), kcI_s (8 + i) (k := 67) (j := i) (x := (-1)) (kcI_age i (by omega))]
    refine gx_iinc (i := 1) (z := 1) (b := nI (i + 1)) (n := 549) ⟨by decide +kernel, rfl⟩ rfl (show nI i + Int32.ofInt 1 = nI (i + 1) from z_add i 1) (by decide) (fun o ho => by cases ho; exact Or.inr rfl) ?_
    refine gx_goto (t := 533) (off := (-16)) ⟨by decide +kernel, rfl, by decide⟩ ?_
    exact ih (i + 1) (by omega)
set_option maxRecDepth 100000 in
set_option maxHeartbeats 4000000 in
theorem co_X12_init_66 : mz_Ok mX12_init 1 65 18136 [.ref 66] (kcL 67) (kcR 78) (kcI 8) kcJ (kcQ 132 143 90) := by
  refine mz_ok (by decide +kernel) (Nat.le_of_ble_eq_true rfl) (L0 := [some (.ref 66), none]) rfl (mz_of_gz ?_)
  refine gx_aload_n (i := 0) (n := 1) ⟨by decide +kernel, rfl⟩ rfl ?_
  refine gx_obj (n := 4) ⟨by decide +kernel, rfl⟩ nwl_RX12_1 nwo_i nwo_c (Nat.le_of_ble_eq_true rfl) (by decide) ?_
  refine gx_aload_n (i := 0) (n := 5) ⟨by decide +kernel, rfl⟩ rfl ?_
  refine gx_bipush (i := 80) (v := 80) (n := 7) ⟨by decide +kernel, rfl⟩ (by decide) ?_
  refine kx_newa (atype := .int) (N := 80) (n := 9) 67 (kcL_len 67 (by decide)) (kcL_s 67 rfl) ⟨by decide +kernel, rfl⟩ rfl rfl nwa_int (by decide) rfl (by decide) (kcR_hi 78 67 (by decide +kernel)) (kcI_hi 8 67 (by decide +kernel)) rfl rfl ?_
  refine gx_putR (n := 12) ⟨by decide +kernel, rfl⟩ kfX12_7 (kcL_at 68 66 rfl) (Or.inr ⟨by decide +kernel, rfl, fun C T N h => by cases h; rfl⟩) rfl (Or.inl (by rw [kcL_len 68 (by decide)]; decide)) ?_
  rw [kcR_s 78 (k := 66) (j := 1) (q := 67) rfl]
  refine gx_aload_n (i := 0) (n := 13) ⟨by decide +kernel, rfl⟩ rfl ?_
  refine gx_bipush (i := 64) (v := 64) (n := 15) ⟨by decide +kernel, rfl⟩ (by decide) ?_
  refine kx_newa (atype := .int) (N := 64) (n := 17) 68 (kcL_len 68 (by decide)) (kcL_s 68 rfl) ⟨by decide +kernel, rfl⟩ rfl rfl nwa_int (by decide) rfl (by decide) (kcR_hi 79 68 (by decide +kernel)) (kcI_hi 8 68 (by decide +kernel)) rfl rfl ?_
  refine gx_putR (n := 20) ⟨by decide +kernel, rfl⟩ kfX12_13 (kcL_at 69 66 rfl) (Or.inr ⟨by decide +kernel, rfl, fun C T N h => by cases h; rfl⟩) rfl (Or.inl (by rw [kcL_len 69 (by decide)]; decide)) ?_
  rw [kcR_s 79 (k := 66) (j := 2) (q := 68) rfl]
  refine gx_aload_n (i := 0) (n := 21) ⟨by decide +kernel, rfl⟩ rfl ?_
  refine gx_bipush (i := 80) (v := 80) (n := 23) ⟨by decide +kernel, rfl⟩ (by decide) ?_
  refine kx_newa (atype := .int) (N := 80) (n := 25) 69 (kcL_len 69 (by decide)) (kcL_s 69 rfl) ⟨by decide +kernel, rfl⟩ rfl rfl nwa_int (by decide) rfl (by decide) (kcR_hi 80 69 (by decide +kernel)) (kcI_hi 8 69 (by decide +kernel)) rfl rfl ?_
  refine gx_putR (n := 28) ⟨by decide +kernel, rfl⟩ kfX12_16 (kcL_at 70 66 rfl) (Or.inr ⟨by decide +kernel, rfl, fun C T N h => by cases h; rfl⟩) rfl (Or.inl (by rw [kcL_len 70 (by decide)]; decide)) ?_
  rw [kcR_s 80 (k := 66) (j := 4) (q := 69) rfl]
  refine gx_aload_n (i := 0) (n := 29) ⟨by decide +kernel, rfl⟩ rfl ?_
  refine gx_bipush (i := 80) (v := 80) (n := 31) ⟨by decide +kernel, rfl⟩ (by decide) ?_
  refine kx_newa (atype := .int) (N := 80) (n := 33) 70 (kcL_len 70 (by decide)) (kcL_s 70 rfl) ⟨by decide +kernel, rfl⟩ rfl rfl nwa_int (by decide) rfl (by decide) (kcR_hi 81 70 (by decide +kernel)) (kcI_hi 8 70 (by decide +kernel)) rfl rfl ?_
  refine gx_putR (n := 36) ⟨by decide +kernel, rfl⟩ kfX12_19 (kcL_at 71 66 rfl) (Or.inr ⟨by decide +kernel, rfl, fun C T N h => by cases h; rfl⟩) rfl (Or.inl (by rw [kcL_len 71 (by decide)]; decide)) ?_
  rw [kcR_s 81 (k := 66) (j := 5) (q := 70) rfl]
  refine gx_aload_n (i := 0) (n := 37) ⟨by decide +kernel, rfl⟩ rfl ?_
  refine gx_bipush (i := 80) (v := 80) (n := 39) ⟨by decide +kernel, rfl⟩ (by decide) ?_
  refine kx_newa (atype := .int) (N := 80) (n := 41) 71 (kcL_len 71 (by decide)) (kcL_s 71 rfl) ⟨by decide +kernel, rfl⟩ rfl rfl nwa_int (by decide) rfl (by decide) (kcR_hi 82 71 (by decide +kernel)) (kcI_hi 8 71 (by decide +kernel)) rfl rfl ?_
  refine gx_putR (n := 44) ⟨by decide +kernel, rfl⟩ kfX12_22 (kcL_at 72 66 rfl) (Or.inr ⟨by decide +kernel, rfl, fun C T N h => by cases h; rfl⟩) rfl (Or.inl (by rw [kcL_len 72 (by decide)]; decide)) ?_
  rw [kcR_s 82 (k := 66) (j := 6) (q := 71) rfl]
  refine gx_aload_n (i := 0) (n := 45) ⟨by decide +kernel, rfl⟩ rfl ?_
  refine gx_bipush (i := 80) (v := 80) (n := 47) ⟨by decide +kernel, rfl⟩ (by decide) ?_
  refine kx_newa (atype := .int) (N := 80) (n := 49) 72 (kcL_len 72 (by decide)) (kcL_s 72 rfl) ⟨by decide +kernel, rfl⟩ rfl rfl nwa_int (by decide) rfl (by decide) (kcR_hi 83 72 (by decide +kernel)) (kcI_hi 8 72 (by decide +kernel)) rfl rfl ?_
  refine gx_putR (n := 52) ⟨by decide +kernel, rfl⟩ kfX12_25 (kcL_at 73 66 rfl) (Or.inr ⟨by decide +kernel, rfl, fun C T N h => by cases h; rfl⟩) rfl (Or.inl (by rw [kcL_len 73 (by decide)]; decide)) ?_
  rw [kcR_s 83 (k := 66) (j := 7) (q := 72) rfl]
  refine gx_aload_n (i := 0) (n := 53) ⟨by decide +kernel, rfl⟩ rfl ?_
  refine gx_bipush (i := 80) (v := 80) (n := 55) ⟨by decide +kernel, rfl⟩ (by decide) ?_
  refine kx_newa (atype := .int) (N := 80) (n := 57) 73 (kcL_len 73 (by decide)) (kcL_s 73 rfl) ⟨by decide +kernel, rfl⟩ rfl rfl nwa_int (by decide) rfl (by decide) (kcR_hi 84 73 (by decide +kernel)) (kcI_hi 8 73 (by decide +kernel)) rfl rfl ?_
  refine gx_putR (n := 60) ⟨by decide +kernel, rfl⟩ kfX12_28 (kcL_at 74 66 rfl) (Or.inr ⟨by decide +kernel, rfl, fun C T N h => by cases h; rfl⟩) rfl (Or.inl (by rw [kcL_len 74 (by decide)]; decide)) ?_
  rw [kcR_s 84 (k := 66) (j := 8) (q := 73) rfl]
  refine gx_aload_n (i := 0) (n := 61) ⟨by decide +kernel, rfl⟩ rfl ?_
  refine gx_bipush (i := 40) (v := 40) (n := 63) ⟨by decide +kernel, rfl⟩ (by decide) ?_
  refine kx_newa (atype := .int) (N := 40) (n := 65) 74 (kcL_len 74 (by decide)) (kcL_s 74 rfl) ⟨by decide +kernel, rfl⟩ rfl rfl nwa_int (by decide) rfl (by decide) (kcR_hi 85 74 (by decide +kernel)) (kcI_hi 8 74 (by decide +kernel)) rfl rfl ?_
  refine gx_putR (n := 68) ⟨by decide +kernel, rfl⟩ kfX12_31 (kcL_at 75 66 rfl) (Or.inr ⟨by decide +kernel, rfl, fun C T N h => by cases h; rfl⟩) rfl (Or.inl (by rw [kcL_len 75 (by decide)]; decide)) ?_
  rw [kcR_s 85 (k := 66) (j := 10) (q := 74) rfl]
  refine gx_aload_n (i := 0) (n := 69) ⟨by decide +kernel, rfl⟩ rfl ?_
  refine gx_bipush (i := 40) (v := 40) (n := 71) ⟨by decide +kernel, rfl⟩ (by decide) ?_
  refine kx_newa (atype := .int) (N := 40) (n := 73) 75 (kcL_len 75 (by decide)) (kcL_s 75 rfl) ⟨by decide +kernel, rfl⟩ rfl rfl nwa_int (by decide) rfl (by decide) (kcR_hi 86 75 (by decide +kernel)) (kcI_hi 8 75 (by decide +kernel)) rfl rfl ?_
  refine gx_putR (n := 76) ⟨by decide +kernel, rfl⟩ kfX12_34 (kcL_at 76 66 rfl) (Or.inr ⟨by decide +kernel, rfl, fun C T N h => by cases h; rfl⟩) rfl (Or.inl (by rw [kcL_len 76 (by decide)]; decide)) ?_
  rw [kcR_s 86 (k := 66) (j := 11) (q := 75) rfl]
  refine gx_aload_n (i := 0) (n := 77) ⟨by decide +kernel, rfl⟩ rfl ?_
  refine gx_bipush (i := 40) (v := 40) (n := 79) ⟨by decide +kernel, rfl⟩ (by decide) ?_
  refine kx_newa (atype := .int) (N := 40) (n := 81) 76 (kcL_len 76 (by decide)) (kcL_s 76 rfl) ⟨by decide +kernel, rfl⟩ rfl rfl nwa_int (by decide) rfl (by decide) (kcR_hi 87 76 (by decide +kernel)) (kcI_hi 8 76 (by decide +kernel)) rfl rfl ?_
  refine gx_putR (n := 84) ⟨by decide +kernel, rfl⟩ kfX12_37 (kcL_at 77 66 rfl) (Or.inr ⟨by decide +kernel, rfl, fun C T N h => by cases h; rfl⟩) rfl (Or.inl (by rw [kcL_len 77 (by decide)]; decide)) ?_
  rw [kcR_s 87 (k := 66) (j := 12) (q := 76) rfl]
  refine gx_aload_n (i := 0) (n := 85) ⟨by decide +kernel, rfl⟩ rfl ?_
  refine gx_bipush (i := 40) (v := 40) (n := 87) ⟨by decide +kernel, rfl⟩ (by decide) ?_
  refine kx_newa (atype := .int) (N := 40) (n := 89) 77 (kcL_len 77 (by decide)) (kcL_s 77 rfl) ⟨by decide +kernel, rfl⟩ rfl rfl nwa_int (by decide) rfl (by decide) (kcR_hi 88 77 (by decide +kernel)) (kcI_hi 8 77 (by decide +kernel)) rfl rfl ?_
  refine gx_putR (n := 92) ⟨by decide +kernel, rfl⟩ kfX12_40 (kcL_at 78 66 rfl) (Or.inr ⟨by decide +kernel, rfl, fun C T N h => by cases h; rfl⟩) rfl (Or.inl (by rw [kcL_len 78 (by decide)]; decide)) ?_
  rw [kcR_s 88 (k := 66) (j := 13) (q := 77) rfl]
  refine gx_aload_n (i := 0) (n := 93) ⟨by decide +kernel, rfl⟩ rfl ?_
  refine gx_bipush (i := 40) (v := 40) (n := 95) ⟨by decide +kernel, rfl⟩ (by decide) ?_
  refine kx_newa (atype := .int) (N := 40) (n := 97) 78 (kcL_len 78 (by decide)) (kcL_s 78 rfl) ⟨by decide +kernel, rfl⟩ rfl rfl nwa_int (by decide) rfl (by decide) (kcR_hi 89 78 (by decide +kernel)) (kcI_hi 8 78 (by decide +kernel)) rfl rfl ?_
  refine gx_putR (n := 100) ⟨by decide +kernel, rfl⟩ kfX12_43 (kcL_at 79 66 rfl) (Or.inr ⟨by decide +kernel, rfl, fun C T N h => by cases h; rfl⟩) rfl (Or.inl (by rw [kcL_len 79 (by decide)]; decide)) ?_
  rw [kcR_s 89 (k := 66) (j := 14) (q := 78) rfl]
  refine gx_aload_n (i := 0) (n := 101) ⟨by decide +kernel, rfl⟩ rfl ?_
  refine gx_bipush (i := 40) (v := 40) (n := 103) ⟨by decide +kernel, rfl⟩ (by decide) ?_
  refine kx_newa (atype := .int) (N := 40) (n := 105) 79 (kcL_len 79 (by decide)) (kcL_s 79 rfl) ⟨by decide +kernel, rfl⟩ rfl rfl nwa_int (by decide) rfl (by decide) (kcR_hi 90 79 (by decide +kernel)) (kcI_hi 8 79 (by decide +kernel)) rfl rfl ?_
  refine gx_putR (n := 108) ⟨by decide +kernel, rfl⟩ kfX12_46 (kcL_at 80 66 rfl) (Or.inr ⟨by decide +kernel, rfl, fun C T N h => by cases h; rfl⟩) rfl (Or.inl (by rw [kcL_len 80 (by decide)]; decide)) ?_
  rw [kcR_s 90 (k := 66) (j := 15) (q := 79) rfl]
  refine gx_aload_n (i := 0) (n := 109) ⟨by decide +kernel, rfl⟩ rfl ?_
  refine gx_bipush (i := 40) (v := 40) (n := 111) ⟨by decide +kernel, rfl⟩ (by decide) ?_
  refine kx_newa (atype := .int) (N := 40) (n := 113) 80 (kcL_len 80 (by decide)) (kcL_s 80 rfl) ⟨by decide +kernel, rfl⟩ rfl rfl nwa_int (by decide) rfl (by decide) (kcR_hi 91 80 (by decide +kernel)) (kcI_hi 8 80 (by decide +kernel)) rfl rfl ?_
  refine gx_putR (n := 116) ⟨by decide +kernel, rfl⟩ kfX12_49 (kcL_at 81 66 rfl) (Or.inr ⟨by decide +kernel, rfl, fun C T N h => by cases h; rfl⟩) rfl (Or.inl (by rw [kcL_len 81 (by decide)]; decide)) ?_
  rw [kcR_s 91 (k := 66) (j := 16) (q := 80) rfl]
  refine gx_aload_n (i := 0) (n := 117) ⟨by decide +kernel, rfl⟩ rfl ?_
  refine gx_sipush (i := 1000) (v := 1000) (n := 120) ⟨by decide +kernel, rfl⟩ (by decide) ?_
  refine kx_newa (atype := .int) (N := 1000) (n := 122) 81 (kcL_len 81 (by decide)) (kcL_s 81 rfl) ⟨by decide +kernel, rfl⟩ rfl rfl nwa_int (by decide) rfl (by decide) (kcR_hi 92 81 (by decide +kernel)) (kcI_hi 8 81 (by decide +kernel)) rfl rfl ?_
  refine gx_putR (n := 125) ⟨by decide +kernel, rfl⟩ kfX12_52 (kcL_at 82 66 rfl) (Or.inr ⟨by decide +kernel, rfl, fun C T N h => by cases h; rfl⟩) rfl (Or.inl (by rw [kcL_len 82 (by decide)]; decide)) ?_
  rw [kcR_s 92 (k := 66) (j := 18) (q := 81) rfl]
  refine gx_aload_n (i := 0) (n := 126) ⟨by decide +kernel, rfl⟩ rfl ?_
  refine gx_bipush (i := 21) (v := 21) (n := 128) ⟨by decide +kernel, rfl⟩ (by decide) ?_
  refine kx_newa (atype := .boolean) (N := 21) (n := 130) 82 (kcL_len 82 (by decide)) (kcL_s 82 rfl) ⟨by decide +kernel, rfl⟩ rfl rfl nwa_boolean (by decide) rfl (by decide) (kcR_hi 93 82 (by decide +kernel)) (kcI_hi 8 82 (by decide +kernel)) rfl rfl ?_
  refine gx_putR (n := 133) ⟨by decide +kernel, rfl⟩ kfX12_55 (kcL_at 83 66 rfl) (Or.inr ⟨by decide +kernel, rfl, fun C T N h => by cases h; rfl⟩) rfl (Or.inl (by rw [kcL_len 83 (by decide)]; decide)) ?_
  rw [kcR_s 93 (k := 66) (j := 26) (q := 82) rfl]
  refine gx_aload_n (i := 0) (n := 134) ⟨by decide +kernel, rfl⟩ rfl ?_
  refine gx_bipush (i := 21) (v := 21) (n := 136) ⟨by decide +kernel, rfl⟩ (by decide) ?_
  refine kx_newa (atype := .int) (N := 21) (n := 138) 83 (kcL_len 83 (by decide)) (kcL_s 83 rfl) ⟨by decide +kernel, rfl⟩ rfl rfl nwa_int (by decide) rfl (by decide) (kcR_hi 94 83 (by decide +kernel)) (kcI_hi 8 83 (by decide +kernel)) rfl rfl ?_
  refine gx_putR (n := 141) ⟨by decide +kernel, rfl⟩ kfX12_59 (kcL_at 84 66 rfl) (Or.inr ⟨by decide +kernel, rfl, fun C T N h => by cases h; rfl⟩) rfl (Or.inl (by rw [kcL_len 84 (by decide)]; decide)) ?_
  rw [kcR_s 94 (k := 66) (j := 27) (q := 83) rfl]
  refine gx_aload_n (i := 0) (n := 142) ⟨by decide +kernel, rfl⟩ rfl ?_
  refine gx_bipush (i := 21) (v := 21) (n := 144) ⟨by decide +kernel, rfl⟩ (by decide) ?_
  refine kx_newa (atype := .int) (N := 21) (n := 146) 84 (kcL_len 84 (by decide)) (kcL_s 84 rfl) ⟨by decide +kernel, rfl⟩ rfl rfl nwa_int (by decide) rfl (by decide) (kcR_hi 95 84 (by decide +kernel)) (kcI_hi 8 84 (by decide +kernel)) rfl rfl ?_
  refine gx_putR (n := 149) ⟨by decide +kernel, rfl⟩ kfX12_62 (kcL_at 85 66 rfl) (Or.inr ⟨by decide +kernel, rfl, fun C T N h => by cases h; rfl⟩) rfl (Or.inl (by rw [kcL_len 85 (by decide)]; decide)) ?_
  rw [kcR_s 95 (k := 66) (j := 28) (q := 84) rfl]
  refine gx_aload_n (i := 0) (n := 150) ⟨by decide +kernel, rfl⟩ rfl ?_
  refine gx_bipush (i := 21) (v := 21) (n := 152) ⟨by decide +kernel, rfl⟩ (by decide) ?_
  refine kx_newa (atype := .boolean) (N := 21) (n := 154) 85 (kcL_len 85 (by decide)) (kcL_s 85 rfl) ⟨by decide +kernel, rfl⟩ rfl rfl nwa_boolean (by decide) rfl (by decide) (kcR_hi 96 85 (by decide +kernel)) (kcI_hi 8 85 (by decide +kernel)) rfl rfl ?_
  refine gx_putR (n := 157) ⟨by decide +kernel, rfl⟩ kfX12_65 (kcL_at 86 66 rfl) (Or.inr ⟨by decide +kernel, rfl, fun C T N h => by cases h; rfl⟩) rfl (Or.inl (by rw [kcL_len 86 (by decide)]; decide)) ?_
  rw [kcR_s 96 (k := 66) (j := 29) (q := 85) rfl]
  refine gx_aload_n (i := 0) (n := 158) ⟨by decide +kernel, rfl⟩ rfl ?_
  refine gx_bipush (i := 21) (v := 21) (n := 160) ⟨by decide +kernel, rfl⟩ (by decide) ?_
  refine kx_newa (atype := .int) (N := 21) (n := 162) 86 (kcL_len 86 (by decide)) (kcL_s 86 rfl) ⟨by decide +kernel, rfl⟩ rfl rfl nwa_int (by decide) rfl (by decide) (kcR_hi 97 86 (by decide +kernel)) (kcI_hi 8 86 (by decide +kernel)) rfl rfl ?_
  refine gx_putR (n := 165) ⟨by decide +kernel, rfl⟩ kfX12_68 (kcL_at 87 66 rfl) (Or.inr ⟨by decide +kernel, rfl, fun C T N h => by cases h; rfl⟩) rfl (Or.inl (by rw [kcL_len 87 (by decide)]; decide)) ?_
  rw [kcR_s 97 (k := 66) (j := 30) (q := 86) rfl]
  refine gx_aload_n (i := 0) (n := 166) ⟨by decide +kernel, rfl⟩ rfl ?_
  refine gx_bipush (i := 21) (v := 21) (n := 168) ⟨by decide +kernel, rfl⟩ (by decide) ?_
  refine kx_newa (atype := .int) (N := 21) (n := 170) 87 (kcL_len 87 (by decide)) (kcL_s 87 rfl) ⟨by decide +kernel, rfl⟩ rfl rfl nwa_int (by decide) rfl (by decide) (kcR_hi 98 87 (by decide +kernel)) (kcI_hi 8 87 (by decide +kernel)) rfl rfl ?_
  refine gx_putR (n := 173) ⟨by decide +kernel, rfl⟩ kfX12_71 (kcL_at 88 66 rfl) (Or.inr ⟨by decide +kernel, rfl, fun C T N h => by cases h; rfl⟩) rfl (Or.inl (by rw [kcL_len 88 (by decide)]; decide)) ?_
  rw [kcR_s 98 (k := 66) (j := 31) (q := 87) rfl]
  refine gx_aload_n (i := 0) (n := 174) ⟨by decide +kernel, rfl⟩ rfl ?_
  refine gx_sipush (i := 2000) (v := 2000) (n := 177) ⟨by decide +kernel, rfl⟩ (by decide) ?_
  refine kx_newa (atype := .int) (N := 2000) (n := 179) 88 (kcL_len 88 (by decide)) (kcL_s 88 rfl) ⟨by decide +kernel, rfl⟩ rfl rfl nwa_int (by decide) rfl (by decide) (kcR_hi 99 88 (by decide +kernel)) (kcI_hi 8 88 (by decide +kernel)) rfl rfl ?_
  refine gx_putR (n := 182) ⟨by decide +kernel, rfl⟩ kfX12_74 (kcL_at 89 66 rfl) (Or.inr ⟨by decide +kernel, rfl, fun C T N h => by cases h; rfl⟩) rfl (Or.inl (by rw [kcL_len 89 (by decide)]; decide)) ?_
  rw [kcR_s 99 (k := 66) (j := 36) (q := 88) rfl]
  refine gx_aload_n (i := 0) (n := 183) ⟨by decide +kernel, rfl⟩ rfl ?_
  refine gx_bipush (i := 7) (v := 7) (n := 185) ⟨by decide +kernel, rfl⟩ (by decide) ?_
  refine kx_newa (atype := .int) (N := 7) (n := 187) 89 (kcL_len 89 (by decide)) (kcL_s 89 rfl) ⟨by decide +kernel, rfl⟩ rfl rfl nwa_int (by decide) rfl (by decide) (kcR_hi 100 89 (by decide +kernel)) (kcI_hi 8 89 (by decide +kernel)) rfl rfl ?_
  refine gx_putR (n := 190) ⟨by decide +kernel, rfl⟩ kfX12_77 (kcL_at 90 66 rfl) (Or.inr ⟨by decide +kernel, rfl, fun C T N h => by cases h; rfl⟩) rfl (Or.inl (by rw [kcL_len 90 (by decide)]; decide)) ?_
  rw [kcR_s 100 (k := 66) (j := 39) (q := 89) rfl]
  refine gx_aload_n (i := 0) (n := 191) ⟨by decide +kernel, rfl⟩ rfl ?_
  refine gx_bipush (i := 7) (v := 7) (n := 193) ⟨by decide +kernel, rfl⟩ (by decide) ?_
  refine kx_newa (atype := .boolean) (N := 7) (n := 195) 90 (kcL_len 90 (by decide)) (kcL_s 90 rfl) ⟨by decide +kernel, rfl⟩ rfl rfl nwa_boolean (by decide) rfl (by decide) (kcR_hi 101 90 (by decide +kernel)) (kcI_hi 8 90 (by decide +kernel)) rfl rfl ?_
  refine gx_putR (n := 198) ⟨by decide +kernel, rfl⟩ kfX12_80 (kcL_at 91 66 rfl) (Or.inr ⟨by decide +kernel, rfl, fun C T N h => by cases h; rfl⟩) rfl (Or.inl (by rw [kcL_len 91 (by decide)]; decide)) ?_
  rw [kcR_s 101 (k := 66) (j := 40) (q := 90) rfl]
  refine gx_aload_n (i := 0) (n := 199) ⟨by decide +kernel, rfl⟩ rfl ?_
  refine gx_bipush (i := 7) (v := 7) (n := 201) ⟨by decide +kernel, rfl⟩ (by decide) ?_
  refine kx_newa (atype := .int) (N := 7) (n := 203) 91 (kcL_len 91 (by decide)) (kcL_s 91 rfl) ⟨by decide +kernel, rfl⟩ rfl rfl nwa_int (by decide) rfl (by decide) (kcR_hi 102 91 (by decide +kernel)) (kcI_hi 8 91 (by decide +kernel)) rfl rfl ?_
  refine gx_putR (n := 206) ⟨by decide +kernel, rfl⟩ kfX12_83 (kcL_at 92 66 rfl) (Or.inr ⟨by decide +kernel, rfl, fun C T N h => by cases h; rfl⟩) rfl (Or.inl (by rw [kcL_len 92 (by decide)]; decide)) ?_
  rw [kcR_s 102 (k := 66) (j := 41) (q := 91) rfl]
  refine gx_aload_n (i := 0) (n := 207) ⟨by decide +kernel, rfl⟩ rfl ?_
  refine gx_bipush (i := 7) (v := 7) (n := 209) ⟨by decide +kernel, rfl⟩ (by decide) ?_
  refine kx_newa (atype := .int) (N := 7) (n := 211) 92 (kcL_len 92 (by decide)) (kcL_s 92 rfl) ⟨by decide +kernel, rfl⟩ rfl rfl nwa_int (by decide) rfl (by decide) (kcR_hi 103 92 (by decide +kernel)) (kcI_hi 8 92 (by decide +kernel)) rfl rfl ?_
  refine gx_putR (n := 214) ⟨by decide +kernel, rfl⟩ kfX12_86 (kcL_at 93 66 rfl) (Or.inr ⟨by decide +kernel, rfl, fun C T N h => by cases h; rfl⟩) rfl (Or.inl (by rw [kcL_len 93 (by decide)]; decide)) ?_
  rw [kcR_s 103 (k := 66) (j := 42) (q := 92) rfl]
  refine gx_aload_n (i := 0) (n := 215) ⟨by decide +kernel, rfl⟩ rfl ?_
  refine gx_bipush (i := 7) (v := 7) (n := 217) ⟨by decide +kernel, rfl⟩ (by decide) ?_
  refine kx_newa (atype := .int) (N := 7) (n := 219) 93 (kcL_len 93 (by decide)) (kcL_s 93 rfl) ⟨by decide +kernel, rfl⟩ rfl rfl nwa_int (by decide) rfl (by decide) (kcR_hi 104 93 (by decide +kernel)) (kcI_hi 8 93 (by decide +kernel)) rfl rfl ?_
  refine gx_putR (n := 222) ⟨by decide +kernel, rfl⟩ kfX12_89 (kcL_at 94 66 rfl) (Or.inr ⟨by decide +kernel, rfl, fun C T N h => by cases h; rfl⟩) rfl (Or.inl (by rw [kcL_len 94 (by decide)]; decide)) ?_
  rw [kcR_s 104 (k := 66) (j := 43) (q := 93) rfl]
  refine gx_aload_n (i := 0) (n := 223) ⟨by decide +kernel, rfl⟩ rfl ?_
  refine gx_bipush (i := 7) (v := 7) (n := 225) ⟨by decide +kernel, rfl⟩ (by decide) ?_
  refine kx_newa (atype := .int) (N := 7) (n := 227) 94 (kcL_len 94 (by decide)) (kcL_s 94 rfl) ⟨by decide +kernel, rfl⟩ rfl rfl nwa_int (by decide) rfl (by decide) (kcR_hi 105 94 (by decide +kernel)) (kcI_hi 8 94 (by decide +kernel)) rfl rfl ?_
  refine gx_putR (n := 230) ⟨by decide +kernel, rfl⟩ kfX12_92 (kcL_at 95 66 rfl) (Or.inr ⟨by decide +kernel, rfl, fun C T N h => by cases h; rfl⟩) rfl (Or.inl (by rw [kcL_len 95 (by decide)]; decide)) ?_
  rw [kcR_s 105 (k := 66) (j := 44) (q := 94) rfl]
  refine gx_aload_n (i := 0) (n := 231) ⟨by decide +kernel, rfl⟩ rfl ?_
  refine gx_bipush (i := 7) (v := 7) (n := 233) ⟨by decide +kernel, rfl⟩ (by decide) ?_
  refine kx_newa (atype := .int) (N := 7) (n := 235) 95 (kcL_len 95 (by decide)) (kcL_s 95 rfl) ⟨by decide +kernel, rfl⟩ rfl rfl nwa_int (by decide) rfl (by decide) (kcR_hi 106 95 (by decide +kernel)) (kcI_hi 8 95 (by decide +kernel)) rfl rfl ?_
  refine gx_putR (n := 238) ⟨by decide +kernel, rfl⟩ kfX12_95 (kcL_at 96 66 rfl) (Or.inr ⟨by decide +kernel, rfl, fun C T N h => by cases h; rfl⟩) rfl (Or.inl (by rw [kcL_len 96 (by decide)]; decide)) ?_
  rw [kcR_s 106 (k := 66) (j := 45) (q := 95) rfl]
  refine gx_aload_n (i := 0) (n := 239) ⟨by decide +kernel, rfl⟩ rfl ?_
  refine gx_bipush (i := 7) (v := 7) (n := 241) ⟨by decide +kernel, rfl⟩ (by decide) ?_
  refine kx_newa (atype := .int) (N := 7) (n := 243) 96 (kcL_len 96 (by decide)) (kcL_s 96 rfl) ⟨by decide +kernel, rfl⟩ rfl rfl nwa_int (by decide) rfl (by decide) (kcR_hi 107 96 (by decide +kernel)) (kcI_hi 8 96 (by decide +kernel)) rfl rfl ?_
  refine gx_putR (n := 246) ⟨by decide +kernel, rfl⟩ kfX12_98 (kcL_at 97 66 rfl) (Or.inr ⟨by decide +kernel, rfl, fun C T N h => by cases h; rfl⟩) rfl (Or.inl (by rw [kcL_len 97 (by decide)]; decide)) ?_
  rw [kcR_s 107 (k := 66) (j := 46) (q := 96) rfl]
  refine gx_aload_n (i := 0) (n := 247) ⟨by decide +kernel, rfl⟩ rfl ?_
  refine gx_bipush (i := 7) (v := 7) (n := 249) ⟨by decide +kernel, rfl⟩ (by decide) ?_
  refine kx_newa (atype := .int) (N := 7) (n := 251) 97 (kcL_len 97 (by decide)) (kcL_s 97 rfl) ⟨by decide +kernel, rfl⟩ rfl rfl nwa_int (by decide) rfl (by decide) (kcR_hi 108 97 (by decide +kernel)) (kcI_hi 8 97 (by decide +kernel)) rfl rfl ?_
  refine gx_putR (n := 254) ⟨by decide +kernel, rfl⟩ kfX12_101 (kcL_at 98 66 rfl) (Or.inr ⟨by decide +kernel, rfl, fun C T N h => by cases h; rfl⟩) rfl (Or.inl (by rw [kcL_len 98 (by decide)]; decide)) ?_
  rw [kcR_s 108 (k := 66) (j := 47) (q := 97) rfl]
  refine gx_aload_n (i := 0) (n := 255) ⟨by decide +kernel, rfl⟩ rfl ?_
  refine gx_bipush (i := 7) (v := 7) (n := 257) ⟨by decide +kernel, rfl⟩ (by decide) ?_
  refine kx_newa (atype := .int) (N := 7) (n := 259) 98 (kcL_len 98 (by decide)) (kcL_s 98 rfl) ⟨by decide +kernel, rfl⟩ rfl rfl nwa_int (by decide) rfl (by decide) (kcR_hi 109 98 (by decide +kernel)) (kcI_hi 8 98 (by decide +kernel)) rfl rfl ?_
  refine gx_putR (n := 262) ⟨by decide +kernel, rfl⟩ kfX12_104 (kcL_at 99 66 rfl) (Or.inr ⟨by decide +kernel, rfl, fun C T N h => by cases h; rfl⟩) rfl (Or.inl (by rw [kcL_len 99 (by decide)]; decide)) ?_
  rw [kcR_s 109 (k := 66) (j := 48) (q := 98) rfl]
  refine gx_aload_n (i := 0) (n := 263) ⟨by decide +kernel, rfl⟩ rfl ?_
  refine gx_bipush (i := 7) (v := 7) (n := 265) ⟨by decide +kernel, rfl⟩ (by decide) ?_
  refine kx_newa (atype := .int) (N := 7) (n := 267) 99 (kcL_len 99 (by decide)) (kcL_s 99 rfl) ⟨by decide +kernel, rfl⟩ rfl rfl nwa_int (by decide) rfl (by decide) (kcR_hi 110 99 (by decide +kernel)) (kcI_hi 8 99 (by decide +kernel)) rfl rfl ?_
  refine gx_putR (n := 270) ⟨by decide +kernel, rfl⟩ kfX12_107 (kcL_at 100 66 rfl) (Or.inr ⟨by decide +kernel, rfl, fun C T N h => by cases h; rfl⟩) rfl (Or.inl (by rw [kcL_len 100 (by decide)]; decide)) ?_
  rw [kcR_s 110 (k := 66) (j := 49) (q := 99) rfl]
  refine gx_aload_n (i := 0) (n := 271) ⟨by decide +kernel, rfl⟩ rfl ?_
  refine gx_bipush (i := 20) (v := 20) (n := 273) ⟨by decide +kernel, rfl⟩ (by decide) ?_
  refine kx_newa (atype := .int) (N := 20) (n := 275) 100 (kcL_len 100 (by decide)) (kcL_s 100 rfl) ⟨by decide +kernel, rfl⟩ rfl rfl nwa_int (by decide) rfl (by decide) (kcR_hi 111 100 (by decide +kernel)) (kcI_hi 8 100 (by decide +kernel)) rfl rfl ?_
  refine gx_putR (n := 278) ⟨by decide +kernel, rfl⟩ kfX12_110 (kcL_at 101 66 rfl) (Or.inr ⟨by decide +kernel, rfl, fun C T N h => by cases h; rfl⟩) rfl (Or.inl (by rw [kcL_len 101 (by decide)]; decide)) ?_
  rw [kcR_s 111 (k := 66) (j := 50) (q := 100) rfl]
  refine gx_aload_n (i := 0) (n := 279) ⟨by decide +kernel, rfl⟩ rfl ?_
  refine gx_bipush (i := 20) (v := 20) (n := 281) ⟨by decide +kernel, rfl⟩ (by decide) ?_
  refine kx_newa (atype := .int) (N := 20) (n := 283) 101 (kcL_len 101 (by decide)) (kcL_s 101 rfl) ⟨by decide +kernel, rfl⟩ rfl rfl nwa_int (by decide) rfl (by decide) (kcR_hi 112 101 (by decide +kernel)) (kcI_hi 8 101 (by decide +kernel)) rfl rfl ?_
  refine gx_putR (n := 286) ⟨by decide +kernel, rfl⟩ kfX12_113 (kcL_at 102 66 rfl) (Or.inr ⟨by decide +kernel, rfl, fun C T N h => by cases h; rfl⟩) rfl (Or.inl (by rw [kcL_len 102 (by decide)]; decide)) ?_
  rw [kcR_s 112 (k := 66) (j := 56) (q := 101) rfl]
  refine gx_aload_n (i := 0) (n := 287) ⟨by decide +kernel, rfl⟩ rfl ?_
  refine gx_bipush (i := 20) (v := 20) (n := 289) ⟨by decide +kernel, rfl⟩ (by decide) ?_
  refine kx_newa (atype := .int) (N := 20) (n := 291) 102 (kcL_len 102 (by decide)) (kcL_s 102 rfl) ⟨by decide +kernel, rfl⟩ rfl rfl nwa_int (by decide) rfl (by decide) (kcR_hi 113 102 (by decide +kernel)) (kcI_hi 8 102 (by decide +kernel)) rfl rfl ?_
  refine gx_putR (n := 294) ⟨by decide +kernel, rfl⟩ kfX12_116 (kcL_at 103 66 rfl) (Or.inr ⟨by decide +kernel, rfl, fun C T N h => by cases h; rfl⟩) rfl (Or.inl (by rw [kcL_len 103 (by decide)]; decide)) ?_
  rw [kcR_s 113 (k := 66) (j := 57) (q := 102) rfl]
  refine gx_aload_n (i := 0) (n := 295) ⟨by decide +kernel, rfl⟩ rfl ?_
  refine gx_bipush (i := 20) (v := 20) (n := 297) ⟨by decide +kernel, rfl⟩ (by decide) ?_
  refine kx_newa (atype := .int) (N := 20) (n := 299) 103 (kcL_len 103 (by decide)) (kcL_s 103 rfl) ⟨by decide +kernel, rfl⟩ rfl rfl nwa_int (by decide) rfl (by decide) (kcR_hi 114 103 (by decide +kernel)) (kcI_hi 8 103 (by decide +kernel)) rfl rfl ?_
  refine gx_putR (n := 302) ⟨by decide +kernel, rfl⟩ kfX12_119 (kcL_at 104 66 rfl) (Or.inr ⟨by decide +kernel, rfl, fun C T N h => by cases h; rfl⟩) rfl (Or.inl (by rw [kcL_len 104 (by decide)]; decide)) ?_
  rw [kcR_s 114 (k := 66) (j := 58) (q := 103) rfl]
  refine gx_aload_n (i := 0) (n := 303) ⟨by decide +kernel, rfl⟩ rfl ?_
  refine gx_bipush (i := 40) (v := 40) (n := 305) ⟨by decide +kernel, rfl⟩ (by decide) ?_
  refine kx_newa (atype := .int) (N := 40) (n := 307) 104 (kcL_len 104 (by decide)) (kcL_s 104 rfl) ⟨by decide +kernel, rfl⟩ rfl rfl nwa_int (by decide) rfl (by decide) (kcR_hi 115 104 (by decide +kernel)) (kcI_hi 8 104 (by decide +kernel)) rfl rfl ?_
  refine gx_putR (n := 310) ⟨by decide +kernel, rfl⟩ kfX12_122 (kcL_at 105 66 rfl) (Or.inr ⟨by decide +kernel, rfl, fun C T N h => by cases h; rfl⟩) rfl (Or.inl (by rw [kcL_len 105 (by decide)]; decide)) ?_
  rw [kcR_s 115 (k := 66) (j := 59) (q := 104) rfl]
  refine gx_aload_n (i := 0) (n := 311) ⟨by decide +kernel, rfl⟩ rfl ?_
  refine gx_bipush (i := 40) (v := 40) (n := 313) ⟨by decide +kernel, rfl⟩ (by decide) ?_
  refine kx_newa (atype := .int) (N := 40) (n := 315) 105 (kcL_len 105 (by decide)) (kcL_s 105 rfl) ⟨by decide +kernel, rfl⟩ rfl rfl nwa_int (by decide) rfl (by decide) (kcR_hi 116 105 (by decide +kernel)) (kcI_hi 8 105 (by decide +kernel)) rfl rfl ?_
  refine gx_putR (n := 318) ⟨by decide +kernel, rfl⟩ kfX12_125 (kcL_at 106 66 rfl) (Or.inr ⟨by decide +kernel, rfl, fun C T N h => by cases h; rfl⟩) rfl (Or.inl (by rw [kcL_len 106 (by decide)]; decide)) ?_
  rw [kcR_s 116 (k := 66) (j := 60) (q := 105) rfl]
  refine gx_aload_n (i := 0) (n := 319) ⟨by decide +kernel, rfl⟩ rfl ?_
  refine gx_bipush (i := 40) (v := 40) (n := 321) ⟨by decide +kernel, rfl⟩ (by decide) ?_
  refine kx_newa (atype := .int) (N := 40) (n := 323) 106 (kcL_len 106 (by decide)) (kcL_s 106 rfl) ⟨by decide +kernel, rfl⟩ rfl rfl nwa_int (by decide) rfl (by decide) (kcR_hi 117 106 (by decide +kernel)) (kcI_hi 8 106 (by decide +kernel)) rfl rfl ?_
  refine gx_putR (n := 326) ⟨by decide +kernel, rfl⟩ kfX12_128 (kcL_at 107 66 rfl) (Or.inr ⟨by decide +kernel, rfl, fun C T N h => by cases h; rfl⟩) rfl (Or.inl (by rw [kcL_len 107 (by decide)]; decide)) ?_
  rw [kcR_s 117 (k := 66) (j := 61) (q := 106) rfl]
  refine gx_aload_n (i := 0) (n := 327) ⟨by decide +kernel, rfl⟩ rfl ?_
  refine gx_bipush (i := 40) (v := 40) (n := 329) ⟨by decide +kernel, rfl⟩ (by decide) ?_
  refine kx_newa (atype := .boolean) (N := 40) (n := 331) 107 (kcL_len 107 (by decide)) (kcL_s 107 rfl) ⟨by decide +kernel, rfl⟩ rfl rfl nwa_boolean (by decide) rfl (by decide) (kcR_hi 118 107 (by decide +kernel)) (kcI_hi 8 107 (by decide +kernel)) rfl rfl ?_
  refine gx_putR (n := 334) ⟨by decide +kernel, rfl⟩ kfX12_131 (kcL_at 108 66 rfl) (Or.inr ⟨by decide +kernel, rfl, fun C T N h => by cases h; rfl⟩) rfl (Or.inl (by rw [kcL_len 108 (by decide)]; decide)) ?_
  rw [kcR_s 118 (k := 66) (j := 62) (q := 107) rfl]
  refine gx_aload_n (i := 0) (n := 335) ⟨by decide +kernel, rfl⟩ rfl ?_
  refine gx_bipush (i := 36) (v := 36) (n := 337) ⟨by decide +kernel, rfl⟩ (by decide) ?_
  refine kx_newa (atype := .int) (N := 36) (n := 339) 108 (kcL_len 108 (by decide)) (kcL_s 108 rfl) ⟨by decide +kernel, rfl⟩ rfl rfl nwa_int (by decide) rfl (by decide) (kcR_hi 119 108 (by decide +kernel)) (kcI_hi 8 108 (by decide +kernel)) rfl rfl ?_
  refine gx_putR (n := 342) ⟨by decide +kernel, rfl⟩ kfX12_134 (kcL_at 109 66 rfl) (Or.inr ⟨by decide +kernel, rfl, fun C T N h => by cases h; rfl⟩) rfl (Or.inl (by rw [kcL_len 109 (by decide)]; decide)) ?_
  rw [kcR_s 119 (k := 66) (j := 70) (q := 108) rfl]
  refine gx_aload_n (i := 0) (n := 343) ⟨by decide +kernel, rfl⟩ rfl ?_
  refine gx_bipush (i := 36) (v := 36) (n := 345) ⟨by decide +kernel, rfl⟩ (by decide) ?_
  refine kx_newa (atype := .long) (N := 36) (n := 347) 109 (kcL_len 109 (by decide)) (kcL_s 109 rfl) ⟨by decide +kernel, rfl⟩ rfl rfl nwa_long (by decide) rfl (by decide) (kcR_hi 120 109 (by decide +kernel)) (kcI_hi 8 109 (by decide +kernel)) rfl rfl ?_
  refine gx_putR (n := 350) ⟨by decide +kernel, rfl⟩ kfX12_137 (kcL_at 110 66 rfl) (Or.inr ⟨by decide +kernel, rfl, fun C T N h => by cases h; rfl⟩) rfl (Or.inl (by rw [kcL_len 110 (by decide)]; decide)) ?_
  rw [kcR_s 120 (k := 66) (j := 71) (q := 109) rfl]
  refine gx_aload_n (i := 0) (n := 351) ⟨by decide +kernel, rfl⟩ rfl ?_
  refine gx_bipush (i := 36) (v := 36) (n := 353) ⟨by decide +kernel, rfl⟩ (by decide) ?_
  refine kx_newa (atype := .int) (N := 36) (n := 355) 110 (kcL_len 110 (by decide)) (kcL_s 110 rfl) ⟨by decide +kernel, rfl⟩ rfl rfl nwa_int (by decide) rfl (by decide) (kcR_hi 121 110 (by decide +kernel)) (kcI_hi 8 110 (by decide +kernel)) rfl rfl ?_
  refine gx_putR (n := 358) ⟨by decide +kernel, rfl⟩ kfX12_141 (kcL_at 111 66 rfl) (Or.inr ⟨by decide +kernel, rfl, fun C T N h => by cases h; rfl⟩) rfl (Or.inl (by rw [kcL_len 111 (by decide)]; decide)) ?_
  rw [kcR_s 121 (k := 66) (j := 72) (q := 110) rfl]
  refine gx_aload_n (i := 0) (n := 359) ⟨by decide +kernel, rfl⟩ rfl ?_
  refine gx_iconst (i := 3) (v := 3) (n := 360) ⟨by decide +kernel, rfl⟩ (by decide) ?_
  refine kx_newa (atype := .int) (N := 3) (n := 362) 111 (kcL_len 111 (by decide)) (kcL_s 111 rfl) ⟨by decide +kernel, rfl⟩ rfl rfl nwa_int (by decide) rfl (by decide) (kcR_hi 122 111 (by decide +kernel)) (kcI_hi 8 111 (by decide +kernel)) rfl rfl ?_
  refine gx_putR (n := 365) ⟨by decide +kernel, rfl⟩ kfX12_144 (kcL_at 112 66 rfl) (Or.inr ⟨by decide +kernel, rfl, fun C T N h => by cases h; rfl⟩) rfl (Or.inl (by rw [kcL_len 112 (by decide)]; decide)) ?_
  rw [kcR_s 122 (k := 66) (j := 74) (q := 111) rfl]
  refine gx_aload_n (i := 0) (n := 366) ⟨by decide +kernel, rfl⟩ rfl ?_
  refine gx_bipush (i := 10) (v := 10) (n := 368) ⟨by decide +kernel, rfl⟩ (by decide) ?_
  refine kx_newa (atype := .int) (N := 10) (n := 370) 112 (kcL_len 112 (by decide)) (kcL_s 112 rfl) ⟨by decide +kernel, rfl⟩ rfl rfl nwa_int (by decide) rfl (by decide) (kcR_hi 123 112 (by decide +kernel)) (kcI_hi 8 112 (by decide +kernel)) rfl rfl ?_
  refine gx_putR (n := 373) ⟨by decide +kernel, rfl⟩ kfX12_147 (kcL_at 113 66 rfl) (Or.inr ⟨by decide +kernel, rfl, fun C T N h => by cases h; rfl⟩) rfl (Or.inl (by rw [kcL_len 113 (by decide)]; decide)) ?_
  rw [kcR_s 123 (k := 66) (j := 75) (q := 112) rfl]
  refine gx_aload_n (i := 0) (n := 374) ⟨by decide +kernel, rfl⟩ rfl ?_
  refine gx_bipush (i := 40) (v := 40) (n := 376) ⟨by decide +kernel, rfl⟩ (by decide) ?_
  refine kx_newa (atype := .int) (N := 40) (n := 378) 113 (kcL_len 113 (by decide)) (kcL_s 113 rfl) ⟨by decide +kernel, rfl⟩ rfl rfl nwa_int (by decide) rfl (by decide) (kcR_hi 124 113 (by decide +kernel)) (kcI_hi 8 113 (by decide +kernel)) rfl rfl ?_
  refine gx_putR (n := 381) ⟨by decide +kernel, rfl⟩ kfX12_150 (kcL_at 114 66 rfl) (Or.inr ⟨by decide +kernel, rfl, fun C T N h => by cases h; rfl⟩) rfl (Or.inl (by rw [kcL_len 114 (by decide)]; decide)) ?_
  rw [kcR_s 124 (k := 66) (j := 78) (q := 113) rfl]
  refine gx_aload_n (i := 0) (n := 382) ⟨by decide +kernel, rfl⟩ rfl ?_
  refine gx_bipush (i := 40) (v := 40) (n := 384) ⟨by decide +kernel, rfl⟩ (by decide) ?_
  refine kx_newa (atype := .int) (N := 40) (n := 386) 114 (kcL_len 114 (by decide)) (kcL_s 114 rfl) ⟨by decide +kernel, rfl⟩ rfl rfl nwa_int (by decide) rfl (by decide) (kcR_hi 125 114 (by decide +kernel)) (kcI_hi 8 114 (by decide +kernel)) rfl rfl ?_
  refine gx_putR (n := 389) ⟨by decide +kernel, rfl⟩ kfX12_153 (kcL_at 115 66 rfl) (Or.inr ⟨by decide +kernel, rfl, fun C T N h => by cases h; rfl⟩) rfl (Or.inl (by rw [kcL_len 115 (by decide)]; decide)) ?_
  rw [kcR_s 125 (k := 66) (j := 79) (q := 114) rfl]
  refine gx_aload_n (i := 0) (n := 390) ⟨by decide +kernel, rfl⟩ rfl ?_
  refine gx_bipush (i := 10) (v := 10) (n := 392) ⟨by decide +kernel, rfl⟩ (by decide) ?_
  refine kx_newa (atype := .int) (N := 10) (n := 394) 115 (kcL_len 115 (by decide)) (kcL_s 115 rfl) ⟨by decide +kernel, rfl⟩ rfl rfl nwa_int (by decide) rfl (by decide) (kcR_hi 126 115 (by decide +kernel)) (kcI_hi 8 115 (by decide +kernel)) rfl rfl ?_
  refine gx_putR (n := 397) ⟨by decide +kernel, rfl⟩ kfX12_156 (kcL_at 116 66 rfl) (Or.inr ⟨by decide +kernel, rfl, fun C T N h => by cases h; rfl⟩) rfl (Or.inl (by rw [kcL_len 116 (by decide)]; decide)) ?_
  rw [kcR_s 126 (k := 66) (j := 80) (q := 115) rfl]
  refine gx_aload_n (i := 0) (n := 398) ⟨by decide +kernel, rfl⟩ rfl ?_
  refine gx_bipush (i := 10) (v := 10) (n := 400) ⟨by decide +kernel, rfl⟩ (by decide) ?_
  refine kx_newa (atype := .int) (N := 10) (n := 402) 116 (kcL_len 116 (by decide)) (kcL_s 116 rfl) ⟨by decide +kernel, rfl⟩ rfl rfl nwa_int (by decide) rfl (by decide) (kcR_hi 127 116 (by decide +kernel)) (kcI_hi 8 116 (by decide +kernel)) rfl rfl ?_
  refine gx_putR (n := 405) ⟨by decide +kernel, rfl⟩ kfX12_159 (kcL_at 117 66 rfl) (Or.inr ⟨by decide +kernel, rfl, fun C T N h => by cases h; rfl⟩) rfl (Or.inl (by rw [kcL_len 117 (by decide)]; decide)) ?_
  rw [kcR_s 127 (k := 66) (j := 81) (q := 116) rfl]
  refine gx_aload_n (i := 0) (n := 406) ⟨by decide +kernel, rfl⟩ rfl ?_
  refine gx_bipush (i := 80) (v := 80) (n := 408) ⟨by decide +kernel, rfl⟩ (by decide) ?_
  refine kx_newa (atype := .int) (N := 80) (n := 410) 117 (kcL_len 117 (by decide)) (kcL_s 117 rfl) ⟨by decide +kernel, rfl⟩ rfl rfl nwa_int (by decide) rfl (by decide) (kcR_hi 128 117 (by decide +kernel)) (kcI_hi 8 117 (by decide +kernel)) rfl rfl ?_
  refine gx_putR (n := 413) ⟨by decide +kernel, rfl⟩ kfX12_162 (kcL_at 118 66 rfl) (Or.inr ⟨by decide +kernel, rfl, fun C T N h => by cases h; rfl⟩) rfl (Or.inl (by rw [kcL_len 118 (by decide)]; decide)) ?_
  rw [kcR_s 128 (k := 66) (j := 82) (q := 117) rfl]
  refine gx_aload_n (i := 0) (n := 414) ⟨by decide +kernel, rfl⟩ rfl ?_
  refine gx_bipush (i := 8) (v := 8) (n := 416) ⟨by decide +kernel, rfl⟩ (by decide) ?_
  refine kx_newa (atype := .int) (N := 8) (n := 418) 118 (kcL_len 118 (by decide)) (kcL_s 118 rfl) ⟨by decide +kernel, rfl⟩ rfl rfl nwa_int (by decide) rfl (by decide) (kcR_hi 129 118 (by decide +kernel)) (kcI_hi 8 118 (by decide +kernel)) rfl rfl ?_
  refine gx_putR (n := 421) ⟨by decide +kernel, rfl⟩ kfX12_165 (kcL_at 119 66 rfl) (Or.inr ⟨by decide +kernel, rfl, fun C T N h => by cases h; rfl⟩) rfl (Or.inl (by rw [kcL_len 119 (by decide)]; decide)) ?_
  rw [kcR_s 129 (k := 66) (j := 83) (q := 118) rfl]
  refine gx_aload_n (i := 0) (n := 422) ⟨by decide +kernel, rfl⟩ rfl ?_
  refine gx_bipush (i := 8) (v := 8) (n := 424) ⟨by decide +kernel, rfl⟩ (by decide) ?_
  refine kx_newa (atype := .int) (N := 8) (n := 426) 119 (kcL_len 119 (by decide)) (kcL_s 119 rfl) ⟨by decide +kernel, rfl⟩ rfl rfl nwa_int (by decide) rfl (by decide) (kcR_hi 130 119 (by decide +kernel)) (kcI_hi 8 119 (by decide +kernel)) rfl rfl ?_
  refine gx_putR (n := 429) ⟨by decide +kernel, rfl⟩ kfX12_168 (kcL_at 120 66 rfl) (Or.inr ⟨by decide +kernel, rfl, fun C T N h => by cases h; rfl⟩) rfl (Or.inl (by rw [kcL_len 120 (by decide)]; decide)) ?_
  rw [kcR_s 130 (k := 66) (j := 84) (q := 119) rfl]
  refine gx_aload_n (i := 0) (n := 430) ⟨by decide +kernel, rfl⟩ rfl ?_
  refine gx_bipush (i := 72) (v := 72) (n := 432) ⟨by decide +kernel, rfl⟩ (by decide) ?_
  refine kx_newa (atype := .int) (N := 72) (n := 434) 120 (kcL_len 120 (by decide)) (kcL_s 120 rfl) ⟨by decide +kernel, rfl⟩ rfl rfl nwa_int (by decide) rfl (by decide) (kcR_hi 131 120 (by decide +kernel)) (kcI_hi 8 120 (by decide +kernel)) rfl rfl ?_
  refine gx_putR (n := 437) ⟨by decide +kernel, rfl⟩ kfX12_171 (kcL_at 121 66 rfl) (Or.inr ⟨by decide +kernel, rfl, fun C T N h => by cases h; rfl⟩) rfl (Or.inl (by rw [kcL_len 121 (by decide)]; decide)) ?_
  rw [kcR_s 131 (k := 66) (j := 86) (q := 120) rfl]
  refine gx_aload_n (i := 0) (n := 438) ⟨by decide +kernel, rfl⟩ rfl ?_
  refine gx_bipush (i := 8) (v := 8) (n := 440) ⟨by decide +kernel, rfl⟩ (by decide) ?_
  refine kx_newa (atype := .int) (N := 8) (n := 442) 121 (kcL_len 121 (by decide)) (kcL_s 121 rfl) ⟨by decide +kernel, rfl⟩ rfl rfl nwa_int (by decide) rfl (by decide) (kcR_hi 132 121 (by decide +kernel)) (kcI_hi 8 121 (by decide +kernel)) rfl rfl ?_
  refine gx_putR (n := 445) ⟨by decide +kernel, rfl⟩ kfX12_174 (kcL_at 122 66 rfl) (Or.inr ⟨by decide +kernel, rfl, fun C T N h => by cases h; rfl⟩) rfl (Or.inl (by rw [kcL_len 122 (by decide)]; decide)) ?_
  rw [kcR_s 132 (k := 66) (j := 87) (q := 121) rfl]
  refine gx_aload_n (i := 0) (n := 446) ⟨by decide +kernel, rfl⟩ rfl ?_
  refine gx_sipush (i := 1920) (v := 1920) (n := 449) ⟨by decide +kernel, rfl⟩ (by decide) ?_
  refine kx_newa (atype := .boolean) (N := 1920) (n := 451) 122 (kcL_len 122 (by decide)) (kcL_s 122 rfl) ⟨by decide +kernel, rfl⟩ rfl rfl nwa_boolean (by decide) rfl (by decide) (kcR_hi 133 122 (by decide +kernel)) (kcI_hi 8 122 (by decide +kernel)) rfl rfl ?_
  refine gx_putR (n := 454) ⟨by decide +kernel, rfl⟩ kfX12_177 (kcL_at 123 66 rfl) (Or.inr ⟨by decide +kernel, rfl, fun C T N h => by cases h; rfl⟩) rfl (Or.inl (by rw [kcL_len 123 (by decide)]; decide)) ?_
  rw [kcR_s 133 (k := 66) (j := 89) (q := 122) rfl]
  refine gx_aload_n (i := 0) (n := 455) ⟨by decide +kernel, rfl⟩ rfl ?_
  refine gx_sipush (i := 1920) (v := 1920) (n := 458) ⟨by decide +kernel, rfl⟩ (by decide) ?_
  refine kx_newa (atype := .int) (N := 1920) (n := 460) 123 (kcL_len 123 (by decide)) (kcL_s 123 rfl) ⟨by decide +kernel, rfl⟩ rfl rfl nwa_int (by decide) rfl (by decide) (kcR_hi 134 123 (by decide +kernel)) (kcI_hi 8 123 (by decide +kernel)) rfl rfl ?_
  refine gx_putR (n := 463) ⟨by decide +kernel, rfl⟩ kfX12_180 (kcL_at 124 66 rfl) (Or.inr ⟨by decide +kernel, rfl, fun C T N h => by cases h; rfl⟩) rfl (Or.inl (by rw [kcL_len 124 (by decide)]; decide)) ?_
  rw [kcR_s 134 (k := 66) (j := 90) (q := 123) rfl]
  refine gx_aload_n (i := 0) (n := 464) ⟨by decide +kernel, rfl⟩ rfl ?_
  refine gx_sipush (i := 1920) (v := 1920) (n := 467) ⟨by decide +kernel, rfl⟩ (by decide) ?_
  refine kx_newa (atype := .int) (N := 1920) (n := 469) 124 (kcL_len 124 (by decide)) (kcL_s 124 rfl) ⟨by decide +kernel, rfl⟩ rfl rfl nwa_int (by decide) rfl (by decide) (kcR_hi 135 124 (by decide +kernel)) (kcI_hi 8 124 (by decide +kernel)) rfl rfl ?_
  refine gx_putR (n := 472) ⟨by decide +kernel, rfl⟩ kfX12_183 (kcL_at 125 66 rfl) (Or.inr ⟨by decide +kernel, rfl, fun C T N h => by cases h; rfl⟩) rfl (Or.inl (by rw [kcL_len 125 (by decide)]; decide)) ?_
  rw [kcR_s 135 (k := 66) (j := 91) (q := 124) rfl]
  refine gx_aload_n (i := 0) (n := 473) ⟨by decide +kernel, rfl⟩ rfl ?_
  refine gx_sipush (i := 1920) (v := 1920) (n := 476) ⟨by decide +kernel, rfl⟩ (by decide) ?_
  refine kx_newa (atype := .int) (N := 1920) (n := 478) 125 (kcL_len 125 (by decide)) (kcL_s 125 rfl) ⟨by decide +kernel, rfl⟩ rfl rfl nwa_int (by decide) rfl (by decide) (kcR_hi 136 125 (by decide +kernel)) (kcI_hi 8 125 (by decide +kernel)) rfl rfl ?_
  refine gx_putR (n := 481) ⟨by decide +kernel, rfl⟩ kfX12_186 (kcL_at 126 66 rfl) (Or.inr ⟨by decide +kernel, rfl, fun C T N h => by cases h; rfl⟩) rfl (Or.inl (by rw [kcL_len 126 (by decide)]; decide)) ?_
  rw [kcR_s 136 (k := 66) (j := 92) (q := 125) rfl]
  refine gx_aload_n (i := 0) (n := 482) ⟨by decide +kernel, rfl⟩ rfl ?_
  refine gx_sipush (i := 1920) (v := 1920) (n := 485) ⟨by decide +kernel, rfl⟩ (by decide) ?_
  refine kx_newa (atype := .int) (N := 1920) (n := 487) 126 (kcL_len 126 (by decide)) (kcL_s 126 rfl) ⟨by decide +kernel, rfl⟩ rfl rfl nwa_int (by decide) rfl (by decide) (kcR_hi 137 126 (by decide +kernel)) (kcI_hi 8 126 (by decide +kernel)) rfl rfl ?_
  refine gx_putR (n := 490) ⟨by decide +kernel, rfl⟩ kfX12_189 (kcL_at 127 66 rfl) (Or.inr ⟨by decide +kernel, rfl, fun C T N h => by cases h; rfl⟩) rfl (Or.inl (by rw [kcL_len 127 (by decide)]; decide)) ?_
  rw [kcR_s 137 (k := 66) (j := 93) (q := 126) rfl]
  refine gx_aload_n (i := 0) (n := 491) ⟨by decide +kernel, rfl⟩ rfl ?_
  refine gx_sipush (i := 1920) (v := 1920) (n := 494) ⟨by decide +kernel, rfl⟩ (by decide) ?_
  refine kx_newa (atype := .int) (N := 1920) (n := 496) 127 (kcL_len 127 (by decide)) (kcL_s 127 rfl) ⟨by decide +kernel, rfl⟩ rfl rfl nwa_int (by decide) rfl (by decide) (kcR_hi 138 127 (by decide +kernel)) (kcI_hi 8 127 (by decide +kernel)) rfl rfl ?_
  refine gx_putR (n := 499) ⟨by decide +kernel, rfl⟩ kfX12_192 (kcL_at 128 66 rfl) (Or.inr ⟨by decide +kernel, rfl, fun C T N h => by cases h; rfl⟩) rfl (Or.inl (by rw [kcL_len 128 (by decide)]; decide)) ?_
  rw [kcR_s 138 (k := 66) (j := 94) (q := 127) rfl]
  refine gx_aload_n (i := 0) (n := 500) ⟨by decide +kernel, rfl⟩ rfl ?_
  refine gx_sipush (i := 1920) (v := 1920) (n := 503) ⟨by decide +kernel, rfl⟩ (by decide) ?_
  refine kx_newa (atype := .int) (N := 1920) (n := 505) 128 (kcL_len 128 (by decide)) (kcL_s 128 rfl) ⟨by decide +kernel, rfl⟩ rfl rfl nwa_int (by decide) rfl (by decide) (kcR_hi 139 128 (by decide +kernel)) (kcI_hi 8 128 (by decide +kernel)) rfl rfl ?_
  refine gx_putR (n := 508) ⟨by decide +kernel, rfl⟩ kfX12_195 (kcL_at 129 66 rfl) (Or.inr ⟨by decide +kernel, rfl, fun C T N h => by cases h; rfl⟩) rfl (Or.inl (by rw [kcL_len 129 (by decide)]; decide)) ?_
  rw [kcR_s 139 (k := 66) (j := 95) (q := 128) rfl]
  refine gx_aload_n (i := 0) (n := 509) ⟨by decide +kernel, rfl⟩ rfl ?_
  refine gx_bipush (i := 8) (v := 8) (n := 511) ⟨by decide +kernel, rfl⟩ (by decide) ?_
  refine kx_newa (atype := .int) (N := 8) (n := 513) 129 (kcL_len 129 (by decide)) (kcL_s 129 rfl) ⟨by decide +kernel, rfl⟩ rfl rfl nwa_int (by decide) rfl (by decide) (kcR_hi 140 129 (by decide +kernel)) (kcI_hi 8 129 (by decide +kernel)) rfl rfl ?_
  refine gx_putR (n := 516) ⟨by decide +kernel, rfl⟩ kfX12_198 (kcL_at 130 66 rfl) (Or.inr ⟨by decide +kernel, rfl, fun C T N h => by cases h; rfl⟩) rfl (Or.inl (by rw [kcL_len 130 (by decide)]; decide)) ?_
  rw [kcR_s 140 (k := 66) (j := 96) (q := 129) rfl]
  refine gx_aload_n (i := 0) (n := 517) ⟨by decide +kernel, rfl⟩ rfl ?_
  refine gx_iconst (i := 4) (v := 4) (n := 518) ⟨by decide +kernel, rfl⟩ (by decide) ?_
  refine kx_newa (atype := .int) (N := 4) (n := 520) 130 (kcL_len 130 (by decide)) (kcL_s 130 rfl) ⟨by decide +kernel, rfl⟩ rfl rfl nwa_int (by decide) rfl (by decide) (kcR_hi 141 130 (by decide +kernel)) (kcI_hi 8 130 (by decide +kernel)) rfl rfl ?_
  refine gx_putR (n := 523) ⟨by decide +kernel, rfl⟩ kfX12_201 (kcL_at 131 66 rfl) (Or.inr ⟨by decide +kernel, rfl, fun C T N h => by cases h; rfl⟩) rfl (Or.inl (by rw [kcL_len 131 (by decide)]; decide)) ?_
  rw [kcR_s 141 (k := 66) (j := 98) (q := 130) rfl]
  refine gx_aload_n (i := 0) (n := 524) ⟨by decide +kernel, rfl⟩ rfl ?_
  refine gx_bipush (i := 20) (v := 20) (n := 526) ⟨by decide +kernel, rfl⟩ (by decide) ?_
  refine kx_newa (atype := .int) (N := 20) (n := 528) 131 (kcL_len 131 (by decide)) (kcL_s 131 rfl) ⟨by decide +kernel, rfl⟩ rfl rfl nwa_int (by decide) rfl (by decide) (kcR_hi 142 131 (by decide +kernel)) (kcI_hi 8 131 (by decide +kernel)) rfl rfl ?_
  refine gx_putR (n := 531) ⟨by decide +kernel, rfl⟩ kfX12_204 (kcL_at 132 66 rfl) (Or.inr ⟨by decide +kernel, rfl, fun C T N h => by cases h; rfl⟩) rfl (Or.inl (by rw [kcL_len 132 (by decide)]; decide)) ?_
  rw [kcR_s 142 (k := 66) (j := 99) (q := 131) rfl]
  refine gx_iconst (i := 0) (v := 0) (n := 532) ⟨by decide +kernel, rfl⟩ (by decide) ?_
  refine gx_istore_n (i := 1) (n := 533) ⟨by decide +kernel, rfl⟩ (by decide) (fun o ho => by cases ho; exact Or.inr rfl) ?_
  exact co_X12_init_66_l 80 0 rfl
