/-! ===== the law: its start ===== -/
set_option maxRecDepth 100000 in
set_option maxHeartbeats 2000000 in
theorem law_start {b0 Ls : Nat} {xs : Nat → Int32} {d : Nat} (hL : Ls ≤ 4096) (hd : 100 ≤ d) : gz_wp (lawP ezE b0 Ls xs) lawY d 645 30009 lawQ 0 [some (.ref 4000000), none, none, none, none, none, none] [] (kcL 0) (kcR 0) (kcI 0) kcJ := by
  obtain ⟨m, hm1, hm2⟩ : ∃ m, 8 * m ≤ Ls ∧ Ls < 8 * m + 8 := ⟨Ls / 8, by omega, by omega⟩
  refine gx_less (mc := 65 + ((65 + (m + 1)) + 1) + 1) (ms := 8689 + ((18136 + (6 * m + 1)) + 100) + 11) (by omega) (by omega) ?_
  refine kx_new (i := 8) (ci := 10) (N := 11) (n := 3) 0 (kcL_len 0 (by decide)) (kcL_s 0 rfl) ⟨by decide +kernel, rfl⟩ ck11 (mz_in 133 (by decide +kernel) (by decide +kernel)) (mz_in 134 (by decide +kernel) (by decide +kernel)) (mz_in 106 (by decide +kernel) (by decide +kernel)) (by decide) (kcR_hi 0 0 (by decide +kernel)) (kcI_hi 0 0 (by decide +kernel)) rfl rfl ?_
  refine gx_dup_r (n := 4) ⟨by decide +kernel, rfl⟩ ?_
  refine gx_callI (mc1 := 65) (ms1 := 8689) (d' := 3) (k := 0) (vs := []) (n := 7) ⟨by decide +kernel, rfl⟩ kmX11_init klL_18 kiX11_init rfl rfl co_X11_init_0 rfl rfl (by omega) (by decide) (by rw [kcL_len 1 (by decide)]; decide) (by rw [kcL_len 1 (by decide)]; decide) ?_
  rintro r Λ' R' I' J' ⟨rfl, rfl, rfl, rfl, rfl⟩
  refine gx_astore_n (i := 1) (n := 8) ⟨by decide +kernel, rfl⟩ (Nat.le_of_ble_eq_true rfl) (fun o ho => by cases ho; exact Or.inr rfl) ?_
  refine kx_new (i := 19) (ci := 11) (N := 100) (n := 11) 66 (kcL_len 66 (by decide)) (kcL_s 66 rfl) ⟨by decide +kernel, rfl⟩ ck12 (mz_in 1492 (by decide +kernel) (by decide +kernel)) (mz_in 1493 (by decide +kernel) (by decide +kernel)) (mz_in 117 (by decide +kernel) (by decide +kernel)) (by decide +kernel) (kcR_hi 78 66 (by decide +kernel)) (kcI_hi 8 66 (by decide +kernel)) rfl rfl ?_
  refine gx_dup_r (n := 12) ⟨by decide +kernel, rfl⟩ ?_
  refine gx_callI (mc1 := 65) (ms1 := 18136) (d' := 1) (k := 66) (vs := []) (n := 15) ⟨by decide +kernel, rfl⟩ kmX12_init klL_21 kiX12_init rfl rfl co_X12_init_66 rfl rfl (by omega) (by decide) (by rw [kcL_len 67 (by decide)]; decide) (by rw [kcL_len 67 (by decide)]; decide) ?_
  rintro r Λ' R' I' J' ⟨rfl, rfl, rfl, rfl, rfl⟩
  refine gx_astore_n (i := 2) (n := 16) ⟨by decide +kernel, rfl⟩ (Nat.le_of_ble_eq_true rfl) (fun o ho => by cases ho; exact Or.inr rfl) ?_
  refine gx_iconst (i := 1) (v := 1) (n := 17) ⟨by decide +kernel, rfl⟩ (by decide) ?_
  refine kx_newa (atype := .long) (N := 1) (n := 19) 132 (kcL_len 132 (by decide)) (kcL_s 132 rfl) ⟨by decide +kernel, rfl⟩ rfl rfl (mz_in 430 (by decide +kernel) (by decide +kernel)) (by decide) rfl (by decide) (kcR_hi 143 132 (by decide +kernel)) (kcI_hi 90 132 (by decide +kernel)) rfl rfl ?_
  refine gx_astore_n (i := 3) (n := 20) ⟨by decide +kernel, rfl⟩ (Nat.le_of_ble_eq_true rfl) (fun o ho => by cases ho; exact Or.inr rfl) ?_
  refine gx_iconst (i := 0) (v := nI (8 * 0)) (n := 21) ⟨by decide +kernel, rfl⟩ (by decide) ?_
  refine gx_istore (i := 4) (n := 23) ⟨by decide +kernel, rfl⟩ (Nat.le_of_ble_eq_true rfl) (fun o ho => by cases ho; exact Or.inr rfl) ?_
  rw [kcL_fin, kcR_fin]
  exact law_loop hL hd m 0 iA0 iQ0 iv0 iM0 (by omega) (by omega) inv0
