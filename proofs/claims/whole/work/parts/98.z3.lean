/-! ===== fact and parted of the law: both cases ===== -/
theorem gw_callV {P : gz_C} {y : mz_M} {d mc ms : Nat} {Q : mz_P} {pc n k i ci : Nat} {L : List (Option Value)} {st : List Value} {M : dM} {y' : mz_M} {d' np : Nat} {vs st0 : List Value} {r : Option Value} {M' : dM} (hm : mz_mk y' np) (hv : mz_vi y') (hk : LL[k]? = some (.inr ci)) (hci : mz_cn ci = y'.1.cls) (hne : y'.1.cls ≠ "") (h : mz_d y.2.1 pc n 3 (.invokevirtual i)) (hl : mz_ml y.1.cls i y'.1) (hok : mO y' d' (.ref k :: vs) M r M') (hst : st0 = vs.reverse ++ .ref k :: st) (hnp : vs.length = np) (hd' : d' + 1 ≤ d) (hsm : (st.map (fun v => v.category)).sum ≤ 8) (hLr : mz_rL 133 L = true) (hSr : mz_rS 133 st = true) (kk : gz_wp P y d mc ms Q n L (r.toList ++ st) LL (RR M'.2.2) M'.1 M'.2.1) : gz_wp P y d mc ms Q pc L st0 LL (RR M.2.2) M.1 M.2.1 := by
  have := gx_callV (P := P) (mc := mc) (ms := ms) (mc1 := 0) (ms1 := 0) h hm hl hv hk hci hne hok hst hnp hd' hsm (by rw [LL_len]; exact hLr) (by rw [LL_len]; exact hSr) (by
    rintro r' Λ' R' I' J' ⟨rfl, rfl, rfl, rfl, rfl⟩
    exact kk)
  rw [Nat.zero_add, Nat.zero_add] at this
  exact this
abbrev mL_fact : mz_M := (yL_fact, cL_fact, 5, (some .int))
abbrev mL_parted : mz_M := (yL_parted, cL_parted, 5, (some .int))
theorem ezlF_good (a1 a2 b : Int32) (M M1 : dM) (hf : f_ax_fact a1 a2 M = some (b, M1)) : ezO mL_fact 10 [.ref 0, .int a1, .int a2, .ref 132] M (some (.int 0)) (sJ M1 132 0 b.toInt64) := by
  refine ez_ok (by decide +kernel) (Nat.le_of_ble_eq_true rfl) (L0 := [some (.ref 0), some (.int a1), some (.int a2), some (.ref 132), none]) rfl ?_
  refine gx_aload_n (i := 3) (n := 1) ⟨by decide +kernel, rfl⟩ rfl ?_
  refine gx_iconst (n := 2) (v := 0) ⟨by decide +kernel, rfl⟩ ki_0 ?_
  refine gx_aload_n (i := 0) (n := 3) ⟨by decide +kernel, rfl⟩ rfl ?_
  refine gx_iload_n (i := 1) (n := 4) ⟨by decide +kernel, rfl⟩ rfl ?_
  refine gx_iload_n (i := 2) (n := 5) ⟨by decide +kernel, rfl⟩ rfl ?_
  refine gw_callV kmX11_fact kvX11_fact l_0 (by decide +kernel) (by decide +kernel) (n := 8) ⟨by decide +kernel, rfl⟩ klL_7 (ok_ax_fact a1 a2 M hf) (vs := [.int a1, .int a2]) rfl rfl (Nat.le_of_ble_eq_true rfl) (by decide) rfl rfl ?_
  refine gx_i2l (n := 9) ⟨by decide +kernel, rfl⟩ ?_
  refine gx_lastore (N := 1) (n := 10) ⟨by decide +kernel, rfl⟩ l_132 (of_eq_true (z_in (n := 0) (by decide) (by decide))) ?_
  refine gx_goto (off := 7) (t := 17) (n := 13) ⟨by decide +kernel, rfl, rfl⟩ ?_
  refine gx_iconst (n := 18) (v := 0) ⟨by decide +kernel, rfl⟩ ki_0 ?_
  exact gx_ireturn (n := 19) ⟨by decide +kernel, rfl⟩ rfl rfl ⟨rfl, rfl, rfl, rfl, rfl⟩
theorem ezlF_bad (a1 a2 : Int32) (M : dM) (h : ¬ (f_ax_within a1 (gI M 12 7) = true ∧ f_ax_within a2 20 = true)) : ezO mL_fact 10 [.ref 0, .int a1, .int a2, .ref 132] M (some (.int 1)) M := by
  refine ez_ok (by decide +kernel) (Nat.le_of_ble_eq_true rfl) (L0 := [some (.ref 0), some (.int a1), some (.int a2), some (.ref 132), none]) rfl ?_
  refine gx_aload_n (i := 3) (n := 1) ⟨by decide +kernel, rfl⟩ rfl ?_
  refine gx_iconst (n := 2) (v := 0) ⟨by decide +kernel, rfl⟩ ki_0 ?_
  refine gx_aload_n (i := 0) (n := 3) ⟨by decide +kernel, rfl⟩ rfl ?_
  refine gx_iload_n (i := 1) (n := 4) ⟨by decide +kernel, rfl⟩ rfl ?_
  refine gx_iload_n (i := 2) (n := 5) ⟨by decide +kernel, rfl⟩ rfl ?_
  refine ez_callX (i := 7) rfl (by decide +kernel) kmX11_fact (mz_in 1415 (by decide +kernel) (by decide +kernel)) kvX11_fact l_0 (by decide +kernel) (by decide +kernel) (ez_bad (by decide +kernel) (Nat.le_of_ble_eq_true rfl) rfl (ez_fact a1 a2 M h)) (vs := [.int a1, .int a2]) rfl rfl (Nat.le_of_ble_eq_true rfl) (by decide) rfl (by decide +kernel) (Nat.le_of_ble_eq_true rfl) (fun o ho => by cases ho; exact Or.inr rfl) ?_
  refine gx_iconst (n := 16) (v := 1) ⟨by decide +kernel, rfl⟩ ki_1 ?_
  exact gx_ireturn (n := 17) ⟨by decide +kernel, rfl⟩ rfl rfl ⟨rfl, rfl, rfl, rfl, rfl⟩
theorem ezlP_good (a1 a2 b : Int32) (M M1 : dM) (hf : f_ax_parted a1 a2 M = some (b, M1)) : ezO mL_parted 10 [.ref 0, .int a1, .int a2, .ref 132] M (some (.int 0)) (sJ M1 132 0 b.toInt64) := by
  refine ez_ok (by decide +kernel) (Nat.le_of_ble_eq_true rfl) (L0 := [some (.ref 0), some (.int a1), some (.int a2), some (.ref 132), none]) rfl ?_
  refine gx_aload_n (i := 3) (n := 1) ⟨by decide +kernel, rfl⟩ rfl ?_
  refine gx_iconst (n := 2) (v := 0) ⟨by decide +kernel, rfl⟩ ki_0 ?_
  refine gx_aload_n (i := 0) (n := 3) ⟨by decide +kernel, rfl⟩ rfl ?_
  refine gx_iload_n (i := 1) (n := 4) ⟨by decide +kernel, rfl⟩ rfl ?_
  refine gx_iload_n (i := 2) (n := 5) ⟨by decide +kernel, rfl⟩ rfl ?_
  refine gw_callV kmX11_parted kvX11_parted l_0 (by decide +kernel) (by decide +kernel) (n := 8) ⟨by decide +kernel, rfl⟩ klL_15 (ok_ax_parted a1 a2 M hf) (vs := [.int a1, .int a2]) rfl rfl (Nat.le_of_ble_eq_true rfl) (by decide) rfl rfl ?_
  refine gx_i2l (n := 9) ⟨by decide +kernel, rfl⟩ ?_
  refine gx_lastore (N := 1) (n := 10) ⟨by decide +kernel, rfl⟩ l_132 (of_eq_true (z_in (n := 0) (by decide) (by decide))) ?_
  refine gx_goto (off := 7) (t := 17) (n := 13) ⟨by decide +kernel, rfl, rfl⟩ ?_
  refine gx_iconst (n := 18) (v := 0) ⟨by decide +kernel, rfl⟩ ki_0 ?_
  exact gx_ireturn (n := 19) ⟨by decide +kernel, rfl⟩ rfl rfl ⟨rfl, rfl, rfl, rfl, rfl⟩
theorem ezlP_bad (a1 a2 : Int32) (M : dM) (h : ¬ (f_mo_within a1 1 20 = true ∧ f_ax_within a2 2 = true)) : ezO mL_parted 10 [.ref 0, .int a1, .int a2, .ref 132] M (some (.int 1)) M := by
  refine ez_ok (by decide +kernel) (Nat.le_of_ble_eq_true rfl) (L0 := [some (.ref 0), some (.int a1), some (.int a2), some (.ref 132), none]) rfl ?_
  refine gx_aload_n (i := 3) (n := 1) ⟨by decide +kernel, rfl⟩ rfl ?_
  refine gx_iconst (n := 2) (v := 0) ⟨by decide +kernel, rfl⟩ ki_0 ?_
  refine gx_aload_n (i := 0) (n := 3) ⟨by decide +kernel, rfl⟩ rfl ?_
  refine gx_iload_n (i := 1) (n := 4) ⟨by decide +kernel, rfl⟩ rfl ?_
  refine gx_iload_n (i := 2) (n := 5) ⟨by decide +kernel, rfl⟩ rfl ?_
  refine ez_callX (i := 15) rfl (by decide +kernel) kmX11_parted (mz_in 1487 (by decide +kernel) (by decide +kernel)) kvX11_parted l_0 (by decide +kernel) (by decide +kernel) (ez_bad (by decide +kernel) (Nat.le_of_ble_eq_true rfl) rfl (ez_parted a1 a2 M h)) (vs := [.int a1, .int a2]) rfl rfl (Nat.le_of_ble_eq_true rfl) (by decide) rfl (by decide +kernel) (Nat.le_of_ble_eq_true rfl) (fun o ho => by cases ho; exact Or.inr rfl) ?_
  refine gx_iconst (n := 16) (v := 1) ⟨by decide +kernel, rfl⟩ ki_1 ?_
  exact gx_ireturn (n := 17) ⟨by decide +kernel, rfl⟩ rfl rfl ⟨rfl, rfl, rfl, rfl, rfl⟩
