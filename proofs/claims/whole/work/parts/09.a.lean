/-! ===== constants, words of the shallow programs ===== -/
theorem ki_0 : Int32.ofInt 0 = 0 := by decide
theorem ki_1 : Int32.ofInt 1 = 1 := by decide
theorem kb_10 : (Int8.ofInt 10).toInt32 = 10 := by decide
theorem kb_m2 : (Int8.ofInt (-2)).toInt32 = (-2) := by decide
theorem ki_m1 : Int32.ofInt (-1) = (-1) := by decide
theorem kb_8 : (Int8.ofInt 8).toInt32 = 8 := by decide
theorem ks_10000 : (Int16.ofInt 10000).toInt32 = 10000 := by decide
theorem ks_1000 : (Int16.ofInt 1000).toInt32 = 1000 := by decide
theorem ki_2 : Int32.ofInt 2 = 2 := by decide
theorem kb_80 : (Int8.ofInt 80).toInt32 = 80 := by decide
theorem kb_24 : (Int8.ofInt 24).toInt32 = 24 := by decide
theorem kl_1 : Int64.ofNat 1 = 1 := by decide
theorem kl_0 : Int64.ofNat 0 = 0 := by decide
theorem kb_40 : (Int8.ofInt 40).toInt32 = 40 := by decide
theorem ks_256 : (Int16.ofInt 256).toInt32 = 256 := by decide
theorem kb_100 : (Int8.ofInt 100).toInt32 = 100 := by decide
theorem kb_56 : (Int8.ofInt 56).toInt32 = 56 := by decide
theorem ki_m8 : Int32.ofInt (-8) = (-8) := by decide
theorem kb_32 : (Int8.ofInt 32).toInt32 = 32 := by decide
theorem kb_126 : (Int8.ofInt 126).toInt32 = 126 := by decide
theorem ki_3 : Int32.ofInt 3 = 3 := by decide
theorem kb_97 : (Int8.ofInt 97).toInt32 = 97 := by decide
theorem kb_122 : (Int8.ofInt 122).toInt32 = 122 := by decide
theorem ki_4 : Int32.ofInt 4 = 4 := by decide
theorem kb_48 : (Int8.ofInt 48).toInt32 = 48 := by decide
theorem kb_57 : (Int8.ofInt 57).toInt32 = 57 := by decide
theorem ks_255 : (Int16.ofInt 255).toInt32 = 255 := by decide
theorem kb_16 : (Int8.ofInt 16).toInt32 = 16 := by decide
theorem kb_42 : (Int8.ofInt 42).toInt32 = 42 := by decide
theorem ks_20007 : (Int16.ofInt 20007).toInt32 = 20007 := by decide
theorem kb_43 : (Int8.ofInt 43).toInt32 = 43 := by decide
theorem ks_20006 : (Int16.ofInt 20006).toInt32 = 20006 := by decide
theorem ks_20005 : (Int16.ofInt 20005).toInt32 = 20005 := by decide
theorem kb_45 : (Int8.ofInt 45).toInt32 = 45 := by decide
theorem kb_60 : (Int8.ofInt 60).toInt32 = 60 := by decide
theorem ks_20004 : (Int16.ofInt 20004).toInt32 = 20004 := by decide
theorem ks_20003 : (Int16.ofInt 20003).toInt32 = 20003 := by decide
theorem kb_61 : (Int8.ofInt 61).toInt32 = 61 := by decide
theorem ks_20002 : (Int16.ofInt 20002).toInt32 = 20002 := by decide
theorem ks_20001 : (Int16.ofInt 20001).toInt32 = 20001 := by decide
theorem ki_5 : Int32.ofInt 5 = 5 := by decide
theorem ks_20000 : (Int16.ofInt 20000).toInt32 = 20000 := by decide
theorem kb_41 : (Int8.ofInt 41).toInt32 = 41 := by decide
theorem kb_59 : (Int8.ofInt 59).toInt32 = 59 := by decide
theorem kb_20 : (Int8.ofInt 20).toInt32 = 20 := by decide
theorem ks_999 : (Int16.ofInt 999).toInt32 = 999 := by decide
theorem kb_9 : (Int8.ofInt 9).toInt32 = 9 := by decide
theorem kb_7 : (Int8.ofInt 7).toInt32 = 7 := by decide
theorem kb_12 : (Int8.ofInt 12).toInt32 = 12 := by decide
theorem kb_6 : (Int8.ofInt 6).toInt32 = 6 := by decide
theorem kb_21 : (Int8.ofInt 21).toInt32 = 21 := by decide
theorem kb_63 : (Int8.ofInt 63).toInt32 = 63 := by decide
theorem kb_13 : (Int8.ofInt 13).toInt32 = 13 := by decide
theorem kb_14 : (Int8.ofInt 14).toInt32 = 14 := by decide
theorem kb_15 : (Int8.ofInt 15).toInt32 = 15 := by decide
theorem kb_127 : (Int8.ofInt 127).toInt32 = 127 := by decide
theorem kb_17 : (Int8.ofInt 17).toInt32 = 17 := by decide
theorem kb_11 : (Int8.ofInt 11).toInt32 = 11 := by decide
theorem ks_1023 : (Int16.ofInt 1023).toInt32 = 1023 := by decide
theorem ks_1024 : (Int16.ofInt 1024).toInt32 = 1024 := by decide
theorem kb_18 : (Int8.ofInt 18).toInt32 = 18 := by decide
theorem ks_200 : (Int16.ofInt 200).toInt32 = 200 := by decide
theorem kb_36 : (Int8.ofInt 36).toInt32 = 36 := by decide
theorem ks_4096 : (Int16.ofInt 4096).toInt32 = 4096 := by decide
theorem ks_4095 : (Int16.ofInt 4095).toInt32 = 4095 := by decide
theorem ks_680 : (Int16.ofInt 680).toInt32 = 680 := by decide
theorem ks_691 : (Int16.ofInt 691).toInt32 = 691 := by decide
theorem ks_696 : (Int16.ofInt 696).toInt32 = 696 := by decide
theorem ks_9999 : (Int16.ofInt 9999).toInt32 = 9999 := by decide
theorem kb_23 : (Int8.ofInt 23).toInt32 = 23 := by decide
theorem kb_99 : (Int8.ofInt 99).toInt32 = 99 := by decide
theorem kb_19 : (Int8.ofInt 19).toInt32 = 19 := by decide
theorem kb_22 : (Int8.ofInt 22).toInt32 = 22 := by decide
theorem kb_27 : (Int8.ofInt 27).toInt32 = 27 := by decide
theorem kb_26 : (Int8.ofInt 26).toInt32 = 26 := by decide
theorem kb_29 : (Int8.ofInt 29).toInt32 = 29 := by decide
theorem kb_25 : (Int8.ofInt 25).toInt32 = 25 := by decide
theorem kb_28 : (Int8.ofInt 28).toInt32 = 28 := by decide
theorem kb_30 : (Int8.ofInt 30).toInt32 = 30 := by decide
theorem lc_eq (a b : Int64) : lg_cmp a b = 0 ↔ a = b := by
  unfold lg_cmp
  by_cases h : a > b
  · rw [if_pos h]
    exact ⟨fun e => absurd e (by decide), fun e => by subst e; exact absurd h Int64.lt_irrefl⟩
  · rw [if_neg h]
    by_cases h2 : a = b
    · rw [if_pos h2]; exact ⟨fun _ => h2, fun _ => rfl⟩
    · rw [if_neg h2]
      exact ⟨fun e => absurd e (by decide), fun e => absurd e h2⟩
theorem lc_lt (a b : Int64) : lg_cmp a b < 0 ↔ a < b := lg_cmp_lt a b
theorem lc_ge (a b : Int64) : 0 ≤ lg_cmp a b ↔ b ≤ a := lg_cmp_ge a b
theorem lc_gt (a b : Int64) : 0 < lg_cmp a b ↔ b < a := lg_cmp_gt a b
theorem lc_le (a b : Int64) : lg_cmp a b ≤ 0 ↔ a ≤ b := lg_cmp_le a b
theorem bI_01 (b : Bool) : bI b = 0 ∨ bI b = 1 := by cases b <;> decide
theorem bI_vn (b : Bool) : vp_nar .boolean (bI b) = bI b := by cases b <;> rfl
theorem b01_R {Q : mz_P} {M : dM} {x : Int32} (h : x = 0 ∨ x = 1) (hk : mR Q (some (.int (bI (decide (x = 1))))) M) : mR Q (some (.int x)) M := by
  rcases h with rfl | rfl
  · exact hk
  · exact hk
theorem sw_lo {a c : Int32} {lo : Int} (h : a = c) (hd : ¬ c.toInt < lo) : ¬ a.toInt < lo := by rw [h]; exact hd
theorem sw_hi {a c : Int32} {hi : Int} (h : a = c) (hd : ¬ hi < c.toInt) : ¬ hi < a.toInt := by rw [h]; exact hd
theorem sw_at {a c : Int32} {lo off : Int} {offs : Array Int} (h : a = c) (hd : offs[(c.toInt - lo).toNat]? = some off) : offs[(a.toInt - lo).toNat]? = some off := by rw [h]; exact hd
def neqs (a : Int32) : List Int32 → Prop
  | [] => True
  | c :: cs => ¬ a = c ∧ neqs a cs
theorem neqs_mem {a c : Int32} : ∀ {cs : List Int32}, neqs a cs → c ∈ cs → ¬ a = c
  | c' :: cs, h, hm => by
    rcases List.mem_cons.mp hm with e | e
    · rw [e]; exact h.1
    · exact neqs_mem h.2 e
theorem sw_out {a : Int32} {lo hi : Int} {cs : List Int32} (h1 : cs.map (fun c => c.toInt) = (List.range cs.length).map (fun (i : Nat) => lo + (i : Int))) (h2 : lo + (cs.length : Int) = hi + 1) (h : neqs a cs) : a.toInt < lo ∨ hi < a.toInt := by
  by_cases g1 : a.toInt < lo
  · exact Or.inl g1
  by_cases g2 : hi < a.toInt
  · exact Or.inr g2
  exfalso
  have hm : a.toInt ∈ (List.range cs.length).map (fun (i : Nat) => lo + (i : Int)) := by
    refine List.mem_map.mpr ⟨(a.toInt - lo).toNat, List.mem_range.mpr (by omega), by omega⟩
  rw [← h1] at hm
  obtain ⟨c, hc, e⟩ := List.mem_map.mp hm
  exact neqs_mem h hc (Int32.toInt_inj.mp e.symm)
theorem rv_s (n s : Nat) : mz_rv n (.ref (1000000 + s)) = true := by
  show (Nat.ble (1000000 + s + 1) n || Nat.ble 1000000 (1000000 + s)) = true
  rw [Nat.ble_eq_true_of_le (Nat.le_add_right 1000000 s), Bool.or_true]
theorem rv_v (n s : Nat) : mz_rv n (.ref (2000000 + s)) = true := by
  show (Nat.ble (2000000 + s + 1) n || Nat.ble 1000000 (2000000 + s)) = true
  rw [Nat.ble_eq_true_of_le (by omega : 1000000 ≤ 2000000 + s), Bool.or_true]
theorem ro_s (n s : Nat) : mz_ro n (some (.ref (1000000 + s))) = true := rv_s n s
theorem ro_v (n s : Nat) : mz_ro n (some (.ref (2000000 + s))) = true := rv_v n s
theorem rL_c {n : Nat} {o : Option Value} {L : List (Option Value)} (h : mz_ro n o = true) (hL : mz_rL n L = true) : mz_rL n (o :: L) = true := by
  show (mz_ro n o && L.all (mz_ro n)) = true
  rw [h, Bool.true_and]
  exact hL
theorem rS_c {n : Nat} {o : Value} {L : List Value} (h : mz_rv n o = true) (hL : mz_rS n L = true) : mz_rS n (o :: L) = true := by
  show (mz_rv n o && L.all (mz_rv n)) = true
  rw [h, Bool.true_and]
  exact hL
noncomputable def jd_checkIndex (i n : Int32) : Option Unit := gd (¬ i < 0 ∧ i < n) (some ())
theorem ok_pre_checkIndex {a b : Int32} {v : Value} {M : dM} (hv : v = .null ∨ v = .ref 3000000) (h : ¬ a < 0 ∧ a < b) : mO mJ3_checkIndex_8e157 1 [.int a, .int b, v] M (some (.int a)) M := by
  rcases hv with rfl | rfl <;>
  · refine y_ok (by decide +kernel) (Nat.le_of_ble_eq_true rfl) rfl ?_
    have hk := mR_mQ (some (.int a)) M
    refine y_iload_n (i := 0) (n := 1) ⟨dJ3_checkIndex_8e157_0, rfl⟩ rfl ?_
    refine y_if_lt (t := 9) (n := 4) ⟨dJ3_checkIndex_8e157_1, rfl, rfl⟩ (fun hc => absurd hc h.1) (fun _ => ?_)
    refine y_iload_n (i := 0) (n := 5) ⟨dJ3_checkIndex_8e157_4, rfl⟩ rfl ?_
    refine y_iload_n (i := 1) (n := 6) ⟨dJ3_checkIndex_8e157_5, rfl⟩ rfl ?_
    refine y_icmp_lt (t := 16) (n := 9) ⟨dJ3_checkIndex_8e157_6, rfl, rfl⟩ (fun _ => ?_) (fun hc => absurd h.2 hc)
    refine y_iload_n (i := 0) (n := 17) ⟨dJ3_checkIndex_8e157_16, rfl⟩ rfl ?_
    exact y_ireturn (n := 18) ⟨dJ3_checkIndex_8e157_17, rfl⟩ rfl rfl hk
theorem ok_jd_checkIndex {a b : Int32} {M : dM} (h : ¬ a < 0 ∧ a < b) : mO mJ0_checkIndex_df160 2 [.int a, .int b] M none M := by
  refine y_ok (by decide +kernel) (Nat.le_of_ble_eq_true rfl) rfl ?_
  have hk := mR_mQ none M
  refine y_iload_n (i := 0) (n := 1) ⟨dJ0_checkIndex_df160_0, rfl⟩ rfl ?_
  refine y_iload_n (i := 1) (n := 2) ⟨dJ0_checkIndex_df160_1, rfl⟩ rfl ?_
  refine y_FM (n := 5) ⟨dJ0_checkIndex_df160_2, rfl⟩ (mz_in 788 (by decide +kernel) (by decide +kernel)) ?_ ?_
  · refine y_callS (n := 8) (d' := 1) (r := some (.int a)) (M' := M) kmJ3_checkIndex_8e157 ksJ3_checkIndex_8e157 ⟨dJ0_checkIndex_df160_5, rfl⟩ klJ0_1059 (ok_pre_checkIndex (Or.inl rfl) h) (vs := [.int a, .int b, .null]) rfl rfl (by decide) (Nat.le_of_ble_eq_true rfl) rfl rfl ?_
    refine y_pop_i (n := 9) ⟨dJ0_checkIndex_df160_8, rfl⟩ ?_
    exact y_return (n := 10) ⟨dJ0_checkIndex_df160_9, rfl⟩ rfl hk
  · refine y_callS (n := 8) (d' := 1) (r := some (.int a)) (M' := M) kmJ3_checkIndex_8e157 ksJ3_checkIndex_8e157 ⟨dJ0_checkIndex_df160_5, rfl⟩ klJ0_1059 (ok_pre_checkIndex (Or.inr rfl) h) (vs := [.int a, .int b, .ref 3000000]) rfl rfl (by decide) (Nat.le_of_ble_eq_true rfl) rfl rfl ?_
    refine y_pop_i (n := 9) ⟨dJ0_checkIndex_df160_8, rfl⟩ ?_
    exact y_return (n := 10) ⟨dJ0_checkIndex_df160_9, rfl⟩ rfl hk
theorem c_jd_checkIndex {a b : Int32} {M : dM} {o : Unit} {y : mz_M} {d : Nat} {Q : mz_P} {pc n i : Nat} {L : List (Option Value)} {st : List Value} (h : mz_d y.2.1 pc n 3 (.invokestatic i)) (hl : mz_ml y.1.cls i yJ0_checkIndex_df160) (hf : jd_checkIndex a b = some o) (hd : 2 + 1 ≤ d) (hsm : (st.map (fun v => v.category)).sum ≤ 8) (hLr : mz_rL 133 L = true) (hSr : mz_rS 133 st = true) (kk : mW y d Q n L st M) : mW y d Q pc L (.int b :: .int a :: st) M :=
  y_callS kmJ0_checkIndex_df160 ksJ0_checkIndex_df160 h hl (ok_jd_checkIndex (g_s hf).1) (vs := [.int a, .int b]) rfl rfl hd hsm hLr hSr kk
theorem kcmax : Cond.code Lib.Math.max.name Lib.Math.max.code 2 (some .int) ∈ mz_gt := mz_in 763 (by decide +kernel) (by decide +kernel)
theorem ksmax : Cond.static Lib.Math.max.name ∈ mz_gt := mz_in 762 (by decide +kernel) (by decide +kernel)
theorem kcmin : Cond.code Lib.Math.min.name Lib.Math.min.code 2 (some .int) ∈ mz_gt := mz_in 766 (by decide +kernel) (by decide +kernel)
theorem ksmin : Cond.static Lib.Math.min.name ∈ mz_gt := mz_in 765 (by decide +kernel) (by decide +kernel)
theorem kiMath : Cond.initialized "java/lang/Math" ∈ mz_gt := mz_in 121 (by decide +kernel) (by decide +kernel)
theorem kcopyN : Cond.native arraycopyName ∈ mz_gt := mz_in 936 (by decide +kernel) (by decide +kernel)
theorem kcopyS : Cond.static arraycopyName ∈ mz_gt := mz_in 935 (by decide +kernel) (by decide +kernel)
theorem kcopyI : Cond.initialized "java/lang/System" ∈ mz_gt := mz_in 125 (by decide +kernel) (by decide +kernel)
