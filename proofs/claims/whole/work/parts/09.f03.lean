noncomputable def f_la_takeOver (M : dM) : Option dM :=
  gd ((¬ (0 : Int32) < 0 ∧ ¬ (0 : Int32) < 0 ∧ ¬ (gI M 34 1) < 0) ∧ (0 : Int32).toNatClampNeg + (gI M 34 1).toNatClampNeg ≤ 1000 ∧ (0 : Int32).toNatClampNeg + (gI M 34 1).toNatClampNeg ≤ 1000) <|
  gd ((¬ (0 : Int32) < 0 ∧ ¬ (0 : Int32) < 0 ∧ ¬ (21 : Int32) < 0) ∧ (0 : Int32).toNatClampNeg + (21 : Int32).toNatClampNeg ≤ 21 ∧ (0 : Int32).toNatClampNeg + (21 : Int32).toNatClampNeg ≤ 21) <|
  some (sI (sI (sI (sI (sI (cI (cI (cI M 35 28 (0 : Int32).toNatClampNeg (0 : Int32).toNatClampNeg (gI M 34 1).toNatClampNeg) 36 29 (0 : Int32).toNatClampNeg (0 : Int32).toNatClampNeg (21 : Int32).toNatClampNeg) 37 30 (0 : Int32).toNatClampNeg (0 : Int32).toNatClampNeg (21 : Int32).toNatClampNeg) 27 1 (gI (cI (cI (cI M 35 28 (0 : Int32).toNatClampNeg (0 : Int32).toNatClampNeg (gI M 34 1).toNatClampNeg) 36 29 (0 : Int32).toNatClampNeg (0 : Int32).toNatClampNeg (21 : Int32).toNatClampNeg) 37 30 (0 : Int32).toNatClampNeg (0 : Int32).toNatClampNeg (21 : Int32).toNatClampNeg) 34 1)) 27 4 (gI (sI (cI (cI (cI M 35 28 (0 : Int32).toNatClampNeg (0 : Int32).toNatClampNeg (gI M 34 1).toNatClampNeg) 36 29 (0 : Int32).toNatClampNeg (0 : Int32).toNatClampNeg (21 : Int32).toNatClampNeg) 37 30 (0 : Int32).toNatClampNeg (0 : Int32).toNatClampNeg (21 : Int32).toNatClampNeg) 27 1 (gI (cI (cI (cI M 35 28 (0 : Int32).toNatClampNeg (0 : Int32).toNatClampNeg (gI M 34 1).toNatClampNeg) 36 29 (0 : Int32).toNatClampNeg (0 : Int32).toNatClampNeg (21 : Int32).toNatClampNeg) 37 30 (0 : Int32).toNatClampNeg (0 : Int32).toNatClampNeg (21 : Int32).toNatClampNeg) 34 1)) 34 4)) 27 5 (gI (sI (sI (cI (cI (cI M 35 28 (0 : Int32).toNatClampNeg (0 : Int32).toNatClampNeg (gI M 34 1).toNatClampNeg) 36 29 (0 : Int32).toNatClampNeg (0 : Int32).toNatClampNeg (21 : Int32).toNatClampNeg) 37 30 (0 : Int32).toNatClampNeg (0 : Int32).toNatClampNeg (21 : Int32).toNatClampNeg) 27 1 (gI (cI (cI (cI M 35 28 (0 : Int32).toNatClampNeg (0 : Int32).toNatClampNeg (gI M 34 1).toNatClampNeg) 36 29 (0 : Int32).toNatClampNeg (0 : Int32).toNatClampNeg (21 : Int32).toNatClampNeg) 37 30 (0 : Int32).toNatClampNeg (0 : Int32).toNatClampNeg (21 : Int32).toNatClampNeg) 34 1)) 27 4 (gI (sI (cI (cI (cI M 35 28 (0 : Int32).toNatClampNeg (0 : Int32).toNatClampNeg (gI M 34 1).toNatClampNeg) 36 29 (0 : Int32).toNatClampNeg (0 : Int32).toNatClampNeg (21 : Int32).toNatClampNeg) 37 30 (0 : Int32).toNatClampNeg (0 : Int32).toNatClampNeg (21 : Int32).toNatClampNeg) 27 1 (gI (cI (cI (cI M 35 28 (0 : Int32).toNatClampNeg (0 : Int32).toNatClampNeg (gI M 34 1).toNatClampNeg) 36 29 (0 : Int32).toNatClampNeg (0 : Int32).toNatClampNeg (21 : Int32).toNatClampNeg) 37 30 (0 : Int32).toNatClampNeg (0 : Int32).toNatClampNeg (21 : Int32).toNatClampNeg) 34 1)) 34 4)) 34 5)) 27 6 (gI (sI (sI (sI (cI (cI (cI M 35 28 (0 : Int32).toNatClampNeg (0 : Int32).toNatClampNeg (gI M 34 1).toNatClampNeg) 36 29 (0 : Int32).toNatClampNeg (0 : Int32).toNatClampNeg (21 : Int32).toNatClampNeg) 37 30 (0 : Int32).toNatClampNeg (0 : Int32).toNatClampNeg (21 : Int32).toNatClampNeg) 27 1 (gI (cI (cI (cI M 35 28 (0 : Int32).toNatClampNeg (0 : Int32).toNatClampNeg (gI M 34 1).toNatClampNeg) 36 29 (0 : Int32).toNatClampNeg (0 : Int32).toNatClampNeg (21 : Int32).toNatClampNeg) 37 30 (0 : Int32).toNatClampNeg (0 : Int32).toNatClampNeg (21 : Int32).toNatClampNeg) 34 1)) 27 4 (gI (sI (cI (cI (cI M 35 28 (0 : Int32).toNatClampNeg (0 : Int32).toNatClampNeg (gI M 34 1).toNatClampNeg) 36 29 (0 : Int32).toNatClampNeg (0 : Int32).toNatClampNeg (21 : Int32).toNatClampNeg) 37 30 (0 : Int32).toNatClampNeg (0 : Int32).toNatClampNeg (21 : Int32).toNatClampNeg) 27 1 (gI (cI (cI (cI M 35 28 (0 : Int32).toNatClampNeg (0 : Int32).toNatClampNeg (gI M 34 1).toNatClampNeg) 36 29 (0 : Int32).toNatClampNeg (0 : Int32).toNatClampNeg (21 : Int32).toNatClampNeg) 37 30 (0 : Int32).toNatClampNeg (0 : Int32).toNatClampNeg (21 : Int32).toNatClampNeg) 34 1)) 34 4)) 27 5 (gI (sI (sI (cI (cI (cI M 35 28 (0 : Int32).toNatClampNeg (0 : Int32).toNatClampNeg (gI M 34 1).toNatClampNeg) 36 29 (0 : Int32).toNatClampNeg (0 : Int32).toNatClampNeg (21 : Int32).toNatClampNeg) 37 30 (0 : Int32).toNatClampNeg (0 : Int32).toNatClampNeg (21 : Int32).toNatClampNeg) 27 1 (gI (cI (cI (cI M 35 28 (0 : Int32).toNatClampNeg (0 : Int32).toNatClampNeg (gI M 34 1).toNatClampNeg) 36 29 (0 : Int32).toNatClampNeg (0 : Int32).toNatClampNeg (21 : Int32).toNatClampNeg) 37 30 (0 : Int32).toNatClampNeg (0 : Int32).toNatClampNeg (21 : Int32).toNatClampNeg) 34 1)) 27 4 (gI (sI (cI (cI (cI M 35 28 (0 : Int32).toNatClampNeg (0 : Int32).toNatClampNeg (gI M 34 1).toNatClampNeg) 36 29 (0 : Int32).toNatClampNeg (0 : Int32).toNatClampNeg (21 : Int32).toNatClampNeg) 37 30 (0 : Int32).toNatClampNeg (0 : Int32).toNatClampNeg (21 : Int32).toNatClampNeg) 27 1 (gI (cI (cI (cI M 35 28 (0 : Int32).toNatClampNeg (0 : Int32).toNatClampNeg (gI M 34 1).toNatClampNeg) 36 29 (0 : Int32).toNatClampNeg (0 : Int32).toNatClampNeg (21 : Int32).toNatClampNeg) 37 30 (0 : Int32).toNatClampNeg (0 : Int32).toNatClampNeg (21 : Int32).toNatClampNeg) 34 1)) 34 4)) 34 5)) 34 6)) 27 7 (gI (sI (sI (sI (sI (cI (cI (cI M 35 28 (0 : Int32).toNatClampNeg (0 : Int32).toNatClampNeg (gI M 34 1).toNatClampNeg) 36 29 (0 : Int32).toNatClampNeg (0 : Int32).toNatClampNeg (21 : Int32).toNatClampNeg) 37 30 (0 : Int32).toNatClampNeg (0 : Int32).toNatClampNeg (21 : Int32).toNatClampNeg) 27 1 (gI (cI (cI (cI M 35 28 (0 : Int32).toNatClampNeg (0 : Int32).toNatClampNeg (gI M 34 1).toNatClampNeg) 36 29 (0 : Int32).toNatClampNeg (0 : Int32).toNatClampNeg (21 : Int32).toNatClampNeg) 37 30 (0 : Int32).toNatClampNeg (0 : Int32).toNatClampNeg (21 : Int32).toNatClampNeg) 34 1)) 27 4 (gI (sI (cI (cI (cI M 35 28 (0 : Int32).toNatClampNeg (0 : Int32).toNatClampNeg (gI M 34 1).toNatClampNeg) 36 29 (0 : Int32).toNatClampNeg (0 : Int32).toNatClampNeg (21 : Int32).toNatClampNeg) 37 30 (0 : Int32).toNatClampNeg (0 : Int32).toNatClampNeg (21 : Int32).toNatClampNeg) 27 1 (gI (cI (cI (cI M 35 28 (0 : Int32).toNatClampNeg (0 : Int32).toNatClampNeg (gI M 34 1).toNatClampNeg) 36 29 (0 : Int32).toNatClampNeg (0 : Int32).toNatClampNeg (21 : Int32).toNatClampNeg) 37 30 (0 : Int32).toNatClampNeg (0 : Int32).toNatClampNeg (21 : Int32).toNatClampNeg) 34 1)) 34 4)) 27 5 (gI (sI (sI (cI (cI (cI M 35 28 (0 : Int32).toNatClampNeg (0 : Int32).toNatClampNeg (gI M 34 1).toNatClampNeg) 36 29 (0 : Int32).toNatClampNeg (0 : Int32).toNatClampNeg (21 : Int32).toNatClampNeg) 37 30 (0 : Int32).toNatClampNeg (0 : Int32).toNatClampNeg (21 : Int32).toNatClampNeg) 27 1 (gI (cI (cI (cI M 35 28 (0 : Int32).toNatClampNeg (0 : Int32).toNatClampNeg (gI M 34 1).toNatClampNeg) 36 29 (0 : Int32).toNatClampNeg (0 : Int32).toNatClampNeg (21 : Int32).toNatClampNeg) 37 30 (0 : Int32).toNatClampNeg (0 : Int32).toNatClampNeg (21 : Int32).toNatClampNeg) 34 1)) 27 4 (gI (sI (cI (cI (cI M 35 28 (0 : Int32).toNatClampNeg (0 : Int32).toNatClampNeg (gI M 34 1).toNatClampNeg) 36 29 (0 : Int32).toNatClampNeg (0 : Int32).toNatClampNeg (21 : Int32).toNatClampNeg) 37 30 (0 : Int32).toNatClampNeg (0 : Int32).toNatClampNeg (21 : Int32).toNatClampNeg) 27 1 (gI (cI (cI (cI M 35 28 (0 : Int32).toNatClampNeg (0 : Int32).toNatClampNeg (gI M 34 1).toNatClampNeg) 36 29 (0 : Int32).toNatClampNeg (0 : Int32).toNatClampNeg (21 : Int32).toNatClampNeg) 37 30 (0 : Int32).toNatClampNeg (0 : Int32).toNatClampNeg (21 : Int32).toNatClampNeg) 34 1)) 34 4)) 34 5)) 27 6 (gI (sI (sI (sI (cI (cI (cI M 35 28 (0 : Int32).toNatClampNeg (0 : Int32).toNatClampNeg (gI M 34 1).toNatClampNeg) 36 29 (0 : Int32).toNatClampNeg (0 : Int32).toNatClampNeg (21 : Int32).toNatClampNeg) 37 30 (0 : Int32).toNatClampNeg (0 : Int32).toNatClampNeg (21 : Int32).toNatClampNeg) 27 1 (gI (cI (cI (cI M 35 28 (0 : Int32).toNatClampNeg (0 : Int32).toNatClampNeg (gI M 34 1).toNatClampNeg) 36 29 (0 : Int32).toNatClampNeg (0 : Int32).toNatClampNeg (21 : Int32).toNatClampNeg) 37 30 (0 : Int32).toNatClampNeg (0 : Int32).toNatClampNeg (21 : Int32).toNatClampNeg) 34 1)) 27 4 (gI (sI (cI (cI (cI M 35 28 (0 : Int32).toNatClampNeg (0 : Int32).toNatClampNeg (gI M 34 1).toNatClampNeg) 36 29 (0 : Int32).toNatClampNeg (0 : Int32).toNatClampNeg (21 : Int32).toNatClampNeg) 37 30 (0 : Int32).toNatClampNeg (0 : Int32).toNatClampNeg (21 : Int32).toNatClampNeg) 27 1 (gI (cI (cI (cI M 35 28 (0 : Int32).toNatClampNeg (0 : Int32).toNatClampNeg (gI M 34 1).toNatClampNeg) 36 29 (0 : Int32).toNatClampNeg (0 : Int32).toNatClampNeg (21 : Int32).toNatClampNeg) 37 30 (0 : Int32).toNatClampNeg (0 : Int32).toNatClampNeg (21 : Int32).toNatClampNeg) 34 1)) 34 4)) 27 5 (gI (sI (sI (cI (cI (cI M 35 28 (0 : Int32).toNatClampNeg (0 : Int32).toNatClampNeg (gI M 34 1).toNatClampNeg) 36 29 (0 : Int32).toNatClampNeg (0 : Int32).toNatClampNeg (21 : Int32).toNatClampNeg) 37 30 (0 : Int32).toNatClampNeg (0 : Int32).toNatClampNeg (21 : Int32).toNatClampNeg) 27 1 (gI (cI (cI (cI M 35 28 (0 : Int32).toNatClampNeg (0 : Int32).toNatClampNeg (gI M 34 1).toNatClampNeg) 36 29 (0 : Int32).toNatClampNeg (0 : Int32).toNatClampNeg (21 : Int32).toNatClampNeg) 37 30 (0 : Int32).toNatClampNeg (0 : Int32).toNatClampNeg (21 : Int32).toNatClampNeg) 34 1)) 27 4 (gI (sI (cI (cI (cI M 35 28 (0 : Int32).toNatClampNeg (0 : Int32).toNatClampNeg (gI M 34 1).toNatClampNeg) 36 29 (0 : Int32).toNatClampNeg (0 : Int32).toNatClampNeg (21 : Int32).toNatClampNeg) 37 30 (0 : Int32).toNatClampNeg (0 : Int32).toNatClampNeg (21 : Int32).toNatClampNeg) 27 1 (gI (cI (cI (cI M 35 28 (0 : Int32).toNatClampNeg (0 : Int32).toNatClampNeg (gI M 34 1).toNatClampNeg) 36 29 (0 : Int32).toNatClampNeg (0 : Int32).toNatClampNeg (21 : Int32).toNatClampNeg) 37 30 (0 : Int32).toNatClampNeg (0 : Int32).toNatClampNeg (21 : Int32).toNatClampNeg) 34 1)) 34 4)) 34 5)) 34 6)) 34 7))
theorem ok_la_takeOver  (M : dM) {o : dM} (hf : f_la_takeOver M = some o) : mO mX3_takeOver 1 [.ref 27, .ref 34] M none o := by
  refine y_ok (by decide +kernel) (Nat.le_of_ble_eq_true rfl) (L0 := [some (.ref 27), some (.ref 34)]) rfl ?_
  have hk := mR_mQ none o
  generalize mQ _ _ = Q at hk ⊢
  unfold f_la_takeOver at hf
  refine y_aload_n (i := 1) (n := 1) ⟨dX3_takeOver_0, rfl⟩ rfl ?_
  refine y_getR (n := 4) ⟨dX3_takeOver_1, rfl⟩ kfX3_11 l_34 rfl r_34_0 ?_
  refine y_iconst (n := 5) (v := 0) ⟨dX3_takeOver_4, rfl⟩ ki_0 ?_
  refine y_aload_n (i := 0) (n := 6) ⟨dX3_takeOver_5, rfl⟩ rfl ?_
  refine y_getR (n := 9) ⟨dX3_takeOver_6, rfl⟩ kfX3_11 l_27 rfl r_27_0 ?_
  refine y_iconst (n := 10) (v := 0) ⟨dX3_takeOver_9, rfl⟩ ki_0 ?_
  refine y_aload_n (i := 1) (n := 11) ⟨dX3_takeOver_10, rfl⟩ rfl ?_
  refine y_getI (n := 14) ⟨dX3_takeOver_11, rfl⟩ kfX3_31 l_34 rfl ?_
  obtain ⟨hg1, hf⟩ := g_s hf
  refine y_copy (n := 17) ⟨dX3_takeOver_14, rfl⟩ (mz_in 934 (by decide +kernel) (by decide +kernel)) kcopyN kcopyS kcopyI l_35 l_28 hg1.1.1 hg1.1.2.1 hg1.1.2.2 hg1.2.1 hg1.2.2 (by decide) (Nat.le_of_ble_eq_true rfl) ?_
  refine y_aload_n (i := 1) (n := 18) ⟨dX3_takeOver_17, rfl⟩ rfl ?_
  refine y_getR (n := 21) ⟨dX3_takeOver_18, rfl⟩ kfX3_15 l_34 rfl r_34_2 ?_
  refine y_iconst (n := 22) (v := 0) ⟨dX3_takeOver_21, rfl⟩ ki_0 ?_
  refine y_aload_n (i := 0) (n := 23) ⟨dX3_takeOver_22, rfl⟩ rfl ?_
  refine y_getR (n := 26) ⟨dX3_takeOver_23, rfl⟩ kfX3_15 l_27 rfl r_27_2 ?_
  refine y_iconst (n := 27) (v := 0) ⟨dX3_takeOver_26, rfl⟩ ki_0 ?_
  refine y_bipush (n := 29) (v := 21) ⟨dX3_takeOver_27, rfl⟩ kb_21 ?_
  obtain ⟨hg2, hf⟩ := g_s hf
  refine y_copy (n := 32) ⟨dX3_takeOver_29, rfl⟩ (mz_in 934 (by decide +kernel) (by decide +kernel)) kcopyN kcopyS kcopyI l_36 l_29 hg2.1.1 hg2.1.2.1 hg2.1.2.2 hg2.2.1 hg2.2.2 (by decide) (Nat.le_of_ble_eq_true rfl) ?_
  refine y_aload_n (i := 1) (n := 33) ⟨dX3_takeOver_32, rfl⟩ rfl ?_
  refine y_getR (n := 36) ⟨dX3_takeOver_33, rfl⟩ kfX3_18 l_34 rfl r_34_3 ?_
  refine y_iconst (n := 37) (v := 0) ⟨dX3_takeOver_36, rfl⟩ ki_0 ?_
  refine y_aload_n (i := 0) (n := 38) ⟨dX3_takeOver_37, rfl⟩ rfl ?_
  refine y_getR (n := 41) ⟨dX3_takeOver_38, rfl⟩ kfX3_18 l_27 rfl r_27_3 ?_
  refine y_iconst (n := 42) (v := 0) ⟨dX3_takeOver_41, rfl⟩ ki_0 ?_
  refine y_bipush (n := 44) (v := 21) ⟨dX3_takeOver_42, rfl⟩ kb_21 ?_
  refine y_copy (n := 47) ⟨dX3_takeOver_44, rfl⟩ (mz_in 934 (by decide +kernel) (by decide +kernel)) kcopyN kcopyS kcopyI l_37 l_30 hg2.1.1 hg2.1.2.1 hg2.1.2.2 hg2.2.1 hg2.2.2 (by decide) (Nat.le_of_ble_eq_true rfl) ?_
  refine y_aload_n (i := 0) (n := 48) ⟨dX3_takeOver_47, rfl⟩ rfl ?_
  refine y_aload_n (i := 1) (n := 49) ⟨dX3_takeOver_48, rfl⟩ rfl ?_
  refine y_getI (n := 52) ⟨dX3_takeOver_49, rfl⟩ kfX3_31 l_34 rfl ?_
  refine y_putI (n := 55) ⟨dX3_takeOver_52, rfl⟩ kfX3_31 l_27 (by decide +kernel) rfl ?_
  refine y_aload_n (i := 0) (n := 56) ⟨dX3_takeOver_55, rfl⟩ rfl ?_
  refine y_aload_n (i := 1) (n := 57) ⟨dX3_takeOver_56, rfl⟩ rfl ?_
  refine y_getI (n := 60) ⟨dX3_takeOver_57, rfl⟩ kfX3_40 l_34 rfl ?_
  refine y_putI (n := 63) ⟨dX3_takeOver_60, rfl⟩ kfX3_40 l_27 (by decide +kernel) rfl ?_
  refine y_aload_n (i := 0) (n := 64) ⟨dX3_takeOver_63, rfl⟩ rfl ?_
  refine y_aload_n (i := 1) (n := 65) ⟨dX3_takeOver_64, rfl⟩ rfl ?_
  refine y_getI (n := 68) ⟨dX3_takeOver_65, rfl⟩ kfX3_43 l_34 rfl ?_
  refine y_putI (n := 71) ⟨dX3_takeOver_68, rfl⟩ kfX3_43 l_27 (by decide +kernel) rfl ?_
  refine y_aload_n (i := 0) (n := 72) ⟨dX3_takeOver_71, rfl⟩ rfl ?_
  refine y_aload_n (i := 1) (n := 73) ⟨dX3_takeOver_72, rfl⟩ rfl ?_
  refine y_getI (n := 76) ⟨dX3_takeOver_73, rfl⟩ kfX3_21 l_34 rfl ?_
  refine y_putI (n := 79) ⟨dX3_takeOver_76, rfl⟩ kfX3_21 l_27 (by decide +kernel) rfl ?_
  refine y_aload_n (i := 0) (n := 80) ⟨dX3_takeOver_79, rfl⟩ rfl ?_
  refine y_aload_n (i := 1) (n := 81) ⟨dX3_takeOver_80, rfl⟩ rfl ?_
  refine y_getI (n := 84) ⟨dX3_takeOver_81, rfl⟩ kfX3_25 l_34 rfl ?_
  refine y_putI (n := 87) ⟨dX3_takeOver_84, rfl⟩ kfX3_25 l_27 (by decide +kernel) rfl ?_
  cases hf
  exact y_return (n := 88) ⟨dX3_takeOver_87, rfl⟩ rfl hk
theorem c_la_takeOver  (M : dM) {o : dM} {y : mz_M} {d : Nat} {Q : mz_P} {pc n i : Nat} {L : List (Option Value)} {st : List Value} (h : mz_d y.2.1 pc n 3 (.invokevirtual i)) (hl : mz_ml y.1.cls i yX3_takeOver) (hf : f_la_takeOver M = some o) (hd : 1 + 1 ≤ d) (hsm : (st.map (fun v => v.category)).sum ≤ 8) (hLr : mz_rL 133 L = true) (hSr : mz_rS 133 st = true) (kk : mW y d Q n L st o) : mW y d Q pc L (.ref 34 :: .ref 27 :: st) M :=
  y_callV kmX3_takeOver kvX3_takeOver l_27 (by decide +kernel) (by decide +kernel) h hl (ok_la_takeOver  M hf) (vs := [.ref 34]) rfl rfl hd hsm hLr hSr kk
noncomputable def f_ax_law (M : dM) : Option (Int32 × dM) :=
  (f_re_readLaw M).bind fun q1 =>
  if q1.1 = 0 then
    (f_la_takeOver q1.2).bind fun q3 =>
    some (q1.1, (f_ax_changed q3))
  else
    some (q1.1, q1.2)
theorem ok_ax_law  (M : dM) {o : (Int32 × dM)} (hf : f_ax_law M = some o) : mO mX11_law 93 [.ref 0] M (some (.int o.1)) o.2 := by
  refine y_ok (by decide +kernel) (Nat.le_of_ble_eq_true rfl) (L0 := [some (.ref 0), none]) rfl ?_
  have hk := mR_mQ (some (.int o.1)) o.2
  generalize mQ _ _ = Q at hk ⊢
  unfold f_ax_law at hf
  refine y_aload_n (i := 0) (n := 1) ⟨dX11_law_0, rfl⟩ rfl ?_
  refine y_getR (n := 4) ⟨dX11_law_1, rfl⟩ kfX11_47 l_0 rfl r_0_5 ?_
  obtain ⟨q1, hv2, hf⟩ := b_s hf
  refine c_re_readLaw M (n := 7) ⟨dX11_law_4, rfl⟩ klX11_135 hv2 (by decide) (Nat.le_of_ble_eq_true rfl) rfl rfl ?_
  refine y_istore_n (i := 1) (n := 8) (L2 := [some (.ref 0), some (.int q1.1)]) ⟨dX11_law_7, rfl⟩ (by decide) rfl rfl ?_
  refine y_iload_n (i := 1) (n := 9) ⟨dX11_law_8, rfl⟩ rfl ?_
  refine y_if_ne (t := 30) (n := 12) ⟨dX11_law_9, rfl, rfl⟩ (fun (hc : ¬ (q1.1 = 0)) => ?_) (fun (hc : q1.1 = 0) => ?_)
  · replace hf := i_f hc hf
    refine y_iload_n (i := 1) (n := 31) ⟨dX11_law_30, rfl⟩ rfl ?_
    cases hf
    exact y_ireturn (n := 32) ⟨dX11_law_31, rfl⟩ rfl rfl hk
  · replace hf := i_t hc hf
    refine y_aload_n (i := 0) (n := 13) ⟨dX11_law_12, rfl⟩ rfl ?_
    refine y_getR (n := 16) ⟨dX11_law_13, rfl⟩ kfX11_40 l_0 rfl r_0_4 ?_
    refine y_aload_n (i := 0) (n := 17) ⟨dX11_law_16, rfl⟩ rfl ?_
    refine y_getR (n := 20) ⟨dX11_law_17, rfl⟩ kfX11_47 l_0 rfl r_0_5 ?_
    refine y_getR (n := 23) ⟨dX11_law_20, rfl⟩ kfX11_139 l_32 rfl r_32_2 ?_
    obtain ⟨q3, hv4, hf⟩ := b_s hf
    refine c_la_takeOver q1.2 (n := 26) ⟨dX11_law_23, rfl⟩ klX11_142 hv4 (by decide) (Nat.le_of_ble_eq_true rfl) rfl rfl ?_
    refine y_aload_n (i := 0) (n := 27) ⟨dX11_law_26, rfl⟩ rfl ?_
    refine c_ax_changed q3 (n := 30) ⟨dX11_law_27, rfl⟩ klX11_99 rfl (by decide) (Nat.le_of_ble_eq_true rfl) rfl rfl ?_
    refine y_iload_n (i := 1) (n := 31) ⟨dX11_law_30, rfl⟩ rfl ?_
    cases hf
    exact y_ireturn (n := 32) ⟨dX11_law_31, rfl⟩ rfl rfl hk
theorem c_ax_law  (M : dM) {o : (Int32 × dM)} {y : mz_M} {d : Nat} {Q : mz_P} {pc n i : Nat} {L : List (Option Value)} {st : List Value} (h : mz_d y.2.1 pc n 3 (.invokevirtual i)) (hl : mz_ml y.1.cls i yX11_law) (hf : f_ax_law M = some o) (hd : 93 + 1 ≤ d) (hsm : (st.map (fun v => v.category)).sum ≤ 8) (hLr : mz_rL 133 L = true) (hSr : mz_rS 133 st = true) (kk : mW y d Q n L (.int o.1 :: st) o.2) : mW y d Q pc L (.ref 0 :: st) M :=
  y_callV kmX11_law kvX11_law l_0 (by decide +kernel) (by decide +kernel) h hl (ok_ax_law  M hf) (vs := []) rfl rfl hd hsm hLr hSr kk
noncomputable def f_ax_present (a1 : Int32) (a2 : Int32) (a3 : Int32) (M : dM) : Option Int32 :=
  if (f_ax_within a1 8) = true then
    if (f_ax_within a2 1000) = true then
      if (f_ax_within a3 24) = true then
        (f_li_whoAt a1 a2 a3 M).bind fun v1 =>
        some v1
      else
        some (-1)
    else
      some (-1)
  else
    some (-1)
theorem ok_ax_present (a1 : Int32) (a2 : Int32) (a3 : Int32) (M : dM) {o : Int32} (hf : f_ax_present a1 a2 a3 M = some o) : mO mX11_present 3 [.ref 0, .int a1, .int a2, .int a3] M (some (.int o)) M := by
  refine y_ok (by decide +kernel) (Nat.le_of_ble_eq_true rfl) (L0 := [some (.ref 0), some (.int a1), some (.int a2), some (.int a3)]) rfl ?_
  have hk := mR_mQ (some (.int o)) M
  generalize mQ _ _ = Q at hk ⊢
  unfold f_ax_present at hf
  refine y_iload_n (i := 1) (n := 1) ⟨dX11_present_0, rfl⟩ rfl ?_
  refine y_bipush (n := 3) (v := 8) ⟨dX11_present_1, rfl⟩ kb_8 ?_
  refine c_ax_within a1 8 M (n := 6) ⟨dX11_present_3, rfl⟩ klX11_91 rfl (by decide) (Nat.le_of_ble_eq_true rfl) rfl rfl ?_
  refine y_if_eq (t := 28) (n := 9) ⟨dX11_present_6, rfl, rfl⟩ (fun h0 => ?_) (fun h0 => ?_)
  · have hc := bI_0 h0
    replace hf := i_f hc hf
    refine y_iconst (n := 29) (v := (-1)) ⟨dX11_present_28, rfl⟩ ki_m1 ?_
    cases hf
    exact y_ireturn (n := 30) ⟨dX11_present_29, rfl⟩ rfl rfl hk
  · have hc := bI_1 h0
    replace hf := i_t hc hf
    refine y_iload_n (i := 2) (n := 10) ⟨dX11_present_9, rfl⟩ rfl ?_
    refine y_sipush (n := 13) (v := 1000) ⟨dX11_present_10, rfl⟩ ks_1000 ?_
    refine c_ax_within a2 1000 M (n := 16) ⟨dX11_present_13, rfl⟩ klX11_91 rfl (by decide) (Nat.le_of_ble_eq_true rfl) rfl rfl ?_
    refine y_if_eq (t := 28) (n := 19) ⟨dX11_present_16, rfl, rfl⟩ (fun h0 => ?_) (fun h0 => ?_)
    · have hc := bI_0 h0
      replace hf := i_f hc hf
      refine y_iconst (n := 29) (v := (-1)) ⟨dX11_present_28, rfl⟩ ki_m1 ?_
      cases hf
      exact y_ireturn (n := 30) ⟨dX11_present_29, rfl⟩ rfl rfl hk
    · have hc := bI_1 h0
      replace hf := i_t hc hf
      refine y_iload_n (i := 3) (n := 20) ⟨dX11_present_19, rfl⟩ rfl ?_
      refine y_bipush (n := 22) (v := 24) ⟨dX11_present_20, rfl⟩ kb_24 ?_
      refine c_ax_within a3 24 M (n := 25) ⟨dX11_present_22, rfl⟩ klX11_91 rfl (by decide) (Nat.le_of_ble_eq_true rfl) rfl rfl ?_
      refine y_if_ne (t := 30) (n := 28) ⟨dX11_present_25, rfl, rfl⟩ (fun h0 => ?_) (fun h0 => ?_)
      · have hc := bI_1 h0
        replace hf := i_t hc hf
        refine y_aload_n (i := 0) (n := 31) ⟨dX11_present_30, rfl⟩ rfl ?_
        refine y_getR (n := 34) ⟨dX11_present_31, rfl⟩ kfX11_19 l_0 rfl r_0_1 ?_
        refine y_iload_n (i := 1) (n := 35) ⟨dX11_present_34, rfl⟩ rfl ?_
        refine y_iload_n (i := 2) (n := 36) ⟨dX11_present_35, rfl⟩ rfl ?_
        refine y_iload_n (i := 3) (n := 37) ⟨dX11_present_36, rfl⟩ rfl ?_
        obtain ⟨v1, hv2, hf⟩ := b_s hf
        refine c_li_whoAt a1 a2 a3 M (n := 40) ⟨dX11_present_37, rfl⟩ klX11_116 hv2 (by decide) (Nat.le_of_ble_eq_true rfl) rfl rfl ?_
        cases hf
        exact y_ireturn (n := 41) ⟨dX11_present_40, rfl⟩ rfl rfl hk
      · have hc := bI_0 h0
        replace hf := i_f hc hf
        refine y_iconst (n := 29) (v := (-1)) ⟨dX11_present_28, rfl⟩ ki_m1 ?_
        cases hf
        exact y_ireturn (n := 30) ⟨dX11_present_29, rfl⟩ rfl rfl hk
theorem c_ax_present (a1 : Int32) (a2 : Int32) (a3 : Int32) (M : dM) {o : Int32} {y : mz_M} {d : Nat} {Q : mz_P} {pc n i : Nat} {L : List (Option Value)} {st : List Value} (h : mz_d y.2.1 pc n 3 (.invokevirtual i)) (hl : mz_ml y.1.cls i yX11_present) (hf : f_ax_present a1 a2 a3 M = some o) (hd : 3 + 1 ≤ d) (hsm : (st.map (fun v => v.category)).sum ≤ 8) (hLr : mz_rL 133 L = true) (hSr : mz_rS 133 st = true) (kk : mW y d Q n L (.int o :: st) M) : mW y d Q pc L (.int a3 :: .int a2 :: .int a1 :: .ref 0 :: st) M :=
  y_callV kmX11_present kvX11_present l_0 (by decide +kernel) (by decide +kernel) h hl (ok_ax_present a1 a2 a3 M hf) (vs := [.int a1, .int a2, .int a3]) rfl rfl hd hsm hLr hSr kk
def K_li_weigh_10 (Q : mz_P)  : ((Int32 × dM) ⊕ dM) → Prop
  | .inl s => mW mX4_weigh 1 Q 10 [some (.ref 6), some (.int s.1), none, none, none] [] s.2
  | .inr r => mR Q none r
def K_li_weigh_25 (Q : mz_P) (x1 : Int32) (M : dM) : ((Int32 × Int32 × Int32) ⊕ (Int32 × Int32)) → Prop
  | .inl s => mW mX4_weigh 1 Q 25 [some (.ref 6), some (.int x1), some (.int s.1), some (.int s.2.1), some (.int s.2.2)] [] M
  | .inr t => mW mX4_weigh 1 Q 114 [some (.ref 6), some (.int x1), some (.int t.1), some (.int t.2), none] [] M
noncomputable def b_li_weigh_25_25 (x1 : Int32) (x2 : Int32) (x3 : Int32) (x4 : Int32) (M : dM) : Option ((Int32 × Int32 × Int32) ⊕ (Int32 × Int32)) :=
  if (gI M 6 5) ≤ x4 then
    some (.inr (x2, x3))
  else
    gd (vp_in x4 80) <|
    gd (vp_in x1 80) <|
    if (gI M 8 x4.toNatClampNeg) = (gI M 8 x1.toNatClampNeg) then
      if (gI M 9 x4.toNatClampNeg) = (gI M 9 x1.toNatClampNeg) then
        if (gI M 7 x4.toNatClampNeg) = (gI M 7 x1.toNatClampNeg) then
          some (.inl ((x2 ||| (gI M 10 x4.toNatClampNeg)), x3, (x4 + 1)))
        else
          some (.inl (x2, (x3 ||| (gI M 10 x4.toNatClampNeg)), (x4 + 1)))
      else
        some (.inl (x2, x3, (x4 + 1)))
    else
      some (.inl (x2, x3, (x4 + 1)))
noncomputable def l_li_weigh_25 (x1 : Int32) (x2 : Int32) (x3 : Int32) (x4 : Int32) (M : dM) : Option (Int32 × Int32) := lpc (fun s => b_li_weigh_25_25 x1 s.1 s.2.1 s.2.2 M) (x2, x3, x4)
noncomputable def b_li_weigh_10_10 (x1 : Int32) (M : dM) : Option ((Int32 × dM) ⊕ dM) :=
  if (gI M 6 5) ≤ x1 then
    some (.inr (sI M 6 6 1))
  else
    (l_li_weigh_25 x1 0 0 0 M).bind fun t3 =>
      gd (vp_in x1 80) <|
      some (.inl ((x1 + 1), (sI M 11 x1.toNatClampNeg (t3.1 &&& (t3.2 ^^^ (-1))))))
noncomputable def l_li_weigh_10 (x1 : Int32) (M : dM) : Option dM := lpc (fun s => b_li_weigh_10_10 s.1 s.2) (x1, M)
noncomputable def f_li_weigh (M : dM) : Option dM :=
  if (gI M 6 6) = 0 then
    (l_li_weigh_10 0 M).bind fun r9 => some r9
  else
    some M
theorem w_b_li_weigh_25_25 (x1 : Int32) (x2 : Int32) (x3 : Int32) (x4 : Int32)  (M : dM) {Q : mz_P} {o : ((Int32 × Int32 × Int32) ⊕ (Int32 × Int32))} (hf : b_li_weigh_25_25 x1 x2 x3 x4 M = some o) (hk : K_li_weigh_25 Q x1 M o) : mW mX4_weigh 1 Q 25 [some (.ref 6), some (.int x1), some (.int x2), some (.int x3), some (.int x4)] [] M := by
  unfold b_li_weigh_25_25 at hf
  refine y_iload (i := 4) (n := 27) ⟨dX4_weigh_25, rfl⟩ rfl ?_
  refine y_aload_n (i := 0) (n := 28) ⟨dX4_weigh_27, rfl⟩ rfl ?_
  refine y_getI (n := 31) ⟨dX4_weigh_28, rfl⟩ kfX4_27 l_6 rfl ?_
  refine y_icmp_ge (t := 114) (n := 34) ⟨dX4_weigh_31, rfl, rfl⟩ (fun (hc : (gI M 6 5) ≤ x4) => ?_) (fun (hc : ¬ ((gI M 6 5) ≤ x4)) => ?_)
  · replace hf := i_t hc hf
    cases hf
    exact y_wk (L2 := [some (.ref 6), some (.int x1), some (.int x2), some (.int x3), none]) ⟨Or.inr rfl, Or.inr rfl, Or.inr rfl, Or.inr rfl, Or.inl rfl, trivial⟩ hk
  · replace hf := i_f hc hf
    refine y_aload_n (i := 0) (n := 35) ⟨dX4_weigh_34, rfl⟩ rfl ?_
    refine y_getR (n := 38) ⟨dX4_weigh_35, rfl⟩ kfX4_15 l_6 rfl r_6_1 ?_
    refine y_iload (i := 4) (n := 40) ⟨dX4_weigh_38, rfl⟩ rfl ?_
    obtain ⟨hg1, hf⟩ := g_s hf
    refine y_iaload (n := 41) ⟨dX4_weigh_40, rfl⟩ l_8 hg1 ?_
    refine y_aload_n (i := 0) (n := 42) ⟨dX4_weigh_41, rfl⟩ rfl ?_
    refine y_getR (n := 45) ⟨dX4_weigh_42, rfl⟩ kfX4_15 l_6 rfl r_6_1 ?_
    refine y_iload_n (i := 1) (n := 46) ⟨dX4_weigh_45, rfl⟩ rfl ?_
    obtain ⟨hg2, hf⟩ := g_s hf
    refine y_iaload (n := 47) ⟨dX4_weigh_46, rfl⟩ l_8 hg2 ?_
    refine y_icmp_ne (t := 108) (n := 50) ⟨dX4_weigh_47, rfl, rfl⟩ (fun (hc : ¬ ((gI M 8 x4.toNatClampNeg) = (gI M 8 x1.toNatClampNeg))) => ?_) (fun (hc : (gI M 8 x4.toNatClampNeg) = (gI M 8 x1.toNatClampNeg)) => ?_)
    · replace hf := i_f hc hf
      refine y_iinc (i := 4) (n := 111) (b := (x4 + 1)) (L2 := [some (.ref 6), some (.int x1), some (.int x2), some (.int x3), some (.int (x4 + 1))]) ⟨dX4_weigh_108, rfl⟩ rfl (by rw [ki_1]) (by decide) rfl rfl ?_
      refine y_goto (t := 25) ⟨dX4_weigh_111, rfl, rfl⟩ ?_
      cases hf
      exact y_wk (L2 := [some (.ref 6), some (.int x1), some (.int x2), some (.int x3), some (.int (x4 + 1))]) ⟨Or.inr rfl, Or.inr rfl, Or.inr rfl, Or.inr rfl, Or.inr rfl, trivial⟩ hk
    · replace hf := i_t hc hf
      refine y_aload_n (i := 0) (n := 51) ⟨dX4_weigh_50, rfl⟩ rfl ?_
      refine y_getR (n := 54) ⟨dX4_weigh_51, rfl⟩ kfX4_18 l_6 rfl r_6_2 ?_
      refine y_iload (i := 4) (n := 56) ⟨dX4_weigh_54, rfl⟩ rfl ?_
      refine y_iaload (n := 57) ⟨dX4_weigh_56, rfl⟩ l_9 hg1 ?_
      refine y_aload_n (i := 0) (n := 58) ⟨dX4_weigh_57, rfl⟩ rfl ?_
      refine y_getR (n := 61) ⟨dX4_weigh_58, rfl⟩ kfX4_18 l_6 rfl r_6_2 ?_
      refine y_iload_n (i := 1) (n := 62) ⟨dX4_weigh_61, rfl⟩ rfl ?_
      refine y_iaload (n := 63) ⟨dX4_weigh_62, rfl⟩ l_9 hg2 ?_
      refine y_icmp_eq (t := 69) (n := 66) ⟨dX4_weigh_63, rfl, rfl⟩ (fun (hc : (gI M 9 x4.toNatClampNeg) = (gI M 9 x1.toNatClampNeg)) => ?_) (fun (hc : ¬ ((gI M 9 x4.toNatClampNeg) = (gI M 9 x1.toNatClampNeg))) => ?_)
      · replace hf := i_t hc hf
        refine y_aload_n (i := 0) (n := 70) ⟨dX4_weigh_69, rfl⟩ rfl ?_
        refine y_getR (n := 73) ⟨dX4_weigh_70, rfl⟩ kfX4_9 l_6 rfl r_6_0 ?_
        refine y_iload (i := 4) (n := 75) ⟨dX4_weigh_73, rfl⟩ rfl ?_
        refine y_iaload (n := 76) ⟨dX4_weigh_75, rfl⟩ l_7 hg1 ?_
        refine y_aload_n (i := 0) (n := 77) ⟨dX4_weigh_76, rfl⟩ rfl ?_
        refine y_getR (n := 80) ⟨dX4_weigh_77, rfl⟩ kfX4_9 l_6 rfl r_6_0 ?_
        refine y_iload_n (i := 1) (n := 81) ⟨dX4_weigh_80, rfl⟩ rfl ?_
        refine y_iaload (n := 82) ⟨dX4_weigh_81, rfl⟩ l_7 hg2 ?_
        refine y_icmp_ne (t := 98) (n := 85) ⟨dX4_weigh_82, rfl, rfl⟩ (fun (hc : ¬ ((gI M 7 x4.toNatClampNeg) = (gI M 7 x1.toNatClampNeg))) => ?_) (fun (hc : (gI M 7 x4.toNatClampNeg) = (gI M 7 x1.toNatClampNeg)) => ?_)
        · replace hf := i_f hc hf
          refine y_iload_n (i := 3) (n := 99) ⟨dX4_weigh_98, rfl⟩ rfl ?_
          refine y_aload_n (i := 0) (n := 100) ⟨dX4_weigh_99, rfl⟩ rfl ?_
          refine y_getR (n := 103) ⟨dX4_weigh_100, rfl⟩ kfX4_21 l_6 rfl r_6_3 ?_
          refine y_iload (i := 4) (n := 105) ⟨dX4_weigh_103, rfl⟩ rfl ?_
          refine y_iaload (n := 106) ⟨dX4_weigh_105, rfl⟩ l_10 hg1 ?_
          refine y_ior (n := 107) ⟨dX4_weigh_106, rfl⟩ ?_
          refine y_istore_n (i := 3) (n := 108) (L2 := [some (.ref 6), some (.int x1), some (.int x2), some (.int (x3 ||| (gI M 10 x4.toNatClampNeg))), some (.int x4)]) ⟨dX4_weigh_107, rfl⟩ (by decide) rfl rfl ?_
          refine y_iinc (i := 4) (n := 111) (b := (x4 + 1)) (L2 := [some (.ref 6), some (.int x1), some (.int x2), some (.int (x3 ||| (gI M 10 x4.toNatClampNeg))), some (.int (x4 + 1))]) ⟨dX4_weigh_108, rfl⟩ rfl (by rw [ki_1]) (by decide) rfl rfl ?_
          refine y_goto (t := 25) ⟨dX4_weigh_111, rfl, rfl⟩ ?_
          cases hf
          exact y_wk (L2 := [some (.ref 6), some (.int x1), some (.int x2), some (.int (x3 ||| (gI M 10 x4.toNatClampNeg))), some (.int (x4 + 1))]) ⟨Or.inr rfl, Or.inr rfl, Or.inr rfl, Or.inr rfl, Or.inr rfl, trivial⟩ hk
        · replace hf := i_t hc hf
          refine y_iload_n (i := 2) (n := 86) ⟨dX4_weigh_85, rfl⟩ rfl ?_
          refine y_aload_n (i := 0) (n := 87) ⟨dX4_weigh_86, rfl⟩ rfl ?_
          refine y_getR (n := 90) ⟨dX4_weigh_87, rfl⟩ kfX4_21 l_6 rfl r_6_3 ?_
          refine y_iload (i := 4) (n := 92) ⟨dX4_weigh_90, rfl⟩ rfl ?_
          refine y_iaload (n := 93) ⟨dX4_weigh_92, rfl⟩ l_10 hg1 ?_
          refine y_ior (n := 94) ⟨dX4_weigh_93, rfl⟩ ?_
          refine y_istore_n (i := 2) (n := 95) (L2 := [some (.ref 6), some (.int x1), some (.int (x2 ||| (gI M 10 x4.toNatClampNeg))), some (.int x3), some (.int x4)]) ⟨dX4_weigh_94, rfl⟩ (by decide) rfl rfl ?_
          refine y_goto (t := 108) ⟨dX4_weigh_95, rfl, rfl⟩ ?_
          refine y_iinc (i := 4) (n := 111) (b := (x4 + 1)) (L2 := [some (.ref 6), some (.int x1), some (.int (x2 ||| (gI M 10 x4.toNatClampNeg))), some (.int x3), some (.int (x4 + 1))]) ⟨dX4_weigh_108, rfl⟩ rfl (by rw [ki_1]) (by decide) rfl rfl ?_
          refine y_goto (t := 25) ⟨dX4_weigh_111, rfl, rfl⟩ ?_
          cases hf
          exact y_wk (L2 := [some (.ref 6), some (.int x1), some (.int (x2 ||| (gI M 10 x4.toNatClampNeg))), some (.int x3), some (.int (x4 + 1))]) ⟨Or.inr rfl, Or.inr rfl, Or.inr rfl, Or.inr rfl, Or.inr rfl, trivial⟩ hk
      · replace hf := i_f hc hf
        refine y_goto (t := 108) ⟨dX4_weigh_66, rfl, rfl⟩ ?_
        refine y_iinc (i := 4) (n := 111) (b := (x4 + 1)) (L2 := [some (.ref 6), some (.int x1), some (.int x2), some (.int x3), some (.int (x4 + 1))]) ⟨dX4_weigh_108, rfl⟩ rfl (by rw [ki_1]) (by decide) rfl rfl ?_
        refine y_goto (t := 25) ⟨dX4_weigh_111, rfl, rfl⟩ ?_
        cases hf
        exact y_wk (L2 := [some (.ref 6), some (.int x1), some (.int x2), some (.int x3), some (.int (x4 + 1))]) ⟨Or.inr rfl, Or.inr rfl, Or.inr rfl, Or.inr rfl, Or.inr rfl, trivial⟩ hk
theorem wl_li_weigh_25 (x1 : Int32) (x2 : Int32) (x3 : Int32) (x4 : Int32) (M : dM) {Q : mz_P} {x : (Int32 × Int32)} (hf : l_li_weigh_25 x1 x2 x3 x4 M = some x) (hk : K_li_weigh_25 Q x1 M (.inr x)) : mW mX4_weigh 1 Q 25 [some (.ref 6), some (.int x1), some (.int x2), some (.int x3), some (.int x4)] [] M :=
  lpc_wp (σ := (Int32 × Int32 × Int32)) (ξ := (Int32 × Int32)) (s := (x2, x3, x4)) (Wh := fun s => mW mX4_weigh 1 Q 25 [some (.ref 6), some (.int x1), some (.int s.1), some (.int s.2.1), some (.int s.2.2)] [] M) (K := K_li_weigh_25 Q x1 M) (fun _ h => h) (fun s o hb hk => w_b_li_weigh_25_25 x1 s.1 s.2.1 s.2.2 M hb hk) hf hk
theorem w_b_li_weigh_10_10 (x1 : Int32)  (M : dM) {Q : mz_P} {o : ((Int32 × dM) ⊕ dM)} (hf : b_li_weigh_10_10 x1 M = some o) (hk : K_li_weigh_10 Q  o) : mW mX4_weigh 1 Q 10 [some (.ref 6), some (.int x1), none, none, none] [] M := by
  unfold b_li_weigh_10_10 at hf
  refine y_iload_n (i := 1) (n := 11) ⟨dX4_weigh_10, rfl⟩ rfl ?_
  refine y_aload_n (i := 0) (n := 12) ⟨dX4_weigh_11, rfl⟩ rfl ?_
  refine y_getI (n := 15) ⟨dX4_weigh_12, rfl⟩ kfX4_27 l_6 rfl ?_
  refine y_icmp_ge (t := 131) (n := 18) ⟨dX4_weigh_15, rfl, rfl⟩ (fun (hc : (gI M 6 5) ≤ x1) => ?_) (fun (hc : ¬ ((gI M 6 5) ≤ x1)) => ?_)
  · replace hf := i_t hc hf
    refine y_aload_n (i := 0) (n := 132) ⟨dX4_weigh_131, rfl⟩ rfl ?_
    refine y_iconst (n := 133) (v := 1) ⟨dX4_weigh_132, rfl⟩ ki_1 ?_
    refine y_putZ (n := 136) ⟨dX4_weigh_133, rfl⟩ kfX4_35 l_6 (by decide +kernel) rfl (by decide) ?_
    cases hf
    exact y_return (n := 137) ⟨dX4_weigh_136, rfl⟩ rfl hk
  · replace hf := i_f hc hf
    refine y_iconst (n := 19) (v := 0) ⟨dX4_weigh_18, rfl⟩ ki_0 ?_
    refine y_istore_n (i := 2) (n := 20) (L2 := [some (.ref 6), some (.int x1), some (.int 0), none, none]) ⟨dX4_weigh_19, rfl⟩ (by decide) rfl rfl ?_
    refine y_iconst (n := 21) (v := 0) ⟨dX4_weigh_20, rfl⟩ ki_0 ?_
    refine y_istore_n (i := 3) (n := 22) (L2 := [some (.ref 6), some (.int x1), some (.int 0), some (.int 0), none]) ⟨dX4_weigh_21, rfl⟩ (by decide) rfl rfl ?_
    refine y_iconst (n := 23) (v := 0) ⟨dX4_weigh_22, rfl⟩ ki_0 ?_
    refine y_istore (i := 4) (n := 25) (L2 := [some (.ref 6), some (.int x1), some (.int 0), some (.int 0), some (.int 0)]) ⟨dX4_weigh_23, rfl⟩ (by decide) rfl rfl ?_
    obtain ⟨t3, hl4, hf⟩ := b_s hf
    refine y_wk (L2 := [some (.ref 6), some (.int x1), some (.int 0), some (.int 0), some (.int 0)]) ⟨Or.inr rfl, Or.inr rfl, Or.inr rfl, Or.inr rfl, Or.inr rfl, trivial⟩ (wl_li_weigh_25 x1 0 0 0 M hl4 ?_)
    show mW mX4_weigh 1 Q 114 [some (.ref 6), some (.int x1), some (.int t3.1), some (.int t3.2), none] [] M
    refine y_aload_n (i := 0) (n := 115) ⟨dX4_weigh_114, rfl⟩ rfl ?_
    refine y_getR (n := 118) ⟨dX4_weigh_115, rfl⟩ kfX4_24 l_6 rfl r_6_4 ?_
    refine y_iload_n (i := 1) (n := 119) ⟨dX4_weigh_118, rfl⟩ rfl ?_
    refine y_iload_n (i := 2) (n := 120) ⟨dX4_weigh_119, rfl⟩ rfl ?_
    refine y_iload_n (i := 3) (n := 121) ⟨dX4_weigh_120, rfl⟩ rfl ?_
    refine y_iconst (n := 122) (v := (-1)) ⟨dX4_weigh_121, rfl⟩ ki_m1 ?_
    refine y_ixor (n := 123) ⟨dX4_weigh_122, rfl⟩ ?_
    refine y_iand (n := 124) ⟨dX4_weigh_123, rfl⟩ ?_
    obtain ⟨hg6, hf⟩ := g_s hf
    refine y_iastore (n := 125) ⟨dX4_weigh_124, rfl⟩ l_11 hg6 ?_
    refine y_iinc (i := 1) (n := 128) (b := (x1 + 1)) (L2 := [some (.ref 6), some (.int (x1 + 1)), some (.int t3.1), some (.int t3.2), none]) ⟨dX4_weigh_125, rfl⟩ rfl (by rw [ki_1]) (by decide) rfl rfl ?_
    refine y_goto (t := 10) ⟨dX4_weigh_128, rfl, rfl⟩ ?_
    cases hf
    exact y_wk (L2 := [some (.ref 6), some (.int (x1 + 1)), none, none, none]) ⟨Or.inr rfl, Or.inr rfl, Or.inl rfl, Or.inl rfl, Or.inr rfl, trivial⟩ hk
theorem wl_li_weigh_10 (x1 : Int32) (M : dM) {Q : mz_P} {x : dM} (hf : l_li_weigh_10 x1 M = some x) (hk : K_li_weigh_10 Q  (.inr x)) : mW mX4_weigh 1 Q 10 [some (.ref 6), some (.int x1), none, none, none] [] M :=
  lpc_wp (σ := (Int32 × dM)) (ξ := dM) (s := (x1, M)) (Wh := fun s => mW mX4_weigh 1 Q 10 [some (.ref 6), some (.int s.1), none, none, none] [] s.2) (K := K_li_weigh_10 Q ) (fun _ h => h) (fun s o hb hk => w_b_li_weigh_10_10 s.1 s.2 hb hk) hf hk
theorem ok_li_weigh  (M : dM) {o : dM} (hf : f_li_weigh M = some o) : mO mX4_weigh 1 [.ref 6] M none o := by
  refine y_ok (by decide +kernel) (Nat.le_of_ble_eq_true rfl) (L0 := [some (.ref 6), none, none, none, none]) rfl ?_
  have hk := mR_mQ none o
  generalize mQ _ _ = Q at hk ⊢
  unfold f_li_weigh at hf
  refine y_aload_n (i := 0) (n := 1) ⟨dX4_weigh_0, rfl⟩ rfl ?_
  refine y_getI (n := 4) ⟨dX4_weigh_1, rfl⟩ kfX4_35 l_6 rfl ?_
  refine y_if_eq (t := 8) (n := 7) ⟨dX4_weigh_4, rfl, rfl⟩ (fun (hc : (gI M 6 6) = 0) => ?_) (fun (hc : ¬ ((gI M 6 6) = 0)) => ?_)
  · replace hf := i_t hc hf
    refine y_iconst (n := 9) (v := 0) ⟨dX4_weigh_8, rfl⟩ ki_0 ?_
    refine y_istore_n (i := 1) (n := 10) (L2 := [some (.ref 6), some (.int 0), none, none, none]) ⟨dX4_weigh_9, rfl⟩ (by decide) rfl rfl ?_
    obtain ⟨r9, hl8, hf⟩ := b_s hf
    cases hf
    exact y_wk (L2 := [some (.ref 6), some (.int 0), none, none, none]) ⟨Or.inr rfl, Or.inr rfl, Or.inr rfl, Or.inr rfl, Or.inr rfl, trivial⟩ (wl_li_weigh_10 0 M hl8 hk)
  · replace hf := i_f hc hf
    cases hf
    exact y_return (n := 8) ⟨dX4_weigh_7, rfl⟩ rfl hk
theorem c_li_weigh  (M : dM) {o : dM} {y : mz_M} {d : Nat} {Q : mz_P} {pc n i : Nat} {L : List (Option Value)} {st : List Value} (h : mz_d y.2.1 pc n 3 (.invokevirtual i)) (hl : mz_ml y.1.cls i yX4_weigh) (hf : f_li_weigh M = some o) (hd : 1 + 1 ≤ d) (hsm : (st.map (fun v => v.category)).sum ≤ 8) (hLr : mz_rL 133 L = true) (hSr : mz_rS 133 st = true) (kk : mW y d Q n L st o) : mW y d Q pc L (.ref 6 :: st) M :=
  y_callV kmX4_weigh kvX4_weigh l_6 (by decide +kernel) (by decide +kernel) h hl (ok_li_weigh  M hf) (vs := []) rfl rfl hd hsm hLr hSr kk
def K_ju_pairTwins_2 (Q : mz_P)  : ((Int32 × dM) ⊕ dM) → Prop
  | .inl s => mW mX2_pairTwins 1 Q 2 [some (.ref 39), some (.int s.1), none] [] s.2
  | .inr r => mR Q none r
def K_ju_pairTwins_22 (Q : mz_P) (x1 : Int32) : ((Int32 × dM) ⊕ dM) → Prop
  | .inl s => mW mX2_pairTwins 1 Q 22 [some (.ref 39), some (.int x1), some (.int s.1)] [] s.2
  | .inr t => mW mX2_pairTwins 1 Q 112 [some (.ref 39), some (.int x1), none] [] t
noncomputable def b_ju_pairTwins_22_22 (x1 : Int32) (x2 : Int32) (M : dM) : Option ((Int32 × dM) ⊕ dM) :=
  if (gI M 12 7) ≤ x2 then
    some (.inr M)
  else
    gd (vp_in x1 40) <|
    gd (vp_in x2 40) <|
    if (gI M 19 x1.toNatClampNeg) = (gI M 19 x2.toNatClampNeg) then
      gd (vp_in (((gI M 13 x1.toNatClampNeg) * 8) + (gI M 13 x2.toNatClampNeg)) 64) <|
      if (gI M 5 (((gI M 13 x1.toNatClampNeg) * 8) + (gI M 13 x2.toNatClampNeg)).toNatClampNeg) ≤ (gI M 27 7) then
        some (.inl ((x2 + 1), M))
      else
        some (.inl ((x2 + 1), (sJ M 42 x1.toNatClampNeg ((gJ M 42 x1.toNatClampNeg) ||| ((1 : Int64) <<< (x2.toInt64 &&& 63))))))
    else
      some (.inl ((x2 + 1), M))
noncomputable def l_ju_pairTwins_22 (x1 : Int32) (x2 : Int32) (M : dM) : Option dM := lpc (fun s => b_ju_pairTwins_22_22 x1 s.1 s.2) (x2, M)
noncomputable def b_ju_pairTwins_2_2 (x1 : Int32) (M : dM) : Option ((Int32 × dM) ⊕ dM) :=
  if (gI M 12 7) ≤ x1 then
    some (.inr M)
  else
    gd (vp_in x1 40) <|
    (l_ju_pairTwins_22 x1 0 (sJ M 42 x1.toNatClampNeg 0)).bind fun t5 =>
      some (.inl ((x1 + 1), t5))
noncomputable def l_ju_pairTwins_2 (x1 : Int32) (M : dM) : Option dM := lpc (fun s => b_ju_pairTwins_2_2 s.1 s.2) (x1, M)
noncomputable def f_ju_pairTwins (M : dM) : Option dM :=
  (l_ju_pairTwins_2 0 M).bind fun r10 => some r10
theorem w_b_ju_pairTwins_22_22 (x1 : Int32) (x2 : Int32)  (M : dM) {Q : mz_P} {o : ((Int32 × dM) ⊕ dM)} (hf : b_ju_pairTwins_22_22 x1 x2 M = some o) (hk : K_ju_pairTwins_22 Q x1 o) : mW mX2_pairTwins 1 Q 22 [some (.ref 39), some (.int x1), some (.int x2)] [] M := by
  unfold b_ju_pairTwins_22_22 at hf
  refine y_iload_n (i := 2) (n := 23) ⟨dX2_pairTwins_22, rfl⟩ rfl ?_
  refine y_aload_n (i := 0) (n := 24) ⟨dX2_pairTwins_23, rfl⟩ rfl ?_
  refine y_getR (n := 27) ⟨dX2_pairTwins_24, rfl⟩ kfX2_40 l_39 rfl r_39_2 ?_
  refine y_getI (n := 30) ⟨dX2_pairTwins_27, rfl⟩ kfX2_51 l_12 rfl ?_
  refine y_icmp_ge (t := 112) (n := 33) ⟨dX2_pairTwins_30, rfl, rfl⟩ (fun (hc : (gI M 12 7) ≤ x2) => ?_) (fun (hc : ¬ ((gI M 12 7) ≤ x2)) => ?_)
  · replace hf := i_t hc hf
    cases hf
    exact y_wk (L2 := [some (.ref 39), some (.int x1), none]) ⟨Or.inr rfl, Or.inr rfl, Or.inl rfl, trivial⟩ hk
  · replace hf := i_f hc hf
    refine y_aload_n (i := 0) (n := 34) ⟨dX2_pairTwins_33, rfl⟩ rfl ?_
    refine y_getR (n := 37) ⟨dX2_pairTwins_34, rfl⟩ kfX2_40 l_39 rfl r_39_2 ?_
    refine y_getR (n := 40) ⟨dX2_pairTwins_37, rfl⟩ kfX2_82 l_12 rfl r_12_6 ?_
    refine y_iload_n (i := 1) (n := 41) ⟨dX2_pairTwins_40, rfl⟩ rfl ?_
    obtain ⟨hg2, hf⟩ := g_s hf
    refine y_iaload (n := 42) ⟨dX2_pairTwins_41, rfl⟩ l_19 hg2 ?_
    refine y_aload_n (i := 0) (n := 43) ⟨dX2_pairTwins_42, rfl⟩ rfl ?_
    refine y_getR (n := 46) ⟨dX2_pairTwins_43, rfl⟩ kfX2_40 l_39 rfl r_39_2 ?_
    refine y_getR (n := 49) ⟨dX2_pairTwins_46, rfl⟩ kfX2_82 l_12 rfl r_12_6 ?_
    refine y_iload_n (i := 2) (n := 50) ⟨dX2_pairTwins_49, rfl⟩ rfl ?_
    obtain ⟨hg3, hf⟩ := g_s hf
    refine y_iaload (n := 51) ⟨dX2_pairTwins_50, rfl⟩ l_19 hg3 ?_
    refine y_icmp_ne (t := 106) (n := 54) ⟨dX2_pairTwins_51, rfl, rfl⟩ (fun (hc : ¬ ((gI M 19 x1.toNatClampNeg) = (gI M 19 x2.toNatClampNeg))) => ?_) (fun (hc : (gI M 19 x1.toNatClampNeg) = (gI M 19 x2.toNatClampNeg)) => ?_)
    · replace hf := i_f hc hf
      refine y_iinc (i := 2) (n := 109) (b := (x2 + 1)) (L2 := [some (.ref 39), some (.int x1), some (.int (x2 + 1))]) ⟨dX2_pairTwins_106, rfl⟩ rfl (by rw [ki_1]) (by decide) rfl rfl ?_
      refine y_goto (t := 22) ⟨dX2_pairTwins_109, rfl, rfl⟩ ?_
      cases hf
      exact y_wk (L2 := [some (.ref 39), some (.int x1), some (.int (x2 + 1))]) ⟨Or.inr rfl, Or.inr rfl, Or.inr rfl, trivial⟩ hk
    · replace hf := i_t hc hf
      refine y_aload_n (i := 0) (n := 55) ⟨dX2_pairTwins_54, rfl⟩ rfl ?_
      refine y_getR (n := 58) ⟨dX2_pairTwins_55, rfl⟩ kfX2_32 l_39 rfl r_39_0 ?_
      refine y_getR (n := 61) ⟨dX2_pairTwins_58, rfl⟩ kfX2_97 l_1 rfl r_1_3 ?_
      refine y_aload_n (i := 0) (n := 62) ⟨dX2_pairTwins_61, rfl⟩ rfl ?_
      refine y_getR (n := 65) ⟨dX2_pairTwins_62, rfl⟩ kfX2_40 l_39 rfl r_39_2 ?_
      refine y_getR (n := 68) ⟨dX2_pairTwins_65, rfl⟩ kfX2_56 l_12 rfl r_12_0 ?_
      refine y_iload_n (i := 1) (n := 69) ⟨dX2_pairTwins_68, rfl⟩ rfl ?_
      refine y_iaload (n := 70) ⟨dX2_pairTwins_69, rfl⟩ l_13 hg2 ?_
      refine y_bipush (n := 72) (v := 8) ⟨dX2_pairTwins_70, rfl⟩ kb_8 ?_
      refine y_imul (n := 73) ⟨dX2_pairTwins_72, rfl⟩ ?_
      refine y_aload_n (i := 0) (n := 74) ⟨dX2_pairTwins_73, rfl⟩ rfl ?_
      refine y_getR (n := 77) ⟨dX2_pairTwins_74, rfl⟩ kfX2_40 l_39 rfl r_39_2 ?_
      refine y_getR (n := 80) ⟨dX2_pairTwins_77, rfl⟩ kfX2_56 l_12 rfl r_12_0 ?_
      refine y_iload_n (i := 2) (n := 81) ⟨dX2_pairTwins_80, rfl⟩ rfl ?_
      refine y_iaload (n := 82) ⟨dX2_pairTwins_81, rfl⟩ l_13 hg3 ?_
      refine y_iadd (n := 83) ⟨dX2_pairTwins_82, rfl⟩ ?_
      obtain ⟨hg4, hf⟩ := g_s hf
      refine y_iaload (n := 84) ⟨dX2_pairTwins_83, rfl⟩ l_5 hg4 ?_
      refine y_aload_n (i := 0) (n := 85) ⟨dX2_pairTwins_84, rfl⟩ rfl ?_
      refine y_getR (n := 88) ⟨dX2_pairTwins_85, rfl⟩ kfX2_44 l_39 rfl r_39_3 ?_
      refine y_getI (n := 91) ⟨dX2_pairTwins_88, rfl⟩ kfX2_102 l_27 rfl ?_
      refine y_icmp_le (t := 106) (n := 94) ⟨dX2_pairTwins_91, rfl, rfl⟩ (fun (hc : (gI M 5 (((gI M 13 x1.toNatClampNeg) * 8) + (gI M 13 x2.toNatClampNeg)).toNatClampNeg) ≤ (gI M 27 7)) => ?_) (fun (hc : ¬ ((gI M 5 (((gI M 13 x1.toNatClampNeg) * 8) + (gI M 13 x2.toNatClampNeg)).toNatClampNeg) ≤ (gI M 27 7))) => ?_)
      · replace hf := i_t hc hf
        refine y_iinc (i := 2) (n := 109) (b := (x2 + 1)) (L2 := [some (.ref 39), some (.int x1), some (.int (x2 + 1))]) ⟨dX2_pairTwins_106, rfl⟩ rfl (by rw [ki_1]) (by decide) rfl rfl ?_
        refine y_goto (t := 22) ⟨dX2_pairTwins_109, rfl, rfl⟩ ?_
        cases hf
        exact y_wk (L2 := [some (.ref 39), some (.int x1), some (.int (x2 + 1))]) ⟨Or.inr rfl, Or.inr rfl, Or.inr rfl, trivial⟩ hk
      · replace hf := i_f hc hf
        refine y_aload_n (i := 0) (n := 95) ⟨dX2_pairTwins_94, rfl⟩ rfl ?_
        refine y_getR (n := 98) ⟨dX2_pairTwins_95, rfl⟩ kfX2_18 l_39 rfl r_39_6 ?_
        refine y_iload_n (i := 1) (n := 99) ⟨dX2_pairTwins_98, rfl⟩ rfl ?_
        refine y_dup2 (n := 100) ⟨dX2_pairTwins_99, rfl⟩ ?_
        refine y_laload (n := 101) ⟨dX2_pairTwins_100, rfl⟩ l_42 hg2 ?_
        refine y_lconst (n := 102) (v := 1) ⟨dX2_pairTwins_101, rfl⟩ kl_1 ?_
        refine y_iload_n (i := 2) (n := 103) ⟨dX2_pairTwins_102, rfl⟩ rfl ?_
        refine y_lshl (n := 104) ⟨dX2_pairTwins_103, rfl⟩ ?_
        refine y_lor (n := 105) ⟨dX2_pairTwins_104, rfl⟩ ?_
        refine y_lastore (n := 106) ⟨dX2_pairTwins_105, rfl⟩ l_42 hg2 ?_
        refine y_iinc (i := 2) (n := 109) (b := (x2 + 1)) (L2 := [some (.ref 39), some (.int x1), some (.int (x2 + 1))]) ⟨dX2_pairTwins_106, rfl⟩ rfl (by rw [ki_1]) (by decide) rfl rfl ?_
        refine y_goto (t := 22) ⟨dX2_pairTwins_109, rfl, rfl⟩ ?_
        cases hf
        exact y_wk (L2 := [some (.ref 39), some (.int x1), some (.int (x2 + 1))]) ⟨Or.inr rfl, Or.inr rfl, Or.inr rfl, trivial⟩ hk
theorem wl_ju_pairTwins_22 (x1 : Int32) (x2 : Int32) (M : dM) {Q : mz_P} {x : dM} (hf : l_ju_pairTwins_22 x1 x2 M = some x) (hk : K_ju_pairTwins_22 Q x1 (.inr x)) : mW mX2_pairTwins 1 Q 22 [some (.ref 39), some (.int x1), some (.int x2)] [] M :=
  lpc_wp (σ := (Int32 × dM)) (ξ := dM) (s := (x2, M)) (Wh := fun s => mW mX2_pairTwins 1 Q 22 [some (.ref 39), some (.int x1), some (.int s.1)] [] s.2) (K := K_ju_pairTwins_22 Q x1) (fun _ h => h) (fun s o hb hk => w_b_ju_pairTwins_22_22 x1 s.1 s.2 hb hk) hf hk
theorem w_b_ju_pairTwins_2_2 (x1 : Int32)  (M : dM) {Q : mz_P} {o : ((Int32 × dM) ⊕ dM)} (hf : b_ju_pairTwins_2_2 x1 M = some o) (hk : K_ju_pairTwins_2 Q  o) : mW mX2_pairTwins 1 Q 2 [some (.ref 39), some (.int x1), none] [] M := by
  unfold b_ju_pairTwins_2_2 at hf
  refine y_iload_n (i := 1) (n := 3) ⟨dX2_pairTwins_2, rfl⟩ rfl ?_
  refine y_aload_n (i := 0) (n := 4) ⟨dX2_pairTwins_3, rfl⟩ rfl ?_
  refine y_getR (n := 7) ⟨dX2_pairTwins_4, rfl⟩ kfX2_40 l_39 rfl r_39_2 ?_
  refine y_getI (n := 10) ⟨dX2_pairTwins_7, rfl⟩ kfX2_51 l_12 rfl ?_
  refine y_icmp_ge (t := 118) (n := 13) ⟨dX2_pairTwins_10, rfl, rfl⟩ (fun (hc : (gI M 12 7) ≤ x1) => ?_) (fun (hc : ¬ ((gI M 12 7) ≤ x1)) => ?_)
  · replace hf := i_t hc hf
    cases hf
    exact y_return (n := 119) ⟨dX2_pairTwins_118, rfl⟩ rfl hk
  · replace hf := i_f hc hf
    refine y_aload_n (i := 0) (n := 14) ⟨dX2_pairTwins_13, rfl⟩ rfl ?_
    refine y_getR (n := 17) ⟨dX2_pairTwins_14, rfl⟩ kfX2_18 l_39 rfl r_39_6 ?_
    refine y_iload_n (i := 1) (n := 18) ⟨dX2_pairTwins_17, rfl⟩ rfl ?_
    refine y_lconst (n := 19) (v := 0) ⟨dX2_pairTwins_18, rfl⟩ kl_0 ?_
    obtain ⟨hg1, hf⟩ := g_s hf
    refine y_lastore (n := 20) ⟨dX2_pairTwins_19, rfl⟩ l_42 hg1 ?_
    refine y_iconst (n := 21) (v := 0) ⟨dX2_pairTwins_20, rfl⟩ ki_0 ?_
    refine y_istore_n (i := 2) (n := 22) (L2 := [some (.ref 39), some (.int x1), some (.int 0)]) ⟨dX2_pairTwins_21, rfl⟩ (by decide) rfl rfl ?_
    obtain ⟨t5, hl6, hf⟩ := b_s hf
    refine y_wk (L2 := [some (.ref 39), some (.int x1), some (.int 0)]) ⟨Or.inr rfl, Or.inr rfl, Or.inr rfl, trivial⟩ (wl_ju_pairTwins_22 x1 0 (sJ M 42 x1.toNatClampNeg 0) hl6 ?_)
    show mW mX2_pairTwins 1 Q 112 [some (.ref 39), some (.int x1), none] [] t5
    refine y_iinc (i := 1) (n := 115) (b := (x1 + 1)) (L2 := [some (.ref 39), some (.int (x1 + 1)), none]) ⟨dX2_pairTwins_112, rfl⟩ rfl (by rw [ki_1]) (by decide) rfl rfl ?_
    refine y_goto (t := 2) ⟨dX2_pairTwins_115, rfl, rfl⟩ ?_
    cases hf
    exact y_wk (L2 := [some (.ref 39), some (.int (x1 + 1)), none]) ⟨Or.inr rfl, Or.inr rfl, Or.inr rfl, trivial⟩ hk
theorem wl_ju_pairTwins_2 (x1 : Int32) (M : dM) {Q : mz_P} {x : dM} (hf : l_ju_pairTwins_2 x1 M = some x) (hk : K_ju_pairTwins_2 Q  (.inr x)) : mW mX2_pairTwins 1 Q 2 [some (.ref 39), some (.int x1), none] [] M :=
  lpc_wp (σ := (Int32 × dM)) (ξ := dM) (s := (x1, M)) (Wh := fun s => mW mX2_pairTwins 1 Q 2 [some (.ref 39), some (.int s.1), none] [] s.2) (K := K_ju_pairTwins_2 Q ) (fun _ h => h) (fun s o hb hk => w_b_ju_pairTwins_2_2 s.1 s.2 hb hk) hf hk
theorem ok_ju_pairTwins  (M : dM) {o : dM} (hf : f_ju_pairTwins M = some o) : mO mX2_pairTwins 1 [.ref 39] M none o := by
  refine y_ok (by decide +kernel) (Nat.le_of_ble_eq_true rfl) (L0 := [some (.ref 39), none, none]) rfl ?_
  have hk := mR_mQ none o
  generalize mQ _ _ = Q at hk ⊢
  unfold f_ju_pairTwins at hf
  refine y_iconst (n := 1) (v := 0) ⟨dX2_pairTwins_0, rfl⟩ ki_0 ?_
  refine y_istore_n (i := 1) (n := 2) (L2 := [some (.ref 39), some (.int 0), none]) ⟨dX2_pairTwins_1, rfl⟩ (by decide) rfl rfl ?_
  obtain ⟨r10, hl9, hf⟩ := b_s hf
  cases hf
  exact y_wk (L2 := [some (.ref 39), some (.int 0), none]) ⟨Or.inr rfl, Or.inr rfl, Or.inr rfl, trivial⟩ (wl_ju_pairTwins_2 0 M hl9 hk)
theorem c_ju_pairTwins  (M : dM) {o : dM} {y : mz_M} {d : Nat} {Q : mz_P} {pc n i : Nat} {L : List (Option Value)} {st : List Value} (h : mz_d y.2.1 pc n 3 (.invokevirtual i)) (hl : mz_ml y.1.cls i yX2_pairTwins) (hf : f_ju_pairTwins M = some o) (hd : 1 + 1 ≤ d) (hsm : (st.map (fun v => v.category)).sum ≤ 8) (hLr : mz_rL 133 L = true) (hSr : mz_rS 133 st = true) (kk : mW y d Q n L st o) : mW y d Q pc L (.ref 39 :: st) M :=
  y_callV kmX2_pairTwins kvX2_pairTwins l_39 (by decide +kernel) (by decide +kernel) h hl (ok_ju_pairTwins  M hf) (vs := []) rfl rfl hd hsm hLr hSr kk
def K_li_aloneHours_3 (Q : mz_P) (x1 : Int32) (x2 : Int32) (x3 : Int32) (M : dM) : (Int32 ⊕ Int32) → Prop
  | .inl s => mW mX4_aloneHours 1 Q 3 [some (.ref 6), some (.int x1), some (.int x2), some (.int x3), some (.int s)] [] M
  | .inr r => mR Q (some (.int r)) M
noncomputable def b_li_aloneHours_3_3 (x1 : Int32) (x2 : Int32) (x3 : Int32) (x4 : Int32) (M : dM) : Option (Int32 ⊕ Int32) :=
  if (gI M 6 5) ≤ x4 then
    some (.inr 0)
  else
    gd (vp_in x4 80) <|
    if (gI M 7 x4.toNatClampNeg) = x1 then
      if (gI M 8 x4.toNatClampNeg) = x2 then
        if (gI M 9 x4.toNatClampNeg) = x3 then
          some (.inr (gI M 11 x4.toNatClampNeg))
        else
          some (.inl (x4 + 1))
      else
        some (.inl (x4 + 1))
    else
      some (.inl (x4 + 1))
noncomputable def l_li_aloneHours_3 (x1 : Int32) (x2 : Int32) (x3 : Int32) (x4 : Int32) (M : dM) : Option Int32 := lpc (fun s => b_li_aloneHours_3_3 x1 x2 x3 s M) x4
noncomputable def f_li_aloneHours (a1 : Int32) (a2 : Int32) (a3 : Int32) (M : dM) : Option Int32 :=
  (l_li_aloneHours_3 a1 a2 a3 0 M).bind fun r4 => some r4
theorem w_b_li_aloneHours_3_3 (x1 : Int32) (x2 : Int32) (x3 : Int32) (x4 : Int32)  (M : dM) {Q : mz_P} {o : (Int32 ⊕ Int32)} (hf : b_li_aloneHours_3_3 x1 x2 x3 x4 M = some o) (hk : K_li_aloneHours_3 Q x1 x2 x3 M o) : mW mX4_aloneHours 1 Q 3 [some (.ref 6), some (.int x1), some (.int x2), some (.int x3), some (.int x4)] [] M := by
  unfold b_li_aloneHours_3_3 at hf
  refine y_iload (i := 4) (n := 5) ⟨dX4_aloneHours_3, rfl⟩ rfl ?_
  refine y_aload_n (i := 0) (n := 6) ⟨dX4_aloneHours_5, rfl⟩ rfl ?_
  refine y_getI (n := 9) ⟨dX4_aloneHours_6, rfl⟩ kfX4_27 l_6 rfl ?_
  refine y_icmp_ge (t := 59) (n := 12) ⟨dX4_aloneHours_9, rfl, rfl⟩ (fun (hc : (gI M 6 5) ≤ x4) => ?_) (fun (hc : ¬ ((gI M 6 5) ≤ x4)) => ?_)
  · replace hf := i_t hc hf
    refine y_iconst (n := 60) (v := 0) ⟨dX4_aloneHours_59, rfl⟩ ki_0 ?_
    cases hf
    exact y_ireturn (n := 61) ⟨dX4_aloneHours_60, rfl⟩ rfl rfl hk
  · replace hf := i_f hc hf
    refine y_aload_n (i := 0) (n := 13) ⟨dX4_aloneHours_12, rfl⟩ rfl ?_
    refine y_getR (n := 16) ⟨dX4_aloneHours_13, rfl⟩ kfX4_9 l_6 rfl r_6_0 ?_
    refine y_iload (i := 4) (n := 18) ⟨dX4_aloneHours_16, rfl⟩ rfl ?_
    obtain ⟨hg1, hf⟩ := g_s hf
    refine y_iaload (n := 19) ⟨dX4_aloneHours_18, rfl⟩ l_7 hg1 ?_
    refine y_iload_n (i := 1) (n := 20) ⟨dX4_aloneHours_19, rfl⟩ rfl ?_
    refine y_icmp_ne (t := 53) (n := 23) ⟨dX4_aloneHours_20, rfl, rfl⟩ (fun (hc : ¬ ((gI M 7 x4.toNatClampNeg) = x1)) => ?_) (fun (hc : (gI M 7 x4.toNatClampNeg) = x1) => ?_)
    · replace hf := i_f hc hf
      refine y_iinc (i := 4) (n := 56) (b := (x4 + 1)) (L2 := [some (.ref 6), some (.int x1), some (.int x2), some (.int x3), some (.int (x4 + 1))]) ⟨dX4_aloneHours_53, rfl⟩ rfl (by rw [ki_1]) (by decide) rfl rfl ?_
      refine y_goto (t := 3) ⟨dX4_aloneHours_56, rfl, rfl⟩ ?_
      cases hf
      exact y_wk (L2 := [some (.ref 6), some (.int x1), some (.int x2), some (.int x3), some (.int (x4 + 1))]) ⟨Or.inr rfl, Or.inr rfl, Or.inr rfl, Or.inr rfl, Or.inr rfl, trivial⟩ hk
    · replace hf := i_t hc hf
      refine y_aload_n (i := 0) (n := 24) ⟨dX4_aloneHours_23, rfl⟩ rfl ?_
      refine y_getR (n := 27) ⟨dX4_aloneHours_24, rfl⟩ kfX4_15 l_6 rfl r_6_1 ?_
      refine y_iload (i := 4) (n := 29) ⟨dX4_aloneHours_27, rfl⟩ rfl ?_
      refine y_iaload (n := 30) ⟨dX4_aloneHours_29, rfl⟩ l_8 hg1 ?_
      refine y_iload_n (i := 2) (n := 31) ⟨dX4_aloneHours_30, rfl⟩ rfl ?_
      refine y_icmp_ne (t := 53) (n := 34) ⟨dX4_aloneHours_31, rfl, rfl⟩ (fun (hc : ¬ ((gI M 8 x4.toNatClampNeg) = x2)) => ?_) (fun (hc : (gI M 8 x4.toNatClampNeg) = x2) => ?_)
      · replace hf := i_f hc hf
        refine y_iinc (i := 4) (n := 56) (b := (x4 + 1)) (L2 := [some (.ref 6), some (.int x1), some (.int x2), some (.int x3), some (.int (x4 + 1))]) ⟨dX4_aloneHours_53, rfl⟩ rfl (by rw [ki_1]) (by decide) rfl rfl ?_
        refine y_goto (t := 3) ⟨dX4_aloneHours_56, rfl, rfl⟩ ?_
        cases hf
        exact y_wk (L2 := [some (.ref 6), some (.int x1), some (.int x2), some (.int x3), some (.int (x4 + 1))]) ⟨Or.inr rfl, Or.inr rfl, Or.inr rfl, Or.inr rfl, Or.inr rfl, trivial⟩ hk
      · replace hf := i_t hc hf
        refine y_aload_n (i := 0) (n := 35) ⟨dX4_aloneHours_34, rfl⟩ rfl ?_
        refine y_getR (n := 38) ⟨dX4_aloneHours_35, rfl⟩ kfX4_18 l_6 rfl r_6_2 ?_
        refine y_iload (i := 4) (n := 40) ⟨dX4_aloneHours_38, rfl⟩ rfl ?_
        refine y_iaload (n := 41) ⟨dX4_aloneHours_40, rfl⟩ l_9 hg1 ?_
        refine y_iload_n (i := 3) (n := 42) ⟨dX4_aloneHours_41, rfl⟩ rfl ?_
        refine y_icmp_ne (t := 53) (n := 45) ⟨dX4_aloneHours_42, rfl, rfl⟩ (fun (hc : ¬ ((gI M 9 x4.toNatClampNeg) = x3)) => ?_) (fun (hc : (gI M 9 x4.toNatClampNeg) = x3) => ?_)
        · replace hf := i_f hc hf
          refine y_iinc (i := 4) (n := 56) (b := (x4 + 1)) (L2 := [some (.ref 6), some (.int x1), some (.int x2), some (.int x3), some (.int (x4 + 1))]) ⟨dX4_aloneHours_53, rfl⟩ rfl (by rw [ki_1]) (by decide) rfl rfl ?_
          refine y_goto (t := 3) ⟨dX4_aloneHours_56, rfl, rfl⟩ ?_
          cases hf
          exact y_wk (L2 := [some (.ref 6), some (.int x1), some (.int x2), some (.int x3), some (.int (x4 + 1))]) ⟨Or.inr rfl, Or.inr rfl, Or.inr rfl, Or.inr rfl, Or.inr rfl, trivial⟩ hk
        · replace hf := i_t hc hf
          refine y_aload_n (i := 0) (n := 46) ⟨dX4_aloneHours_45, rfl⟩ rfl ?_
          refine y_getR (n := 49) ⟨dX4_aloneHours_46, rfl⟩ kfX4_24 l_6 rfl r_6_4 ?_
          refine y_iload (i := 4) (n := 51) ⟨dX4_aloneHours_49, rfl⟩ rfl ?_
          refine y_iaload (n := 52) ⟨dX4_aloneHours_51, rfl⟩ l_11 hg1 ?_
          cases hf
          exact y_ireturn (n := 53) ⟨dX4_aloneHours_52, rfl⟩ rfl rfl hk
theorem wl_li_aloneHours_3 (x1 : Int32) (x2 : Int32) (x3 : Int32) (x4 : Int32) (M : dM) {Q : mz_P} {x : Int32} (hf : l_li_aloneHours_3 x1 x2 x3 x4 M = some x) (hk : K_li_aloneHours_3 Q x1 x2 x3 M (.inr x)) : mW mX4_aloneHours 1 Q 3 [some (.ref 6), some (.int x1), some (.int x2), some (.int x3), some (.int x4)] [] M :=
  lpc_wp (σ := Int32) (ξ := Int32) (s := x4) (Wh := fun s => mW mX4_aloneHours 1 Q 3 [some (.ref 6), some (.int x1), some (.int x2), some (.int x3), some (.int s)] [] M) (K := K_li_aloneHours_3 Q x1 x2 x3 M) (fun _ h => h) (fun s o hb hk => w_b_li_aloneHours_3_3 x1 x2 x3 s M hb hk) hf hk
theorem ok_li_aloneHours (a1 : Int32) (a2 : Int32) (a3 : Int32) (M : dM) {o : Int32} (hf : f_li_aloneHours a1 a2 a3 M = some o) : mO mX4_aloneHours 1 [.ref 6, .int a1, .int a2, .int a3] M (some (.int o)) M := by
  refine y_ok (by decide +kernel) (Nat.le_of_ble_eq_true rfl) (L0 := [some (.ref 6), some (.int a1), some (.int a2), some (.int a3), none]) rfl ?_
  have hk := mR_mQ (some (.int o)) M
  generalize mQ _ _ = Q at hk ⊢
  unfold f_li_aloneHours at hf
  refine y_iconst (n := 1) (v := 0) ⟨dX4_aloneHours_0, rfl⟩ ki_0 ?_
  refine y_istore (i := 4) (n := 3) (L2 := [some (.ref 6), some (.int a1), some (.int a2), some (.int a3), some (.int 0)]) ⟨dX4_aloneHours_1, rfl⟩ (by decide) rfl rfl ?_
  obtain ⟨r4, hl3, hf⟩ := b_s hf
  cases hf
  exact y_wk (L2 := [some (.ref 6), some (.int a1), some (.int a2), some (.int a3), some (.int 0)]) ⟨Or.inr rfl, Or.inr rfl, Or.inr rfl, Or.inr rfl, Or.inr rfl, trivial⟩ (wl_li_aloneHours_3 a1 a2 a3 0 M hl3 hk)
theorem c_li_aloneHours (a1 : Int32) (a2 : Int32) (a3 : Int32) (M : dM) {o : Int32} {y : mz_M} {d : Nat} {Q : mz_P} {pc n i : Nat} {L : List (Option Value)} {st : List Value} (h : mz_d y.2.1 pc n 3 (.invokevirtual i)) (hl : mz_ml y.1.cls i yX4_aloneHours) (hf : f_li_aloneHours a1 a2 a3 M = some o) (hd : 1 + 1 ≤ d) (hsm : (st.map (fun v => v.category)).sum ≤ 8) (hLr : mz_rL 133 L = true) (hSr : mz_rS 133 st = true) (kk : mW y d Q n L (.int o :: st) M) : mW y d Q pc L (.int a3 :: .int a2 :: .int a1 :: .ref 6 :: st) M :=
  y_callV kmX4_aloneHours kvX4_aloneHours l_6 (by decide +kernel) (by decide +kernel) h hl (ok_li_aloneHours a1 a2 a3 M hf) (vs := [.int a1, .int a2, .int a3]) rfl rfl hd hsm hLr hSr kk
noncomputable def f_ax_hoursAhead (a1 : Int32) : Int32 :=
  (((1 : Int32) <<< (a1 &&& 31)) - 1)
theorem ok_ax_hoursAhead (a1 : Int32) (M : dM) {o : Int32} (hf : f_ax_hoursAhead a1 = o) : mO mX11_hoursAhead 1 [.int a1] M (some (.int o)) M := by
  refine y_ok (by decide +kernel) (Nat.le_of_ble_eq_true rfl) (L0 := [some (.int a1)]) rfl ?_
  have hk := mR_mQ (some (.int o)) M
  generalize mQ _ _ = Q at hk ⊢
  unfold f_ax_hoursAhead at hf
  refine y_iconst (n := 1) (v := 1) ⟨dX11_hoursAhead_0, rfl⟩ ki_1 ?_
  refine y_iload_n (i := 0) (n := 2) ⟨dX11_hoursAhead_1, rfl⟩ rfl ?_
  refine y_ishl (n := 3) ⟨dX11_hoursAhead_2, rfl⟩ ?_
  refine y_iconst (n := 4) (v := 1) ⟨dX11_hoursAhead_3, rfl⟩ ki_1 ?_
  refine y_isub (n := 5) ⟨dX11_hoursAhead_4, rfl⟩ ?_
  cases hf
  exact y_ireturn (n := 6) ⟨dX11_hoursAhead_5, rfl⟩ rfl rfl hk
theorem c_ax_hoursAhead (a1 : Int32) (M : dM) {o : Int32} {y : mz_M} {d : Nat} {Q : mz_P} {pc n i : Nat} {L : List (Option Value)} {st : List Value} (h : mz_d y.2.1 pc n 3 (.invokestatic i)) (hl : mz_ml y.1.cls i yX11_hoursAhead) (hf : f_ax_hoursAhead a1 = o) (hd : 1 + 1 ≤ d) (hsm : (st.map (fun v => v.category)).sum ≤ 8) (hLr : mz_rL 133 L = true) (hSr : mz_rS 133 st = true) (kk : mW y d Q n L (.int o :: st) M) : mW y d Q pc L (.int a1 :: st) M :=
  y_callS kmX11_hoursAhead ksX11_hoursAhead h hl (ok_ax_hoursAhead a1 M hf) (vs := [.int a1]) rfl rfl hd hsm hLr hSr kk
noncomputable def f_jd_bitCount_0f7a4 (a1 : Int32) : Int32 :=
  ((((((((a1 - (((a1.toUInt32 >>> ((1 : Int32).toUInt32 &&& Int32.toUInt32 31)).toInt32) &&& 1431655765)) &&& 858993459) + ((((a1 - (((a1.toUInt32 >>> ((1 : Int32).toUInt32 &&& Int32.toUInt32 31)).toInt32) &&& 1431655765)).toUInt32 >>> ((2 : Int32).toUInt32 &&& Int32.toUInt32 31)).toInt32) &&& 858993459)) + (((((a1 - (((a1.toUInt32 >>> ((1 : Int32).toUInt32 &&& Int32.toUInt32 31)).toInt32) &&& 1431655765)) &&& 858993459) + ((((a1 - (((a1.toUInt32 >>> ((1 : Int32).toUInt32 &&& Int32.toUInt32 31)).toInt32) &&& 1431655765)).toUInt32 >>> ((2 : Int32).toUInt32 &&& Int32.toUInt32 31)).toInt32) &&& 858993459)).toUInt32 >>> ((4 : Int32).toUInt32 &&& Int32.toUInt32 31)).toInt32)) &&& 252645135) + (((((((a1 - (((a1.toUInt32 >>> ((1 : Int32).toUInt32 &&& Int32.toUInt32 31)).toInt32) &&& 1431655765)) &&& 858993459) + ((((a1 - (((a1.toUInt32 >>> ((1 : Int32).toUInt32 &&& Int32.toUInt32 31)).toInt32) &&& 1431655765)).toUInt32 >>> ((2 : Int32).toUInt32 &&& Int32.toUInt32 31)).toInt32) &&& 858993459)) + (((((a1 - (((a1.toUInt32 >>> ((1 : Int32).toUInt32 &&& Int32.toUInt32 31)).toInt32) &&& 1431655765)) &&& 858993459) + ((((a1 - (((a1.toUInt32 >>> ((1 : Int32).toUInt32 &&& Int32.toUInt32 31)).toInt32) &&& 1431655765)).toUInt32 >>> ((2 : Int32).toUInt32 &&& Int32.toUInt32 31)).toInt32) &&& 858993459)).toUInt32 >>> ((4 : Int32).toUInt32 &&& Int32.toUInt32 31)).toInt32)) &&& 252645135).toUInt32 >>> ((8 : Int32).toUInt32 &&& Int32.toUInt32 31)).toInt32)) + ((((((((a1 - (((a1.toUInt32 >>> ((1 : Int32).toUInt32 &&& Int32.toUInt32 31)).toInt32) &&& 1431655765)) &&& 858993459) + ((((a1 - (((a1.toUInt32 >>> ((1 : Int32).toUInt32 &&& Int32.toUInt32 31)).toInt32) &&& 1431655765)).toUInt32 >>> ((2 : Int32).toUInt32 &&& Int32.toUInt32 31)).toInt32) &&& 858993459)) + (((((a1 - (((a1.toUInt32 >>> ((1 : Int32).toUInt32 &&& Int32.toUInt32 31)).toInt32) &&& 1431655765)) &&& 858993459) + ((((a1 - (((a1.toUInt32 >>> ((1 : Int32).toUInt32 &&& Int32.toUInt32 31)).toInt32) &&& 1431655765)).toUInt32 >>> ((2 : Int32).toUInt32 &&& Int32.toUInt32 31)).toInt32) &&& 858993459)).toUInt32 >>> ((4 : Int32).toUInt32 &&& Int32.toUInt32 31)).toInt32)) &&& 252645135) + (((((((a1 - (((a1.toUInt32 >>> ((1 : Int32).toUInt32 &&& Int32.toUInt32 31)).toInt32) &&& 1431655765)) &&& 858993459) + ((((a1 - (((a1.toUInt32 >>> ((1 : Int32).toUInt32 &&& Int32.toUInt32 31)).toInt32) &&& 1431655765)).toUInt32 >>> ((2 : Int32).toUInt32 &&& Int32.toUInt32 31)).toInt32) &&& 858993459)) + (((((a1 - (((a1.toUInt32 >>> ((1 : Int32).toUInt32 &&& Int32.toUInt32 31)).toInt32) &&& 1431655765)) &&& 858993459) + ((((a1 - (((a1.toUInt32 >>> ((1 : Int32).toUInt32 &&& Int32.toUInt32 31)).toInt32) &&& 1431655765)).toUInt32 >>> ((2 : Int32).toUInt32 &&& Int32.toUInt32 31)).toInt32) &&& 858993459)).toUInt32 >>> ((4 : Int32).toUInt32 &&& Int32.toUInt32 31)).toInt32)) &&& 252645135).toUInt32 >>> ((8 : Int32).toUInt32 &&& Int32.toUInt32 31)).toInt32)).toUInt32 >>> ((16 : Int32).toUInt32 &&& Int32.toUInt32 31)).toInt32)) &&& 63)
theorem ok_jd_bitCount_0f7a4 (a1 : Int32) (M : dM) {o : Int32} (hf : f_jd_bitCount_0f7a4 a1 = o) : mO mJ6_bitCount_0f7a4 1 [.int a1] M (some (.int o)) M := by
  refine y_ok (by decide +kernel) (Nat.le_of_ble_eq_true rfl) (L0 := [some (.int a1)]) rfl ?_
  have hk := mR_mQ (some (.int o)) M
  generalize mQ _ _ = Q at hk ⊢
  unfold f_jd_bitCount_0f7a4 at hf
  refine y_iload_n (i := 0) (n := 1) ⟨dJ6_bitCount_0f7a4_0, rfl⟩ rfl ?_
  refine y_iload_n (i := 0) (n := 2) ⟨dJ6_bitCount_0f7a4_1, rfl⟩ rfl ?_
  refine y_iconst (n := 3) (v := 1) ⟨dJ6_bitCount_0f7a4_2, rfl⟩ ki_1 ?_
  refine y_iushr (n := 4) ⟨dJ6_bitCount_0f7a4_3, rfl⟩ ?_
  refine y_ldcw (n := 7) ⟨dJ6_bitCount_0f7a4_4, rfl⟩ kcJ6_265 ?_
  refine y_iand (n := 8) ⟨dJ6_bitCount_0f7a4_7, rfl⟩ ?_
  refine y_isub (n := 9) ⟨dJ6_bitCount_0f7a4_8, rfl⟩ ?_
  refine y_istore_n (i := 0) (n := 10) (L2 := [some (.int (a1 - (((a1.toUInt32 >>> ((1 : Int32).toUInt32 &&& Int32.toUInt32 31)).toInt32) &&& 1431655765)))]) ⟨dJ6_bitCount_0f7a4_9, rfl⟩ (by decide) rfl rfl ?_
  refine y_iload_n (i := 0) (n := 11) ⟨dJ6_bitCount_0f7a4_10, rfl⟩ rfl ?_
  refine y_ldcw (n := 14) ⟨dJ6_bitCount_0f7a4_11, rfl⟩ kcJ6_266 ?_
  refine y_iand (n := 15) ⟨dJ6_bitCount_0f7a4_14, rfl⟩ ?_
  refine y_iload_n (i := 0) (n := 16) ⟨dJ6_bitCount_0f7a4_15, rfl⟩ rfl ?_
  refine y_iconst (n := 17) (v := 2) ⟨dJ6_bitCount_0f7a4_16, rfl⟩ ki_2 ?_
  refine y_iushr (n := 18) ⟨dJ6_bitCount_0f7a4_17, rfl⟩ ?_
  refine y_ldcw (n := 21) ⟨dJ6_bitCount_0f7a4_18, rfl⟩ kcJ6_266 ?_
  refine y_iand (n := 22) ⟨dJ6_bitCount_0f7a4_21, rfl⟩ ?_
  refine y_iadd (n := 23) ⟨dJ6_bitCount_0f7a4_22, rfl⟩ ?_
  refine y_istore_n (i := 0) (n := 24) (L2 := [some (.int (((a1 - (((a1.toUInt32 >>> ((1 : Int32).toUInt32 &&& Int32.toUInt32 31)).toInt32) &&& 1431655765)) &&& 858993459) + ((((a1 - (((a1.toUInt32 >>> ((1 : Int32).toUInt32 &&& Int32.toUInt32 31)).toInt32) &&& 1431655765)).toUInt32 >>> ((2 : Int32).toUInt32 &&& Int32.toUInt32 31)).toInt32) &&& 858993459)))]) ⟨dJ6_bitCount_0f7a4_23, rfl⟩ (by decide) rfl rfl ?_
  refine y_iload_n (i := 0) (n := 25) ⟨dJ6_bitCount_0f7a4_24, rfl⟩ rfl ?_
  refine y_iload_n (i := 0) (n := 26) ⟨dJ6_bitCount_0f7a4_25, rfl⟩ rfl ?_
  refine y_iconst (n := 27) (v := 4) ⟨dJ6_bitCount_0f7a4_26, rfl⟩ ki_4 ?_
  refine y_iushr (n := 28) ⟨dJ6_bitCount_0f7a4_27, rfl⟩ ?_
  refine y_iadd (n := 29) ⟨dJ6_bitCount_0f7a4_28, rfl⟩ ?_
  refine y_ldcw (n := 32) ⟨dJ6_bitCount_0f7a4_29, rfl⟩ kcJ6_267 ?_
  refine y_iand (n := 33) ⟨dJ6_bitCount_0f7a4_32, rfl⟩ ?_
  refine y_istore_n (i := 0) (n := 34) (L2 := [some (.int (((((a1 - (((a1.toUInt32 >>> ((1 : Int32).toUInt32 &&& Int32.toUInt32 31)).toInt32) &&& 1431655765)) &&& 858993459) + ((((a1 - (((a1.toUInt32 >>> ((1 : Int32).toUInt32 &&& Int32.toUInt32 31)).toInt32) &&& 1431655765)).toUInt32 >>> ((2 : Int32).toUInt32 &&& Int32.toUInt32 31)).toInt32) &&& 858993459)) + (((((a1 - (((a1.toUInt32 >>> ((1 : Int32).toUInt32 &&& Int32.toUInt32 31)).toInt32) &&& 1431655765)) &&& 858993459) + ((((a1 - (((a1.toUInt32 >>> ((1 : Int32).toUInt32 &&& Int32.toUInt32 31)).toInt32) &&& 1431655765)).toUInt32 >>> ((2 : Int32).toUInt32 &&& Int32.toUInt32 31)).toInt32) &&& 858993459)).toUInt32 >>> ((4 : Int32).toUInt32 &&& Int32.toUInt32 31)).toInt32)) &&& 252645135))]) ⟨dJ6_bitCount_0f7a4_33, rfl⟩ (by decide) rfl rfl ?_
  refine y_iload_n (i := 0) (n := 35) ⟨dJ6_bitCount_0f7a4_34, rfl⟩ rfl ?_
  refine y_iload_n (i := 0) (n := 36) ⟨dJ6_bitCount_0f7a4_35, rfl⟩ rfl ?_
  refine y_bipush (n := 38) (v := 8) ⟨dJ6_bitCount_0f7a4_36, rfl⟩ kb_8 ?_
  refine y_iushr (n := 39) ⟨dJ6_bitCount_0f7a4_38, rfl⟩ ?_
  refine y_iadd (n := 40) ⟨dJ6_bitCount_0f7a4_39, rfl⟩ ?_
  refine y_istore_n (i := 0) (n := 41) (L2 := [some (.int ((((((a1 - (((a1.toUInt32 >>> ((1 : Int32).toUInt32 &&& Int32.toUInt32 31)).toInt32) &&& 1431655765)) &&& 858993459) + ((((a1 - (((a1.toUInt32 >>> ((1 : Int32).toUInt32 &&& Int32.toUInt32 31)).toInt32) &&& 1431655765)).toUInt32 >>> ((2 : Int32).toUInt32 &&& Int32.toUInt32 31)).toInt32) &&& 858993459)) + (((((a1 - (((a1.toUInt32 >>> ((1 : Int32).toUInt32 &&& Int32.toUInt32 31)).toInt32) &&& 1431655765)) &&& 858993459) + ((((a1 - (((a1.toUInt32 >>> ((1 : Int32).toUInt32 &&& Int32.toUInt32 31)).toInt32) &&& 1431655765)).toUInt32 >>> ((2 : Int32).toUInt32 &&& Int32.toUInt32 31)).toInt32) &&& 858993459)).toUInt32 >>> ((4 : Int32).toUInt32 &&& Int32.toUInt32 31)).toInt32)) &&& 252645135) + (((((((a1 - (((a1.toUInt32 >>> ((1 : Int32).toUInt32 &&& Int32.toUInt32 31)).toInt32) &&& 1431655765)) &&& 858993459) + ((((a1 - (((a1.toUInt32 >>> ((1 : Int32).toUInt32 &&& Int32.toUInt32 31)).toInt32) &&& 1431655765)).toUInt32 >>> ((2 : Int32).toUInt32 &&& Int32.toUInt32 31)).toInt32) &&& 858993459)) + (((((a1 - (((a1.toUInt32 >>> ((1 : Int32).toUInt32 &&& Int32.toUInt32 31)).toInt32) &&& 1431655765)) &&& 858993459) + ((((a1 - (((a1.toUInt32 >>> ((1 : Int32).toUInt32 &&& Int32.toUInt32 31)).toInt32) &&& 1431655765)).toUInt32 >>> ((2 : Int32).toUInt32 &&& Int32.toUInt32 31)).toInt32) &&& 858993459)).toUInt32 >>> ((4 : Int32).toUInt32 &&& Int32.toUInt32 31)).toInt32)) &&& 252645135).toUInt32 >>> ((8 : Int32).toUInt32 &&& Int32.toUInt32 31)).toInt32)))]) ⟨dJ6_bitCount_0f7a4_40, rfl⟩ (by decide) rfl rfl ?_
  refine y_iload_n (i := 0) (n := 42) ⟨dJ6_bitCount_0f7a4_41, rfl⟩ rfl ?_
  refine y_iload_n (i := 0) (n := 43) ⟨dJ6_bitCount_0f7a4_42, rfl⟩ rfl ?_
  refine y_bipush (n := 45) (v := 16) ⟨dJ6_bitCount_0f7a4_43, rfl⟩ kb_16 ?_
  refine y_iushr (n := 46) ⟨dJ6_bitCount_0f7a4_45, rfl⟩ ?_
  refine y_iadd (n := 47) ⟨dJ6_bitCount_0f7a4_46, rfl⟩ ?_
  refine y_istore_n (i := 0) (n := 48) (L2 := [some (.int (((((((a1 - (((a1.toUInt32 >>> ((1 : Int32).toUInt32 &&& Int32.toUInt32 31)).toInt32) &&& 1431655765)) &&& 858993459) + ((((a1 - (((a1.toUInt32 >>> ((1 : Int32).toUInt32 &&& Int32.toUInt32 31)).toInt32) &&& 1431655765)).toUInt32 >>> ((2 : Int32).toUInt32 &&& Int32.toUInt32 31)).toInt32) &&& 858993459)) + (((((a1 - (((a1.toUInt32 >>> ((1 : Int32).toUInt32 &&& Int32.toUInt32 31)).toInt32) &&& 1431655765)) &&& 858993459) + ((((a1 - (((a1.toUInt32 >>> ((1 : Int32).toUInt32 &&& Int32.toUInt32 31)).toInt32) &&& 1431655765)).toUInt32 >>> ((2 : Int32).toUInt32 &&& Int32.toUInt32 31)).toInt32) &&& 858993459)).toUInt32 >>> ((4 : Int32).toUInt32 &&& Int32.toUInt32 31)).toInt32)) &&& 252645135) + (((((((a1 - (((a1.toUInt32 >>> ((1 : Int32).toUInt32 &&& Int32.toUInt32 31)).toInt32) &&& 1431655765)) &&& 858993459) + ((((a1 - (((a1.toUInt32 >>> ((1 : Int32).toUInt32 &&& Int32.toUInt32 31)).toInt32) &&& 1431655765)).toUInt32 >>> ((2 : Int32).toUInt32 &&& Int32.toUInt32 31)).toInt32) &&& 858993459)) + (((((a1 - (((a1.toUInt32 >>> ((1 : Int32).toUInt32 &&& Int32.toUInt32 31)).toInt32) &&& 1431655765)) &&& 858993459) + ((((a1 - (((a1.toUInt32 >>> ((1 : Int32).toUInt32 &&& Int32.toUInt32 31)).toInt32) &&& 1431655765)).toUInt32 >>> ((2 : Int32).toUInt32 &&& Int32.toUInt32 31)).toInt32) &&& 858993459)).toUInt32 >>> ((4 : Int32).toUInt32 &&& Int32.toUInt32 31)).toInt32)) &&& 252645135).toUInt32 >>> ((8 : Int32).toUInt32 &&& Int32.toUInt32 31)).toInt32)) + ((((((((a1 - (((a1.toUInt32 >>> ((1 : Int32).toUInt32 &&& Int32.toUInt32 31)).toInt32) &&& 1431655765)) &&& 858993459) + ((((a1 - (((a1.toUInt32 >>> ((1 : Int32).toUInt32 &&& Int32.toUInt32 31)).toInt32) &&& 1431655765)).toUInt32 >>> ((2 : Int32).toUInt32 &&& Int32.toUInt32 31)).toInt32) &&& 858993459)) + (((((a1 - (((a1.toUInt32 >>> ((1 : Int32).toUInt32 &&& Int32.toUInt32 31)).toInt32) &&& 1431655765)) &&& 858993459) + ((((a1 - (((a1.toUInt32 >>> ((1 : Int32).toUInt32 &&& Int32.toUInt32 31)).toInt32) &&& 1431655765)).toUInt32 >>> ((2 : Int32).toUInt32 &&& Int32.toUInt32 31)).toInt32) &&& 858993459)).toUInt32 >>> ((4 : Int32).toUInt32 &&& Int32.toUInt32 31)).toInt32)) &&& 252645135) + (((((((a1 - (((a1.toUInt32 >>> ((1 : Int32).toUInt32 &&& Int32.toUInt32 31)).toInt32) &&& 1431655765)) &&& 858993459) + ((((a1 - (((a1.toUInt32 >>> ((1 : Int32).toUInt32 &&& Int32.toUInt32 31)).toInt32) &&& 1431655765)).toUInt32 >>> ((2 : Int32).toUInt32 &&& Int32.toUInt32 31)).toInt32) &&& 858993459)) + (((((a1 - (((a1.toUInt32 >>> ((1 : Int32).toUInt32 &&& Int32.toUInt32 31)).toInt32) &&& 1431655765)) &&& 858993459) + ((((a1 - (((a1.toUInt32 >>> ((1 : Int32).toUInt32 &&& Int32.toUInt32 31)).toInt32) &&& 1431655765)).toUInt32 >>> ((2 : Int32).toUInt32 &&& Int32.toUInt32 31)).toInt32) &&& 858993459)).toUInt32 >>> ((4 : Int32).toUInt32 &&& Int32.toUInt32 31)).toInt32)) &&& 252645135).toUInt32 >>> ((8 : Int32).toUInt32 &&& Int32.toUInt32 31)).toInt32)).toUInt32 >>> ((16 : Int32).toUInt32 &&& Int32.toUInt32 31)).toInt32)))]) ⟨dJ6_bitCount_0f7a4_47, rfl⟩ (by decide) rfl rfl ?_
  refine y_iload_n (i := 0) (n := 49) ⟨dJ6_bitCount_0f7a4_48, rfl⟩ rfl ?_
  refine y_bipush (n := 51) (v := 63) ⟨dJ6_bitCount_0f7a4_49, rfl⟩ kb_63 ?_
  refine y_iand (n := 52) ⟨dJ6_bitCount_0f7a4_51, rfl⟩ ?_
  cases hf
  exact y_ireturn (n := 53) ⟨dJ6_bitCount_0f7a4_52, rfl⟩ rfl rfl hk
theorem c_jd_bitCount_0f7a4 (a1 : Int32) (M : dM) {o : Int32} {y : mz_M} {d : Nat} {Q : mz_P} {pc n i : Nat} {L : List (Option Value)} {st : List Value} (h : mz_d y.2.1 pc n 3 (.invokestatic i)) (hl : mz_ml y.1.cls i yJ6_bitCount_0f7a4) (hf : f_jd_bitCount_0f7a4 a1 = o) (hd : 1 + 1 ≤ d) (hsm : (st.map (fun v => v.category)).sum ≤ 8) (hLr : mz_rL 133 L = true) (hSr : mz_rS 133 st = true) (kk : mW y d Q n L (.int o :: st) M) : mW y d Q pc L (.int a1 :: st) M :=
  y_callS kmJ6_bitCount_0f7a4 ksJ6_bitCount_0f7a4 h hl (ok_jd_bitCount_0f7a4 a1 M hf) (vs := [.int a1]) rfl rfl hd hsm hLr hSr kk
noncomputable def t_ju_placeFacts_48 (x1 : Int32) (x2 : Int32) (x3 : Int32) (x4 : Int32) (x5 : Int32) (x6 : Int32) (y1 : Int32) (y2 : Int32) (M : dM) : Option dM :=
  gd (vp_in y1 697) <|
  gd (vp_in (x1 + 14) 697) <|
  (f_li_whoAt x2 x3 x4 (sI (sI M 40 y1.toNatClampNeg y2) 40 (x1 + 14).toNatClampNeg (f_jd_bitCount_0f7a4 (x6 &&& (f_ax_hoursAhead x4))))).bind fun v6 =>
  gd (vp_in (x1 + 15) 697) <|
  some (sI (sI (sI M 40 y1.toNatClampNeg y2) 40 (x1 + 14).toNatClampNeg (f_jd_bitCount_0f7a4 (x6 &&& (f_ax_hoursAhead x4)))) 40 (x1 + 15).toNatClampNeg (f_jd_bitCount_0f7a4 (v6 &&& (((1 : Int32) <<< (x5 &&& 31)) ^^^ (-1)))))
noncomputable def f_ju_placeFacts (a1 : Int32) (a2 : Int32) (a3 : Int32) (a4 : Int32) (a5 : Int32) (M : dM) : Option dM :=
  (f_li_aloneHours a5 a2 a3 M).bind fun v1 =>
  gd (vp_in (a1 + 10) 697) <|
  if (f_ax_hasBit v1.toInt64 a4) = true then
    t_ju_placeFacts_48 a1 a2 a3 a4 a5 v1 (a1 + 13) 1 (sI M 40 (a1 + 10).toNatClampNeg a4)
  else
    t_ju_placeFacts_48 a1 a2 a3 a4 a5 v1 (a1 + 13) 0 (sI M 40 (a1 + 10).toNatClampNeg a4)
theorem w_t_ju_placeFacts_48 (x1 : Int32) (x2 : Int32) (x3 : Int32) (x4 : Int32) (x5 : Int32) (x6 : Int32) (y1 : Int32) (y2 : Int32) (M : dM) {Q : mz_P} {o : dM} (hf : t_ju_placeFacts_48 x1 x2 x3 x4 x5 x6 y1 y2 M = some o) (hk : mR Q none o) : mW mX2_placeFacts 3 Q 48 [some (.ref 39), some (.int x1), some (.int x2), some (.int x3), some (.int x4), some (.int x5), some (.int x6)] [.int y2, .int y1, .ref 40] M := by
  unfold t_ju_placeFacts_48 at hf
  obtain ⟨hg4, hf⟩ := g_s hf
  refine y_iastore (n := 49) ⟨dX2_placeFacts_48, rfl⟩ l_40 hg4 ?_
  refine y_aload_n (i := 0) (n := 50) ⟨dX2_placeFacts_49, rfl⟩ rfl ?_
  refine y_getR (n := 53) ⟨dX2_placeFacts_50, rfl⟩ kfX2_9 l_39 rfl r_39_4 ?_
  refine y_iload_n (i := 1) (n := 54) ⟨dX2_placeFacts_53, rfl⟩ rfl ?_
  refine y_bipush (n := 56) (v := 14) ⟨dX2_placeFacts_54, rfl⟩ kb_14 ?_
  refine y_iadd (n := 57) ⟨dX2_placeFacts_56, rfl⟩ ?_
  refine y_iload (i := 6) (n := 59) ⟨dX2_placeFacts_57, rfl⟩ rfl ?_
  refine y_iload (i := 4) (n := 61) ⟨dX2_placeFacts_59, rfl⟩ rfl ?_
  refine c_ax_hoursAhead x4 (sI M 40 y1.toNatClampNeg y2) (n := 64) ⟨dX2_placeFacts_61, rfl⟩ klX2_115 rfl (by decide) (Nat.le_of_ble_eq_true rfl) rfl rfl ?_
  refine y_iand (n := 65) ⟨dX2_placeFacts_64, rfl⟩ ?_
  refine c_jd_bitCount_0f7a4 (x6 &&& (f_ax_hoursAhead x4)) (sI M 40 y1.toNatClampNeg y2) (n := 68) ⟨dX2_placeFacts_65, rfl⟩ klX2_119 rfl (by decide) (Nat.le_of_ble_eq_true rfl) rfl rfl ?_
  obtain ⟨hg5, hf⟩ := g_s hf
  refine y_iastore (n := 69) ⟨dX2_placeFacts_68, rfl⟩ l_40 hg5 ?_
  refine y_aload_n (i := 0) (n := 70) ⟨dX2_placeFacts_69, rfl⟩ rfl ?_
  refine y_getR (n := 73) ⟨dX2_placeFacts_70, rfl⟩ kfX2_9 l_39 rfl r_39_4 ?_
  refine y_iload_n (i := 1) (n := 74) ⟨dX2_placeFacts_73, rfl⟩ rfl ?_
  refine y_bipush (n := 76) (v := 15) ⟨dX2_placeFacts_74, rfl⟩ kb_15 ?_
  refine y_iadd (n := 77) ⟨dX2_placeFacts_76, rfl⟩ ?_
  refine y_aload_n (i := 0) (n := 78) ⟨dX2_placeFacts_77, rfl⟩ rfl ?_
  refine y_getR (n := 81) ⟨dX2_placeFacts_78, rfl⟩ kfX2_36 l_39 rfl r_39_1 ?_
  refine y_iload_n (i := 2) (n := 82) ⟨dX2_placeFacts_81, rfl⟩ rfl ?_
  refine y_iload_n (i := 3) (n := 83) ⟨dX2_placeFacts_82, rfl⟩ rfl ?_
  refine y_iload (i := 4) (n := 85) ⟨dX2_placeFacts_83, rfl⟩ rfl ?_
  obtain ⟨v6, hv7, hf⟩ := b_s hf
  refine c_li_whoAt x2 x3 x4 (sI (sI M 40 y1.toNatClampNeg y2) 40 (x1 + 14).toNatClampNeg (f_jd_bitCount_0f7a4 (x6 &&& (f_ax_hoursAhead x4)))) (n := 88) ⟨dX2_placeFacts_85, rfl⟩ klX2_123 hv7 (by decide) (Nat.le_of_ble_eq_true rfl) rfl rfl ?_
  refine y_iconst (n := 89) (v := 1) ⟨dX2_placeFacts_88, rfl⟩ ki_1 ?_
  refine y_iload (i := 5) (n := 91) ⟨dX2_placeFacts_89, rfl⟩ rfl ?_
  refine y_ishl (n := 92) ⟨dX2_placeFacts_91, rfl⟩ ?_
  refine y_iconst (n := 93) (v := (-1)) ⟨dX2_placeFacts_92, rfl⟩ ki_m1 ?_
  refine y_ixor (n := 94) ⟨dX2_placeFacts_93, rfl⟩ ?_
  refine y_iand (n := 95) ⟨dX2_placeFacts_94, rfl⟩ ?_
  refine c_jd_bitCount_0f7a4 (v6 &&& (((1 : Int32) <<< (x5 &&& 31)) ^^^ (-1))) (sI (sI M 40 y1.toNatClampNeg y2) 40 (x1 + 14).toNatClampNeg (f_jd_bitCount_0f7a4 (x6 &&& (f_ax_hoursAhead x4)))) (n := 98) ⟨dX2_placeFacts_95, rfl⟩ klX2_119 rfl (by decide) (Nat.le_of_ble_eq_true rfl) rfl rfl ?_
  obtain ⟨hg8, hf⟩ := g_s hf
  refine y_iastore (n := 99) ⟨dX2_placeFacts_98, rfl⟩ l_40 hg8 ?_
  cases hf
  exact y_return (n := 100) ⟨dX2_placeFacts_99, rfl⟩ rfl hk
theorem ok_ju_placeFacts (a1 : Int32) (a2 : Int32) (a3 : Int32) (a4 : Int32) (a5 : Int32) (M : dM) {o : dM} (hf : f_ju_placeFacts a1 a2 a3 a4 a5 M = some o) : mO mX2_placeFacts 3 [.ref 39, .int a1, .int a2, .int a3, .int a4, .int a5] M none o := by
  refine y_ok (by decide +kernel) (Nat.le_of_ble_eq_true rfl) (L0 := [some (.ref 39), some (.int a1), some (.int a2), some (.int a3), some (.int a4), some (.int a5), none]) rfl ?_
  have hk := mR_mQ none o
  generalize mQ _ _ = Q at hk ⊢
  unfold f_ju_placeFacts at hf
  refine y_aload_n (i := 0) (n := 1) ⟨dX2_placeFacts_0, rfl⟩ rfl ?_
  refine y_getR (n := 4) ⟨dX2_placeFacts_1, rfl⟩ kfX2_36 l_39 rfl r_39_1 ?_
  refine y_iload (i := 5) (n := 6) ⟨dX2_placeFacts_4, rfl⟩ rfl ?_
  refine y_iload_n (i := 2) (n := 7) ⟨dX2_placeFacts_6, rfl⟩ rfl ?_
  refine y_iload_n (i := 3) (n := 8) ⟨dX2_placeFacts_7, rfl⟩ rfl ?_
  obtain ⟨v1, hv2, hf⟩ := b_s hf
  refine c_li_aloneHours a5 a2 a3 M (n := 11) ⟨dX2_placeFacts_8, rfl⟩ klX2_105 hv2 (by decide) (Nat.le_of_ble_eq_true rfl) rfl rfl ?_
  refine y_istore (i := 6) (n := 13) (L2 := [some (.ref 39), some (.int a1), some (.int a2), some (.int a3), some (.int a4), some (.int a5), some (.int v1)]) ⟨dX2_placeFacts_11, rfl⟩ (by decide) rfl rfl ?_
  refine y_aload_n (i := 0) (n := 14) ⟨dX2_placeFacts_13, rfl⟩ rfl ?_
  refine y_getR (n := 17) ⟨dX2_placeFacts_14, rfl⟩ kfX2_9 l_39 rfl r_39_4 ?_
  refine y_iload_n (i := 1) (n := 18) ⟨dX2_placeFacts_17, rfl⟩ rfl ?_
  refine y_bipush (n := 20) (v := 10) ⟨dX2_placeFacts_18, rfl⟩ kb_10 ?_
  refine y_iadd (n := 21) ⟨dX2_placeFacts_20, rfl⟩ ?_
  refine y_iload (i := 4) (n := 23) ⟨dX2_placeFacts_21, rfl⟩ rfl ?_
  obtain ⟨hg3, hf⟩ := g_s hf
  refine y_iastore (n := 24) ⟨dX2_placeFacts_23, rfl⟩ l_40 hg3 ?_
  refine y_aload_n (i := 0) (n := 25) ⟨dX2_placeFacts_24, rfl⟩ rfl ?_
  refine y_getR (n := 28) ⟨dX2_placeFacts_25, rfl⟩ kfX2_9 l_39 rfl r_39_4 ?_
  refine y_iload_n (i := 1) (n := 29) ⟨dX2_placeFacts_28, rfl⟩ rfl ?_
  refine y_bipush (n := 31) (v := 13) ⟨dX2_placeFacts_29, rfl⟩ kb_13 ?_
  refine y_iadd (n := 32) ⟨dX2_placeFacts_31, rfl⟩ ?_
  refine y_iload (i := 6) (n := 34) ⟨dX2_placeFacts_32, rfl⟩ rfl ?_
  refine y_i2l (n := 35) ⟨dX2_placeFacts_34, rfl⟩ ?_
  refine y_iload (i := 4) (n := 37) ⟨dX2_placeFacts_35, rfl⟩ rfl ?_
  refine c_ax_hasBit v1.toInt64 a4 (sI M 40 (a1 + 10).toNatClampNeg a4) (n := 40) ⟨dX2_placeFacts_37, rfl⟩ klX2_111 rfl (by decide) (Nat.le_of_ble_eq_true rfl) rfl rfl ?_
  refine y_if_eq (t := 47) (n := 43) ⟨dX2_placeFacts_40, rfl, rfl⟩ (fun h0 => ?_) (fun h0 => ?_)
  · have hc := bI_0 h0
    replace hf := i_f hc hf
    refine y_iconst (n := 48) (v := 0) ⟨dX2_placeFacts_47, rfl⟩ ki_0 ?_
    exact y_wk (L2 := [some (.ref 39), some (.int a1), some (.int a2), some (.int a3), some (.int a4), some (.int a5), some (.int v1)]) ⟨Or.inr rfl, Or.inr rfl, Or.inr rfl, Or.inr rfl, Or.inr rfl, Or.inr rfl, Or.inr rfl, trivial⟩ (w_t_ju_placeFacts_48 a1 a2 a3 a4 a5 v1 (a1 + 13) 0 (sI M 40 (a1 + 10).toNatClampNeg a4) hf hk)
  · have hc := bI_1 h0
    replace hf := i_t hc hf
    refine y_iconst (n := 44) (v := 1) ⟨dX2_placeFacts_43, rfl⟩ ki_1 ?_
    refine y_goto (t := 48) ⟨dX2_placeFacts_44, rfl, rfl⟩ ?_
    exact y_wk (L2 := [some (.ref 39), some (.int a1), some (.int a2), some (.int a3), some (.int a4), some (.int a5), some (.int v1)]) ⟨Or.inr rfl, Or.inr rfl, Or.inr rfl, Or.inr rfl, Or.inr rfl, Or.inr rfl, Or.inr rfl, trivial⟩ (w_t_ju_placeFacts_48 a1 a2 a3 a4 a5 v1 (a1 + 13) 1 (sI M 40 (a1 + 10).toNatClampNeg a4) hf hk)
theorem c_ju_placeFacts (a1 : Int32) (a2 : Int32) (a3 : Int32) (a4 : Int32) (a5 : Int32) (M : dM) {o : dM} {y : mz_M} {d : Nat} {Q : mz_P} {pc n i : Nat} {L : List (Option Value)} {st : List Value} (h : mz_d y.2.1 pc n 3 (.invokevirtual i)) (hl : mz_ml y.1.cls i yX2_placeFacts) (hf : f_ju_placeFacts a1 a2 a3 a4 a5 M = some o) (hd : 3 + 1 ≤ d) (hsm : (st.map (fun v => v.category)).sum ≤ 8) (hLr : mz_rL 133 L = true) (hSr : mz_rS 133 st = true) (kk : mW y d Q n L st o) : mW y d Q pc L (.int a5 :: .int a4 :: .int a3 :: .int a2 :: .int a1 :: .ref 39 :: st) M :=
  y_callV kmX2_placeFacts kvX2_placeFacts l_39 (by decide +kernel) (by decide +kernel) h hl (ok_ju_placeFacts a1 a2 a3 a4 a5 M hf) (vs := [.int a1, .int a2, .int a3, .int a4, .int a5]) rfl rfl hd hsm hLr hSr kk
noncomputable def f_si_ageOf (a1 : Int32) (a2 : Int32) (M : dM) : Option Int32 :=
  gd (vp_in ((a1 * 10) + a2) 80) <|
  some (gI M 2 ((a1 * 10) + a2).toNatClampNeg)
theorem ok_si_ageOf (a1 : Int32) (a2 : Int32) (M : dM) {o : Int32} (hf : f_si_ageOf a1 a2 M = some o) : mO mX7_ageOf 1 [.ref 1, .int a1, .int a2] M (some (.int o)) M := by
  refine y_ok (by decide +kernel) (Nat.le_of_ble_eq_true rfl) (L0 := [some (.ref 1), some (.int a1), some (.int a2)]) rfl ?_
  have hk := mR_mQ (some (.int o)) M
  generalize mQ _ _ = Q at hk ⊢
  unfold f_si_ageOf at hf
  refine y_aload_n (i := 0) (n := 1) ⟨dX7_ageOf_0, rfl⟩ rfl ?_
  refine y_getR (n := 4) ⟨dX7_ageOf_1, rfl⟩ kfX7_9 l_1 rfl r_1_0 ?_
  refine y_iload_n (i := 1) (n := 5) ⟨dX7_ageOf_4, rfl⟩ rfl ?_
  refine y_bipush (n := 7) (v := 10) ⟨dX7_ageOf_5, rfl⟩ kb_10 ?_
  refine y_imul (n := 8) ⟨dX7_ageOf_7, rfl⟩ ?_
  refine y_iload_n (i := 2) (n := 9) ⟨dX7_ageOf_8, rfl⟩ rfl ?_
  refine y_iadd (n := 10) ⟨dX7_ageOf_9, rfl⟩ ?_
  obtain ⟨hg1, hf⟩ := g_s hf
  refine y_iaload (n := 11) ⟨dX7_ageOf_10, rfl⟩ l_2 hg1 ?_
  cases hf
  exact y_ireturn (n := 12) ⟨dX7_ageOf_11, rfl⟩ rfl rfl hk
theorem c_si_ageOf (a1 : Int32) (a2 : Int32) (M : dM) {o : Int32} {y : mz_M} {d : Nat} {Q : mz_P} {pc n i : Nat} {L : List (Option Value)} {st : List Value} (h : mz_d y.2.1 pc n 3 (.invokevirtual i)) (hl : mz_ml y.1.cls i yX7_ageOf) (hf : f_si_ageOf a1 a2 M = some o) (hd : 1 + 1 ≤ d) (hsm : (st.map (fun v => v.category)).sum ≤ 8) (hLr : mz_rL 133 L = true) (hSr : mz_rS 133 st = true) (kk : mW y d Q n L (.int o :: st) M) : mW y d Q pc L (.int a2 :: .int a1 :: .ref 1 :: st) M :=
  y_callV kmX7_ageOf kvX7_ageOf l_1 (by decide +kernel) (by decide +kernel) h hl (ok_si_ageOf a1 a2 M hf) (vs := [.int a1, .int a2]) rfl rfl hd hsm hLr hSr kk
def K_ju_thingFacts_3 (Q : mz_P) (x1 : Int32) (x2 : Int32) (x3 : Int32) (x4 : Int32) (x5 : Int32) : ((Int32 × dM) ⊕ dM) → Prop
  | .inl s => mW mX2_thingFacts 2 Q 3 [some (.ref 39), some (.int x1), some (.int x2), some (.int x3), some (.int x4), some (.int x5), some (.int s.1)] [] s.2
  | .inr t => mW mX2_thingFacts 2 Q 32 [some (.ref 39), some (.int x1), some (.int x2), some (.int x3), none, some (.int x5), none] [] t
noncomputable def b_ju_thingFacts_3_3 (x1 : Int32) (x2 : Int32) (x3 : Int32) (x4 : Int32) (x5 : Int32) (x6 : Int32) (M : dM) : Option ((Int32 × dM) ⊕ dM) :=
  if 8 ≤ x6 then
    some (.inr M)
  else
    gd (vp_in (x1 + x6) 697) <|
    some (.inl ((x6 + 1), (sI M 40 (x1 + x6).toNatClampNeg ((x4 >>> (x6 &&& 31)) &&& 1))))
noncomputable def l_ju_thingFacts_3 (x1 : Int32) (x2 : Int32) (x3 : Int32) (x4 : Int32) (x5 : Int32) (x6 : Int32) (M : dM) : Option dM := lpc (fun s => b_ju_thingFacts_3_3 x1 x2 x3 x4 x5 s.1 s.2) (x6, M)
noncomputable def t_ju_thingFacts_84 (x5 : Int32) (x6 : Int32) (y1 : Int32) (y2 : Int32) (M : dM) : Option (Int32 × dM) :=
  gd (vp_in y1 697) <|
  some ((if x6 < x5 then x5 else x6), (sI M 40 y1.toNatClampNeg y2))
noncomputable def f_ju_thingFacts (a1 : Int32) (a2 : Int32) (a3 : Int32) (a4 : Int32) (a5 : Int32) (M : dM) : Option (Int32 × dM) :=
  (l_ju_thingFacts_3 a1 a2 a3 a4 a5 0 M).bind fun t2 =>
    (f_si_ageOf a2 a3 t2).bind fun v5 =>
    gd (vp_in (a1 + 8) 697) <|
    gd (vp_in (a1 + 9) 697) <|
    if v5 ≤ a5 then
      t_ju_thingFacts_84 a5 v5 (a1 + 12) 0 (sI (sI t2 40 (a1 + 8).toNatClampNeg v5) 40 (a1 + 9).toNatClampNeg a3)
    else
      t_ju_thingFacts_84 a5 v5 (a1 + 12) 1 (sI (sI t2 40 (a1 + 8).toNatClampNeg v5) 40 (a1 + 9).toNatClampNeg a3)
theorem w_b_ju_thingFacts_3_3 (x1 : Int32) (x2 : Int32) (x3 : Int32) (x4 : Int32) (x5 : Int32) (x6 : Int32)  (M : dM) {Q : mz_P} {o : ((Int32 × dM) ⊕ dM)} (hf : b_ju_thingFacts_3_3 x1 x2 x3 x4 x5 x6 M = some o) (hk : K_ju_thingFacts_3 Q x1 x2 x3 x4 x5 o) : mW mX2_thingFacts 2 Q 3 [some (.ref 39), some (.int x1), some (.int x2), some (.int x3), some (.int x4), some (.int x5), some (.int x6)] [] M := by
  unfold b_ju_thingFacts_3_3 at hf
  refine y_iload (i := 6) (n := 5) ⟨dX2_thingFacts_3, rfl⟩ rfl ?_
  refine y_bipush (n := 7) (v := 8) ⟨dX2_thingFacts_5, rfl⟩ kb_8 ?_
  refine y_icmp_ge (t := 32) (n := 10) ⟨dX2_thingFacts_7, rfl, rfl⟩ (fun (hc : 8 ≤ x6) => ?_) (fun (hc : ¬ (8 ≤ x6)) => ?_)
  · replace hf := i_t hc hf
    cases hf
    exact y_wk (L2 := [some (.ref 39), some (.int x1), some (.int x2), some (.int x3), none, some (.int x5), none]) ⟨Or.inr rfl, Or.inr rfl, Or.inr rfl, Or.inr rfl, Or.inl rfl, Or.inr rfl, Or.inl rfl, trivial⟩ hk
  · replace hf := i_f hc hf
    refine y_aload_n (i := 0) (n := 11) ⟨dX2_thingFacts_10, rfl⟩ rfl ?_
    refine y_getR (n := 14) ⟨dX2_thingFacts_11, rfl⟩ kfX2_9 l_39 rfl r_39_4 ?_
    refine y_iload_n (i := 1) (n := 15) ⟨dX2_thingFacts_14, rfl⟩ rfl ?_
    refine y_iload (i := 6) (n := 17) ⟨dX2_thingFacts_15, rfl⟩ rfl ?_
    refine y_iadd (n := 18) ⟨dX2_thingFacts_17, rfl⟩ ?_
    refine y_iload (i := 4) (n := 20) ⟨dX2_thingFacts_18, rfl⟩ rfl ?_
    refine y_iload (i := 6) (n := 22) ⟨dX2_thingFacts_20, rfl⟩ rfl ?_
    refine y_ishr (n := 23) ⟨dX2_thingFacts_22, rfl⟩ ?_
    refine y_iconst (n := 24) (v := 1) ⟨dX2_thingFacts_23, rfl⟩ ki_1 ?_
    refine y_iand (n := 25) ⟨dX2_thingFacts_24, rfl⟩ ?_
    obtain ⟨hg1, hf⟩ := g_s hf
    refine y_iastore (n := 26) ⟨dX2_thingFacts_25, rfl⟩ l_40 hg1 ?_
    refine y_iinc (i := 6) (n := 29) (b := (x6 + 1)) (L2 := [some (.ref 39), some (.int x1), some (.int x2), some (.int x3), some (.int x4), some (.int x5), some (.int (x6 + 1))]) ⟨dX2_thingFacts_26, rfl⟩ rfl (by rw [ki_1]) (by decide) rfl rfl ?_
    refine y_goto (t := 3) ⟨dX2_thingFacts_29, rfl, rfl⟩ ?_
    cases hf
    exact y_wk (L2 := [some (.ref 39), some (.int x1), some (.int x2), some (.int x3), some (.int x4), some (.int x5), some (.int (x6 + 1))]) ⟨Or.inr rfl, Or.inr rfl, Or.inr rfl, Or.inr rfl, Or.inr rfl, Or.inr rfl, Or.inr rfl, trivial⟩ hk
theorem wl_ju_thingFacts_3 (x1 : Int32) (x2 : Int32) (x3 : Int32) (x4 : Int32) (x5 : Int32) (x6 : Int32) (M : dM) {Q : mz_P} {x : dM} (hf : l_ju_thingFacts_3 x1 x2 x3 x4 x5 x6 M = some x) (hk : K_ju_thingFacts_3 Q x1 x2 x3 x4 x5 (.inr x)) : mW mX2_thingFacts 2 Q 3 [some (.ref 39), some (.int x1), some (.int x2), some (.int x3), some (.int x4), some (.int x5), some (.int x6)] [] M :=
  lpc_wp (σ := (Int32 × dM)) (ξ := dM) (s := (x6, M)) (Wh := fun s => mW mX2_thingFacts 2 Q 3 [some (.ref 39), some (.int x1), some (.int x2), some (.int x3), some (.int x4), some (.int x5), some (.int s.1)] [] s.2) (K := K_ju_thingFacts_3 Q x1 x2 x3 x4 x5) (fun _ h => h) (fun s o hb hk => w_b_ju_thingFacts_3_3 x1 x2 x3 x4 x5 s.1 s.2 hb hk) hf hk
theorem w_t_ju_thingFacts_84 (x5 : Int32) (x6 : Int32) (y1 : Int32) (y2 : Int32) (M : dM) {Q : mz_P} {o : (Int32 × dM)} (hf : t_ju_thingFacts_84 x5 x6 y1 y2 M = some o) (hk : mR Q (some (.int o.1)) o.2) : mW mX2_thingFacts 2 Q 84 [none, none, none, none, none, some (.int x5), some (.int x6)] [.int y2, .int y1, .ref 40] M := by
  unfold t_ju_thingFacts_84 at hf
  obtain ⟨hg9, hf⟩ := g_s hf
  refine y_iastore (n := 85) ⟨dX2_thingFacts_84, rfl⟩ l_40 hg9 ?_
  refine y_iload (i := 6) (n := 87) ⟨dX2_thingFacts_85, rfl⟩ rfl ?_
  refine y_iload (i := 5) (n := 89) ⟨dX2_thingFacts_87, rfl⟩ rfl ?_
  refine y_mmax kcmax ksmax kiMath (n := 92) ⟨dX2_thingFacts_89, rfl⟩ (mz_in 988 (by decide +kernel) (by decide +kernel)) (by decide) (Nat.le_of_ble_eq_true rfl) ?_
  cases hf
  exact y_ireturn (n := 93) ⟨dX2_thingFacts_92, rfl⟩ rfl rfl hk
theorem ok_ju_thingFacts (a1 : Int32) (a2 : Int32) (a3 : Int32) (a4 : Int32) (a5 : Int32) (M : dM) {o : (Int32 × dM)} (hf : f_ju_thingFacts a1 a2 a3 a4 a5 M = some o) : mO mX2_thingFacts 2 [.ref 39, .int a1, .int a2, .int a3, .int a4, .int a5] M (some (.int o.1)) o.2 := by
  refine y_ok (by decide +kernel) (Nat.le_of_ble_eq_true rfl) (L0 := [some (.ref 39), some (.int a1), some (.int a2), some (.int a3), some (.int a4), some (.int a5), none]) rfl ?_
  have hk := mR_mQ (some (.int o.1)) o.2
  generalize mQ _ _ = Q at hk ⊢
  unfold f_ju_thingFacts at hf
  refine y_iconst (n := 1) (v := 0) ⟨dX2_thingFacts_0, rfl⟩ ki_0 ?_
  refine y_istore (i := 6) (n := 3) (L2 := [some (.ref 39), some (.int a1), some (.int a2), some (.int a3), some (.int a4), some (.int a5), some (.int 0)]) ⟨dX2_thingFacts_1, rfl⟩ (by decide) rfl rfl ?_
  obtain ⟨t2, hl3, hf⟩ := b_s hf
  refine y_wk (L2 := [some (.ref 39), some (.int a1), some (.int a2), some (.int a3), some (.int a4), some (.int a5), some (.int 0)]) ⟨Or.inr rfl, Or.inr rfl, Or.inr rfl, Or.inr rfl, Or.inr rfl, Or.inr rfl, Or.inr rfl, trivial⟩ (wl_ju_thingFacts_3 a1 a2 a3 a4 a5 0 M hl3 ?_)
  show mW mX2_thingFacts 2 Q 32 [some (.ref 39), some (.int a1), some (.int a2), some (.int a3), none, some (.int a5), none] [] t2
  refine y_aload_n (i := 0) (n := 33) ⟨dX2_thingFacts_32, rfl⟩ rfl ?_
  refine y_getR (n := 36) ⟨dX2_thingFacts_33, rfl⟩ kfX2_32 l_39 rfl r_39_0 ?_
  refine y_iload_n (i := 2) (n := 37) ⟨dX2_thingFacts_36, rfl⟩ rfl ?_
  refine y_iload_n (i := 3) (n := 38) ⟨dX2_thingFacts_37, rfl⟩ rfl ?_
  obtain ⟨v5, hv6, hf⟩ := b_s hf
  refine c_si_ageOf a2 a3 t2 (n := 41) ⟨dX2_thingFacts_38, rfl⟩ klX2_126 hv6 (by decide) (Nat.le_of_ble_eq_true rfl) rfl rfl ?_
  refine y_istore (i := 6) (n := 43) (L2 := [some (.ref 39), some (.int a1), some (.int a2), some (.int a3), none, some (.int a5), some (.int v5)]) ⟨dX2_thingFacts_41, rfl⟩ (by decide) rfl rfl ?_
  refine y_aload_n (i := 0) (n := 44) ⟨dX2_thingFacts_43, rfl⟩ rfl ?_
  refine y_getR (n := 47) ⟨dX2_thingFacts_44, rfl⟩ kfX2_9 l_39 rfl r_39_4 ?_
  refine y_iload_n (i := 1) (n := 48) ⟨dX2_thingFacts_47, rfl⟩ rfl ?_
  refine y_bipush (n := 50) (v := 8) ⟨dX2_thingFacts_48, rfl⟩ kb_8 ?_
  refine y_iadd (n := 51) ⟨dX2_thingFacts_50, rfl⟩ ?_
  refine y_iload (i := 6) (n := 53) ⟨dX2_thingFacts_51, rfl⟩ rfl ?_
  obtain ⟨hg7, hf⟩ := g_s hf
  refine y_iastore (n := 54) ⟨dX2_thingFacts_53, rfl⟩ l_40 hg7 ?_
  refine y_aload_n (i := 0) (n := 55) ⟨dX2_thingFacts_54, rfl⟩ rfl ?_
  refine y_getR (n := 58) ⟨dX2_thingFacts_55, rfl⟩ kfX2_9 l_39 rfl r_39_4 ?_
  refine y_iload_n (i := 1) (n := 59) ⟨dX2_thingFacts_58, rfl⟩ rfl ?_
  refine y_bipush (n := 61) (v := 9) ⟨dX2_thingFacts_59, rfl⟩ kb_9 ?_
  refine y_iadd (n := 62) ⟨dX2_thingFacts_61, rfl⟩ ?_
  refine y_iload_n (i := 3) (n := 63) ⟨dX2_thingFacts_62, rfl⟩ rfl ?_
  obtain ⟨hg8, hf⟩ := g_s hf
  refine y_iastore (n := 64) ⟨dX2_thingFacts_63, rfl⟩ l_40 hg8 ?_
  refine y_aload_n (i := 0) (n := 65) ⟨dX2_thingFacts_64, rfl⟩ rfl ?_
  refine y_getR (n := 68) ⟨dX2_thingFacts_65, rfl⟩ kfX2_9 l_39 rfl r_39_4 ?_
  refine y_iload_n (i := 1) (n := 69) ⟨dX2_thingFacts_68, rfl⟩ rfl ?_
  refine y_bipush (n := 71) (v := 12) ⟨dX2_thingFacts_69, rfl⟩ kb_12 ?_
  refine y_iadd (n := 72) ⟨dX2_thingFacts_71, rfl⟩ ?_
  refine y_iload (i := 6) (n := 74) ⟨dX2_thingFacts_72, rfl⟩ rfl ?_
  refine y_iload (i := 5) (n := 76) ⟨dX2_thingFacts_74, rfl⟩ rfl ?_
  refine y_icmp_le (t := 83) (n := 79) ⟨dX2_thingFacts_76, rfl, rfl⟩ (fun (hc : v5 ≤ a5) => ?_) (fun (hc : ¬ (v5 ≤ a5)) => ?_)
  · replace hf := i_t hc hf
    refine y_iconst (n := 84) (v := 0) ⟨dX2_thingFacts_83, rfl⟩ ki_0 ?_
    exact y_wk (L2 := [none, none, none, none, none, some (.int a5), some (.int v5)]) ⟨Or.inl rfl, Or.inl rfl, Or.inl rfl, Or.inl rfl, Or.inr rfl, Or.inr rfl, Or.inr rfl, trivial⟩ (w_t_ju_thingFacts_84 a5 v5 (a1 + 12) 0 (sI (sI t2 40 (a1 + 8).toNatClampNeg v5) 40 (a1 + 9).toNatClampNeg a3) hf hk)
  · replace hf := i_f hc hf
    refine y_iconst (n := 80) (v := 1) ⟨dX2_thingFacts_79, rfl⟩ ki_1 ?_
    refine y_goto (t := 84) ⟨dX2_thingFacts_80, rfl, rfl⟩ ?_
    exact y_wk (L2 := [none, none, none, none, none, some (.int a5), some (.int v5)]) ⟨Or.inl rfl, Or.inl rfl, Or.inl rfl, Or.inl rfl, Or.inr rfl, Or.inr rfl, Or.inr rfl, trivial⟩ (w_t_ju_thingFacts_84 a5 v5 (a1 + 12) 1 (sI (sI t2 40 (a1 + 8).toNatClampNeg v5) 40 (a1 + 9).toNatClampNeg a3) hf hk)
theorem c_ju_thingFacts (a1 : Int32) (a2 : Int32) (a3 : Int32) (a4 : Int32) (a5 : Int32) (M : dM) {o : (Int32 × dM)} {y : mz_M} {d : Nat} {Q : mz_P} {pc n i : Nat} {L : List (Option Value)} {st : List Value} (h : mz_d y.2.1 pc n 3 (.invokevirtual i)) (hl : mz_ml y.1.cls i yX2_thingFacts) (hf : f_ju_thingFacts a1 a2 a3 a4 a5 M = some o) (hd : 2 + 1 ≤ d) (hsm : (st.map (fun v => v.category)).sum ≤ 8) (hLr : mz_rL 133 L = true) (hSr : mz_rS 133 st = true) (kk : mW y d Q n L (.int o.1 :: st) o.2) : mW y d Q pc L (.int a5 :: .int a4 :: .int a3 :: .int a2 :: .int a1 :: .ref 39 :: st) M :=
  y_callV kmX2_thingFacts kvX2_thingFacts l_39 (by decide +kernel) (by decide +kernel) h hl (ok_ju_thingFacts a1 a2 a3 a4 a5 M hf) (vs := [.int a1, .int a2, .int a3, .int a4, .int a5]) rfl rfl hd hsm hLr hSr kk
noncomputable def f_jd_bitCount_95d88 (a1 : Int64) : Int32 :=
  (((((((((a1 - (((a1.toUInt64 >>> ((1 : Int32).toInt64.toUInt64 &&& Int64.toUInt64 63)).toInt64) &&& 6148914691236517205)) &&& 3689348814741910323) + ((((a1 - (((a1.toUInt64 >>> ((1 : Int32).toInt64.toUInt64 &&& Int64.toUInt64 63)).toInt64) &&& 6148914691236517205)).toUInt64 >>> ((2 : Int32).toInt64.toUInt64 &&& Int64.toUInt64 63)).toInt64) &&& 3689348814741910323)) + (((((a1 - (((a1.toUInt64 >>> ((1 : Int32).toInt64.toUInt64 &&& Int64.toUInt64 63)).toInt64) &&& 6148914691236517205)) &&& 3689348814741910323) + ((((a1 - (((a1.toUInt64 >>> ((1 : Int32).toInt64.toUInt64 &&& Int64.toUInt64 63)).toInt64) &&& 6148914691236517205)).toUInt64 >>> ((2 : Int32).toInt64.toUInt64 &&& Int64.toUInt64 63)).toInt64) &&& 3689348814741910323)).toUInt64 >>> ((4 : Int32).toInt64.toUInt64 &&& Int64.toUInt64 63)).toInt64)) &&& 1085102592571150095) + (((((((a1 - (((a1.toUInt64 >>> ((1 : Int32).toInt64.toUInt64 &&& Int64.toUInt64 63)).toInt64) &&& 6148914691236517205)) &&& 3689348814741910323) + ((((a1 - (((a1.toUInt64 >>> ((1 : Int32).toInt64.toUInt64 &&& Int64.toUInt64 63)).toInt64) &&& 6148914691236517205)).toUInt64 >>> ((2 : Int32).toInt64.toUInt64 &&& Int64.toUInt64 63)).toInt64) &&& 3689348814741910323)) + (((((a1 - (((a1.toUInt64 >>> ((1 : Int32).toInt64.toUInt64 &&& Int64.toUInt64 63)).toInt64) &&& 6148914691236517205)) &&& 3689348814741910323) + ((((a1 - (((a1.toUInt64 >>> ((1 : Int32).toInt64.toUInt64 &&& Int64.toUInt64 63)).toInt64) &&& 6148914691236517205)).toUInt64 >>> ((2 : Int32).toInt64.toUInt64 &&& Int64.toUInt64 63)).toInt64) &&& 3689348814741910323)).toUInt64 >>> ((4 : Int32).toInt64.toUInt64 &&& Int64.toUInt64 63)).toInt64)) &&& 1085102592571150095).toUInt64 >>> ((8 : Int32).toInt64.toUInt64 &&& Int64.toUInt64 63)).toInt64)) + ((((((((a1 - (((a1.toUInt64 >>> ((1 : Int32).toInt64.toUInt64 &&& Int64.toUInt64 63)).toInt64) &&& 6148914691236517205)) &&& 3689348814741910323) + ((((a1 - (((a1.toUInt64 >>> ((1 : Int32).toInt64.toUInt64 &&& Int64.toUInt64 63)).toInt64) &&& 6148914691236517205)).toUInt64 >>> ((2 : Int32).toInt64.toUInt64 &&& Int64.toUInt64 63)).toInt64) &&& 3689348814741910323)) + (((((a1 - (((a1.toUInt64 >>> ((1 : Int32).toInt64.toUInt64 &&& Int64.toUInt64 63)).toInt64) &&& 6148914691236517205)) &&& 3689348814741910323) + ((((a1 - (((a1.toUInt64 >>> ((1 : Int32).toInt64.toUInt64 &&& Int64.toUInt64 63)).toInt64) &&& 6148914691236517205)).toUInt64 >>> ((2 : Int32).toInt64.toUInt64 &&& Int64.toUInt64 63)).toInt64) &&& 3689348814741910323)).toUInt64 >>> ((4 : Int32).toInt64.toUInt64 &&& Int64.toUInt64 63)).toInt64)) &&& 1085102592571150095) + (((((((a1 - (((a1.toUInt64 >>> ((1 : Int32).toInt64.toUInt64 &&& Int64.toUInt64 63)).toInt64) &&& 6148914691236517205)) &&& 3689348814741910323) + ((((a1 - (((a1.toUInt64 >>> ((1 : Int32).toInt64.toUInt64 &&& Int64.toUInt64 63)).toInt64) &&& 6148914691236517205)).toUInt64 >>> ((2 : Int32).toInt64.toUInt64 &&& Int64.toUInt64 63)).toInt64) &&& 3689348814741910323)) + (((((a1 - (((a1.toUInt64 >>> ((1 : Int32).toInt64.toUInt64 &&& Int64.toUInt64 63)).toInt64) &&& 6148914691236517205)) &&& 3689348814741910323) + ((((a1 - (((a1.toUInt64 >>> ((1 : Int32).toInt64.toUInt64 &&& Int64.toUInt64 63)).toInt64) &&& 6148914691236517205)).toUInt64 >>> ((2 : Int32).toInt64.toUInt64 &&& Int64.toUInt64 63)).toInt64) &&& 3689348814741910323)).toUInt64 >>> ((4 : Int32).toInt64.toUInt64 &&& Int64.toUInt64 63)).toInt64)) &&& 1085102592571150095).toUInt64 >>> ((8 : Int32).toInt64.toUInt64 &&& Int64.toUInt64 63)).toInt64)).toUInt64 >>> ((16 : Int32).toInt64.toUInt64 &&& Int64.toUInt64 63)).toInt64)) + (((((((((a1 - (((a1.toUInt64 >>> ((1 : Int32).toInt64.toUInt64 &&& Int64.toUInt64 63)).toInt64) &&& 6148914691236517205)) &&& 3689348814741910323) + ((((a1 - (((a1.toUInt64 >>> ((1 : Int32).toInt64.toUInt64 &&& Int64.toUInt64 63)).toInt64) &&& 6148914691236517205)).toUInt64 >>> ((2 : Int32).toInt64.toUInt64 &&& Int64.toUInt64 63)).toInt64) &&& 3689348814741910323)) + (((((a1 - (((a1.toUInt64 >>> ((1 : Int32).toInt64.toUInt64 &&& Int64.toUInt64 63)).toInt64) &&& 6148914691236517205)) &&& 3689348814741910323) + ((((a1 - (((a1.toUInt64 >>> ((1 : Int32).toInt64.toUInt64 &&& Int64.toUInt64 63)).toInt64) &&& 6148914691236517205)).toUInt64 >>> ((2 : Int32).toInt64.toUInt64 &&& Int64.toUInt64 63)).toInt64) &&& 3689348814741910323)).toUInt64 >>> ((4 : Int32).toInt64.toUInt64 &&& Int64.toUInt64 63)).toInt64)) &&& 1085102592571150095) + (((((((a1 - (((a1.toUInt64 >>> ((1 : Int32).toInt64.toUInt64 &&& Int64.toUInt64 63)).toInt64) &&& 6148914691236517205)) &&& 3689348814741910323) + ((((a1 - (((a1.toUInt64 >>> ((1 : Int32).toInt64.toUInt64 &&& Int64.toUInt64 63)).toInt64) &&& 6148914691236517205)).toUInt64 >>> ((2 : Int32).toInt64.toUInt64 &&& Int64.toUInt64 63)).toInt64) &&& 3689348814741910323)) + (((((a1 - (((a1.toUInt64 >>> ((1 : Int32).toInt64.toUInt64 &&& Int64.toUInt64 63)).toInt64) &&& 6148914691236517205)) &&& 3689348814741910323) + ((((a1 - (((a1.toUInt64 >>> ((1 : Int32).toInt64.toUInt64 &&& Int64.toUInt64 63)).toInt64) &&& 6148914691236517205)).toUInt64 >>> ((2 : Int32).toInt64.toUInt64 &&& Int64.toUInt64 63)).toInt64) &&& 3689348814741910323)).toUInt64 >>> ((4 : Int32).toInt64.toUInt64 &&& Int64.toUInt64 63)).toInt64)) &&& 1085102592571150095).toUInt64 >>> ((8 : Int32).toInt64.toUInt64 &&& Int64.toUInt64 63)).toInt64)) + ((((((((a1 - (((a1.toUInt64 >>> ((1 : Int32).toInt64.toUInt64 &&& Int64.toUInt64 63)).toInt64) &&& 6148914691236517205)) &&& 3689348814741910323) + ((((a1 - (((a1.toUInt64 >>> ((1 : Int32).toInt64.toUInt64 &&& Int64.toUInt64 63)).toInt64) &&& 6148914691236517205)).toUInt64 >>> ((2 : Int32).toInt64.toUInt64 &&& Int64.toUInt64 63)).toInt64) &&& 3689348814741910323)) + (((((a1 - (((a1.toUInt64 >>> ((1 : Int32).toInt64.toUInt64 &&& Int64.toUInt64 63)).toInt64) &&& 6148914691236517205)) &&& 3689348814741910323) + ((((a1 - (((a1.toUInt64 >>> ((1 : Int32).toInt64.toUInt64 &&& Int64.toUInt64 63)).toInt64) &&& 6148914691236517205)).toUInt64 >>> ((2 : Int32).toInt64.toUInt64 &&& Int64.toUInt64 63)).toInt64) &&& 3689348814741910323)).toUInt64 >>> ((4 : Int32).toInt64.toUInt64 &&& Int64.toUInt64 63)).toInt64)) &&& 1085102592571150095) + (((((((a1 - (((a1.toUInt64 >>> ((1 : Int32).toInt64.toUInt64 &&& Int64.toUInt64 63)).toInt64) &&& 6148914691236517205)) &&& 3689348814741910323) + ((((a1 - (((a1.toUInt64 >>> ((1 : Int32).toInt64.toUInt64 &&& Int64.toUInt64 63)).toInt64) &&& 6148914691236517205)).toUInt64 >>> ((2 : Int32).toInt64.toUInt64 &&& Int64.toUInt64 63)).toInt64) &&& 3689348814741910323)) + (((((a1 - (((a1.toUInt64 >>> ((1 : Int32).toInt64.toUInt64 &&& Int64.toUInt64 63)).toInt64) &&& 6148914691236517205)) &&& 3689348814741910323) + ((((a1 - (((a1.toUInt64 >>> ((1 : Int32).toInt64.toUInt64 &&& Int64.toUInt64 63)).toInt64) &&& 6148914691236517205)).toUInt64 >>> ((2 : Int32).toInt64.toUInt64 &&& Int64.toUInt64 63)).toInt64) &&& 3689348814741910323)).toUInt64 >>> ((4 : Int32).toInt64.toUInt64 &&& Int64.toUInt64 63)).toInt64)) &&& 1085102592571150095).toUInt64 >>> ((8 : Int32).toInt64.toUInt64 &&& Int64.toUInt64 63)).toInt64)).toUInt64 >>> ((16 : Int32).toInt64.toUInt64 &&& Int64.toUInt64 63)).toInt64)).toUInt64 >>> ((32 : Int32).toInt64.toUInt64 &&& Int64.toUInt64 63)).toInt64)).toInt32 &&& 127)
theorem ok_jd_bitCount_95d88 (a1 : Int64) (M : dM) {o : Int32} (hf : f_jd_bitCount_95d88 a1 = o) : mO mJ13_bitCount_95d88 1 [.long a1] M (some (.int o)) M := by
  refine y_ok (by decide +kernel) (Nat.le_of_ble_eq_true rfl) (L0 := [some (.long a1), none]) rfl ?_
  have hk := mR_mQ (some (.int o)) M
  generalize mQ _ _ = Q at hk ⊢
  unfold f_jd_bitCount_95d88 at hf
  refine y_lload_n (i := 0) (n := 1) ⟨dJ13_bitCount_95d88_0, rfl⟩ rfl ?_
  refine y_lload_n (i := 0) (n := 2) ⟨dJ13_bitCount_95d88_1, rfl⟩ rfl ?_
  refine y_iconst (n := 3) (v := 1) ⟨dJ13_bitCount_95d88_2, rfl⟩ ki_1 ?_
  refine y_lushr (n := 4) ⟨dJ13_bitCount_95d88_3, rfl⟩ ?_
  refine y_ldc2 (n := 7) ⟨dJ13_bitCount_95d88_4, rfl⟩ kcJ13_314 ?_
  refine y_land (n := 8) ⟨dJ13_bitCount_95d88_7, rfl⟩ ?_
  refine y_lsub (n := 9) ⟨dJ13_bitCount_95d88_8, rfl⟩ ?_
  refine y_lstore_n (i := 0) (n := 10) (L2 := [some (.long (a1 - (((a1.toUInt64 >>> ((1 : Int32).toInt64.toUInt64 &&& Int64.toUInt64 63)).toInt64) &&& 6148914691236517205))), none]) ⟨dJ13_bitCount_95d88_9, rfl⟩ (by decide) rfl rfl ?_
  refine y_lload_n (i := 0) (n := 11) ⟨dJ13_bitCount_95d88_10, rfl⟩ rfl ?_
  refine y_ldc2 (n := 14) ⟨dJ13_bitCount_95d88_11, rfl⟩ kcJ13_316 ?_
  refine y_land (n := 15) ⟨dJ13_bitCount_95d88_14, rfl⟩ ?_
  refine y_lload_n (i := 0) (n := 16) ⟨dJ13_bitCount_95d88_15, rfl⟩ rfl ?_
  refine y_iconst (n := 17) (v := 2) ⟨dJ13_bitCount_95d88_16, rfl⟩ ki_2 ?_
  refine y_lushr (n := 18) ⟨dJ13_bitCount_95d88_17, rfl⟩ ?_
  refine y_ldc2 (n := 21) ⟨dJ13_bitCount_95d88_18, rfl⟩ kcJ13_316 ?_
  refine y_land (n := 22) ⟨dJ13_bitCount_95d88_21, rfl⟩ ?_
  refine y_ladd (n := 23) ⟨dJ13_bitCount_95d88_22, rfl⟩ ?_
  refine y_lstore_n (i := 0) (n := 24) (L2 := [some (.long (((a1 - (((a1.toUInt64 >>> ((1 : Int32).toInt64.toUInt64 &&& Int64.toUInt64 63)).toInt64) &&& 6148914691236517205)) &&& 3689348814741910323) + ((((a1 - (((a1.toUInt64 >>> ((1 : Int32).toInt64.toUInt64 &&& Int64.toUInt64 63)).toInt64) &&& 6148914691236517205)).toUInt64 >>> ((2 : Int32).toInt64.toUInt64 &&& Int64.toUInt64 63)).toInt64) &&& 3689348814741910323))), none]) ⟨dJ13_bitCount_95d88_23, rfl⟩ (by decide) rfl rfl ?_
  refine y_lload_n (i := 0) (n := 25) ⟨dJ13_bitCount_95d88_24, rfl⟩ rfl ?_
  refine y_lload_n (i := 0) (n := 26) ⟨dJ13_bitCount_95d88_25, rfl⟩ rfl ?_
  refine y_iconst (n := 27) (v := 4) ⟨dJ13_bitCount_95d88_26, rfl⟩ ki_4 ?_
  refine y_lushr (n := 28) ⟨dJ13_bitCount_95d88_27, rfl⟩ ?_
  refine y_ladd (n := 29) ⟨dJ13_bitCount_95d88_28, rfl⟩ ?_
  refine y_ldc2 (n := 32) ⟨dJ13_bitCount_95d88_29, rfl⟩ kcJ13_318 ?_
  refine y_land (n := 33) ⟨dJ13_bitCount_95d88_32, rfl⟩ ?_
  refine y_lstore_n (i := 0) (n := 34) (L2 := [some (.long (((((a1 - (((a1.toUInt64 >>> ((1 : Int32).toInt64.toUInt64 &&& Int64.toUInt64 63)).toInt64) &&& 6148914691236517205)) &&& 3689348814741910323) + ((((a1 - (((a1.toUInt64 >>> ((1 : Int32).toInt64.toUInt64 &&& Int64.toUInt64 63)).toInt64) &&& 6148914691236517205)).toUInt64 >>> ((2 : Int32).toInt64.toUInt64 &&& Int64.toUInt64 63)).toInt64) &&& 3689348814741910323)) + (((((a1 - (((a1.toUInt64 >>> ((1 : Int32).toInt64.toUInt64 &&& Int64.toUInt64 63)).toInt64) &&& 6148914691236517205)) &&& 3689348814741910323) + ((((a1 - (((a1.toUInt64 >>> ((1 : Int32).toInt64.toUInt64 &&& Int64.toUInt64 63)).toInt64) &&& 6148914691236517205)).toUInt64 >>> ((2 : Int32).toInt64.toUInt64 &&& Int64.toUInt64 63)).toInt64) &&& 3689348814741910323)).toUInt64 >>> ((4 : Int32).toInt64.toUInt64 &&& Int64.toUInt64 63)).toInt64)) &&& 1085102592571150095)), none]) ⟨dJ13_bitCount_95d88_33, rfl⟩ (by decide) rfl rfl ?_
  refine y_lload_n (i := 0) (n := 35) ⟨dJ13_bitCount_95d88_34, rfl⟩ rfl ?_
  refine y_lload_n (i := 0) (n := 36) ⟨dJ13_bitCount_95d88_35, rfl⟩ rfl ?_
  refine y_bipush (n := 38) (v := 8) ⟨dJ13_bitCount_95d88_36, rfl⟩ kb_8 ?_
  refine y_lushr (n := 39) ⟨dJ13_bitCount_95d88_38, rfl⟩ ?_
  refine y_ladd (n := 40) ⟨dJ13_bitCount_95d88_39, rfl⟩ ?_
  refine y_lstore_n (i := 0) (n := 41) (L2 := [some (.long ((((((a1 - (((a1.toUInt64 >>> ((1 : Int32).toInt64.toUInt64 &&& Int64.toUInt64 63)).toInt64) &&& 6148914691236517205)) &&& 3689348814741910323) + ((((a1 - (((a1.toUInt64 >>> ((1 : Int32).toInt64.toUInt64 &&& Int64.toUInt64 63)).toInt64) &&& 6148914691236517205)).toUInt64 >>> ((2 : Int32).toInt64.toUInt64 &&& Int64.toUInt64 63)).toInt64) &&& 3689348814741910323)) + (((((a1 - (((a1.toUInt64 >>> ((1 : Int32).toInt64.toUInt64 &&& Int64.toUInt64 63)).toInt64) &&& 6148914691236517205)) &&& 3689348814741910323) + ((((a1 - (((a1.toUInt64 >>> ((1 : Int32).toInt64.toUInt64 &&& Int64.toUInt64 63)).toInt64) &&& 6148914691236517205)).toUInt64 >>> ((2 : Int32).toInt64.toUInt64 &&& Int64.toUInt64 63)).toInt64) &&& 3689348814741910323)).toUInt64 >>> ((4 : Int32).toInt64.toUInt64 &&& Int64.toUInt64 63)).toInt64)) &&& 1085102592571150095) + (((((((a1 - (((a1.toUInt64 >>> ((1 : Int32).toInt64.toUInt64 &&& Int64.toUInt64 63)).toInt64) &&& 6148914691236517205)) &&& 3689348814741910323) + ((((a1 - (((a1.toUInt64 >>> ((1 : Int32).toInt64.toUInt64 &&& Int64.toUInt64 63)).toInt64) &&& 6148914691236517205)).toUInt64 >>> ((2 : Int32).toInt64.toUInt64 &&& Int64.toUInt64 63)).toInt64) &&& 3689348814741910323)) + (((((a1 - (((a1.toUInt64 >>> ((1 : Int32).toInt64.toUInt64 &&& Int64.toUInt64 63)).toInt64) &&& 6148914691236517205)) &&& 3689348814741910323) + ((((a1 - (((a1.toUInt64 >>> ((1 : Int32).toInt64.toUInt64 &&& Int64.toUInt64 63)).toInt64) &&& 6148914691236517205)).toUInt64 >>> ((2 : Int32).toInt64.toUInt64 &&& Int64.toUInt64 63)).toInt64) &&& 3689348814741910323)).toUInt64 >>> ((4 : Int32).toInt64.toUInt64 &&& Int64.toUInt64 63)).toInt64)) &&& 1085102592571150095).toUInt64 >>> ((8 : Int32).toInt64.toUInt64 &&& Int64.toUInt64 63)).toInt64))), none]) ⟨dJ13_bitCount_95d88_40, rfl⟩ (by decide) rfl rfl ?_
  refine y_lload_n (i := 0) (n := 42) ⟨dJ13_bitCount_95d88_41, rfl⟩ rfl ?_
  refine y_lload_n (i := 0) (n := 43) ⟨dJ13_bitCount_95d88_42, rfl⟩ rfl ?_
  refine y_bipush (n := 45) (v := 16) ⟨dJ13_bitCount_95d88_43, rfl⟩ kb_16 ?_
  refine y_lushr (n := 46) ⟨dJ13_bitCount_95d88_45, rfl⟩ ?_
  refine y_ladd (n := 47) ⟨dJ13_bitCount_95d88_46, rfl⟩ ?_
  refine y_lstore_n (i := 0) (n := 48) (L2 := [some (.long (((((((a1 - (((a1.toUInt64 >>> ((1 : Int32).toInt64.toUInt64 &&& Int64.toUInt64 63)).toInt64) &&& 6148914691236517205)) &&& 3689348814741910323) + ((((a1 - (((a1.toUInt64 >>> ((1 : Int32).toInt64.toUInt64 &&& Int64.toUInt64 63)).toInt64) &&& 6148914691236517205)).toUInt64 >>> ((2 : Int32).toInt64.toUInt64 &&& Int64.toUInt64 63)).toInt64) &&& 3689348814741910323)) + (((((a1 - (((a1.toUInt64 >>> ((1 : Int32).toInt64.toUInt64 &&& Int64.toUInt64 63)).toInt64) &&& 6148914691236517205)) &&& 3689348814741910323) + ((((a1 - (((a1.toUInt64 >>> ((1 : Int32).toInt64.toUInt64 &&& Int64.toUInt64 63)).toInt64) &&& 6148914691236517205)).toUInt64 >>> ((2 : Int32).toInt64.toUInt64 &&& Int64.toUInt64 63)).toInt64) &&& 3689348814741910323)).toUInt64 >>> ((4 : Int32).toInt64.toUInt64 &&& Int64.toUInt64 63)).toInt64)) &&& 1085102592571150095) + (((((((a1 - (((a1.toUInt64 >>> ((1 : Int32).toInt64.toUInt64 &&& Int64.toUInt64 63)).toInt64) &&& 6148914691236517205)) &&& 3689348814741910323) + ((((a1 - (((a1.toUInt64 >>> ((1 : Int32).toInt64.toUInt64 &&& Int64.toUInt64 63)).toInt64) &&& 6148914691236517205)).toUInt64 >>> ((2 : Int32).toInt64.toUInt64 &&& Int64.toUInt64 63)).toInt64) &&& 3689348814741910323)) + (((((a1 - (((a1.toUInt64 >>> ((1 : Int32).toInt64.toUInt64 &&& Int64.toUInt64 63)).toInt64) &&& 6148914691236517205)) &&& 3689348814741910323) + ((((a1 - (((a1.toUInt64 >>> ((1 : Int32).toInt64.toUInt64 &&& Int64.toUInt64 63)).toInt64) &&& 6148914691236517205)).toUInt64 >>> ((2 : Int32).toInt64.toUInt64 &&& Int64.toUInt64 63)).toInt64) &&& 3689348814741910323)).toUInt64 >>> ((4 : Int32).toInt64.toUInt64 &&& Int64.toUInt64 63)).toInt64)) &&& 1085102592571150095).toUInt64 >>> ((8 : Int32).toInt64.toUInt64 &&& Int64.toUInt64 63)).toInt64)) + ((((((((a1 - (((a1.toUInt64 >>> ((1 : Int32).toInt64.toUInt64 &&& Int64.toUInt64 63)).toInt64) &&& 6148914691236517205)) &&& 3689348814741910323) + ((((a1 - (((a1.toUInt64 >>> ((1 : Int32).toInt64.toUInt64 &&& Int64.toUInt64 63)).toInt64) &&& 6148914691236517205)).toUInt64 >>> ((2 : Int32).toInt64.toUInt64 &&& Int64.toUInt64 63)).toInt64) &&& 3689348814741910323)) + (((((a1 - (((a1.toUInt64 >>> ((1 : Int32).toInt64.toUInt64 &&& Int64.toUInt64 63)).toInt64) &&& 6148914691236517205)) &&& 3689348814741910323) + ((((a1 - (((a1.toUInt64 >>> ((1 : Int32).toInt64.toUInt64 &&& Int64.toUInt64 63)).toInt64) &&& 6148914691236517205)).toUInt64 >>> ((2 : Int32).toInt64.toUInt64 &&& Int64.toUInt64 63)).toInt64) &&& 3689348814741910323)).toUInt64 >>> ((4 : Int32).toInt64.toUInt64 &&& Int64.toUInt64 63)).toInt64)) &&& 1085102592571150095) + (((((((a1 - (((a1.toUInt64 >>> ((1 : Int32).toInt64.toUInt64 &&& Int64.toUInt64 63)).toInt64) &&& 6148914691236517205)) &&& 3689348814741910323) + ((((a1 - (((a1.toUInt64 >>> ((1 : Int32).toInt64.toUInt64 &&& Int64.toUInt64 63)).toInt64) &&& 6148914691236517205)).toUInt64 >>> ((2 : Int32).toInt64.toUInt64 &&& Int64.toUInt64 63)).toInt64) &&& 3689348814741910323)) + (((((a1 - (((a1.toUInt64 >>> ((1 : Int32).toInt64.toUInt64 &&& Int64.toUInt64 63)).toInt64) &&& 6148914691236517205)) &&& 3689348814741910323) + ((((a1 - (((a1.toUInt64 >>> ((1 : Int32).toInt64.toUInt64 &&& Int64.toUInt64 63)).toInt64) &&& 6148914691236517205)).toUInt64 >>> ((2 : Int32).toInt64.toUInt64 &&& Int64.toUInt64 63)).toInt64) &&& 3689348814741910323)).toUInt64 >>> ((4 : Int32).toInt64.toUInt64 &&& Int64.toUInt64 63)).toInt64)) &&& 1085102592571150095).toUInt64 >>> ((8 : Int32).toInt64.toUInt64 &&& Int64.toUInt64 63)).toInt64)).toUInt64 >>> ((16 : Int32).toInt64.toUInt64 &&& Int64.toUInt64 63)).toInt64))), none]) ⟨dJ13_bitCount_95d88_47, rfl⟩ (by decide) rfl rfl ?_
  refine y_lload_n (i := 0) (n := 49) ⟨dJ13_bitCount_95d88_48, rfl⟩ rfl ?_
  refine y_lload_n (i := 0) (n := 50) ⟨dJ13_bitCount_95d88_49, rfl⟩ rfl ?_
  refine y_bipush (n := 52) (v := 32) ⟨dJ13_bitCount_95d88_50, rfl⟩ kb_32 ?_
  refine y_lushr (n := 53) ⟨dJ13_bitCount_95d88_52, rfl⟩ ?_
  refine y_ladd (n := 54) ⟨dJ13_bitCount_95d88_53, rfl⟩ ?_
  refine y_lstore_n (i := 0) (n := 55) (L2 := [some (.long ((((((((a1 - (((a1.toUInt64 >>> ((1 : Int32).toInt64.toUInt64 &&& Int64.toUInt64 63)).toInt64) &&& 6148914691236517205)) &&& 3689348814741910323) + ((((a1 - (((a1.toUInt64 >>> ((1 : Int32).toInt64.toUInt64 &&& Int64.toUInt64 63)).toInt64) &&& 6148914691236517205)).toUInt64 >>> ((2 : Int32).toInt64.toUInt64 &&& Int64.toUInt64 63)).toInt64) &&& 3689348814741910323)) + (((((a1 - (((a1.toUInt64 >>> ((1 : Int32).toInt64.toUInt64 &&& Int64.toUInt64 63)).toInt64) &&& 6148914691236517205)) &&& 3689348814741910323) + ((((a1 - (((a1.toUInt64 >>> ((1 : Int32).toInt64.toUInt64 &&& Int64.toUInt64 63)).toInt64) &&& 6148914691236517205)).toUInt64 >>> ((2 : Int32).toInt64.toUInt64 &&& Int64.toUInt64 63)).toInt64) &&& 3689348814741910323)).toUInt64 >>> ((4 : Int32).toInt64.toUInt64 &&& Int64.toUInt64 63)).toInt64)) &&& 1085102592571150095) + (((((((a1 - (((a1.toUInt64 >>> ((1 : Int32).toInt64.toUInt64 &&& Int64.toUInt64 63)).toInt64) &&& 6148914691236517205)) &&& 3689348814741910323) + ((((a1 - (((a1.toUInt64 >>> ((1 : Int32).toInt64.toUInt64 &&& Int64.toUInt64 63)).toInt64) &&& 6148914691236517205)).toUInt64 >>> ((2 : Int32).toInt64.toUInt64 &&& Int64.toUInt64 63)).toInt64) &&& 3689348814741910323)) + (((((a1 - (((a1.toUInt64 >>> ((1 : Int32).toInt64.toUInt64 &&& Int64.toUInt64 63)).toInt64) &&& 6148914691236517205)) &&& 3689348814741910323) + ((((a1 - (((a1.toUInt64 >>> ((1 : Int32).toInt64.toUInt64 &&& Int64.toUInt64 63)).toInt64) &&& 6148914691236517205)).toUInt64 >>> ((2 : Int32).toInt64.toUInt64 &&& Int64.toUInt64 63)).toInt64) &&& 3689348814741910323)).toUInt64 >>> ((4 : Int32).toInt64.toUInt64 &&& Int64.toUInt64 63)).toInt64)) &&& 1085102592571150095).toUInt64 >>> ((8 : Int32).toInt64.toUInt64 &&& Int64.toUInt64 63)).toInt64)) + ((((((((a1 - (((a1.toUInt64 >>> ((1 : Int32).toInt64.toUInt64 &&& Int64.toUInt64 63)).toInt64) &&& 6148914691236517205)) &&& 3689348814741910323) + ((((a1 - (((a1.toUInt64 >>> ((1 : Int32).toInt64.toUInt64 &&& Int64.toUInt64 63)).toInt64) &&& 6148914691236517205)).toUInt64 >>> ((2 : Int32).toInt64.toUInt64 &&& Int64.toUInt64 63)).toInt64) &&& 3689348814741910323)) + (((((a1 - (((a1.toUInt64 >>> ((1 : Int32).toInt64.toUInt64 &&& Int64.toUInt64 63)).toInt64) &&& 6148914691236517205)) &&& 3689348814741910323) + ((((a1 - (((a1.toUInt64 >>> ((1 : Int32).toInt64.toUInt64 &&& Int64.toUInt64 63)).toInt64) &&& 6148914691236517205)).toUInt64 >>> ((2 : Int32).toInt64.toUInt64 &&& Int64.toUInt64 63)).toInt64) &&& 3689348814741910323)).toUInt64 >>> ((4 : Int32).toInt64.toUInt64 &&& Int64.toUInt64 63)).toInt64)) &&& 1085102592571150095) + (((((((a1 - (((a1.toUInt64 >>> ((1 : Int32).toInt64.toUInt64 &&& Int64.toUInt64 63)).toInt64) &&& 6148914691236517205)) &&& 3689348814741910323) + ((((a1 - (((a1.toUInt64 >>> ((1 : Int32).toInt64.toUInt64 &&& Int64.toUInt64 63)).toInt64) &&& 6148914691236517205)).toUInt64 >>> ((2 : Int32).toInt64.toUInt64 &&& Int64.toUInt64 63)).toInt64) &&& 3689348814741910323)) + (((((a1 - (((a1.toUInt64 >>> ((1 : Int32).toInt64.toUInt64 &&& Int64.toUInt64 63)).toInt64) &&& 6148914691236517205)) &&& 3689348814741910323) + ((((a1 - (((a1.toUInt64 >>> ((1 : Int32).toInt64.toUInt64 &&& Int64.toUInt64 63)).toInt64) &&& 6148914691236517205)).toUInt64 >>> ((2 : Int32).toInt64.toUInt64 &&& Int64.toUInt64 63)).toInt64) &&& 3689348814741910323)).toUInt64 >>> ((4 : Int32).toInt64.toUInt64 &&& Int64.toUInt64 63)).toInt64)) &&& 1085102592571150095).toUInt64 >>> ((8 : Int32).toInt64.toUInt64 &&& Int64.toUInt64 63)).toInt64)).toUInt64 >>> ((16 : Int32).toInt64.toUInt64 &&& Int64.toUInt64 63)).toInt64)) + (((((((((a1 - (((a1.toUInt64 >>> ((1 : Int32).toInt64.toUInt64 &&& Int64.toUInt64 63)).toInt64) &&& 6148914691236517205)) &&& 3689348814741910323) + ((((a1 - (((a1.toUInt64 >>> ((1 : Int32).toInt64.toUInt64 &&& Int64.toUInt64 63)).toInt64) &&& 6148914691236517205)).toUInt64 >>> ((2 : Int32).toInt64.toUInt64 &&& Int64.toUInt64 63)).toInt64) &&& 3689348814741910323)) + (((((a1 - (((a1.toUInt64 >>> ((1 : Int32).toInt64.toUInt64 &&& Int64.toUInt64 63)).toInt64) &&& 6148914691236517205)) &&& 3689348814741910323) + ((((a1 - (((a1.toUInt64 >>> ((1 : Int32).toInt64.toUInt64 &&& Int64.toUInt64 63)).toInt64) &&& 6148914691236517205)).toUInt64 >>> ((2 : Int32).toInt64.toUInt64 &&& Int64.toUInt64 63)).toInt64) &&& 3689348814741910323)).toUInt64 >>> ((4 : Int32).toInt64.toUInt64 &&& Int64.toUInt64 63)).toInt64)) &&& 1085102592571150095) + (((((((a1 - (((a1.toUInt64 >>> ((1 : Int32).toInt64.toUInt64 &&& Int64.toUInt64 63)).toInt64) &&& 6148914691236517205)) &&& 3689348814741910323) + ((((a1 - (((a1.toUInt64 >>> ((1 : Int32).toInt64.toUInt64 &&& Int64.toUInt64 63)).toInt64) &&& 6148914691236517205)).toUInt64 >>> ((2 : Int32).toInt64.toUInt64 &&& Int64.toUInt64 63)).toInt64) &&& 3689348814741910323)) + (((((a1 - (((a1.toUInt64 >>> ((1 : Int32).toInt64.toUInt64 &&& Int64.toUInt64 63)).toInt64) &&& 6148914691236517205)) &&& 3689348814741910323) + ((((a1 - (((a1.toUInt64 >>> ((1 : Int32).toInt64.toUInt64 &&& Int64.toUInt64 63)).toInt64) &&& 6148914691236517205)).toUInt64 >>> ((2 : Int32).toInt64.toUInt64 &&& Int64.toUInt64 63)).toInt64) &&& 3689348814741910323)).toUInt64 >>> ((4 : Int32).toInt64.toUInt64 &&& Int64.toUInt64 63)).toInt64)) &&& 1085102592571150095).toUInt64 >>> ((8 : Int32).toInt64.toUInt64 &&& Int64.toUInt64 63)).toInt64)) + ((((((((a1 - (((a1.toUInt64 >>> ((1 : Int32).toInt64.toUInt64 &&& Int64.toUInt64 63)).toInt64) &&& 6148914691236517205)) &&& 3689348814741910323) + ((((a1 - (((a1.toUInt64 >>> ((1 : Int32).toInt64.toUInt64 &&& Int64.toUInt64 63)).toInt64) &&& 6148914691236517205)).toUInt64 >>> ((2 : Int32).toInt64.toUInt64 &&& Int64.toUInt64 63)).toInt64) &&& 3689348814741910323)) + (((((a1 - (((a1.toUInt64 >>> ((1 : Int32).toInt64.toUInt64 &&& Int64.toUInt64 63)).toInt64) &&& 6148914691236517205)) &&& 3689348814741910323) + ((((a1 - (((a1.toUInt64 >>> ((1 : Int32).toInt64.toUInt64 &&& Int64.toUInt64 63)).toInt64) &&& 6148914691236517205)).toUInt64 >>> ((2 : Int32).toInt64.toUInt64 &&& Int64.toUInt64 63)).toInt64) &&& 3689348814741910323)).toUInt64 >>> ((4 : Int32).toInt64.toUInt64 &&& Int64.toUInt64 63)).toInt64)) &&& 1085102592571150095) + (((((((a1 - (((a1.toUInt64 >>> ((1 : Int32).toInt64.toUInt64 &&& Int64.toUInt64 63)).toInt64) &&& 6148914691236517205)) &&& 3689348814741910323) + ((((a1 - (((a1.toUInt64 >>> ((1 : Int32).toInt64.toUInt64 &&& Int64.toUInt64 63)).toInt64) &&& 6148914691236517205)).toUInt64 >>> ((2 : Int32).toInt64.toUInt64 &&& Int64.toUInt64 63)).toInt64) &&& 3689348814741910323)) + (((((a1 - (((a1.toUInt64 >>> ((1 : Int32).toInt64.toUInt64 &&& Int64.toUInt64 63)).toInt64) &&& 6148914691236517205)) &&& 3689348814741910323) + ((((a1 - (((a1.toUInt64 >>> ((1 : Int32).toInt64.toUInt64 &&& Int64.toUInt64 63)).toInt64) &&& 6148914691236517205)).toUInt64 >>> ((2 : Int32).toInt64.toUInt64 &&& Int64.toUInt64 63)).toInt64) &&& 3689348814741910323)).toUInt64 >>> ((4 : Int32).toInt64.toUInt64 &&& Int64.toUInt64 63)).toInt64)) &&& 1085102592571150095).toUInt64 >>> ((8 : Int32).toInt64.toUInt64 &&& Int64.toUInt64 63)).toInt64)).toUInt64 >>> ((16 : Int32).toInt64.toUInt64 &&& Int64.toUInt64 63)).toInt64)).toUInt64 >>> ((32 : Int32).toInt64.toUInt64 &&& Int64.toUInt64 63)).toInt64))), none]) ⟨dJ13_bitCount_95d88_54, rfl⟩ (by decide) rfl rfl ?_
  refine y_lload_n (i := 0) (n := 56) ⟨dJ13_bitCount_95d88_55, rfl⟩ rfl ?_
  refine y_l2i (n := 57) ⟨dJ13_bitCount_95d88_56, rfl⟩ ?_
  refine y_bipush (n := 59) (v := 127) ⟨dJ13_bitCount_95d88_57, rfl⟩ kb_127 ?_
  refine y_iand (n := 60) ⟨dJ13_bitCount_95d88_59, rfl⟩ ?_
  cases hf
  exact y_ireturn (n := 61) ⟨dJ13_bitCount_95d88_60, rfl⟩ rfl rfl hk
theorem c_jd_bitCount_95d88 (a1 : Int64) (M : dM) {o : Int32} {y : mz_M} {d : Nat} {Q : mz_P} {pc n i : Nat} {L : List (Option Value)} {st : List Value} (h : mz_d y.2.1 pc n 3 (.invokestatic i)) (hl : mz_ml y.1.cls i yJ13_bitCount_95d88) (hf : f_jd_bitCount_95d88 a1 = o) (hd : 1 + 1 ≤ d) (hsm : (st.map (fun v => v.category)).sum ≤ 8) (hLr : mz_rL 133 L = true) (hSr : mz_rS 133 st = true) (kk : mW y d Q n L (.int o :: st) M) : mW y d Q pc L (.long a1 :: st) M :=
  y_callS kmJ13_bitCount_95d88 ksJ13_bitCount_95d88 h hl (ok_jd_bitCount_95d88 a1 M hf) (vs := [.long a1]) rfl rfl hd hsm hLr hSr kk
noncomputable def f_la_join (a1 : Int32) (a2 : Int32) (a3 : Int32) : Int32 :=
  if a1 = 20001 then
    if a2 = 0 then
      0
    else
      if a3 = 0 then
        0
      else
        1
  else
  if a1 = 20002 then
    if a2 = 0 then
      if a3 = 0 then
        0
      else
        1
    else
      1
  else
  if a1 = 20003 then
    if a3 ≤ a2 then
      0
    else
      1
  else
  if a1 = 20004 then
    if a2 = a3 then
      1
    else
      0
  else
  if a1 = 20005 then
    (a2 + a3)
  else
  if a1 = 20006 then
    (a2 - a3)
  else
  (a2 * a3)
theorem ok_la_join (a1 : Int32) (a2 : Int32) (a3 : Int32) (M : dM) {o : Int32} (hf : f_la_join a1 a2 a3 = o) : mO mX3_join 1 [.int a1, .int a2, .int a3] M (some (.int o)) M := by
  refine y_ok (by decide +kernel) (Nat.le_of_ble_eq_true rfl) (L0 := [some (.int a1), some (.int a2), some (.int a3)]) rfl ?_
  have hk := mR_mQ (some (.int o)) M
  generalize mQ _ _ = Q at hk ⊢
  unfold f_la_join at hf
  refine y_iload_n (i := 0) (n := 1) ⟨dX3_join_0, rfl⟩ rfl ?_
  by_cases hc0 : a1 = 20001
  · replace hf := i_t hc0 hf
    refine y_tabIn (t := 40) (off := 39) dX3_join_1 (sw_lo hc0 (by decide)) (sw_hi hc0 (by decide)) (sw_at hc0 (by decide)) rfl ?_
    refine y_iload_n (i := 1) (n := 41) ⟨dX3_join_40, rfl⟩ rfl ?_
    refine y_if_eq (t := 52) (n := 44) ⟨dX3_join_41, rfl, rfl⟩ (fun (hc : a2 = 0) => ?_) (fun (hc : ¬ (a2 = 0)) => ?_)
    · replace hf := i_t hc hf
      refine y_iconst (n := 53) (v := 0) ⟨dX3_join_52, rfl⟩ ki_0 ?_
      cases hf
      exact y_ireturn (n := 54) ⟨dX3_join_53, rfl⟩ rfl rfl hk
    · replace hf := i_f hc hf
      refine y_iload_n (i := 2) (n := 45) ⟨dX3_join_44, rfl⟩ rfl ?_
      refine y_if_eq (t := 52) (n := 48) ⟨dX3_join_45, rfl, rfl⟩ (fun (hc : a3 = 0) => ?_) (fun (hc : ¬ (a3 = 0)) => ?_)
      · replace hf := i_t hc hf
        refine y_iconst (n := 53) (v := 0) ⟨dX3_join_52, rfl⟩ ki_0 ?_
        cases hf
        exact y_ireturn (n := 54) ⟨dX3_join_53, rfl⟩ rfl rfl hk
      · replace hf := i_f hc hf
        refine y_iconst (n := 49) (v := 1) ⟨dX3_join_48, rfl⟩ ki_1 ?_
        refine y_goto (t := 53) ⟨dX3_join_49, rfl, rfl⟩ ?_
        cases hf
        exact y_ireturn (n := 54) ⟨dX3_join_53, rfl⟩ rfl rfl hk
  replace hf := i_f hc0 hf
  by_cases hc1 : a1 = 20002
  · replace hf := i_t hc1 hf
    refine y_tabIn (t := 54) (off := 53) dX3_join_1 (sw_lo hc1 (by decide)) (sw_hi hc1 (by decide)) (sw_at hc1 (by decide)) rfl ?_
    refine y_iload_n (i := 1) (n := 55) ⟨dX3_join_54, rfl⟩ rfl ?_
    refine y_if_ne (t := 62) (n := 58) ⟨dX3_join_55, rfl, rfl⟩ (fun (hc : ¬ (a2 = 0)) => ?_) (fun (hc : a2 = 0) => ?_)
    · replace hf := i_f hc hf
      refine y_iconst (n := 63) (v := 1) ⟨dX3_join_62, rfl⟩ ki_1 ?_
      refine y_goto (t := 67) ⟨dX3_join_63, rfl, rfl⟩ ?_
      cases hf
      exact y_ireturn (n := 68) ⟨dX3_join_67, rfl⟩ rfl rfl hk
    · replace hf := i_t hc hf
      refine y_iload_n (i := 2) (n := 59) ⟨dX3_join_58, rfl⟩ rfl ?_
      refine y_if_eq (t := 66) (n := 62) ⟨dX3_join_59, rfl, rfl⟩ (fun (hc : a3 = 0) => ?_) (fun (hc : ¬ (a3 = 0)) => ?_)
      · replace hf := i_t hc hf
        refine y_iconst (n := 67) (v := 0) ⟨dX3_join_66, rfl⟩ ki_0 ?_
        cases hf
        exact y_ireturn (n := 68) ⟨dX3_join_67, rfl⟩ rfl rfl hk
      · replace hf := i_f hc hf
        refine y_iconst (n := 63) (v := 1) ⟨dX3_join_62, rfl⟩ ki_1 ?_
        refine y_goto (t := 67) ⟨dX3_join_63, rfl, rfl⟩ ?_
        cases hf
        exact y_ireturn (n := 68) ⟨dX3_join_67, rfl⟩ rfl rfl hk
  replace hf := i_f hc1 hf
  by_cases hc2 : a1 = 20003
  · replace hf := i_t hc2 hf
    refine y_tabIn (t := 68) (off := 67) dX3_join_1 (sw_lo hc2 (by decide)) (sw_hi hc2 (by decide)) (sw_at hc2 (by decide)) rfl ?_
    refine y_iload_n (i := 1) (n := 69) ⟨dX3_join_68, rfl⟩ rfl ?_
    refine y_iload_n (i := 2) (n := 70) ⟨dX3_join_69, rfl⟩ rfl ?_
    refine y_icmp_ge (t := 77) (n := 73) ⟨dX3_join_70, rfl, rfl⟩ (fun (hc : a3 ≤ a2) => ?_) (fun (hc : ¬ (a3 ≤ a2)) => ?_)
    · replace hf := i_t hc hf
      refine y_iconst (n := 78) (v := 0) ⟨dX3_join_77, rfl⟩ ki_0 ?_
      cases hf
      exact y_ireturn (n := 79) ⟨dX3_join_78, rfl⟩ rfl rfl hk
    · replace hf := i_f hc hf
      refine y_iconst (n := 74) (v := 1) ⟨dX3_join_73, rfl⟩ ki_1 ?_
      refine y_goto (t := 78) ⟨dX3_join_74, rfl, rfl⟩ ?_
      cases hf
      exact y_ireturn (n := 79) ⟨dX3_join_78, rfl⟩ rfl rfl hk
  replace hf := i_f hc2 hf
  by_cases hc3 : a1 = 20004
  · replace hf := i_t hc3 hf
    refine y_tabIn (t := 79) (off := 78) dX3_join_1 (sw_lo hc3 (by decide)) (sw_hi hc3 (by decide)) (sw_at hc3 (by decide)) rfl ?_
    refine y_iload_n (i := 1) (n := 80) ⟨dX3_join_79, rfl⟩ rfl ?_
    refine y_iload_n (i := 2) (n := 81) ⟨dX3_join_80, rfl⟩ rfl ?_
    refine y_icmp_ne (t := 88) (n := 84) ⟨dX3_join_81, rfl, rfl⟩ (fun (hc : ¬ (a2 = a3)) => ?_) (fun (hc : a2 = a3) => ?_)
    · replace hf := i_f hc hf
      refine y_iconst (n := 89) (v := 0) ⟨dX3_join_88, rfl⟩ ki_0 ?_
      cases hf
      exact y_ireturn (n := 90) ⟨dX3_join_89, rfl⟩ rfl rfl hk
    · replace hf := i_t hc hf
      refine y_iconst (n := 85) (v := 1) ⟨dX3_join_84, rfl⟩ ki_1 ?_
      refine y_goto (t := 89) ⟨dX3_join_85, rfl, rfl⟩ ?_
      cases hf
      exact y_ireturn (n := 90) ⟨dX3_join_89, rfl⟩ rfl rfl hk
  replace hf := i_f hc3 hf
  by_cases hc4 : a1 = 20005
  · replace hf := i_t hc4 hf
    refine y_tabIn (t := 90) (off := 89) dX3_join_1 (sw_lo hc4 (by decide)) (sw_hi hc4 (by decide)) (sw_at hc4 (by decide)) rfl ?_
    refine y_iload_n (i := 1) (n := 91) ⟨dX3_join_90, rfl⟩ rfl ?_
    refine y_iload_n (i := 2) (n := 92) ⟨dX3_join_91, rfl⟩ rfl ?_
    refine y_iadd (n := 93) ⟨dX3_join_92, rfl⟩ ?_
    cases hf
    exact y_ireturn (n := 94) ⟨dX3_join_93, rfl⟩ rfl rfl hk
  replace hf := i_f hc4 hf
  by_cases hc5 : a1 = 20006
  · replace hf := i_t hc5 hf
    refine y_tabIn (t := 94) (off := 93) dX3_join_1 (sw_lo hc5 (by decide)) (sw_hi hc5 (by decide)) (sw_at hc5 (by decide)) rfl ?_
    refine y_iload_n (i := 1) (n := 95) ⟨dX3_join_94, rfl⟩ rfl ?_
    refine y_iload_n (i := 2) (n := 96) ⟨dX3_join_95, rfl⟩ rfl ?_
    refine y_isub (n := 97) ⟨dX3_join_96, rfl⟩ ?_
    cases hf
    exact y_ireturn (n := 98) ⟨dX3_join_97, rfl⟩ rfl rfl hk
  replace hf := i_f hc5 hf
  refine y_tabOut (t := 98) dX3_join_1 (sw_out (lo := 20001) (cs := [20001, 20002, 20003, 20004, 20005, 20006]) (by decide) (by decide) ⟨hc0, hc1, hc2, hc3, hc4, hc5, trivial⟩) rfl ?_
  refine y_iload_n (i := 1) (n := 99) ⟨dX3_join_98, rfl⟩ rfl ?_
  refine y_iload_n (i := 2) (n := 100) ⟨dX3_join_99, rfl⟩ rfl ?_
  refine y_imul (n := 101) ⟨dX3_join_100, rfl⟩ ?_
  cases hf
  exact y_ireturn (n := 102) ⟨dX3_join_101, rfl⟩ rfl rfl hk
theorem c_la_join (a1 : Int32) (a2 : Int32) (a3 : Int32) (M : dM) {o : Int32} {y : mz_M} {d : Nat} {Q : mz_P} {pc n i : Nat} {L : List (Option Value)} {st : List Value} (h : mz_d y.2.1 pc n 3 (.invokestatic i)) (hl : mz_ml y.1.cls i yX3_join) (hf : f_la_join a1 a2 a3 = o) (hd : 1 + 1 ≤ d) (hsm : (st.map (fun v => v.category)).sum ≤ 8) (hLr : mz_rL 133 L = true) (hSr : mz_rS 133 st = true) (kk : mW y d Q n L (.int o :: st) M) : mW y d Q pc L (.int a3 :: .int a2 :: .int a1 :: st) M :=
  y_callS kmX3_join ksX3_join h hl (ok_la_join a1 a2 a3 M hf) (vs := [.int a1, .int a2, .int a3]) rfl rfl hd hsm hLr hSr kk
def K_la_valueOf_27_40_11 (Q : mz_P) (x1 : Int32) (x3 : Int32) : ((Int32 × Int32 × dM) ⊕ (Int32 × dM)) → Prop
  | .inl s => mW mX3_valueOf 2 Q 11 [some (.ref 27), some (.int x1), some (.ref 40), some (.int x3), some (.int s.1), some (.int s.2.1), none] [] s.2.2
  | .inr t => mW mX3_valueOf 2 Q 169 [some (.ref 27), none, none, none, some (.int t.1), none, none] [] t.2
noncomputable def b_la_valueOf_27_40_11_120 (x1 : Int32) (x3 : Int32) (x4 : Int32) (x5 : Int32) (y1 : Int32) (y2 : Int32) (M : dM) : Option ((Int32 × Int32 × dM) ⊕ (Int32 × dM)) :=
  gd (vp_in y1 32) <|
  some (.inl (x4, (x5 + 1), (sI M 31 y1.toNatClampNeg y2)))
noncomputable def b_la_valueOf_27_40_11_75 (x1 : Int32) (x3 : Int32) (x4 : Int32) (x5 : Int32) (y1 : Int32) (y2 : Int32) (M : dM) : Option ((Int32 × Int32 × dM) ⊕ (Int32 × dM)) :=
  gd (vp_in y1 32) <|
  some (.inl ((x4 + 1), (x5 + 1), (sI M 31 y1.toNatClampNeg y2)))
noncomputable def b_la_valueOf_27_40_11_11 (x1 : Int32) (x3 : Int32) (x4 : Int32) (x5 : Int32) (M : dM) : Option ((Int32 × Int32 × dM) ⊕ (Int32 × dM)) :=
  gd (vp_in x1 21) <|
  if (gI M 30 x1.toNatClampNeg) ≤ x5 then
    some (.inr (x4, M))
  else
    gd (vp_in x5 1000) <|
    if 20000 ≤ (gI M 28 x5.toNatClampNeg) then
      if (gI M 28 x5.toNatClampNeg) = 20000 then
        if x4 ≤ 0 then
          some (.inl (x4, (x5 + 1), M))
        else
          gd (vp_in (x4 - 1) 32) <|
          if (gI M 31 (x4 - 1).toNatClampNeg) = 0 then
            b_la_valueOf_27_40_11_120 x1 x3 x4 x5 (x4 - 1) 1 M
          else
            b_la_valueOf_27_40_11_120 x1 x3 x4 x5 (x4 - 1) 0 M
      else
        if x4 ≤ 1 then
          some (.inl (x4, (x5 + 1), M))
        else
          gd (vp_in ((x4 + (-1)) - 1) 32) <|
          gd (vp_in (x4 + (-1)) 32) <|
          some (.inl ((x4 + (-1)), (x5 + 1), (sI M 31 ((x4 + (-1)) - 1).toNatClampNeg (f_la_join (gI M 28 x5.toNatClampNeg) (gI M 31 ((x4 + (-1)) - 1).toNatClampNeg) (gI M 31 (x4 + (-1)).toNatClampNeg)))))
    else
      if 32 ≤ x4 then
        some (.inl (x4, (x5 + 1), M))
      else
        if 10000 ≤ (gI M 28 x5.toNatClampNeg) then
          gd (vp_in ((x3 + (gI M 28 x5.toNatClampNeg)) - 10000) 697) <|
          b_la_valueOf_27_40_11_75 x1 x3 x4 x5 x4 (gI M 40 ((x3 + (gI M 28 x5.toNatClampNeg)) - 10000).toNatClampNeg) M
        else
          b_la_valueOf_27_40_11_75 x1 x3 x4 x5 x4 (gI M 28 x5.toNatClampNeg) M
noncomputable def l_la_valueOf_27_40_11 (x1 : Int32) (x3 : Int32) (x4 : Int32) (x5 : Int32) (M : dM) : Option (Int32 × dM) := lpc (fun s => b_la_valueOf_27_40_11_11 x1 x3 s.1 s.2.1 s.2.2) (x4, x5, M)
noncomputable def f_la_valueOf_27_40 (a1 : Int32) (a3 : Int32) (M : dM) : Option (Int32 × dM) :=
  gd (vp_in a1 21) <|
  (l_la_valueOf_27_40_11 a1 a3 0 (gI M 29 a1.toNatClampNeg) M).bind fun t10 =>
    if t10.1 ≤ 0 then
      some (0, t10.2)
    else
      some ((gI t10.2 31 0), t10.2)
theorem w_b_la_valueOf_27_40_11_120 (x1 : Int32) (x3 : Int32) (x4 : Int32) (x5 : Int32) (y1 : Int32) (y2 : Int32)  (M : dM) {Q : mz_P} {o : ((Int32 × Int32 × dM) ⊕ (Int32 × dM))} (hf : b_la_valueOf_27_40_11_120 x1 x3 x4 x5 y1 y2 M = some o) (hk : K_la_valueOf_27_40_11 Q x1 x3 o) : mW mX3_valueOf 2 Q 120 [some (.ref 27), some (.int x1), some (.ref 40), some (.int x3), some (.int x4), some (.int x5), none] [.int y2, .int y1, .ref 31] M := by
  unfold b_la_valueOf_27_40_11_120 at hf
  obtain ⟨hg7, hf⟩ := g_s hf
  refine y_iastore (n := 121) ⟨dX3_valueOf_120, rfl⟩ l_31 hg7 ?_
  refine y_goto (t := 163) ⟨dX3_valueOf_121, rfl, rfl⟩ ?_
  refine y_iinc (i := 5) (n := 166) (b := (x5 + 1)) (L2 := [some (.ref 27), some (.int x1), some (.ref 40), some (.int x3), some (.int x4), some (.int (x5 + 1)), none]) ⟨dX3_valueOf_163, rfl⟩ rfl (by rw [ki_1]) (by decide) rfl rfl ?_
  refine y_goto (t := 11) ⟨dX3_valueOf_166, rfl, rfl⟩ ?_
  cases hf
  exact y_wk (L2 := [some (.ref 27), some (.int x1), some (.ref 40), some (.int x3), some (.int x4), some (.int (x5 + 1)), none]) ⟨Or.inr rfl, Or.inr rfl, Or.inr rfl, Or.inr rfl, Or.inr rfl, Or.inr rfl, Or.inr rfl, trivial⟩ hk
theorem w_b_la_valueOf_27_40_11_75 (x1 : Int32) (x3 : Int32) (x4 : Int32) (x5 : Int32) (y1 : Int32) (y2 : Int32)  (M : dM) {Q : mz_P} {o : ((Int32 × Int32 × dM) ⊕ (Int32 × dM))} (hf : b_la_valueOf_27_40_11_75 x1 x3 x4 x5 y1 y2 M = some o) (hk : K_la_valueOf_27_40_11 Q x1 x3 o) : mW mX3_valueOf 2 Q 75 [some (.ref 27), some (.int x1), some (.ref 40), some (.int x3), some (.int x4), some (.int x5), none] [.int y2, .int y1, .ref 31] M := by
  unfold b_la_valueOf_27_40_11_75 at hf
  obtain ⟨hg9, hf⟩ := g_s hf
  refine y_iastore (n := 76) ⟨dX3_valueOf_75, rfl⟩ l_31 hg9 ?_
  refine y_iinc (i := 4) (n := 79) (b := (x4 + 1)) (L2 := [some (.ref 27), some (.int x1), some (.ref 40), some (.int x3), some (.int (x4 + 1)), some (.int x5), none]) ⟨dX3_valueOf_76, rfl⟩ rfl (by rw [ki_1]) (by decide) rfl rfl ?_
  refine y_goto (t := 163) ⟨dX3_valueOf_79, rfl, rfl⟩ ?_
  refine y_iinc (i := 5) (n := 166) (b := (x5 + 1)) (L2 := [some (.ref 27), some (.int x1), some (.ref 40), some (.int x3), some (.int (x4 + 1)), some (.int (x5 + 1)), none]) ⟨dX3_valueOf_163, rfl⟩ rfl (by rw [ki_1]) (by decide) rfl rfl ?_
  refine y_goto (t := 11) ⟨dX3_valueOf_166, rfl, rfl⟩ ?_
  cases hf
  exact y_wk (L2 := [some (.ref 27), some (.int x1), some (.ref 40), some (.int x3), some (.int (x4 + 1)), some (.int (x5 + 1)), none]) ⟨Or.inr rfl, Or.inr rfl, Or.inr rfl, Or.inr rfl, Or.inr rfl, Or.inr rfl, Or.inr rfl, trivial⟩ hk
theorem w_b_la_valueOf_27_40_11_11 (x1 : Int32) (x3 : Int32) (x4 : Int32) (x5 : Int32)  (M : dM) {Q : mz_P} {o : ((Int32 × Int32 × dM) ⊕ (Int32 × dM))} (hf : b_la_valueOf_27_40_11_11 x1 x3 x4 x5 M = some o) (hk : K_la_valueOf_27_40_11 Q x1 x3 o) : mW mX3_valueOf 2 Q 11 [some (.ref 27), some (.int x1), some (.ref 40), some (.int x3), some (.int x4), some (.int x5), none] [] M := by
  unfold b_la_valueOf_27_40_11_11 at hf
  refine y_iload (i := 5) (n := 13) ⟨dX3_valueOf_11, rfl⟩ rfl ?_
  refine y_aload_n (i := 0) (n := 14) ⟨dX3_valueOf_13, rfl⟩ rfl ?_
  refine y_getR (n := 17) ⟨dX3_valueOf_14, rfl⟩ kfX3_18 l_27 rfl r_27_3 ?_
  refine y_iload_n (i := 1) (n := 18) ⟨dX3_valueOf_17, rfl⟩ rfl ?_
  obtain ⟨hg2, hf⟩ := g_s hf
  refine y_iaload (n := 19) ⟨dX3_valueOf_18, rfl⟩ l_30 hg2 ?_
  refine y_icmp_ge (t := 169) (n := 22) ⟨dX3_valueOf_19, rfl, rfl⟩ (fun (hc : (gI M 30 x1.toNatClampNeg) ≤ x5) => ?_) (fun (hc : ¬ ((gI M 30 x1.toNatClampNeg) ≤ x5)) => ?_)
  · replace hf := i_t hc hf
    cases hf
    exact y_wk (L2 := [some (.ref 27), none, none, none, some (.int x4), none, none]) ⟨Or.inr rfl, Or.inl rfl, Or.inl rfl, Or.inl rfl, Or.inr rfl, Or.inl rfl, Or.inr rfl, trivial⟩ hk
  · replace hf := i_f hc hf
    refine y_aload_n (i := 0) (n := 23) ⟨dX3_valueOf_22, rfl⟩ rfl ?_
    refine y_getR (n := 26) ⟨dX3_valueOf_23, rfl⟩ kfX3_11 l_27 rfl r_27_0 ?_
    refine y_iload (i := 5) (n := 28) ⟨dX3_valueOf_26, rfl⟩ rfl ?_
    obtain ⟨hg3, hf⟩ := g_s hf
    refine y_iaload (n := 29) ⟨dX3_valueOf_28, rfl⟩ l_28 hg3 ?_
    refine y_istore (i := 6) (n := 31) (L2 := [some (.ref 27), some (.int x1), some (.ref 40), some (.int x3), some (.int x4), some (.int x5), some (.int (gI M 28 x5.toNatClampNeg))]) ⟨dX3_valueOf_29, rfl⟩ (by decide) rfl rfl ?_
    refine y_iload (i := 6) (n := 33) ⟨dX3_valueOf_31, rfl⟩ rfl ?_
    refine y_sipush (n := 36) (v := 20000) ⟨dX3_valueOf_33, rfl⟩ ks_20000 ?_
    refine y_icmp_ge (t := 82) (n := 39) ⟨dX3_valueOf_36, rfl, rfl⟩ (fun (hc : 20000 ≤ (gI M 28 x5.toNatClampNeg)) => ?_) (fun (hc : ¬ (20000 ≤ (gI M 28 x5.toNatClampNeg))) => ?_)
    · replace hf := i_t hc hf
      refine y_iload (i := 6) (n := 84) ⟨dX3_valueOf_82, rfl⟩ rfl ?_
      refine y_sipush (n := 87) (v := 20000) ⟨dX3_valueOf_84, rfl⟩ ks_20000 ?_
      refine y_icmp_ne (t := 124) (n := 90) ⟨dX3_valueOf_87, rfl, rfl⟩ (fun (hc : ¬ ((gI M 28 x5.toNatClampNeg) = 20000)) => ?_) (fun (hc : (gI M 28 x5.toNatClampNeg) = 20000) => ?_)
      · replace hf := i_f hc hf
        refine y_iload (i := 4) (n := 126) ⟨dX3_valueOf_124, rfl⟩ rfl ?_
        refine y_iconst (n := 127) (v := 1) ⟨dX3_valueOf_126, rfl⟩ ki_1 ?_
        refine y_icmp_le (t := 163) (n := 130) ⟨dX3_valueOf_127, rfl, rfl⟩ (fun (hc : x4 ≤ 1) => ?_) (fun (hc : ¬ (x4 ≤ 1)) => ?_)
        · replace hf := i_t hc hf
          refine y_iinc (i := 5) (n := 166) (b := (x5 + 1)) (L2 := [some (.ref 27), some (.int x1), some (.ref 40), some (.int x3), some (.int x4), some (.int (x5 + 1)), some (.int (gI M 28 x5.toNatClampNeg))]) ⟨dX3_valueOf_163, rfl⟩ rfl (by rw [ki_1]) (by decide) rfl rfl ?_
          refine y_goto (t := 11) ⟨dX3_valueOf_166, rfl, rfl⟩ ?_
          cases hf
          exact y_wk (L2 := [some (.ref 27), some (.int x1), some (.ref 40), some (.int x3), some (.int x4), some (.int (x5 + 1)), none]) ⟨Or.inr rfl, Or.inr rfl, Or.inr rfl, Or.inr rfl, Or.inr rfl, Or.inr rfl, Or.inl rfl, trivial⟩ hk
        · replace hf := i_f hc hf
          refine y_iinc (i := 4) (n := 133) (b := (x4 + (-1))) (L2 := [some (.ref 27), some (.int x1), some (.ref 40), some (.int x3), some (.int (x4 + (-1))), some (.int x5), some (.int (gI M 28 x5.toNatClampNeg))]) ⟨dX3_valueOf_130, rfl⟩ rfl (by rw [ki_m1]) (by decide) rfl rfl ?_
          refine y_aload_n (i := 0) (n := 134) ⟨dX3_valueOf_133, rfl⟩ rfl ?_
          refine y_getR (n := 137) ⟨dX3_valueOf_134, rfl⟩ kfX3_28 l_27 rfl r_27_8 ?_
          refine y_iload (i := 4) (n := 139) ⟨dX3_valueOf_137, rfl⟩ rfl ?_
          refine y_iconst (n := 140) (v := 1) ⟨dX3_valueOf_139, rfl⟩ ki_1 ?_
          refine y_isub (n := 141) ⟨dX3_valueOf_140, rfl⟩ ?_
          refine y_iload (i := 6) (n := 143) ⟨dX3_valueOf_141, rfl⟩ rfl ?_
          refine y_aload_n (i := 0) (n := 144) ⟨dX3_valueOf_143, rfl⟩ rfl ?_
          refine y_getR (n := 147) ⟨dX3_valueOf_144, rfl⟩ kfX3_28 l_27 rfl r_27_8 ?_
          refine y_iload (i := 4) (n := 149) ⟨dX3_valueOf_147, rfl⟩ rfl ?_
          refine y_iconst (n := 150) (v := 1) ⟨dX3_valueOf_149, rfl⟩ ki_1 ?_
          refine y_isub (n := 151) ⟨dX3_valueOf_150, rfl⟩ ?_
          obtain ⟨hg4, hf⟩ := g_s hf
          refine y_iaload (n := 152) ⟨dX3_valueOf_151, rfl⟩ l_31 hg4 ?_
          refine y_aload_n (i := 0) (n := 153) ⟨dX3_valueOf_152, rfl⟩ rfl ?_
          refine y_getR (n := 156) ⟨dX3_valueOf_153, rfl⟩ kfX3_28 l_27 rfl r_27_8 ?_
          refine y_iload (i := 4) (n := 158) ⟨dX3_valueOf_156, rfl⟩ rfl ?_
          obtain ⟨hg5, hf⟩ := g_s hf
          refine y_iaload (n := 159) ⟨dX3_valueOf_158, rfl⟩ l_31 hg5 ?_
          refine c_la_join (gI M 28 x5.toNatClampNeg) (gI M 31 ((x4 + (-1)) - 1).toNatClampNeg) (gI M 31 (x4 + (-1)).toNatClampNeg) M (n := 162) ⟨dX3_valueOf_159, rfl⟩ klX3_60 rfl (by decide) (Nat.le_of_ble_eq_true rfl) rfl rfl ?_
          refine y_iastore (n := 163) ⟨dX3_valueOf_162, rfl⟩ l_31 hg4 ?_
          refine y_iinc (i := 5) (n := 166) (b := (x5 + 1)) (L2 := [some (.ref 27), some (.int x1), some (.ref 40), some (.int x3), some (.int (x4 + (-1))), some (.int (x5 + 1)), some (.int (gI M 28 x5.toNatClampNeg))]) ⟨dX3_valueOf_163, rfl⟩ rfl (by rw [ki_1]) (by decide) rfl rfl ?_
          refine y_goto (t := 11) ⟨dX3_valueOf_166, rfl, rfl⟩ ?_
          cases hf
          exact y_wk (L2 := [some (.ref 27), some (.int x1), some (.ref 40), some (.int x3), some (.int (x4 + (-1))), some (.int (x5 + 1)), none]) ⟨Or.inr rfl, Or.inr rfl, Or.inr rfl, Or.inr rfl, Or.inr rfl, Or.inr rfl, Or.inl rfl, trivial⟩ hk
      · replace hf := i_t hc hf
        refine y_iload (i := 4) (n := 92) ⟨dX3_valueOf_90, rfl⟩ rfl ?_
        refine y_if_le (t := 163) (n := 95) ⟨dX3_valueOf_92, rfl, rfl⟩ (fun (hc : x4 ≤ 0) => ?_) (fun (hc : ¬ (x4 ≤ 0)) => ?_)
        · replace hf := i_t hc hf
          refine y_iinc (i := 5) (n := 166) (b := (x5 + 1)) (L2 := [some (.ref 27), some (.int x1), some (.ref 40), some (.int x3), some (.int x4), some (.int (x5 + 1)), some (.int (gI M 28 x5.toNatClampNeg))]) ⟨dX3_valueOf_163, rfl⟩ rfl (by rw [ki_1]) (by decide) rfl rfl ?_
          refine y_goto (t := 11) ⟨dX3_valueOf_166, rfl, rfl⟩ ?_
          cases hf
          exact y_wk (L2 := [some (.ref 27), some (.int x1), some (.ref 40), some (.int x3), some (.int x4), some (.int (x5 + 1)), none]) ⟨Or.inr rfl, Or.inr rfl, Or.inr rfl, Or.inr rfl, Or.inr rfl, Or.inr rfl, Or.inl rfl, trivial⟩ hk
        · replace hf := i_f hc hf
          refine y_aload_n (i := 0) (n := 96) ⟨dX3_valueOf_95, rfl⟩ rfl ?_
          refine y_getR (n := 99) ⟨dX3_valueOf_96, rfl⟩ kfX3_28 l_27 rfl r_27_8 ?_
          refine y_iload (i := 4) (n := 101) ⟨dX3_valueOf_99, rfl⟩ rfl ?_
          refine y_iconst (n := 102) (v := 1) ⟨dX3_valueOf_101, rfl⟩ ki_1 ?_
          refine y_isub (n := 103) ⟨dX3_valueOf_102, rfl⟩ ?_
          refine y_aload_n (i := 0) (n := 104) ⟨dX3_valueOf_103, rfl⟩ rfl ?_
          refine y_getR (n := 107) ⟨dX3_valueOf_104, rfl⟩ kfX3_28 l_27 rfl r_27_8 ?_
          refine y_iload (i := 4) (n := 109) ⟨dX3_valueOf_107, rfl⟩ rfl ?_
          refine y_iconst (n := 110) (v := 1) ⟨dX3_valueOf_109, rfl⟩ ki_1 ?_
          refine y_isub (n := 111) ⟨dX3_valueOf_110, rfl⟩ ?_
          obtain ⟨hg6, hf⟩ := g_s hf
          refine y_iaload (n := 112) ⟨dX3_valueOf_111, rfl⟩ l_31 hg6 ?_
          refine y_if_ne (t := 119) (n := 115) ⟨dX3_valueOf_112, rfl, rfl⟩ (fun (hc : ¬ ((gI M 31 (x4 - 1).toNatClampNeg) = 0)) => ?_) (fun (hc : (gI M 31 (x4 - 1).toNatClampNeg) = 0) => ?_)
          · replace hf := i_f hc hf
            refine y_iconst (n := 120) (v := 0) ⟨dX3_valueOf_119, rfl⟩ ki_0 ?_
            exact y_wk (L2 := [some (.ref 27), some (.int x1), some (.ref 40), some (.int x3), some (.int x4), some (.int x5), none]) ⟨Or.inr rfl, Or.inr rfl, Or.inr rfl, Or.inr rfl, Or.inr rfl, Or.inr rfl, Or.inl rfl, trivial⟩ (w_b_la_valueOf_27_40_11_120 x1 x3 x4 x5 (x4 - 1) 0 M hf hk)
          · replace hf := i_t hc hf
            refine y_iconst (n := 116) (v := 1) ⟨dX3_valueOf_115, rfl⟩ ki_1 ?_
            refine y_goto (t := 120) ⟨dX3_valueOf_116, rfl, rfl⟩ ?_
            exact y_wk (L2 := [some (.ref 27), some (.int x1), some (.ref 40), some (.int x3), some (.int x4), some (.int x5), none]) ⟨Or.inr rfl, Or.inr rfl, Or.inr rfl, Or.inr rfl, Or.inr rfl, Or.inr rfl, Or.inl rfl, trivial⟩ (w_b_la_valueOf_27_40_11_120 x1 x3 x4 x5 (x4 - 1) 1 M hf hk)
    · replace hf := i_f hc hf
      refine y_iload (i := 4) (n := 41) ⟨dX3_valueOf_39, rfl⟩ rfl ?_
      refine y_bipush (n := 43) (v := 32) ⟨dX3_valueOf_41, rfl⟩ kb_32 ?_
      refine y_icmp_ge (t := 163) (n := 46) ⟨dX3_valueOf_43, rfl, rfl⟩ (fun (hc : 32 ≤ x4) => ?_) (fun (hc : ¬ (32 ≤ x4)) => ?_)
      · replace hf := i_t hc hf
        refine y_iinc (i := 5) (n := 166) (b := (x5 + 1)) (L2 := [some (.ref 27), some (.int x1), some (.ref 40), some (.int x3), some (.int x4), some (.int (x5 + 1)), some (.int (gI M 28 x5.toNatClampNeg))]) ⟨dX3_valueOf_163, rfl⟩ rfl (by rw [ki_1]) (by decide) rfl rfl ?_
        refine y_goto (t := 11) ⟨dX3_valueOf_166, rfl, rfl⟩ ?_
        cases hf
        exact y_wk (L2 := [some (.ref 27), some (.int x1), some (.ref 40), some (.int x3), some (.int x4), some (.int (x5 + 1)), none]) ⟨Or.inr rfl, Or.inr rfl, Or.inr rfl, Or.inr rfl, Or.inr rfl, Or.inr rfl, Or.inl rfl, trivial⟩ hk
      · replace hf := i_f hc hf
        refine y_aload_n (i := 0) (n := 47) ⟨dX3_valueOf_46, rfl⟩ rfl ?_
        refine y_getR (n := 50) ⟨dX3_valueOf_47, rfl⟩ kfX3_28 l_27 rfl r_27_8 ?_
        refine y_iload (i := 4) (n := 52) ⟨dX3_valueOf_50, rfl⟩ rfl ?_
        refine y_iload (i := 6) (n := 54) ⟨dX3_valueOf_52, rfl⟩ rfl ?_
        refine y_sipush (n := 57) (v := 10000) ⟨dX3_valueOf_54, rfl⟩ ks_10000 ?_
        refine y_icmp_ge (t := 65) (n := 60) ⟨dX3_valueOf_57, rfl, rfl⟩ (fun (hc : 10000 ≤ (gI M 28 x5.toNatClampNeg)) => ?_) (fun (hc : ¬ (10000 ≤ (gI M 28 x5.toNatClampNeg))) => ?_)
        · replace hf := i_t hc hf
          refine y_aload_n (i := 2) (n := 66) ⟨dX3_valueOf_65, rfl⟩ rfl ?_
          refine y_iload_n (i := 3) (n := 67) ⟨dX3_valueOf_66, rfl⟩ rfl ?_
          refine y_iload (i := 6) (n := 69) ⟨dX3_valueOf_67, rfl⟩ rfl ?_
          refine y_iadd (n := 70) ⟨dX3_valueOf_69, rfl⟩ ?_
          refine y_sipush (n := 73) (v := 10000) ⟨dX3_valueOf_70, rfl⟩ ks_10000 ?_
          refine y_isub (n := 74) ⟨dX3_valueOf_73, rfl⟩ ?_
          obtain ⟨hg8, hf⟩ := g_s hf
          refine y_iaload (n := 75) ⟨dX3_valueOf_74, rfl⟩ l_40 hg8 ?_
          exact y_wk (L2 := [some (.ref 27), some (.int x1), some (.ref 40), some (.int x3), some (.int x4), some (.int x5), none]) ⟨Or.inr rfl, Or.inr rfl, Or.inr rfl, Or.inr rfl, Or.inr rfl, Or.inr rfl, Or.inl rfl, trivial⟩ (w_b_la_valueOf_27_40_11_75 x1 x3 x4 x5 x4 (gI M 40 ((x3 + (gI M 28 x5.toNatClampNeg)) - 10000).toNatClampNeg) M hf hk)
        · replace hf := i_f hc hf
          refine y_iload (i := 6) (n := 62) ⟨dX3_valueOf_60, rfl⟩ rfl ?_
          refine y_goto (t := 75) ⟨dX3_valueOf_62, rfl, rfl⟩ ?_
          exact y_wk (L2 := [some (.ref 27), some (.int x1), some (.ref 40), some (.int x3), some (.int x4), some (.int x5), none]) ⟨Or.inr rfl, Or.inr rfl, Or.inr rfl, Or.inr rfl, Or.inr rfl, Or.inr rfl, Or.inl rfl, trivial⟩ (w_b_la_valueOf_27_40_11_75 x1 x3 x4 x5 x4 (gI M 28 x5.toNatClampNeg) M hf hk)
theorem wl_la_valueOf_27_40_11 (x1 : Int32) (x3 : Int32) (x4 : Int32) (x5 : Int32) (M : dM) {Q : mz_P} {x : (Int32 × dM)} (hf : l_la_valueOf_27_40_11 x1 x3 x4 x5 M = some x) (hk : K_la_valueOf_27_40_11 Q x1 x3 (.inr x)) : mW mX3_valueOf 2 Q 11 [some (.ref 27), some (.int x1), some (.ref 40), some (.int x3), some (.int x4), some (.int x5), none] [] M :=
  lpc_wp (σ := (Int32 × Int32 × dM)) (ξ := (Int32 × dM)) (s := (x4, x5, M)) (Wh := fun s => mW mX3_valueOf 2 Q 11 [some (.ref 27), some (.int x1), some (.ref 40), some (.int x3), some (.int s.1), some (.int s.2.1), none] [] s.2.2) (K := K_la_valueOf_27_40_11 Q x1 x3) (fun _ h => h) (fun s o hb hk => w_b_la_valueOf_27_40_11_11 x1 x3 s.1 s.2.1 s.2.2 hb hk) hf hk
theorem ok_la_valueOf_27_40 (a1 : Int32) (a3 : Int32) (M : dM) {o : (Int32 × dM)} (hf : f_la_valueOf_27_40 a1 a3 M = some o) : mO mX3_valueOf 2 [.ref 27, .int a1, .ref 40, .int a3] M (some (.int o.1)) o.2 := by
  refine y_ok (by decide +kernel) (Nat.le_of_ble_eq_true rfl) (L0 := [some (.ref 27), some (.int a1), some (.ref 40), some (.int a3), none, none, none]) rfl ?_
  have hk := mR_mQ (some (.int o.1)) o.2
  generalize mQ _ _ = Q at hk ⊢
  unfold f_la_valueOf_27_40 at hf
  refine y_iconst (n := 1) (v := 0) ⟨dX3_valueOf_0, rfl⟩ ki_0 ?_
  refine y_istore (i := 4) (n := 3) (L2 := [some (.ref 27), some (.int a1), some (.ref 40), some (.int a3), some (.int 0), none, none]) ⟨dX3_valueOf_1, rfl⟩ (by decide) rfl rfl ?_
  refine y_aload_n (i := 0) (n := 4) ⟨dX3_valueOf_3, rfl⟩ rfl ?_
  refine y_getR (n := 7) ⟨dX3_valueOf_4, rfl⟩ kfX3_15 l_27 rfl r_27_2 ?_
  refine y_iload_n (i := 1) (n := 8) ⟨dX3_valueOf_7, rfl⟩ rfl ?_
  obtain ⟨hg1, hf⟩ := g_s hf
  refine y_iaload (n := 9) ⟨dX3_valueOf_8, rfl⟩ l_29 hg1 ?_
  refine y_istore (i := 5) (n := 11) (L2 := [some (.ref 27), some (.int a1), some (.ref 40), some (.int a3), some (.int 0), some (.int (gI M 29 a1.toNatClampNeg)), none]) ⟨dX3_valueOf_9, rfl⟩ (by decide) rfl rfl ?_
  obtain ⟨t10, hl11, hf⟩ := b_s hf
  refine y_wk (L2 := [some (.ref 27), some (.int a1), some (.ref 40), some (.int a3), some (.int 0), some (.int (gI M 29 a1.toNatClampNeg)), none]) ⟨Or.inr rfl, Or.inr rfl, Or.inr rfl, Or.inr rfl, Or.inr rfl, Or.inr rfl, Or.inr rfl, trivial⟩ (wl_la_valueOf_27_40_11 a1 a3 0 (gI M 29 a1.toNatClampNeg) M hl11 ?_)
  show mW mX3_valueOf 2 Q 169 [some (.ref 27), none, none, none, some (.int t10.1), none, none] [] t10.2
  refine y_iload (i := 4) (n := 171) ⟨dX3_valueOf_169, rfl⟩ rfl ?_
  refine y_if_le (t := 183) (n := 174) ⟨dX3_valueOf_171, rfl, rfl⟩ (fun (hc : t10.1 ≤ 0) => ?_) (fun (hc : ¬ (t10.1 ≤ 0)) => ?_)
  · replace hf := i_t hc hf
    refine y_iconst (n := 184) (v := 0) ⟨dX3_valueOf_183, rfl⟩ ki_0 ?_
    cases hf
    exact y_ireturn (n := 185) ⟨dX3_valueOf_184, rfl⟩ rfl rfl hk
  · replace hf := i_f hc hf
    refine y_aload_n (i := 0) (n := 175) ⟨dX3_valueOf_174, rfl⟩ rfl ?_
    refine y_getR (n := 178) ⟨dX3_valueOf_175, rfl⟩ kfX3_28 l_27 rfl r_27_8 ?_
    refine y_iconst (n := 179) (v := 0) ⟨dX3_valueOf_178, rfl⟩ ki_0 ?_
    refine y_iaload (n := 180) ⟨dX3_valueOf_179, rfl⟩ l_31 (by unfold vp_in; decide) ?_
    refine y_goto (t := 184) ⟨dX3_valueOf_180, rfl, rfl⟩ ?_
    cases hf
    exact y_ireturn (n := 185) ⟨dX3_valueOf_184, rfl⟩ rfl rfl hk
theorem c_la_valueOf_27_40 (a1 : Int32) (a3 : Int32) (M : dM) {o : (Int32 × dM)} {y : mz_M} {d : Nat} {Q : mz_P} {pc n i : Nat} {L : List (Option Value)} {st : List Value} (h : mz_d y.2.1 pc n 3 (.invokevirtual i)) (hl : mz_ml y.1.cls i yX3_valueOf) (hf : f_la_valueOf_27_40 a1 a3 M = some o) (hd : 2 + 1 ≤ d) (hsm : (st.map (fun v => v.category)).sum ≤ 8) (hLr : mz_rL 133 L = true) (hSr : mz_rS 133 st = true) (kk : mW y d Q n L (.int o.1 :: st) o.2) : mW y d Q pc L (.int a3 :: .ref 40 :: .int a1 :: .ref 27 :: st) M :=
  y_callV kmX3_valueOf kvX3_valueOf l_27 (by decide +kernel) (by decide +kernel) h hl (ok_la_valueOf_27_40 a1 a3 M hf) (vs := [.int a1, .ref 40, .int a3]) rfl rfl hd hsm hLr hSr kk
def K_la_judgeBy_2 (Q : mz_P) (x2 : Int32) : ((Int32 × dM) ⊕ (dM ⊕ (Int32 × dM))) → Prop
  | .inl s => mW mX3_judgeBy 3 Q 2 [some (.ref 27), some (.ref 40), some (.int x2), some (.int s.1)] [] s.2
  | .inr (.inl t) => mW mX3_judgeBy 3 Q 30 [some (.ref 27), some (.ref 40), some (.int x2), none] [] t
  | .inr (.inr r) => mR Q (some (.int r.1)) r.2
noncomputable def b_la_judgeBy_2_2 (x2 : Int32) (x3 : Int32) (M : dM) : Option ((Int32 × dM) ⊕ (dM ⊕ (Int32 × dM))) :=
  if (gI M 27 4) ≤ x3 then
    some (.inr (.inl M))
  else
    (f_la_valueOf_27_40 (0 + x3) x2 M).bind fun q1 =>
    if q1.1 = 0 then
      some (.inl ((x3 + 1), q1.2))
    else
      some (.inr (.inr (2, q1.2)))
noncomputable def l_la_judgeBy_2 (x2 : Int32) (x3 : Int32) (M : dM) : Option (dM ⊕ (Int32 × dM)) := lpc (fun s => b_la_judgeBy_2_2 x2 s.1 s.2) (x3, M)
def K_la_judgeBy_32 (Q : mz_P) (x2 : Int32) : ((Int32 × dM) ⊕ (Int32 × dM)) → Prop
  | .inl s => mW mX3_judgeBy 3 Q 32 [some (.ref 27), some (.ref 40), some (.int x2), some (.int s.1)] [] s.2
  | .inr r => mR Q (some (.int r.1)) r.2
noncomputable def b_la_judgeBy_32_32 (x2 : Int32) (x3 : Int32) (M : dM) : Option ((Int32 × dM) ⊕ (Int32 × dM)) :=
  if (gI M 27 5) ≤ x3 then
    some (.inr (0, M))
  else
    (f_la_valueOf_27_40 (6 + x3) x2 M).bind fun q6 =>
    if q6.1 = 0 then
      some (.inl ((x3 + 1), q6.2))
    else
      some (.inr (1, q6.2))
noncomputable def l_la_judgeBy_32 (x2 : Int32) (x3 : Int32) (M : dM) : Option (Int32 × dM) := lpc (fun s => b_la_judgeBy_32_32 x2 s.1 s.2) (x3, M)
noncomputable def f_la_judgeBy (a2 : Int32) (M : dM) : Option (Int32 × dM) :=
  (l_la_judgeBy_2 a2 0 M).bind (Sum.elim (fun t3 =>
      (l_la_judgeBy_32 a2 0 t3).bind fun r10 => some r10
    ) (fun r5 => some r5))
theorem w_b_la_judgeBy_2_2 (x2 : Int32) (x3 : Int32)  (M : dM) {Q : mz_P} {o : ((Int32 × dM) ⊕ (dM ⊕ (Int32 × dM)))} (hf : b_la_judgeBy_2_2 x2 x3 M = some o) (hk : K_la_judgeBy_2 Q x2 o) : mW mX3_judgeBy 3 Q 2 [some (.ref 27), some (.ref 40), some (.int x2), some (.int x3)] [] M := by
  unfold b_la_judgeBy_2_2 at hf
  refine y_iload_n (i := 3) (n := 3) ⟨dX3_judgeBy_2, rfl⟩ rfl ?_
  refine y_aload_n (i := 0) (n := 4) ⟨dX3_judgeBy_3, rfl⟩ rfl ?_
  refine y_getI (n := 7) ⟨dX3_judgeBy_4, rfl⟩ kfX3_40 l_27 rfl ?_
  refine y_icmp_ge (t := 30) (n := 10) ⟨dX3_judgeBy_7, rfl, rfl⟩ (fun (hc : (gI M 27 4) ≤ x3) => ?_) (fun (hc : ¬ ((gI M 27 4) ≤ x3)) => ?_)
  · replace hf := i_t hc hf
    cases hf
    exact y_wk (L2 := [some (.ref 27), some (.ref 40), some (.int x2), none]) ⟨Or.inr rfl, Or.inr rfl, Or.inr rfl, Or.inl rfl, trivial⟩ hk
  · replace hf := i_f hc hf
    refine y_aload_n (i := 0) (n := 11) ⟨dX3_judgeBy_10, rfl⟩ rfl ?_
    refine y_iconst (n := 12) (v := 0) ⟨dX3_judgeBy_11, rfl⟩ ki_0 ?_
    refine y_iload_n (i := 3) (n := 13) ⟨dX3_judgeBy_12, rfl⟩ rfl ?_
    refine y_iadd (n := 14) ⟨dX3_judgeBy_13, rfl⟩ ?_
    refine y_aload_n (i := 1) (n := 15) ⟨dX3_judgeBy_14, rfl⟩ rfl ?_
    refine y_iload_n (i := 2) (n := 16) ⟨dX3_judgeBy_15, rfl⟩ rfl ?_
    obtain ⟨q1, hv2, hf⟩ := b_s hf
    refine c_la_valueOf_27_40 (0 + x3) x2 M (n := 19) ⟨dX3_judgeBy_16, rfl⟩ klX3_56 hv2 (by decide) (Nat.le_of_ble_eq_true rfl) rfl rfl ?_
    refine y_if_eq (t := 24) (n := 22) ⟨dX3_judgeBy_19, rfl, rfl⟩ (fun (hc : q1.1 = 0) => ?_) (fun (hc : ¬ (q1.1 = 0)) => ?_)
    · replace hf := i_t hc hf
      refine y_iinc (i := 3) (n := 27) (b := (x3 + 1)) (L2 := [some (.ref 27), some (.ref 40), some (.int x2), some (.int (x3 + 1))]) ⟨dX3_judgeBy_24, rfl⟩ rfl (by rw [ki_1]) (by decide) rfl rfl ?_
      refine y_goto (t := 2) ⟨dX3_judgeBy_27, rfl, rfl⟩ ?_
      cases hf
      exact y_wk (L2 := [some (.ref 27), some (.ref 40), some (.int x2), some (.int (x3 + 1))]) ⟨Or.inr rfl, Or.inr rfl, Or.inr rfl, Or.inr rfl, trivial⟩ hk
    · replace hf := i_f hc hf
      refine y_iconst (n := 23) (v := 2) ⟨dX3_judgeBy_22, rfl⟩ ki_2 ?_
      cases hf
      exact y_ireturn (n := 24) ⟨dX3_judgeBy_23, rfl⟩ rfl rfl hk
theorem wl_la_judgeBy_2 (x2 : Int32) (x3 : Int32) (M : dM) {Q : mz_P} {x : (dM ⊕ (Int32 × dM))} (hf : l_la_judgeBy_2 x2 x3 M = some x) (hk : K_la_judgeBy_2 Q x2 (.inr x)) : mW mX3_judgeBy 3 Q 2 [some (.ref 27), some (.ref 40), some (.int x2), some (.int x3)] [] M :=
  lpc_wp (σ := (Int32 × dM)) (ξ := (dM ⊕ (Int32 × dM))) (s := (x3, M)) (Wh := fun s => mW mX3_judgeBy 3 Q 2 [some (.ref 27), some (.ref 40), some (.int x2), some (.int s.1)] [] s.2) (K := K_la_judgeBy_2 Q x2) (fun _ h => h) (fun s o hb hk => w_b_la_judgeBy_2_2 x2 s.1 s.2 hb hk) hf hk
theorem w_b_la_judgeBy_32_32 (x2 : Int32) (x3 : Int32)  (M : dM) {Q : mz_P} {o : ((Int32 × dM) ⊕ (Int32 × dM))} (hf : b_la_judgeBy_32_32 x2 x3 M = some o) (hk : K_la_judgeBy_32 Q x2 o) : mW mX3_judgeBy 3 Q 32 [some (.ref 27), some (.ref 40), some (.int x2), some (.int x3)] [] M := by
  unfold b_la_judgeBy_32_32 at hf
  refine y_iload_n (i := 3) (n := 33) ⟨dX3_judgeBy_32, rfl⟩ rfl ?_
  refine y_aload_n (i := 0) (n := 34) ⟨dX3_judgeBy_33, rfl⟩ rfl ?_
  refine y_getI (n := 37) ⟨dX3_judgeBy_34, rfl⟩ kfX3_43 l_27 rfl ?_
  refine y_icmp_ge (t := 61) (n := 40) ⟨dX3_judgeBy_37, rfl, rfl⟩ (fun (hc : (gI M 27 5) ≤ x3) => ?_) (fun (hc : ¬ ((gI M 27 5) ≤ x3)) => ?_)
  · replace hf := i_t hc hf
    refine y_iconst (n := 62) (v := 0) ⟨dX3_judgeBy_61, rfl⟩ ki_0 ?_
    cases hf
    exact y_ireturn (n := 63) ⟨dX3_judgeBy_62, rfl⟩ rfl rfl hk
  · replace hf := i_f hc hf
    refine y_aload_n (i := 0) (n := 41) ⟨dX3_judgeBy_40, rfl⟩ rfl ?_
    refine y_bipush (n := 43) (v := 6) ⟨dX3_judgeBy_41, rfl⟩ kb_6 ?_
    refine y_iload_n (i := 3) (n := 44) ⟨dX3_judgeBy_43, rfl⟩ rfl ?_
    refine y_iadd (n := 45) ⟨dX3_judgeBy_44, rfl⟩ ?_
    refine y_aload_n (i := 1) (n := 46) ⟨dX3_judgeBy_45, rfl⟩ rfl ?_
    refine y_iload_n (i := 2) (n := 47) ⟨dX3_judgeBy_46, rfl⟩ rfl ?_
    obtain ⟨q6, hv7, hf⟩ := b_s hf
    refine c_la_valueOf_27_40 (6 + x3) x2 M (n := 50) ⟨dX3_judgeBy_47, rfl⟩ klX3_56 hv7 (by decide) (Nat.le_of_ble_eq_true rfl) rfl rfl ?_
    refine y_if_eq (t := 55) (n := 53) ⟨dX3_judgeBy_50, rfl, rfl⟩ (fun (hc : q6.1 = 0) => ?_) (fun (hc : ¬ (q6.1 = 0)) => ?_)
    · replace hf := i_t hc hf
      refine y_iinc (i := 3) (n := 58) (b := (x3 + 1)) (L2 := [some (.ref 27), some (.ref 40), some (.int x2), some (.int (x3 + 1))]) ⟨dX3_judgeBy_55, rfl⟩ rfl (by rw [ki_1]) (by decide) rfl rfl ?_
      refine y_goto (t := 32) ⟨dX3_judgeBy_58, rfl, rfl⟩ ?_
      cases hf
      exact y_wk (L2 := [some (.ref 27), some (.ref 40), some (.int x2), some (.int (x3 + 1))]) ⟨Or.inr rfl, Or.inr rfl, Or.inr rfl, Or.inr rfl, trivial⟩ hk
    · replace hf := i_f hc hf
      refine y_iconst (n := 54) (v := 1) ⟨dX3_judgeBy_53, rfl⟩ ki_1 ?_
      cases hf
      exact y_ireturn (n := 55) ⟨dX3_judgeBy_54, rfl⟩ rfl rfl hk
theorem wl_la_judgeBy_32 (x2 : Int32) (x3 : Int32) (M : dM) {Q : mz_P} {x : (Int32 × dM)} (hf : l_la_judgeBy_32 x2 x3 M = some x) (hk : K_la_judgeBy_32 Q x2 (.inr x)) : mW mX3_judgeBy 3 Q 32 [some (.ref 27), some (.ref 40), some (.int x2), some (.int x3)] [] M :=
  lpc_wp (σ := (Int32 × dM)) (ξ := (Int32 × dM)) (s := (x3, M)) (Wh := fun s => mW mX3_judgeBy 3 Q 32 [some (.ref 27), some (.ref 40), some (.int x2), some (.int s.1)] [] s.2) (K := K_la_judgeBy_32 Q x2) (fun _ h => h) (fun s o hb hk => w_b_la_judgeBy_32_32 x2 s.1 s.2 hb hk) hf hk
theorem ok_la_judgeBy (a2 : Int32) (M : dM) {o : (Int32 × dM)} (hf : f_la_judgeBy a2 M = some o) : mO mX3_judgeBy 3 [.ref 27, .ref 40, .int a2] M (some (.int o.1)) o.2 := by
  refine y_ok (by decide +kernel) (Nat.le_of_ble_eq_true rfl) (L0 := [some (.ref 27), some (.ref 40), some (.int a2), none]) rfl ?_
  have hk := mR_mQ (some (.int o.1)) o.2
  generalize mQ _ _ = Q at hk ⊢
  unfold f_la_judgeBy at hf
  refine y_iconst (n := 1) (v := 0) ⟨dX3_judgeBy_0, rfl⟩ ki_0 ?_
  refine y_istore_n (i := 3) (n := 2) (L2 := [some (.ref 27), some (.ref 40), some (.int a2), some (.int 0)]) ⟨dX3_judgeBy_1, rfl⟩ (by decide) rfl rfl ?_
  obtain ⟨z11, hl4, hf⟩ := b_s hf
  refine y_wk (L2 := [some (.ref 27), some (.ref 40), some (.int a2), some (.int 0)]) ⟨Or.inr rfl, Or.inr rfl, Or.inr rfl, Or.inr rfl, trivial⟩ (wl_la_judgeBy_2 a2 0 M hl4 ?_)
  rcases z11 with t3 | r5
  · show mW mX3_judgeBy 3 Q 30 [some (.ref 27), some (.ref 40), some (.int a2), none] [] t3
    refine y_iconst (n := 31) (v := 0) ⟨dX3_judgeBy_30, rfl⟩ ki_0 ?_
    refine y_istore_n (i := 3) (n := 32) (L2 := [some (.ref 27), some (.ref 40), some (.int a2), some (.int 0)]) ⟨dX3_judgeBy_31, rfl⟩ (by decide) rfl rfl ?_
    obtain ⟨r10, hl9, hf⟩ := b_s hf
    cases hf
    exact y_wk (L2 := [some (.ref 27), some (.ref 40), some (.int a2), some (.int 0)]) ⟨Or.inr rfl, Or.inr rfl, Or.inr rfl, Or.inr rfl, trivial⟩ (wl_la_judgeBy_32 a2 0 t3 hl9 hk)
  · cases hf
    exact hk
theorem c_la_judgeBy (a2 : Int32) (M : dM) {o : (Int32 × dM)} {y : mz_M} {d : Nat} {Q : mz_P} {pc n i : Nat} {L : List (Option Value)} {st : List Value} (h : mz_d y.2.1 pc n 3 (.invokevirtual i)) (hl : mz_ml y.1.cls i yX3_judgeBy) (hf : f_la_judgeBy a2 M = some o) (hd : 3 + 1 ≤ d) (hsm : (st.map (fun v => v.category)).sum ≤ 8) (hLr : mz_rL 133 L = true) (hSr : mz_rS 133 st = true) (kk : mW y d Q n L (.int o.1 :: st) o.2) : mW y d Q pc L (.int a2 :: .ref 40 :: .ref 27 :: st) M :=
  y_callV kmX3_judgeBy kvX3_judgeBy l_27 (by decide +kernel) (by decide +kernel) h hl (ok_la_judgeBy a2 M hf) (vs := [.ref 40, .int a2]) rfl rfl hd hsm hLr hSr kk
def K_ju_judgeAll_8 (Q : mz_P)  : ((Int32 × Int32 × dM) ⊕ dM) → Prop
  | .inl s => mW mX2_judgeAll 4 Q 8 [some (.ref 39), some (.int s.1), some (.int s.2.1), none] [] s.2.2
  | .inr r => mR Q none r
noncomputable def b_ju_judgeAll_8_8 (x1 : Int32) (x2 : Int32) (M : dM) : Option ((Int32 × Int32 × dM) ⊕ dM) :=
  if (gI M 12 7) ≤ x2 then
    some (.inr M)
  else
    gd (vp_in x2 40) <|
    (f_ju_placeFacts (x2 * 17) (gI M 13 x2.toNatClampNeg) (gI M 15 x2.toNatClampNeg) (gI M 16 x2.toNatClampNeg) (gI M 17 x2.toNatClampNeg) M).bind fun q4 =>
    (f_ju_thingFacts (x2 * 17) (gI q4 13 x2.toNatClampNeg) (gI q4 14 x2.toNatClampNeg) (gI q4 18 x2.toNatClampNeg) x1 q4).bind fun q6 =>
    gd (vp_in ((x2 * 17) + 11) 697) <|
    gd (vp_in ((x2 * 17) + 16) 697) <|
    (f_la_judgeBy (x2 * 17) (sI (sI q6.2 40 ((x2 * 17) + 11).toNatClampNeg (gI q6.2 19 x2.toNatClampNeg)) 40 ((x2 * 17) + 16).toNatClampNeg (f_jd_bitCount_95d88 (gJ (sI q6.2 40 ((x2 * 17) + 11).toNatClampNeg (gI q6.2 19 x2.toNatClampNeg)) 42 x2.toNatClampNeg)))).bind fun q10 =>
    some (.inl (q6.1, (x2 + 1), (sI q10.2 41 x2.toNatClampNeg q10.1)))
noncomputable def l_ju_judgeAll_8 (x1 : Int32) (x2 : Int32) (M : dM) : Option dM := lpc (fun s => b_ju_judgeAll_8_8 s.1 s.2.1 s.2.2) (x1, x2, M)
noncomputable def f_ju_judgeAll (M : dM) : Option dM :=
  (f_ju_pairTwins M).bind fun q1 =>
  (l_ju_judgeAll_8 (-1) 0 q1).bind fun r14 => some r14
theorem w_b_ju_judgeAll_8_8 (x1 : Int32) (x2 : Int32)  (M : dM) {Q : mz_P} {o : ((Int32 × Int32 × dM) ⊕ dM)} (hf : b_ju_judgeAll_8_8 x1 x2 M = some o) (hk : K_ju_judgeAll_8 Q  o) : mW mX2_judgeAll 4 Q 8 [some (.ref 39), some (.int x1), some (.int x2), none] [] M := by
  unfold b_ju_judgeAll_8_8 at hf
  refine y_iload_n (i := 2) (n := 9) ⟨dX2_judgeAll_8, rfl⟩ rfl ?_
  refine y_aload_n (i := 0) (n := 10) ⟨dX2_judgeAll_9, rfl⟩ rfl ?_
  refine y_getR (n := 13) ⟨dX2_judgeAll_10, rfl⟩ kfX2_40 l_39 rfl r_39_2 ?_
  refine y_getI (n := 16) ⟨dX2_judgeAll_13, rfl⟩ kfX2_51 l_12 rfl ?_
  refine y_icmp_ge (t := 159) (n := 19) ⟨dX2_judgeAll_16, rfl, rfl⟩ (fun (hc : (gI M 12 7) ≤ x2) => ?_) (fun (hc : ¬ ((gI M 12 7) ≤ x2)) => ?_)
  · replace hf := i_t hc hf
    cases hf
    exact y_return (n := 160) ⟨dX2_judgeAll_159, rfl⟩ rfl hk
  · replace hf := i_f hc hf
    refine y_iload_n (i := 2) (n := 20) ⟨dX2_judgeAll_19, rfl⟩ rfl ?_
    refine y_bipush (n := 22) (v := 17) ⟨dX2_judgeAll_20, rfl⟩ kb_17 ?_
    refine y_imul (n := 23) ⟨dX2_judgeAll_22, rfl⟩ ?_
    refine y_istore_n (i := 3) (n := 24) (L2 := [some (.ref 39), some (.int x1), some (.int x2), some (.int (x2 * 17))]) ⟨dX2_judgeAll_23, rfl⟩ (by decide) rfl rfl ?_
    refine y_aload_n (i := 0) (n := 25) ⟨dX2_judgeAll_24, rfl⟩ rfl ?_
    refine y_iload_n (i := 3) (n := 26) ⟨dX2_judgeAll_25, rfl⟩ rfl ?_
    refine y_aload_n (i := 0) (n := 27) ⟨dX2_judgeAll_26, rfl⟩ rfl ?_
    refine y_getR (n := 30) ⟨dX2_judgeAll_27, rfl⟩ kfX2_40 l_39 rfl r_39_2 ?_
    refine y_getR (n := 33) ⟨dX2_judgeAll_30, rfl⟩ kfX2_56 l_12 rfl r_12_0 ?_
    refine y_iload_n (i := 2) (n := 34) ⟨dX2_judgeAll_33, rfl⟩ rfl ?_
    obtain ⟨hg3, hf⟩ := g_s hf
    refine y_iaload (n := 35) ⟨dX2_judgeAll_34, rfl⟩ l_13 hg3 ?_
    refine y_aload_n (i := 0) (n := 36) ⟨dX2_judgeAll_35, rfl⟩ rfl ?_
    refine y_getR (n := 39) ⟨dX2_judgeAll_36, rfl⟩ kfX2_40 l_39 rfl r_39_2 ?_
    refine y_getR (n := 42) ⟨dX2_judgeAll_39, rfl⟩ kfX2_59 l_12 rfl r_12_2 ?_
    refine y_iload_n (i := 2) (n := 43) ⟨dX2_judgeAll_42, rfl⟩ rfl ?_
    refine y_iaload (n := 44) ⟨dX2_judgeAll_43, rfl⟩ l_15 hg3 ?_
    refine y_aload_n (i := 0) (n := 45) ⟨dX2_judgeAll_44, rfl⟩ rfl ?_
    refine y_getR (n := 48) ⟨dX2_judgeAll_45, rfl⟩ kfX2_40 l_39 rfl r_39_2 ?_
    refine y_getR (n := 51) ⟨dX2_judgeAll_48, rfl⟩ kfX2_62 l_12 rfl r_12_3 ?_
    refine y_iload_n (i := 2) (n := 52) ⟨dX2_judgeAll_51, rfl⟩ rfl ?_
    refine y_iaload (n := 53) ⟨dX2_judgeAll_52, rfl⟩ l_16 hg3 ?_
    refine y_aload_n (i := 0) (n := 54) ⟨dX2_judgeAll_53, rfl⟩ rfl ?_
    refine y_getR (n := 57) ⟨dX2_judgeAll_54, rfl⟩ kfX2_40 l_39 rfl r_39_2 ?_
    refine y_getR (n := 60) ⟨dX2_judgeAll_57, rfl⟩ kfX2_65 l_12 rfl r_12_4 ?_
    refine y_iload_n (i := 2) (n := 61) ⟨dX2_judgeAll_60, rfl⟩ rfl ?_
    refine y_iaload (n := 62) ⟨dX2_judgeAll_61, rfl⟩ l_17 hg3 ?_
    obtain ⟨q4, hv5, hf⟩ := b_s hf
    refine c_ju_placeFacts (x2 * 17) (gI M 13 x2.toNatClampNeg) (gI M 15 x2.toNatClampNeg) (gI M 16 x2.toNatClampNeg) (gI M 17 x2.toNatClampNeg) M (n := 65) ⟨dX2_judgeAll_62, rfl⟩ klX2_68 hv5 (by decide) (Nat.le_of_ble_eq_true rfl) rfl rfl ?_
    refine y_aload_n (i := 0) (n := 66) ⟨dX2_judgeAll_65, rfl⟩ rfl ?_
    refine y_iload_n (i := 3) (n := 67) ⟨dX2_judgeAll_66, rfl⟩ rfl ?_
    refine y_aload_n (i := 0) (n := 68) ⟨dX2_judgeAll_67, rfl⟩ rfl ?_
    refine y_getR (n := 71) ⟨dX2_judgeAll_68, rfl⟩ kfX2_40 l_39 rfl r_39_2 ?_
    refine y_getR (n := 74) ⟨dX2_judgeAll_71, rfl⟩ kfX2_56 l_12 rfl r_12_0 ?_
    refine y_iload_n (i := 2) (n := 75) ⟨dX2_judgeAll_74, rfl⟩ rfl ?_
    refine y_iaload (n := 76) ⟨dX2_judgeAll_75, rfl⟩ l_13 hg3 ?_
    refine y_aload_n (i := 0) (n := 77) ⟨dX2_judgeAll_76, rfl⟩ rfl ?_
    refine y_getR (n := 80) ⟨dX2_judgeAll_77, rfl⟩ kfX2_40 l_39 rfl r_39_2 ?_
    refine y_getR (n := 83) ⟨dX2_judgeAll_80, rfl⟩ kfX2_72 l_12 rfl r_12_1 ?_
    refine y_iload_n (i := 2) (n := 84) ⟨dX2_judgeAll_83, rfl⟩ rfl ?_
    refine y_iaload (n := 85) ⟨dX2_judgeAll_84, rfl⟩ l_14 hg3 ?_
    refine y_aload_n (i := 0) (n := 86) ⟨dX2_judgeAll_85, rfl⟩ rfl ?_
    refine y_getR (n := 89) ⟨dX2_judgeAll_86, rfl⟩ kfX2_40 l_39 rfl r_39_2 ?_
    refine y_getR (n := 92) ⟨dX2_judgeAll_89, rfl⟩ kfX2_75 l_12 rfl r_12_5 ?_
    refine y_iload_n (i := 2) (n := 93) ⟨dX2_judgeAll_92, rfl⟩ rfl ?_
    refine y_iaload (n := 94) ⟨dX2_judgeAll_93, rfl⟩ l_18 hg3 ?_
    refine y_iload_n (i := 1) (n := 95) ⟨dX2_judgeAll_94, rfl⟩ rfl ?_
    obtain ⟨q6, hv7, hf⟩ := b_s hf
    refine c_ju_thingFacts (x2 * 17) (gI q4 13 x2.toNatClampNeg) (gI q4 14 x2.toNatClampNeg) (gI q4 18 x2.toNatClampNeg) x1 q4 (n := 98) ⟨dX2_judgeAll_95, rfl⟩ klX2_78 hv7 (by decide) (Nat.le_of_ble_eq_true rfl) rfl rfl ?_
    refine y_istore_n (i := 1) (n := 99) (L2 := [some (.ref 39), some (.int q6.1), some (.int x2), some (.int (x2 * 17))]) ⟨dX2_judgeAll_98, rfl⟩ (by decide) rfl rfl ?_
    refine y_aload_n (i := 0) (n := 100) ⟨dX2_judgeAll_99, rfl⟩ rfl ?_
    refine y_getR (n := 103) ⟨dX2_judgeAll_100, rfl⟩ kfX2_9 l_39 rfl r_39_4 ?_
    refine y_iload_n (i := 3) (n := 104) ⟨dX2_judgeAll_103, rfl⟩ rfl ?_
    refine y_bipush (n := 106) (v := 11) ⟨dX2_judgeAll_104, rfl⟩ kb_11 ?_
    refine y_iadd (n := 107) ⟨dX2_judgeAll_106, rfl⟩ ?_
    refine y_aload_n (i := 0) (n := 108) ⟨dX2_judgeAll_107, rfl⟩ rfl ?_
    refine y_getR (n := 111) ⟨dX2_judgeAll_108, rfl⟩ kfX2_40 l_39 rfl r_39_2 ?_
    refine y_getR (n := 114) ⟨dX2_judgeAll_111, rfl⟩ kfX2_82 l_12 rfl r_12_6 ?_
    refine y_iload_n (i := 2) (n := 115) ⟨dX2_judgeAll_114, rfl⟩ rfl ?_
    refine y_iaload (n := 116) ⟨dX2_judgeAll_115, rfl⟩ l_19 hg3 ?_
    obtain ⟨hg8, hf⟩ := g_s hf
    refine y_iastore (n := 117) ⟨dX2_judgeAll_116, rfl⟩ l_40 hg8 ?_
    refine y_aload_n (i := 0) (n := 118) ⟨dX2_judgeAll_117, rfl⟩ rfl ?_
    refine y_getR (n := 121) ⟨dX2_judgeAll_118, rfl⟩ kfX2_9 l_39 rfl r_39_4 ?_
    refine y_iload_n (i := 3) (n := 122) ⟨dX2_judgeAll_121, rfl⟩ rfl ?_
    refine y_bipush (n := 124) (v := 16) ⟨dX2_judgeAll_122, rfl⟩ kb_16 ?_
    refine y_iadd (n := 125) ⟨dX2_judgeAll_124, rfl⟩ ?_
    refine y_aload_n (i := 0) (n := 126) ⟨dX2_judgeAll_125, rfl⟩ rfl ?_
    refine y_getR (n := 129) ⟨dX2_judgeAll_126, rfl⟩ kfX2_18 l_39 rfl r_39_6 ?_
    refine y_iload_n (i := 2) (n := 130) ⟨dX2_judgeAll_129, rfl⟩ rfl ?_
    refine y_laload (n := 131) ⟨dX2_judgeAll_130, rfl⟩ l_42 hg3 ?_
    refine c_jd_bitCount_95d88 (gJ (sI q6.2 40 ((x2 * 17) + 11).toNatClampNeg (gI q6.2 19 x2.toNatClampNeg)) 42 x2.toNatClampNeg) (sI q6.2 40 ((x2 * 17) + 11).toNatClampNeg (gI q6.2 19 x2.toNatClampNeg)) (n := 134) ⟨dX2_judgeAll_131, rfl⟩ klX2_85 rfl (by decide) (Nat.le_of_ble_eq_true rfl) rfl rfl ?_
    obtain ⟨hg9, hf⟩ := g_s hf
    refine y_iastore (n := 135) ⟨dX2_judgeAll_134, rfl⟩ l_40 hg9 ?_
    refine y_aload_n (i := 0) (n := 136) ⟨dX2_judgeAll_135, rfl⟩ rfl ?_
    refine y_getR (n := 139) ⟨dX2_judgeAll_136, rfl⟩ kfX2_15 l_39 rfl r_39_5 ?_
    refine y_iload_n (i := 2) (n := 140) ⟨dX2_judgeAll_139, rfl⟩ rfl ?_
    refine y_aload_n (i := 0) (n := 141) ⟨dX2_judgeAll_140, rfl⟩ rfl ?_
    refine y_getR (n := 144) ⟨dX2_judgeAll_141, rfl⟩ kfX2_44 l_39 rfl r_39_3 ?_
    refine y_aload_n (i := 0) (n := 145) ⟨dX2_judgeAll_144, rfl⟩ rfl ?_
    refine y_getR (n := 148) ⟨dX2_judgeAll_145, rfl⟩ kfX2_9 l_39 rfl r_39_4 ?_
    refine y_iload_n (i := 3) (n := 149) ⟨dX2_judgeAll_148, rfl⟩ rfl ?_
    obtain ⟨q10, hv11, hf⟩ := b_s hf
    refine c_la_judgeBy (x2 * 17) (sI (sI q6.2 40 ((x2 * 17) + 11).toNatClampNeg (gI q6.2 19 x2.toNatClampNeg)) 40 ((x2 * 17) + 16).toNatClampNeg (f_jd_bitCount_95d88 (gJ (sI q6.2 40 ((x2 * 17) + 11).toNatClampNeg (gI q6.2 19 x2.toNatClampNeg)) 42 x2.toNatClampNeg))) (n := 152) ⟨dX2_judgeAll_149, rfl⟩ klX2_91 hv11 (by decide) (Nat.le_of_ble_eq_true rfl) rfl rfl ?_
    refine y_iastore (n := 153) ⟨dX2_judgeAll_152, rfl⟩ l_41 hg3 ?_
    refine y_iinc (i := 2) (n := 156) (b := (x2 + 1)) (L2 := [some (.ref 39), some (.int q6.1), some (.int (x2 + 1)), some (.int (x2 * 17))]) ⟨dX2_judgeAll_153, rfl⟩ rfl (by rw [ki_1]) (by decide) rfl rfl ?_
    refine y_goto (t := 8) ⟨dX2_judgeAll_156, rfl, rfl⟩ ?_
    cases hf
    exact y_wk (L2 := [some (.ref 39), some (.int q6.1), some (.int (x2 + 1)), none]) ⟨Or.inr rfl, Or.inr rfl, Or.inr rfl, Or.inl rfl, trivial⟩ hk
theorem wl_ju_judgeAll_8 (x1 : Int32) (x2 : Int32) (M : dM) {Q : mz_P} {x : dM} (hf : l_ju_judgeAll_8 x1 x2 M = some x) (hk : K_ju_judgeAll_8 Q  (.inr x)) : mW mX2_judgeAll 4 Q 8 [some (.ref 39), some (.int x1), some (.int x2), none] [] M :=
  lpc_wp (σ := (Int32 × Int32 × dM)) (ξ := dM) (s := (x1, x2, M)) (Wh := fun s => mW mX2_judgeAll 4 Q 8 [some (.ref 39), some (.int s.1), some (.int s.2.1), none] [] s.2.2) (K := K_ju_judgeAll_8 Q ) (fun _ h => h) (fun s o hb hk => w_b_ju_judgeAll_8_8 s.1 s.2.1 s.2.2 hb hk) hf hk
theorem ok_ju_judgeAll  (M : dM) {o : dM} (hf : f_ju_judgeAll M = some o) : mO mX2_judgeAll 4 [.ref 39] M none o := by
  refine y_ok (by decide +kernel) (Nat.le_of_ble_eq_true rfl) (L0 := [some (.ref 39), none, none, none]) rfl ?_
  have hk := mR_mQ none o
  generalize mQ _ _ = Q at hk ⊢
  unfold f_ju_judgeAll at hf
  refine y_aload_n (i := 0) (n := 1) ⟨dX2_judgeAll_0, rfl⟩ rfl ?_
  obtain ⟨q1, hv2, hf⟩ := b_s hf
  refine c_ju_pairTwins M (n := 4) ⟨dX2_judgeAll_1, rfl⟩ klX2_48 hv2 (by decide) (Nat.le_of_ble_eq_true rfl) rfl rfl ?_
  refine y_iconst (n := 5) (v := (-1)) ⟨dX2_judgeAll_4, rfl⟩ ki_m1 ?_
  refine y_istore_n (i := 1) (n := 6) (L2 := [some (.ref 39), some (.int (-1)), none, none]) ⟨dX2_judgeAll_5, rfl⟩ (by decide) rfl rfl ?_
  refine y_iconst (n := 7) (v := 0) ⟨dX2_judgeAll_6, rfl⟩ ki_0 ?_
  refine y_istore_n (i := 2) (n := 8) (L2 := [some (.ref 39), some (.int (-1)), some (.int 0), none]) ⟨dX2_judgeAll_7, rfl⟩ (by decide) rfl rfl ?_
  obtain ⟨r14, hl13, hf⟩ := b_s hf
  cases hf
  exact y_wk (L2 := [some (.ref 39), some (.int (-1)), some (.int 0), none]) ⟨Or.inr rfl, Or.inr rfl, Or.inr rfl, Or.inr rfl, trivial⟩ (wl_ju_judgeAll_8 (-1) 0 q1 hl13 hk)
theorem c_ju_judgeAll  (M : dM) {o : dM} {y : mz_M} {d : Nat} {Q : mz_P} {pc n i : Nat} {L : List (Option Value)} {st : List Value} (h : mz_d y.2.1 pc n 3 (.invokevirtual i)) (hl : mz_ml y.1.cls i yX2_judgeAll) (hf : f_ju_judgeAll M = some o) (hd : 4 + 1 ≤ d) (hsm : (st.map (fun v => v.category)).sum ≤ 8) (hLr : mz_rL 133 L = true) (hSr : mz_rS 133 st = true) (kk : mW y d Q n L st o) : mW y d Q pc L (.ref 39 :: st) M :=
  y_callV kmX2_judgeAll kvX2_judgeAll l_39 (by decide +kernel) (by decide +kernel) h hl (ok_ju_judgeAll  M hf) (vs := []) rfl rfl hd hsm hLr hSr kk
