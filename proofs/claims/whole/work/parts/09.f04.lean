def K_sy_whoCan_4 (Q : mz_P) (x1 : Int32) (M : dM) : ((Int32 × Int32) ⊕ Int32) → Prop
  | .inl s => mW mX8_whoCan 2 Q 4 [some (.ref 45), some (.int x1), some (.int s.1), some (.int s.2), none, none] [] M
  | .inr r => mR Q (some (.int r)) M
noncomputable def b_sy_whoCan_4_102 (x1 : Int32) (x2 : Int32) (x3 : Int32) (y0 : Int32) (M : dM) : Option ((Int32 × Int32) ⊕ Int32) :=
  gd (vp_in x3 80) <|
  if ((gI M 11 x3.toNatClampNeg) &&& y0) = 0 then
    some (.inl (x2, (x3 + 1)))
  else
    some (.inl ((x2 ||| ((1 : Int32) <<< ((gI M 7 x3.toNatClampNeg) &&& 31))), (x3 + 1)))
noncomputable def b_sy_whoCan_4_4 (x1 : Int32) (x2 : Int32) (x3 : Int32) (M : dM) : Option ((Int32 × Int32) ⊕ Int32) :=
  if (gI M 6 5) ≤ x3 then
    some (.inr x2)
  else
    gd (vp_in x1 40) <|
    gd (vp_in x3 80) <|
    if (gI M 8 x3.toNatClampNeg) = (gI M 13 x1.toNatClampNeg) then
      if ((gI M 15 x1.toNatClampNeg) - (gI M 9 x3.toNatClampNeg)) < 0 then
        some (.inl (x2, (x3 + 1)))
      else
        if ((gI M 15 x1.toNatClampNeg) - (gI M 9 x3.toNatClampNeg)) ≤ (gI M 27 6) then
          if ((gI M 15 x1.toNatClampNeg) - (gI M 9 x3.toNatClampNeg)) = 0 then
            b_sy_whoCan_4_102 x1 x2 x3 (f_ax_hoursAhead (gI M 16 x1.toNatClampNeg)) M
          else
            b_sy_whoCan_4_102 x1 x2 x3 (f_ax_hoursAhead 24) M
        else
          some (.inl (x2, (x3 + 1)))
    else
      some (.inl (x2, (x3 + 1)))
noncomputable def l_sy_whoCan_4 (x1 : Int32) (x2 : Int32) (x3 : Int32) (M : dM) : Option Int32 := lpc (fun s => b_sy_whoCan_4_4 x1 s.1 s.2 M) (x2, x3)
noncomputable def f_sy_whoCan (a1 : Int32) (M : dM) : Option Int32 :=
  (l_sy_whoCan_4 a1 0 0 M).bind fun r6 => some r6
theorem w_b_sy_whoCan_4_102 (x1 : Int32) (x2 : Int32) (x3 : Int32) (y0 : Int32)  (M : dM) {Q : mz_P} {o : ((Int32 × Int32) ⊕ Int32)} (hf : b_sy_whoCan_4_102 x1 x2 x3 y0 M = some o) (hk : K_sy_whoCan_4 Q x1 M o) : mW mX8_whoCan 2 Q 102 [some (.ref 45), some (.int x1), some (.int x2), some (.int x3), none, none] [.int y0] M := by
  unfold b_sy_whoCan_4_102 at hf
  refine y_istore (i := 5) (n := 104) (L2 := [some (.ref 45), some (.int x1), some (.int x2), some (.int x3), none, some (.int y0)]) ⟨dX8_whoCan_102, rfl⟩ (by decide) rfl rfl ?_
  refine y_aload_n (i := 0) (n := 105) ⟨dX8_whoCan_104, rfl⟩ rfl ?_
  refine y_getR (n := 108) ⟨dX8_whoCan_105, rfl⟩ kfX8_25 l_45 rfl r_45_0 ?_
  refine y_getR (n := 111) ⟨dX8_whoCan_108, rfl⟩ kfX8_96 l_6 rfl r_6_4 ?_
  refine y_iload_n (i := 3) (n := 112) ⟨dX8_whoCan_111, rfl⟩ rfl ?_
  obtain ⟨hg3, hf⟩ := g_s hf
  refine y_iaload (n := 113) ⟨dX8_whoCan_112, rfl⟩ l_11 hg3 ?_
  refine y_iload (i := 5) (n := 115) ⟨dX8_whoCan_113, rfl⟩ rfl ?_
  refine y_iand (n := 116) ⟨dX8_whoCan_115, rfl⟩ ?_
  refine y_if_eq (t := 133) (n := 119) ⟨dX8_whoCan_116, rfl, rfl⟩ (fun (hc : ((gI M 11 x3.toNatClampNeg) &&& y0) = 0) => ?_) (fun (hc : ¬ (((gI M 11 x3.toNatClampNeg) &&& y0) = 0)) => ?_)
  · replace hf := i_t hc hf
    refine y_iinc (i := 3) (n := 136) (b := (x3 + 1)) (L2 := [some (.ref 45), some (.int x1), some (.int x2), some (.int (x3 + 1)), none, some (.int y0)]) ⟨dX8_whoCan_133, rfl⟩ rfl (by rw [ki_1]) (by decide) rfl rfl ?_
    refine y_goto (t := 4) ⟨dX8_whoCan_136, rfl, rfl⟩ ?_
    cases hf
    exact y_wk (L2 := [some (.ref 45), some (.int x1), some (.int x2), some (.int (x3 + 1)), none, none]) ⟨Or.inr rfl, Or.inr rfl, Or.inr rfl, Or.inr rfl, Or.inr rfl, Or.inl rfl, trivial⟩ hk
  · replace hf := i_f hc hf
    refine y_iload_n (i := 2) (n := 120) ⟨dX8_whoCan_119, rfl⟩ rfl ?_
    refine y_iconst (n := 121) (v := 1) ⟨dX8_whoCan_120, rfl⟩ ki_1 ?_
    refine y_aload_n (i := 0) (n := 122) ⟨dX8_whoCan_121, rfl⟩ rfl ?_
    refine y_getR (n := 125) ⟨dX8_whoCan_122, rfl⟩ kfX8_25 l_45 rfl r_45_0 ?_
    refine y_getR (n := 128) ⟨dX8_whoCan_125, rfl⟩ kfX8_99 l_6 rfl r_6_0 ?_
    refine y_iload_n (i := 3) (n := 129) ⟨dX8_whoCan_128, rfl⟩ rfl ?_
    refine y_iaload (n := 130) ⟨dX8_whoCan_129, rfl⟩ l_7 hg3 ?_
    refine y_ishl (n := 131) ⟨dX8_whoCan_130, rfl⟩ ?_
    refine y_ior (n := 132) ⟨dX8_whoCan_131, rfl⟩ ?_
    refine y_istore_n (i := 2) (n := 133) (L2 := [some (.ref 45), some (.int x1), some (.int (x2 ||| ((1 : Int32) <<< ((gI M 7 x3.toNatClampNeg) &&& 31)))), some (.int x3), none, some (.int y0)]) ⟨dX8_whoCan_132, rfl⟩ (by decide) rfl rfl ?_
    refine y_iinc (i := 3) (n := 136) (b := (x3 + 1)) (L2 := [some (.ref 45), some (.int x1), some (.int (x2 ||| ((1 : Int32) <<< ((gI M 7 x3.toNatClampNeg) &&& 31)))), some (.int (x3 + 1)), none, some (.int y0)]) ⟨dX8_whoCan_133, rfl⟩ rfl (by rw [ki_1]) (by decide) rfl rfl ?_
    refine y_goto (t := 4) ⟨dX8_whoCan_136, rfl, rfl⟩ ?_
    cases hf
    exact y_wk (L2 := [some (.ref 45), some (.int x1), some (.int (x2 ||| ((1 : Int32) <<< ((gI M 7 x3.toNatClampNeg) &&& 31)))), some (.int (x3 + 1)), none, none]) ⟨Or.inr rfl, Or.inr rfl, Or.inr rfl, Or.inr rfl, Or.inr rfl, Or.inl rfl, trivial⟩ hk
theorem w_b_sy_whoCan_4_4 (x1 : Int32) (x2 : Int32) (x3 : Int32)  (M : dM) {Q : mz_P} {o : ((Int32 × Int32) ⊕ Int32)} (hf : b_sy_whoCan_4_4 x1 x2 x3 M = some o) (hk : K_sy_whoCan_4 Q x1 M o) : mW mX8_whoCan 2 Q 4 [some (.ref 45), some (.int x1), some (.int x2), some (.int x3), none, none] [] M := by
  unfold b_sy_whoCan_4_4 at hf
  refine y_iload_n (i := 3) (n := 5) ⟨dX8_whoCan_4, rfl⟩ rfl ?_
  refine y_aload_n (i := 0) (n := 6) ⟨dX8_whoCan_5, rfl⟩ rfl ?_
  refine y_getR (n := 9) ⟨dX8_whoCan_6, rfl⟩ kfX8_25 l_45 rfl r_45_0 ?_
  refine y_getI (n := 12) ⟨dX8_whoCan_9, rfl⟩ kfX8_72 l_6 rfl ?_
  refine y_icmp_ge (t := 139) (n := 15) ⟨dX8_whoCan_12, rfl, rfl⟩ (fun (hc : (gI M 6 5) ≤ x3) => ?_) (fun (hc : ¬ ((gI M 6 5) ≤ x3)) => ?_)
  · replace hf := i_t hc hf
    refine y_iload_n (i := 2) (n := 140) ⟨dX8_whoCan_139, rfl⟩ rfl ?_
    cases hf
    exact y_ireturn (n := 141) ⟨dX8_whoCan_140, rfl⟩ rfl rfl hk
  · replace hf := i_f hc hf
    refine y_aload_n (i := 0) (n := 16) ⟨dX8_whoCan_15, rfl⟩ rfl ?_
    refine y_getR (n := 19) ⟨dX8_whoCan_16, rfl⟩ kfX8_29 l_45 rfl r_45_1 ?_
    refine y_getR (n := 22) ⟨dX8_whoCan_19, rfl⟩ kfX8_77 l_12 rfl r_12_2 ?_
    refine y_iload_n (i := 1) (n := 23) ⟨dX8_whoCan_22, rfl⟩ rfl ?_
    obtain ⟨hg1, hf⟩ := g_s hf
    refine y_iaload (n := 24) ⟨dX8_whoCan_23, rfl⟩ l_15 hg1 ?_
    refine y_aload_n (i := 0) (n := 25) ⟨dX8_whoCan_24, rfl⟩ rfl ?_
    refine y_getR (n := 28) ⟨dX8_whoCan_25, rfl⟩ kfX8_25 l_45 rfl r_45_0 ?_
    refine y_getR (n := 31) ⟨dX8_whoCan_28, rfl⟩ kfX8_80 l_6 rfl r_6_2 ?_
    refine y_iload_n (i := 3) (n := 32) ⟨dX8_whoCan_31, rfl⟩ rfl ?_
    obtain ⟨hg2, hf⟩ := g_s hf
    refine y_iaload (n := 33) ⟨dX8_whoCan_32, rfl⟩ l_9 hg2 ?_
    refine y_isub (n := 34) ⟨dX8_whoCan_33, rfl⟩ ?_
    refine y_istore (i := 4) (n := 36) (L2 := [some (.ref 45), some (.int x1), some (.int x2), some (.int x3), some (.int ((gI M 15 x1.toNatClampNeg) - (gI M 9 x3.toNatClampNeg))), none]) ⟨dX8_whoCan_34, rfl⟩ (by decide) rfl rfl ?_
    refine y_aload_n (i := 0) (n := 37) ⟨dX8_whoCan_36, rfl⟩ rfl ?_
    refine y_getR (n := 40) ⟨dX8_whoCan_37, rfl⟩ kfX8_25 l_45 rfl r_45_0 ?_
    refine y_getR (n := 43) ⟨dX8_whoCan_40, rfl⟩ kfX8_81 l_6 rfl r_6_1 ?_
    refine y_iload_n (i := 3) (n := 44) ⟨dX8_whoCan_43, rfl⟩ rfl ?_
    refine y_iaload (n := 45) ⟨dX8_whoCan_44, rfl⟩ l_8 hg2 ?_
    refine y_aload_n (i := 0) (n := 46) ⟨dX8_whoCan_45, rfl⟩ rfl ?_
    refine y_getR (n := 49) ⟨dX8_whoCan_46, rfl⟩ kfX8_29 l_45 rfl r_45_1 ?_
    refine y_getR (n := 52) ⟨dX8_whoCan_49, rfl⟩ kfX8_84 l_12 rfl r_12_0 ?_
    refine y_iload_n (i := 1) (n := 53) ⟨dX8_whoCan_52, rfl⟩ rfl ?_
    refine y_iaload (n := 54) ⟨dX8_whoCan_53, rfl⟩ l_13 hg1 ?_
    refine y_icmp_ne (t := 133) (n := 57) ⟨dX8_whoCan_54, rfl, rfl⟩ (fun (hc : ¬ ((gI M 8 x3.toNatClampNeg) = (gI M 13 x1.toNatClampNeg))) => ?_) (fun (hc : (gI M 8 x3.toNatClampNeg) = (gI M 13 x1.toNatClampNeg)) => ?_)
    · replace hf := i_f hc hf
      refine y_iinc (i := 3) (n := 136) (b := (x3 + 1)) (L2 := [some (.ref 45), some (.int x1), some (.int x2), some (.int (x3 + 1)), some (.int ((gI M 15 x1.toNatClampNeg) - (gI M 9 x3.toNatClampNeg))), none]) ⟨dX8_whoCan_133, rfl⟩ rfl (by rw [ki_1]) (by decide) rfl rfl ?_
      refine y_goto (t := 4) ⟨dX8_whoCan_136, rfl, rfl⟩ ?_
      cases hf
      exact y_wk (L2 := [some (.ref 45), some (.int x1), some (.int x2), some (.int (x3 + 1)), none, none]) ⟨Or.inr rfl, Or.inr rfl, Or.inr rfl, Or.inr rfl, Or.inl rfl, Or.inr rfl, trivial⟩ hk
    · replace hf := i_t hc hf
      refine y_iload (i := 4) (n := 59) ⟨dX8_whoCan_57, rfl⟩ rfl ?_
      refine y_if_lt (t := 133) (n := 62) ⟨dX8_whoCan_59, rfl, rfl⟩ (fun (hc : ((gI M 15 x1.toNatClampNeg) - (gI M 9 x3.toNatClampNeg)) < 0) => ?_) (fun (hc : ¬ (((gI M 15 x1.toNatClampNeg) - (gI M 9 x3.toNatClampNeg)) < 0)) => ?_)
      · replace hf := i_t hc hf
        refine y_iinc (i := 3) (n := 136) (b := (x3 + 1)) (L2 := [some (.ref 45), some (.int x1), some (.int x2), some (.int (x3 + 1)), some (.int ((gI M 15 x1.toNatClampNeg) - (gI M 9 x3.toNatClampNeg))), none]) ⟨dX8_whoCan_133, rfl⟩ rfl (by rw [ki_1]) (by decide) rfl rfl ?_
        refine y_goto (t := 4) ⟨dX8_whoCan_136, rfl, rfl⟩ ?_
        cases hf
        exact y_wk (L2 := [some (.ref 45), some (.int x1), some (.int x2), some (.int (x3 + 1)), none, none]) ⟨Or.inr rfl, Or.inr rfl, Or.inr rfl, Or.inr rfl, Or.inl rfl, Or.inr rfl, trivial⟩ hk
      · replace hf := i_f hc hf
        refine y_iload (i := 4) (n := 64) ⟨dX8_whoCan_62, rfl⟩ rfl ?_
        refine y_aload_n (i := 0) (n := 65) ⟨dX8_whoCan_64, rfl⟩ rfl ?_
        refine y_getR (n := 68) ⟨dX8_whoCan_65, rfl⟩ kfX8_33 l_45 rfl r_45_2 ?_
        refine y_getI (n := 71) ⟨dX8_whoCan_68, rfl⟩ kfX8_85 l_27 rfl ?_
        refine y_icmp_le (t := 77) (n := 74) ⟨dX8_whoCan_71, rfl, rfl⟩ (fun (hc : ((gI M 15 x1.toNatClampNeg) - (gI M 9 x3.toNatClampNeg)) ≤ (gI M 27 6)) => ?_) (fun (hc : ¬ (((gI M 15 x1.toNatClampNeg) - (gI M 9 x3.toNatClampNeg)) ≤ (gI M 27 6))) => ?_)
        · replace hf := i_t hc hf
          refine y_iload (i := 4) (n := 79) ⟨dX8_whoCan_77, rfl⟩ rfl ?_
          refine y_if_ne (t := 97) (n := 82) ⟨dX8_whoCan_79, rfl, rfl⟩ (fun (hc : ¬ (((gI M 15 x1.toNatClampNeg) - (gI M 9 x3.toNatClampNeg)) = 0)) => ?_) (fun (hc : ((gI M 15 x1.toNatClampNeg) - (gI M 9 x3.toNatClampNeg)) = 0) => ?_)
          · replace hf := i_f hc hf
            refine y_bipush (n := 99) (v := 24) ⟨dX8_whoCan_97, rfl⟩ kb_24 ?_
            refine c_ax_hoursAhead 24 M (n := 102) ⟨dX8_whoCan_99, rfl⟩ klX8_93 rfl (by decide) (Nat.le_of_ble_eq_true rfl) rfl rfl ?_
            exact y_wk (L2 := [some (.ref 45), some (.int x1), some (.int x2), some (.int x3), none, none]) ⟨Or.inr rfl, Or.inr rfl, Or.inr rfl, Or.inr rfl, Or.inl rfl, Or.inr rfl, trivial⟩ (w_b_sy_whoCan_4_102 x1 x2 x3 (f_ax_hoursAhead 24) M hf hk)
          · replace hf := i_t hc hf
            refine y_aload_n (i := 0) (n := 83) ⟨dX8_whoCan_82, rfl⟩ rfl ?_
            refine y_getR (n := 86) ⟨dX8_whoCan_83, rfl⟩ kfX8_29 l_45 rfl r_45_1 ?_
            refine y_getR (n := 89) ⟨dX8_whoCan_86, rfl⟩ kfX8_90 l_12 rfl r_12_3 ?_
            refine y_iload_n (i := 1) (n := 90) ⟨dX8_whoCan_89, rfl⟩ rfl ?_
            refine y_iaload (n := 91) ⟨dX8_whoCan_90, rfl⟩ l_16 hg1 ?_
            refine c_ax_hoursAhead (gI M 16 x1.toNatClampNeg) M (n := 94) ⟨dX8_whoCan_91, rfl⟩ klX8_93 rfl (by decide) (Nat.le_of_ble_eq_true rfl) rfl rfl ?_
            refine y_goto (t := 102) ⟨dX8_whoCan_94, rfl, rfl⟩ ?_
            exact y_wk (L2 := [some (.ref 45), some (.int x1), some (.int x2), some (.int x3), none, none]) ⟨Or.inr rfl, Or.inr rfl, Or.inr rfl, Or.inr rfl, Or.inl rfl, Or.inr rfl, trivial⟩ (w_b_sy_whoCan_4_102 x1 x2 x3 (f_ax_hoursAhead (gI M 16 x1.toNatClampNeg)) M hf hk)
        · replace hf := i_f hc hf
          refine y_goto (t := 133) ⟨dX8_whoCan_74, rfl, rfl⟩ ?_
          refine y_iinc (i := 3) (n := 136) (b := (x3 + 1)) (L2 := [some (.ref 45), some (.int x1), some (.int x2), some (.int (x3 + 1)), some (.int ((gI M 15 x1.toNatClampNeg) - (gI M 9 x3.toNatClampNeg))), none]) ⟨dX8_whoCan_133, rfl⟩ rfl (by rw [ki_1]) (by decide) rfl rfl ?_
          refine y_goto (t := 4) ⟨dX8_whoCan_136, rfl, rfl⟩ ?_
          cases hf
          exact y_wk (L2 := [some (.ref 45), some (.int x1), some (.int x2), some (.int (x3 + 1)), none, none]) ⟨Or.inr rfl, Or.inr rfl, Or.inr rfl, Or.inr rfl, Or.inl rfl, Or.inr rfl, trivial⟩ hk
theorem wl_sy_whoCan_4 (x1 : Int32) (x2 : Int32) (x3 : Int32) (M : dM) {Q : mz_P} {x : Int32} (hf : l_sy_whoCan_4 x1 x2 x3 M = some x) (hk : K_sy_whoCan_4 Q x1 M (.inr x)) : mW mX8_whoCan 2 Q 4 [some (.ref 45), some (.int x1), some (.int x2), some (.int x3), none, none] [] M :=
  lpc_wp (σ := (Int32 × Int32)) (ξ := Int32) (s := (x2, x3)) (Wh := fun s => mW mX8_whoCan 2 Q 4 [some (.ref 45), some (.int x1), some (.int s.1), some (.int s.2), none, none] [] M) (K := K_sy_whoCan_4 Q x1 M) (fun _ h => h) (fun s o hb hk => w_b_sy_whoCan_4_4 x1 s.1 s.2 M hb hk) hf hk
theorem ok_sy_whoCan (a1 : Int32) (M : dM) {o : Int32} (hf : f_sy_whoCan a1 M = some o) : mO mX8_whoCan 2 [.ref 45, .int a1] M (some (.int o)) M := by
  refine y_ok (by decide +kernel) (Nat.le_of_ble_eq_true rfl) (L0 := [some (.ref 45), some (.int a1), none, none, none, none]) rfl ?_
  have hk := mR_mQ (some (.int o)) M
  generalize mQ _ _ = Q at hk ⊢
  unfold f_sy_whoCan at hf
  refine y_iconst (n := 1) (v := 0) ⟨dX8_whoCan_0, rfl⟩ ki_0 ?_
  refine y_istore_n (i := 2) (n := 2) (L2 := [some (.ref 45), some (.int a1), some (.int 0), none, none, none]) ⟨dX8_whoCan_1, rfl⟩ (by decide) rfl rfl ?_
  refine y_iconst (n := 3) (v := 0) ⟨dX8_whoCan_2, rfl⟩ ki_0 ?_
  refine y_istore_n (i := 3) (n := 4) (L2 := [some (.ref 45), some (.int a1), some (.int 0), some (.int 0), none, none]) ⟨dX8_whoCan_3, rfl⟩ (by decide) rfl rfl ?_
  obtain ⟨r6, hl5, hf⟩ := b_s hf
  cases hf
  exact y_wk (L2 := [some (.ref 45), some (.int a1), some (.int 0), some (.int 0), none, none]) ⟨Or.inr rfl, Or.inr rfl, Or.inr rfl, Or.inr rfl, Or.inr rfl, Or.inr rfl, trivial⟩ (wl_sy_whoCan_4 a1 0 0 M hl5 hk)
theorem c_sy_whoCan (a1 : Int32) (M : dM) {o : Int32} {y : mz_M} {d : Nat} {Q : mz_P} {pc n i : Nat} {L : List (Option Value)} {st : List Value} (h : mz_d y.2.1 pc n 3 (.invokevirtual i)) (hl : mz_ml y.1.cls i yX8_whoCan) (hf : f_sy_whoCan a1 M = some o) (hd : 2 + 1 ≤ d) (hsm : (st.map (fun v => v.category)).sum ≤ 8) (hLr : mz_rL 133 L = true) (hSr : mz_rS 133 st = true) (kk : mW y d Q n L (.int o :: st) M) : mW y d Q pc L (.int a1 :: .ref 45 :: st) M :=
  y_callV kmX8_whoCan kvX8_whoCan l_45 (by decide +kernel) (by decide +kernel) h hl (ok_sy_whoCan a1 M hf) (vs := [.int a1]) rfl rfl hd hsm hLr hSr kk
def K_sy_whoWasSeen_4 (Q : mz_P) (x1 : Int32) (M : dM) : ((Int32 × Int32) ⊕ Int32) → Prop
  | .inl s => mW mX8_whoWasSeen 1 Q 4 [some (.ref 45), some (.int x1), some (.int s.1), some (.int s.2), none] [] M
  | .inr r => mR Q (some (.int r)) M
noncomputable def b_sy_whoWasSeen_4_4 (x1 : Int32) (x2 : Int32) (x3 : Int32) (M : dM) : Option ((Int32 × Int32) ⊕ Int32) :=
  if (gI M 12 11) ≤ x3 then
    some (.inr x2)
  else
    gd (vp_in x1 40) <|
    gd (vp_in x3 20) <|
    if (gI M 21 x3.toNatClampNeg) = (gI M 13 x1.toNatClampNeg) then
      if ((gI M 15 x1.toNatClampNeg) - (gI M 22 x3.toNatClampNeg)) < 0 then
        some (.inl (x2, (x3 + 1)))
      else
        if (gI M 27 6) < ((gI M 15 x1.toNatClampNeg) - (gI M 22 x3.toNatClampNeg)) then
          some (.inl (x2, (x3 + 1)))
        else
          some (.inl ((x2 ||| ((1 : Int32) <<< ((gI M 20 x3.toNatClampNeg) &&& 31))), (x3 + 1)))
    else
      some (.inl (x2, (x3 + 1)))
noncomputable def l_sy_whoWasSeen_4 (x1 : Int32) (x2 : Int32) (x3 : Int32) (M : dM) : Option Int32 := lpc (fun s => b_sy_whoWasSeen_4_4 x1 s.1 s.2 M) (x2, x3)
noncomputable def f_sy_whoWasSeen (a1 : Int32) (M : dM) : Option Int32 :=
  (l_sy_whoWasSeen_4 a1 0 0 M).bind fun r5 => some r5
theorem w_b_sy_whoWasSeen_4_4 (x1 : Int32) (x2 : Int32) (x3 : Int32)  (M : dM) {Q : mz_P} {o : ((Int32 × Int32) ⊕ Int32)} (hf : b_sy_whoWasSeen_4_4 x1 x2 x3 M = some o) (hk : K_sy_whoWasSeen_4 Q x1 M o) : mW mX8_whoWasSeen 1 Q 4 [some (.ref 45), some (.int x1), some (.int x2), some (.int x3), none] [] M := by
  unfold b_sy_whoWasSeen_4_4 at hf
  refine y_iload_n (i := 3) (n := 5) ⟨dX8_whoWasSeen_4, rfl⟩ rfl ?_
  refine y_aload_n (i := 0) (n := 6) ⟨dX8_whoWasSeen_5, rfl⟩ rfl ?_
  refine y_getR (n := 9) ⟨dX8_whoWasSeen_6, rfl⟩ kfX8_29 l_45 rfl r_45_1 ?_
  refine y_getI (n := 12) ⟨dX8_whoWasSeen_9, rfl⟩ kfX8_102 l_12 rfl ?_
  refine y_icmp_ge (t := 94) (n := 15) ⟨dX8_whoWasSeen_12, rfl, rfl⟩ (fun (hc : (gI M 12 11) ≤ x3) => ?_) (fun (hc : ¬ ((gI M 12 11) ≤ x3)) => ?_)
  · replace hf := i_t hc hf
    refine y_iload_n (i := 2) (n := 95) ⟨dX8_whoWasSeen_94, rfl⟩ rfl ?_
    cases hf
    exact y_ireturn (n := 96) ⟨dX8_whoWasSeen_95, rfl⟩ rfl rfl hk
  · replace hf := i_f hc hf
    refine y_aload_n (i := 0) (n := 16) ⟨dX8_whoWasSeen_15, rfl⟩ rfl ?_
    refine y_getR (n := 19) ⟨dX8_whoWasSeen_16, rfl⟩ kfX8_29 l_45 rfl r_45_1 ?_
    refine y_getR (n := 22) ⟨dX8_whoWasSeen_19, rfl⟩ kfX8_77 l_12 rfl r_12_2 ?_
    refine y_iload_n (i := 1) (n := 23) ⟨dX8_whoWasSeen_22, rfl⟩ rfl ?_
    obtain ⟨hg1, hf⟩ := g_s hf
    refine y_iaload (n := 24) ⟨dX8_whoWasSeen_23, rfl⟩ l_15 hg1 ?_
    refine y_aload_n (i := 0) (n := 25) ⟨dX8_whoWasSeen_24, rfl⟩ rfl ?_
    refine y_getR (n := 28) ⟨dX8_whoWasSeen_25, rfl⟩ kfX8_29 l_45 rfl r_45_1 ?_
    refine y_getR (n := 31) ⟨dX8_whoWasSeen_28, rfl⟩ kfX8_105 l_12 rfl r_12_10 ?_
    refine y_iload_n (i := 3) (n := 32) ⟨dX8_whoWasSeen_31, rfl⟩ rfl ?_
    obtain ⟨hg2, hf⟩ := g_s hf
    refine y_iaload (n := 33) ⟨dX8_whoWasSeen_32, rfl⟩ l_22 hg2 ?_
    refine y_isub (n := 34) ⟨dX8_whoWasSeen_33, rfl⟩ ?_
    refine y_istore (i := 4) (n := 36) (L2 := [some (.ref 45), some (.int x1), some (.int x2), some (.int x3), some (.int ((gI M 15 x1.toNatClampNeg) - (gI M 22 x3.toNatClampNeg)))]) ⟨dX8_whoWasSeen_34, rfl⟩ (by decide) rfl rfl ?_
    refine y_aload_n (i := 0) (n := 37) ⟨dX8_whoWasSeen_36, rfl⟩ rfl ?_
    refine y_getR (n := 40) ⟨dX8_whoWasSeen_37, rfl⟩ kfX8_29 l_45 rfl r_45_1 ?_
    refine y_getR (n := 43) ⟨dX8_whoWasSeen_40, rfl⟩ kfX8_108 l_12 rfl r_12_9 ?_
    refine y_iload_n (i := 3) (n := 44) ⟨dX8_whoWasSeen_43, rfl⟩ rfl ?_
    refine y_iaload (n := 45) ⟨dX8_whoWasSeen_44, rfl⟩ l_21 hg2 ?_
    refine y_aload_n (i := 0) (n := 46) ⟨dX8_whoWasSeen_45, rfl⟩ rfl ?_
    refine y_getR (n := 49) ⟨dX8_whoWasSeen_46, rfl⟩ kfX8_29 l_45 rfl r_45_1 ?_
    refine y_getR (n := 52) ⟨dX8_whoWasSeen_49, rfl⟩ kfX8_84 l_12 rfl r_12_0 ?_
    refine y_iload_n (i := 1) (n := 53) ⟨dX8_whoWasSeen_52, rfl⟩ rfl ?_
    refine y_iaload (n := 54) ⟨dX8_whoWasSeen_53, rfl⟩ l_13 hg1 ?_
    refine y_icmp_ne (t := 88) (n := 57) ⟨dX8_whoWasSeen_54, rfl, rfl⟩ (fun (hc : ¬ ((gI M 21 x3.toNatClampNeg) = (gI M 13 x1.toNatClampNeg))) => ?_) (fun (hc : (gI M 21 x3.toNatClampNeg) = (gI M 13 x1.toNatClampNeg)) => ?_)
    · replace hf := i_f hc hf
      refine y_iinc (i := 3) (n := 91) (b := (x3 + 1)) (L2 := [some (.ref 45), some (.int x1), some (.int x2), some (.int (x3 + 1)), some (.int ((gI M 15 x1.toNatClampNeg) - (gI M 22 x3.toNatClampNeg)))]) ⟨dX8_whoWasSeen_88, rfl⟩ rfl (by rw [ki_1]) (by decide) rfl rfl ?_
      refine y_goto (t := 4) ⟨dX8_whoWasSeen_91, rfl, rfl⟩ ?_
      cases hf
      exact y_wk (L2 := [some (.ref 45), some (.int x1), some (.int x2), some (.int (x3 + 1)), none]) ⟨Or.inr rfl, Or.inr rfl, Or.inr rfl, Or.inr rfl, Or.inl rfl, trivial⟩ hk
    · replace hf := i_t hc hf
      refine y_iload (i := 4) (n := 59) ⟨dX8_whoWasSeen_57, rfl⟩ rfl ?_
      refine y_if_lt (t := 88) (n := 62) ⟨dX8_whoWasSeen_59, rfl, rfl⟩ (fun (hc : ((gI M 15 x1.toNatClampNeg) - (gI M 22 x3.toNatClampNeg)) < 0) => ?_) (fun (hc : ¬ (((gI M 15 x1.toNatClampNeg) - (gI M 22 x3.toNatClampNeg)) < 0)) => ?_)
      · replace hf := i_t hc hf
        refine y_iinc (i := 3) (n := 91) (b := (x3 + 1)) (L2 := [some (.ref 45), some (.int x1), some (.int x2), some (.int (x3 + 1)), some (.int ((gI M 15 x1.toNatClampNeg) - (gI M 22 x3.toNatClampNeg)))]) ⟨dX8_whoWasSeen_88, rfl⟩ rfl (by rw [ki_1]) (by decide) rfl rfl ?_
        refine y_goto (t := 4) ⟨dX8_whoWasSeen_91, rfl, rfl⟩ ?_
        cases hf
        exact y_wk (L2 := [some (.ref 45), some (.int x1), some (.int x2), some (.int (x3 + 1)), none]) ⟨Or.inr rfl, Or.inr rfl, Or.inr rfl, Or.inr rfl, Or.inl rfl, trivial⟩ hk
      · replace hf := i_f hc hf
        refine y_iload (i := 4) (n := 64) ⟨dX8_whoWasSeen_62, rfl⟩ rfl ?_
        refine y_aload_n (i := 0) (n := 65) ⟨dX8_whoWasSeen_64, rfl⟩ rfl ?_
        refine y_getR (n := 68) ⟨dX8_whoWasSeen_65, rfl⟩ kfX8_33 l_45 rfl r_45_2 ?_
        refine y_getI (n := 71) ⟨dX8_whoWasSeen_68, rfl⟩ kfX8_85 l_27 rfl ?_
        refine y_icmp_gt (t := 88) (n := 74) ⟨dX8_whoWasSeen_71, rfl, rfl⟩ (fun (hc : (gI M 27 6) < ((gI M 15 x1.toNatClampNeg) - (gI M 22 x3.toNatClampNeg))) => ?_) (fun (hc : ¬ ((gI M 27 6) < ((gI M 15 x1.toNatClampNeg) - (gI M 22 x3.toNatClampNeg)))) => ?_)
        · replace hf := i_t hc hf
          refine y_iinc (i := 3) (n := 91) (b := (x3 + 1)) (L2 := [some (.ref 45), some (.int x1), some (.int x2), some (.int (x3 + 1)), some (.int ((gI M 15 x1.toNatClampNeg) - (gI M 22 x3.toNatClampNeg)))]) ⟨dX8_whoWasSeen_88, rfl⟩ rfl (by rw [ki_1]) (by decide) rfl rfl ?_
          refine y_goto (t := 4) ⟨dX8_whoWasSeen_91, rfl, rfl⟩ ?_
          cases hf
          exact y_wk (L2 := [some (.ref 45), some (.int x1), some (.int x2), some (.int (x3 + 1)), none]) ⟨Or.inr rfl, Or.inr rfl, Or.inr rfl, Or.inr rfl, Or.inl rfl, trivial⟩ hk
        · replace hf := i_f hc hf
          refine y_iload_n (i := 2) (n := 75) ⟨dX8_whoWasSeen_74, rfl⟩ rfl ?_
          refine y_iconst (n := 76) (v := 1) ⟨dX8_whoWasSeen_75, rfl⟩ ki_1 ?_
          refine y_aload_n (i := 0) (n := 77) ⟨dX8_whoWasSeen_76, rfl⟩ rfl ?_
          refine y_getR (n := 80) ⟨dX8_whoWasSeen_77, rfl⟩ kfX8_29 l_45 rfl r_45_1 ?_
          refine y_getR (n := 83) ⟨dX8_whoWasSeen_80, rfl⟩ kfX8_111 l_12 rfl r_12_8 ?_
          refine y_iload_n (i := 3) (n := 84) ⟨dX8_whoWasSeen_83, rfl⟩ rfl ?_
          refine y_iaload (n := 85) ⟨dX8_whoWasSeen_84, rfl⟩ l_20 hg2 ?_
          refine y_ishl (n := 86) ⟨dX8_whoWasSeen_85, rfl⟩ ?_
          refine y_ior (n := 87) ⟨dX8_whoWasSeen_86, rfl⟩ ?_
          refine y_istore_n (i := 2) (n := 88) (L2 := [some (.ref 45), some (.int x1), some (.int (x2 ||| ((1 : Int32) <<< ((gI M 20 x3.toNatClampNeg) &&& 31)))), some (.int x3), some (.int ((gI M 15 x1.toNatClampNeg) - (gI M 22 x3.toNatClampNeg)))]) ⟨dX8_whoWasSeen_87, rfl⟩ (by decide) rfl rfl ?_
          refine y_iinc (i := 3) (n := 91) (b := (x3 + 1)) (L2 := [some (.ref 45), some (.int x1), some (.int (x2 ||| ((1 : Int32) <<< ((gI M 20 x3.toNatClampNeg) &&& 31)))), some (.int (x3 + 1)), some (.int ((gI M 15 x1.toNatClampNeg) - (gI M 22 x3.toNatClampNeg)))]) ⟨dX8_whoWasSeen_88, rfl⟩ rfl (by rw [ki_1]) (by decide) rfl rfl ?_
          refine y_goto (t := 4) ⟨dX8_whoWasSeen_91, rfl, rfl⟩ ?_
          cases hf
          exact y_wk (L2 := [some (.ref 45), some (.int x1), some (.int (x2 ||| ((1 : Int32) <<< ((gI M 20 x3.toNatClampNeg) &&& 31)))), some (.int (x3 + 1)), none]) ⟨Or.inr rfl, Or.inr rfl, Or.inr rfl, Or.inr rfl, Or.inl rfl, trivial⟩ hk
theorem wl_sy_whoWasSeen_4 (x1 : Int32) (x2 : Int32) (x3 : Int32) (M : dM) {Q : mz_P} {x : Int32} (hf : l_sy_whoWasSeen_4 x1 x2 x3 M = some x) (hk : K_sy_whoWasSeen_4 Q x1 M (.inr x)) : mW mX8_whoWasSeen 1 Q 4 [some (.ref 45), some (.int x1), some (.int x2), some (.int x3), none] [] M :=
  lpc_wp (σ := (Int32 × Int32)) (ξ := Int32) (s := (x2, x3)) (Wh := fun s => mW mX8_whoWasSeen 1 Q 4 [some (.ref 45), some (.int x1), some (.int s.1), some (.int s.2), none] [] M) (K := K_sy_whoWasSeen_4 Q x1 M) (fun _ h => h) (fun s o hb hk => w_b_sy_whoWasSeen_4_4 x1 s.1 s.2 M hb hk) hf hk
theorem ok_sy_whoWasSeen (a1 : Int32) (M : dM) {o : Int32} (hf : f_sy_whoWasSeen a1 M = some o) : mO mX8_whoWasSeen 1 [.ref 45, .int a1] M (some (.int o)) M := by
  refine y_ok (by decide +kernel) (Nat.le_of_ble_eq_true rfl) (L0 := [some (.ref 45), some (.int a1), none, none, none]) rfl ?_
  have hk := mR_mQ (some (.int o)) M
  generalize mQ _ _ = Q at hk ⊢
  unfold f_sy_whoWasSeen at hf
  refine y_iconst (n := 1) (v := 0) ⟨dX8_whoWasSeen_0, rfl⟩ ki_0 ?_
  refine y_istore_n (i := 2) (n := 2) (L2 := [some (.ref 45), some (.int a1), some (.int 0), none, none]) ⟨dX8_whoWasSeen_1, rfl⟩ (by decide) rfl rfl ?_
  refine y_iconst (n := 3) (v := 0) ⟨dX8_whoWasSeen_2, rfl⟩ ki_0 ?_
  refine y_istore_n (i := 3) (n := 4) (L2 := [some (.ref 45), some (.int a1), some (.int 0), some (.int 0), none]) ⟨dX8_whoWasSeen_3, rfl⟩ (by decide) rfl rfl ?_
  obtain ⟨r5, hl4, hf⟩ := b_s hf
  cases hf
  exact y_wk (L2 := [some (.ref 45), some (.int a1), some (.int 0), some (.int 0), none]) ⟨Or.inr rfl, Or.inr rfl, Or.inr rfl, Or.inr rfl, Or.inr rfl, trivial⟩ (wl_sy_whoWasSeen_4 a1 0 0 M hl4 hk)
theorem c_sy_whoWasSeen (a1 : Int32) (M : dM) {o : Int32} {y : mz_M} {d : Nat} {Q : mz_P} {pc n i : Nat} {L : List (Option Value)} {st : List Value} (h : mz_d y.2.1 pc n 3 (.invokevirtual i)) (hl : mz_ml y.1.cls i yX8_whoWasSeen) (hf : f_sy_whoWasSeen a1 M = some o) (hd : 1 + 1 ≤ d) (hsm : (st.map (fun v => v.category)).sum ≤ 8) (hLr : mz_rL 133 L = true) (hSr : mz_rS 133 st = true) (kk : mW y d Q n L (.int o :: st) M) : mW y d Q pc L (.int a1 :: .ref 45 :: st) M :=
  y_callV kmX8_whoWasSeen kvX8_whoWasSeen l_45 (by decide +kernel) (by decide +kernel) h hl (ok_sy_whoWasSeen a1 M hf) (vs := [.int a1]) rfl rfl hd hsm hLr hSr kk
noncomputable def f_sy_refuteWithout (a1 : Int32) (M : dM) : Option dM :=
  gd (vp_in (1023 &&& (a1 ^^^ (-1))) 1024) <|
  some (sI M 48 (1023 &&& (a1 ^^^ (-1))).toNatClampNeg 1)
theorem ok_sy_refuteWithout (a1 : Int32) (M : dM) {o : dM} (hf : f_sy_refuteWithout a1 M = some o) : mO mX8_refuteWithout 1 [.ref 45, .int a1] M none o := by
  refine y_ok (by decide +kernel) (Nat.le_of_ble_eq_true rfl) (L0 := [some (.ref 45), some (.int a1)]) rfl ?_
  have hk := mR_mQ none o
  generalize mQ _ _ = Q at hk ⊢
  unfold f_sy_refuteWithout at hf
  refine y_aload_n (i := 0) (n := 1) ⟨dX8_refuteWithout_0, rfl⟩ rfl ?_
  refine y_getR (n := 4) ⟨dX8_refuteWithout_1, rfl⟩ kfX8_18 l_45 rfl r_45_8 ?_
  refine y_sipush (n := 7) (v := 1023) ⟨dX8_refuteWithout_4, rfl⟩ ks_1023 ?_
  refine y_iload_n (i := 1) (n := 8) ⟨dX8_refuteWithout_7, rfl⟩ rfl ?_
  refine y_iconst (n := 9) (v := (-1)) ⟨dX8_refuteWithout_8, rfl⟩ ki_m1 ?_
  refine y_ixor (n := 10) ⟨dX8_refuteWithout_9, rfl⟩ ?_
  refine y_iand (n := 11) ⟨dX8_refuteWithout_10, rfl⟩ ?_
  refine y_iconst (n := 12) (v := 1) ⟨dX8_refuteWithout_11, rfl⟩ ki_1 ?_
  obtain ⟨hg1, hf⟩ := g_s hf
  refine y_bastore (x' := 1) (n := 13) ⟨dX8_refuteWithout_12, rfl⟩ l_48 hg1 rfl ?_
  cases hf
  exact y_return (n := 14) ⟨dX8_refuteWithout_13, rfl⟩ rfl hk
theorem c_sy_refuteWithout (a1 : Int32) (M : dM) {o : dM} {y : mz_M} {d : Nat} {Q : mz_P} {pc n i : Nat} {L : List (Option Value)} {st : List Value} (h : mz_d y.2.1 pc n 3 (.invokevirtual i)) (hl : mz_ml y.1.cls i yX8_refuteWithout) (hf : f_sy_refuteWithout a1 M = some o) (hd : 1 + 1 ≤ d) (hsm : (st.map (fun v => v.category)).sum ≤ 8) (hLr : mz_rL 133 L = true) (hSr : mz_rS 133 st = true) (kk : mW y d Q n L st o) : mW y d Q pc L (.int a1 :: .ref 45 :: st) M :=
  y_callV kmX8_refuteWithout kvX8_refuteWithout l_45 (by decide +kernel) (by decide +kernel) h hl (ok_sy_refuteWithout a1 M hf) (vs := [.int a1]) rfl rfl hd hsm hLr hSr kk
def K_sy_spreadToSmaller_2 (Q : mz_P)  : ((Int32 × dM) ⊕ dM) → Prop
  | .inl s => mW mX8_spreadToSmaller 1 Q 2 [some (.ref 45), some (.int s.1), none] [] s.2
  | .inr r => mR Q none r
def K_sy_spreadToSmaller_10 (Q : mz_P) (x1 : Int32) : ((Int32 × dM) ⊕ dM) → Prop
  | .inl s => mW mX8_spreadToSmaller 1 Q 10 [some (.ref 45), some (.int x1), some (.int s.1)] [] s.2
  | .inr t => mW mX8_spreadToSmaller 1 Q 43 [some (.ref 45), some (.int x1), none] [] t
noncomputable def b_sy_spreadToSmaller_10_10 (x1 : Int32) (x2 : Int32) (M : dM) : Option ((Int32 × dM) ⊕ dM) :=
  if 1024 ≤ x2 then
    some (.inr M)
  else
    gd (vp_in (x2 ||| ((1 : Int32) <<< (x1 &&& 31))) 1024) <|
    if (gI M 48 (x2 ||| ((1 : Int32) <<< (x1 &&& 31))).toNatClampNeg) = 0 then
      some (.inl ((x2 + 1), M))
    else
      gd (vp_in x2 1024) <|
      some (.inl ((x2 + 1), (sI M 48 x2.toNatClampNeg 1)))
noncomputable def l_sy_spreadToSmaller_10 (x1 : Int32) (x2 : Int32) (M : dM) : Option dM := lpc (fun s => b_sy_spreadToSmaller_10_10 x1 s.1 s.2) (x2, M)
noncomputable def b_sy_spreadToSmaller_2_2 (x1 : Int32) (M : dM) : Option ((Int32 × dM) ⊕ dM) :=
  if 10 ≤ x1 then
    some (.inr M)
  else
    (l_sy_spreadToSmaller_10 x1 0 M).bind fun t3 =>
      some (.inl ((x1 + 1), t3))
noncomputable def l_sy_spreadToSmaller_2 (x1 : Int32) (M : dM) : Option dM := lpc (fun s => b_sy_spreadToSmaller_2_2 s.1 s.2) (x1, M)
noncomputable def f_sy_spreadToSmaller (M : dM) : Option dM :=
  (l_sy_spreadToSmaller_2 0 M).bind fun r8 => some r8
theorem w_b_sy_spreadToSmaller_10_10 (x1 : Int32) (x2 : Int32)  (M : dM) {Q : mz_P} {o : ((Int32 × dM) ⊕ dM)} (hf : b_sy_spreadToSmaller_10_10 x1 x2 M = some o) (hk : K_sy_spreadToSmaller_10 Q x1 o) : mW mX8_spreadToSmaller 1 Q 10 [some (.ref 45), some (.int x1), some (.int x2)] [] M := by
  unfold b_sy_spreadToSmaller_10_10 at hf
  refine y_iload_n (i := 2) (n := 11) ⟨dX8_spreadToSmaller_10, rfl⟩ rfl ?_
  refine y_sipush (n := 14) (v := 1024) ⟨dX8_spreadToSmaller_11, rfl⟩ ks_1024 ?_
  refine y_icmp_ge (t := 43) (n := 17) ⟨dX8_spreadToSmaller_14, rfl, rfl⟩ (fun (hc : 1024 ≤ x2) => ?_) (fun (hc : ¬ (1024 ≤ x2)) => ?_)
  · replace hf := i_t hc hf
    cases hf
    exact y_wk (L2 := [some (.ref 45), some (.int x1), none]) ⟨Or.inr rfl, Or.inr rfl, Or.inl rfl, trivial⟩ hk
  · replace hf := i_f hc hf
    refine y_aload_n (i := 0) (n := 18) ⟨dX8_spreadToSmaller_17, rfl⟩ rfl ?_
    refine y_getR (n := 21) ⟨dX8_spreadToSmaller_18, rfl⟩ kfX8_18 l_45 rfl r_45_8 ?_
    refine y_iload_n (i := 2) (n := 22) ⟨dX8_spreadToSmaller_21, rfl⟩ rfl ?_
    refine y_iconst (n := 23) (v := 1) ⟨dX8_spreadToSmaller_22, rfl⟩ ki_1 ?_
    refine y_iload_n (i := 1) (n := 24) ⟨dX8_spreadToSmaller_23, rfl⟩ rfl ?_
    refine y_ishl (n := 25) ⟨dX8_spreadToSmaller_24, rfl⟩ ?_
    refine y_ior (n := 26) ⟨dX8_spreadToSmaller_25, rfl⟩ ?_
    obtain ⟨hg1, hf⟩ := g_s hf
    refine y_baload (n := 27) ⟨dX8_spreadToSmaller_26, rfl⟩ l_48 hg1 ?_
    refine y_if_eq (t := 37) (n := 30) ⟨dX8_spreadToSmaller_27, rfl, rfl⟩ (fun (hc : (gI M 48 (x2 ||| ((1 : Int32) <<< (x1 &&& 31))).toNatClampNeg) = 0) => ?_) (fun (hc : ¬ ((gI M 48 (x2 ||| ((1 : Int32) <<< (x1 &&& 31))).toNatClampNeg) = 0)) => ?_)
    · replace hf := i_t hc hf
      refine y_iinc (i := 2) (n := 40) (b := (x2 + 1)) (L2 := [some (.ref 45), some (.int x1), some (.int (x2 + 1))]) ⟨dX8_spreadToSmaller_37, rfl⟩ rfl (by rw [ki_1]) (by decide) rfl rfl ?_
      refine y_goto (t := 10) ⟨dX8_spreadToSmaller_40, rfl, rfl⟩ ?_
      cases hf
      exact y_wk (L2 := [some (.ref 45), some (.int x1), some (.int (x2 + 1))]) ⟨Or.inr rfl, Or.inr rfl, Or.inr rfl, trivial⟩ hk
    · replace hf := i_f hc hf
      refine y_aload_n (i := 0) (n := 31) ⟨dX8_spreadToSmaller_30, rfl⟩ rfl ?_
      refine y_getR (n := 34) ⟨dX8_spreadToSmaller_31, rfl⟩ kfX8_18 l_45 rfl r_45_8 ?_
      refine y_iload_n (i := 2) (n := 35) ⟨dX8_spreadToSmaller_34, rfl⟩ rfl ?_
      refine y_iconst (n := 36) (v := 1) ⟨dX8_spreadToSmaller_35, rfl⟩ ki_1 ?_
      obtain ⟨hg2, hf⟩ := g_s hf
      refine y_bastore (x' := 1) (n := 37) ⟨dX8_spreadToSmaller_36, rfl⟩ l_48 hg2 rfl ?_
      refine y_iinc (i := 2) (n := 40) (b := (x2 + 1)) (L2 := [some (.ref 45), some (.int x1), some (.int (x2 + 1))]) ⟨dX8_spreadToSmaller_37, rfl⟩ rfl (by rw [ki_1]) (by decide) rfl rfl ?_
      refine y_goto (t := 10) ⟨dX8_spreadToSmaller_40, rfl, rfl⟩ ?_
      cases hf
      exact y_wk (L2 := [some (.ref 45), some (.int x1), some (.int (x2 + 1))]) ⟨Or.inr rfl, Or.inr rfl, Or.inr rfl, trivial⟩ hk
theorem wl_sy_spreadToSmaller_10 (x1 : Int32) (x2 : Int32) (M : dM) {Q : mz_P} {x : dM} (hf : l_sy_spreadToSmaller_10 x1 x2 M = some x) (hk : K_sy_spreadToSmaller_10 Q x1 (.inr x)) : mW mX8_spreadToSmaller 1 Q 10 [some (.ref 45), some (.int x1), some (.int x2)] [] M :=
  lpc_wp (σ := (Int32 × dM)) (ξ := dM) (s := (x2, M)) (Wh := fun s => mW mX8_spreadToSmaller 1 Q 10 [some (.ref 45), some (.int x1), some (.int s.1)] [] s.2) (K := K_sy_spreadToSmaller_10 Q x1) (fun _ h => h) (fun s o hb hk => w_b_sy_spreadToSmaller_10_10 x1 s.1 s.2 hb hk) hf hk
theorem w_b_sy_spreadToSmaller_2_2 (x1 : Int32)  (M : dM) {Q : mz_P} {o : ((Int32 × dM) ⊕ dM)} (hf : b_sy_spreadToSmaller_2_2 x1 M = some o) (hk : K_sy_spreadToSmaller_2 Q  o) : mW mX8_spreadToSmaller 1 Q 2 [some (.ref 45), some (.int x1), none] [] M := by
  unfold b_sy_spreadToSmaller_2_2 at hf
  refine y_iload_n (i := 1) (n := 3) ⟨dX8_spreadToSmaller_2, rfl⟩ rfl ?_
  refine y_bipush (n := 5) (v := 10) ⟨dX8_spreadToSmaller_3, rfl⟩ kb_10 ?_
  refine y_icmp_ge (t := 49) (n := 8) ⟨dX8_spreadToSmaller_5, rfl, rfl⟩ (fun (hc : 10 ≤ x1) => ?_) (fun (hc : ¬ (10 ≤ x1)) => ?_)
  · replace hf := i_t hc hf
    cases hf
    exact y_return (n := 50) ⟨dX8_spreadToSmaller_49, rfl⟩ rfl hk
  · replace hf := i_f hc hf
    refine y_iconst (n := 9) (v := 0) ⟨dX8_spreadToSmaller_8, rfl⟩ ki_0 ?_
    refine y_istore_n (i := 2) (n := 10) (L2 := [some (.ref 45), some (.int x1), some (.int 0)]) ⟨dX8_spreadToSmaller_9, rfl⟩ (by decide) rfl rfl ?_
    obtain ⟨t3, hl4, hf⟩ := b_s hf
    refine y_wk (L2 := [some (.ref 45), some (.int x1), some (.int 0)]) ⟨Or.inr rfl, Or.inr rfl, Or.inr rfl, trivial⟩ (wl_sy_spreadToSmaller_10 x1 0 M hl4 ?_)
    show mW mX8_spreadToSmaller 1 Q 43 [some (.ref 45), some (.int x1), none] [] t3
    refine y_iinc (i := 1) (n := 46) (b := (x1 + 1)) (L2 := [some (.ref 45), some (.int (x1 + 1)), none]) ⟨dX8_spreadToSmaller_43, rfl⟩ rfl (by rw [ki_1]) (by decide) rfl rfl ?_
    refine y_goto (t := 2) ⟨dX8_spreadToSmaller_46, rfl, rfl⟩ ?_
    cases hf
    exact y_wk (L2 := [some (.ref 45), some (.int (x1 + 1)), none]) ⟨Or.inr rfl, Or.inr rfl, Or.inr rfl, trivial⟩ hk
theorem wl_sy_spreadToSmaller_2 (x1 : Int32) (M : dM) {Q : mz_P} {x : dM} (hf : l_sy_spreadToSmaller_2 x1 M = some x) (hk : K_sy_spreadToSmaller_2 Q  (.inr x)) : mW mX8_spreadToSmaller 1 Q 2 [some (.ref 45), some (.int x1), none] [] M :=
  lpc_wp (σ := (Int32 × dM)) (ξ := dM) (s := (x1, M)) (Wh := fun s => mW mX8_spreadToSmaller 1 Q 2 [some (.ref 45), some (.int s.1), none] [] s.2) (K := K_sy_spreadToSmaller_2 Q ) (fun _ h => h) (fun s o hb hk => w_b_sy_spreadToSmaller_2_2 s.1 s.2 hb hk) hf hk
theorem ok_sy_spreadToSmaller  (M : dM) {o : dM} (hf : f_sy_spreadToSmaller M = some o) : mO mX8_spreadToSmaller 1 [.ref 45] M none o := by
  refine y_ok (by decide +kernel) (Nat.le_of_ble_eq_true rfl) (L0 := [some (.ref 45), none, none]) rfl ?_
  have hk := mR_mQ none o
  generalize mQ _ _ = Q at hk ⊢
  unfold f_sy_spreadToSmaller at hf
  refine y_iconst (n := 1) (v := 0) ⟨dX8_spreadToSmaller_0, rfl⟩ ki_0 ?_
  refine y_istore_n (i := 1) (n := 2) (L2 := [some (.ref 45), some (.int 0), none]) ⟨dX8_spreadToSmaller_1, rfl⟩ (by decide) rfl rfl ?_
  obtain ⟨r8, hl7, hf⟩ := b_s hf
  cases hf
  exact y_wk (L2 := [some (.ref 45), some (.int 0), none]) ⟨Or.inr rfl, Or.inr rfl, Or.inr rfl, trivial⟩ (wl_sy_spreadToSmaller_2 0 M hl7 hk)
theorem c_sy_spreadToSmaller  (M : dM) {o : dM} {y : mz_M} {d : Nat} {Q : mz_P} {pc n i : Nat} {L : List (Option Value)} {st : List Value} (h : mz_d y.2.1 pc n 3 (.invokevirtual i)) (hl : mz_ml y.1.cls i yX8_spreadToSmaller) (hf : f_sy_spreadToSmaller M = some o) (hd : 1 + 1 ≤ d) (hsm : (st.map (fun v => v.category)).sum ≤ 8) (hLr : mz_rL 133 L = true) (hSr : mz_rS 133 st = true) (kk : mW y d Q n L st o) : mW y d Q pc L (.ref 45 :: st) M :=
  y_callV kmX8_spreadToSmaller kvX8_spreadToSmaller l_45 (by decide +kernel) (by decide +kernel) h hl (ok_sy_spreadToSmaller  M hf) (vs := []) rfl rfl hd hsm hLr hSr kk
def K_sy_refuteAll_2 (Q : mz_P)  : ((Int32 × dM) ⊕ dM) → Prop
  | .inl s => mW mX8_refuteAll 2 Q 2 [some (.ref 45), some (.int s.1), none] [] s.2
  | .inr t => mW mX8_refuteAll 2 Q 22 [some (.ref 45), none, none] [] t
noncomputable def b_sy_refuteAll_2_2 (x1 : Int32) (M : dM) : Option ((Int32 × dM) ⊕ dM) :=
  if 1024 ≤ x1 then
    some (.inr M)
  else
    gd (vp_in x1 1024) <|
    some (.inl ((x1 + 1), (sI M 48 x1.toNatClampNeg 0)))
noncomputable def l_sy_refuteAll_2 (x1 : Int32) (M : dM) : Option dM := lpc (fun s => b_sy_refuteAll_2_2 s.1 s.2) (x1, M)
def K_sy_refuteAll_24 (Q : mz_P)  : ((Int32 × dM) ⊕ dM) → Prop
  | .inl s => mW mX8_refuteAll 2 Q 24 [some (.ref 45), some (.int s.1), none] [] s.2
  | .inr r => mR Q none r
def K_sy_refuteAll_58 (Q : mz_P) (x1 : Int32) : ((Int32 × dM) ⊕ dM) → Prop
  | .inl s => mW mX8_refuteAll 2 Q 58 [some (.ref 45), some (.int x1), some (.int s.1)] [] s.2
  | .inr t => mW mX8_refuteAll 2 Q 102 [some (.ref 45), some (.int x1), none] [] t
noncomputable def b_sy_refuteAll_58_58 (x1 : Int32) (x2 : Int32) (M : dM) : Option ((Int32 × dM) ⊕ dM) :=
  if x1 ≤ x2 then
    some (.inr M)
  else
    gd (vp_in x1 40) <|
    if (f_ax_hasBit (gJ M 42 x1.toNatClampNeg) x2) = true then
      gd (vp_in x2 40) <|
      (f_sy_refuteWithout ((gI M 47 x1.toNatClampNeg) ||| (gI M 47 x2.toNatClampNeg)) M).bind fun q9 =>
      some (.inl ((x2 + 1), q9))
    else
      some (.inl ((x2 + 1), M))
noncomputable def l_sy_refuteAll_58 (x1 : Int32) (x2 : Int32) (M : dM) : Option dM := lpc (fun s => b_sy_refuteAll_58_58 x1 s.1 s.2) (x2, M)
noncomputable def b_sy_refuteAll_24_56 (x1 : Int32) (M : dM) : Option ((Int32 × dM) ⊕ dM) :=
  (l_sy_refuteAll_58 x1 0 M).bind fun t11 =>
    some (.inl ((x1 + 1), t11))
noncomputable def b_sy_refuteAll_24_24 (x1 : Int32) (M : dM) : Option ((Int32 × dM) ⊕ dM) :=
  if (gI M 12 7) ≤ x1 then
    (f_sy_spreadToSmaller M).bind fun q5 =>
    some (.inr q5)
  else
    if (f_ax_hasBit (gJ M 45 6) x1) = true then
      gd (vp_in x1 40) <|
      (f_sy_refuteWithout (gI M 47 x1.toNatClampNeg) M).bind fun q15 =>
      b_sy_refuteAll_24_56 x1 q15
    else
      b_sy_refuteAll_24_56 x1 M
noncomputable def l_sy_refuteAll_24 (x1 : Int32) (M : dM) : Option dM := lpc (fun s => b_sy_refuteAll_24_24 s.1 s.2) (x1, M)
noncomputable def f_sy_refuteAll (M : dM) : Option dM :=
  (l_sy_refuteAll_2 0 M).bind fun t2 =>
    (l_sy_refuteAll_24 0 t2).bind fun r19 => some r19
theorem w_b_sy_refuteAll_2_2 (x1 : Int32)  (M : dM) {Q : mz_P} {o : ((Int32 × dM) ⊕ dM)} (hf : b_sy_refuteAll_2_2 x1 M = some o) (hk : K_sy_refuteAll_2 Q  o) : mW mX8_refuteAll 2 Q 2 [some (.ref 45), some (.int x1), none] [] M := by
  unfold b_sy_refuteAll_2_2 at hf
  refine y_iload_n (i := 1) (n := 3) ⟨dX8_refuteAll_2, rfl⟩ rfl ?_
  refine y_sipush (n := 6) (v := 1024) ⟨dX8_refuteAll_3, rfl⟩ ks_1024 ?_
  refine y_icmp_ge (t := 22) (n := 9) ⟨dX8_refuteAll_6, rfl, rfl⟩ (fun (hc : 1024 ≤ x1) => ?_) (fun (hc : ¬ (1024 ≤ x1)) => ?_)
  · replace hf := i_t hc hf
    cases hf
    exact y_wk (L2 := [some (.ref 45), none, none]) ⟨Or.inr rfl, Or.inl rfl, Or.inr rfl, trivial⟩ hk
  · replace hf := i_f hc hf
    refine y_aload_n (i := 0) (n := 10) ⟨dX8_refuteAll_9, rfl⟩ rfl ?_
    refine y_getR (n := 13) ⟨dX8_refuteAll_10, rfl⟩ kfX8_18 l_45 rfl r_45_8 ?_
    refine y_iload_n (i := 1) (n := 14) ⟨dX8_refuteAll_13, rfl⟩ rfl ?_
    refine y_iconst (n := 15) (v := 0) ⟨dX8_refuteAll_14, rfl⟩ ki_0 ?_
    obtain ⟨hg1, hf⟩ := g_s hf
    refine y_bastore (x' := 0) (n := 16) ⟨dX8_refuteAll_15, rfl⟩ l_48 hg1 rfl ?_
    refine y_iinc (i := 1) (n := 19) (b := (x1 + 1)) (L2 := [some (.ref 45), some (.int (x1 + 1)), none]) ⟨dX8_refuteAll_16, rfl⟩ rfl (by rw [ki_1]) (by decide) rfl rfl ?_
    refine y_goto (t := 2) ⟨dX8_refuteAll_19, rfl, rfl⟩ ?_
    cases hf
    exact y_wk (L2 := [some (.ref 45), some (.int (x1 + 1)), none]) ⟨Or.inr rfl, Or.inr rfl, Or.inr rfl, trivial⟩ hk
theorem wl_sy_refuteAll_2 (x1 : Int32) (M : dM) {Q : mz_P} {x : dM} (hf : l_sy_refuteAll_2 x1 M = some x) (hk : K_sy_refuteAll_2 Q  (.inr x)) : mW mX8_refuteAll 2 Q 2 [some (.ref 45), some (.int x1), none] [] M :=
  lpc_wp (σ := (Int32 × dM)) (ξ := dM) (s := (x1, M)) (Wh := fun s => mW mX8_refuteAll 2 Q 2 [some (.ref 45), some (.int s.1), none] [] s.2) (K := K_sy_refuteAll_2 Q ) (fun _ h => h) (fun s o hb hk => w_b_sy_refuteAll_2_2 s.1 s.2 hb hk) hf hk
theorem w_b_sy_refuteAll_58_58 (x1 : Int32) (x2 : Int32)  (M : dM) {Q : mz_P} {o : ((Int32 × dM) ⊕ dM)} (hf : b_sy_refuteAll_58_58 x1 x2 M = some o) (hk : K_sy_refuteAll_58 Q x1 o) : mW mX8_refuteAll 2 Q 58 [some (.ref 45), some (.int x1), some (.int x2)] [] M := by
  unfold b_sy_refuteAll_58_58 at hf
  refine y_iload_n (i := 2) (n := 59) ⟨dX8_refuteAll_58, rfl⟩ rfl ?_
  refine y_iload_n (i := 1) (n := 60) ⟨dX8_refuteAll_59, rfl⟩ rfl ?_
  refine y_icmp_ge (t := 102) (n := 63) ⟨dX8_refuteAll_60, rfl, rfl⟩ (fun (hc : x1 ≤ x2) => ?_) (fun (hc : ¬ (x1 ≤ x2)) => ?_)
  · replace hf := i_t hc hf
    cases hf
    exact y_wk (L2 := [some (.ref 45), some (.int x1), none]) ⟨Or.inr rfl, Or.inr rfl, Or.inl rfl, trivial⟩ hk
  · replace hf := i_f hc hf
    refine y_aload_n (i := 0) (n := 64) ⟨dX8_refuteAll_63, rfl⟩ rfl ?_
    refine y_getR (n := 67) ⟨dX8_refuteAll_64, rfl⟩ kfX8_37 l_45 rfl r_45_3 ?_
    refine y_getR (n := 70) ⟨dX8_refuteAll_67, rfl⟩ kfX8_122 l_39 rfl r_39_6 ?_
    refine y_iload_n (i := 1) (n := 71) ⟨dX8_refuteAll_70, rfl⟩ rfl ?_
    obtain ⟨hg7, hf⟩ := g_s hf
    refine y_laload (n := 72) ⟨dX8_refuteAll_71, rfl⟩ l_42 hg7 ?_
    refine y_iload_n (i := 2) (n := 73) ⟨dX8_refuteAll_72, rfl⟩ rfl ?_
    refine c_ax_hasBit (gJ M 42 x1.toNatClampNeg) x2 M (n := 76) ⟨dX8_refuteAll_73, rfl⟩ klX8_114 rfl (by decide) (Nat.le_of_ble_eq_true rfl) rfl rfl ?_
    refine y_if_eq (t := 96) (n := 79) ⟨dX8_refuteAll_76, rfl, rfl⟩ (fun h0 => ?_) (fun h0 => ?_)
    · have hc := bI_0 h0
      replace hf := i_f hc hf
      refine y_iinc (i := 2) (n := 99) (b := (x2 + 1)) (L2 := [some (.ref 45), some (.int x1), some (.int (x2 + 1))]) ⟨dX8_refuteAll_96, rfl⟩ rfl (by rw [ki_1]) (by decide) rfl rfl ?_
      refine y_goto (t := 58) ⟨dX8_refuteAll_99, rfl, rfl⟩ ?_
      cases hf
      exact y_wk (L2 := [some (.ref 45), some (.int x1), some (.int (x2 + 1))]) ⟨Or.inr rfl, Or.inr rfl, Or.inr rfl, trivial⟩ hk
    · have hc := bI_1 h0
      replace hf := i_t hc hf
      refine y_aload_n (i := 0) (n := 80) ⟨dX8_refuteAll_79, rfl⟩ rfl ?_
      refine y_aload_n (i := 0) (n := 81) ⟨dX8_refuteAll_80, rfl⟩ rfl ?_
      refine y_getR (n := 84) ⟨dX8_refuteAll_81, rfl⟩ kfX8_15 l_45 rfl r_45_5 ?_
      refine y_iload_n (i := 1) (n := 85) ⟨dX8_refuteAll_84, rfl⟩ rfl ?_
      refine y_iaload (n := 86) ⟨dX8_refuteAll_85, rfl⟩ l_47 hg7 ?_
      refine y_aload_n (i := 0) (n := 87) ⟨dX8_refuteAll_86, rfl⟩ rfl ?_
      refine y_getR (n := 90) ⟨dX8_refuteAll_87, rfl⟩ kfX8_15 l_45 rfl r_45_5 ?_
      refine y_iload_n (i := 2) (n := 91) ⟨dX8_refuteAll_90, rfl⟩ rfl ?_
      obtain ⟨hg8, hf⟩ := g_s hf
      refine y_iaload (n := 92) ⟨dX8_refuteAll_91, rfl⟩ l_47 hg8 ?_
      refine y_ior (n := 93) ⟨dX8_refuteAll_92, rfl⟩ ?_
      obtain ⟨q9, hv10, hf⟩ := b_s hf
      refine c_sy_refuteWithout ((gI M 47 x1.toNatClampNeg) ||| (gI M 47 x2.toNatClampNeg)) M (n := 96) ⟨dX8_refuteAll_93, rfl⟩ klX8_118 hv10 (by decide) (Nat.le_of_ble_eq_true rfl) rfl rfl ?_
      refine y_iinc (i := 2) (n := 99) (b := (x2 + 1)) (L2 := [some (.ref 45), some (.int x1), some (.int (x2 + 1))]) ⟨dX8_refuteAll_96, rfl⟩ rfl (by rw [ki_1]) (by decide) rfl rfl ?_
      refine y_goto (t := 58) ⟨dX8_refuteAll_99, rfl, rfl⟩ ?_
      cases hf
      exact y_wk (L2 := [some (.ref 45), some (.int x1), some (.int (x2 + 1))]) ⟨Or.inr rfl, Or.inr rfl, Or.inr rfl, trivial⟩ hk
theorem wl_sy_refuteAll_58 (x1 : Int32) (x2 : Int32) (M : dM) {Q : mz_P} {x : dM} (hf : l_sy_refuteAll_58 x1 x2 M = some x) (hk : K_sy_refuteAll_58 Q x1 (.inr x)) : mW mX8_refuteAll 2 Q 58 [some (.ref 45), some (.int x1), some (.int x2)] [] M :=
  lpc_wp (σ := (Int32 × dM)) (ξ := dM) (s := (x2, M)) (Wh := fun s => mW mX8_refuteAll 2 Q 58 [some (.ref 45), some (.int x1), some (.int s.1)] [] s.2) (K := K_sy_refuteAll_58 Q x1) (fun _ h => h) (fun s o hb hk => w_b_sy_refuteAll_58_58 x1 s.1 s.2 hb hk) hf hk
theorem w_b_sy_refuteAll_24_56 (x1 : Int32)  (M : dM) {Q : mz_P} {o : ((Int32 × dM) ⊕ dM)} (hf : b_sy_refuteAll_24_56 x1 M = some o) (hk : K_sy_refuteAll_24 Q  o) : mW mX8_refuteAll 2 Q 56 [some (.ref 45), some (.int x1), none] [] M := by
  unfold b_sy_refuteAll_24_56 at hf
  refine y_iconst (n := 57) (v := 0) ⟨dX8_refuteAll_56, rfl⟩ ki_0 ?_
  refine y_istore_n (i := 2) (n := 58) (L2 := [some (.ref 45), some (.int x1), some (.int 0)]) ⟨dX8_refuteAll_57, rfl⟩ (by decide) rfl rfl ?_
  obtain ⟨t11, hl12, hf⟩ := b_s hf
  refine y_wk (L2 := [some (.ref 45), some (.int x1), some (.int 0)]) ⟨Or.inr rfl, Or.inr rfl, Or.inr rfl, trivial⟩ (wl_sy_refuteAll_58 x1 0 M hl12 ?_)
  show mW mX8_refuteAll 2 Q 102 [some (.ref 45), some (.int x1), none] [] t11
  refine y_iinc (i := 1) (n := 105) (b := (x1 + 1)) (L2 := [some (.ref 45), some (.int (x1 + 1)), none]) ⟨dX8_refuteAll_102, rfl⟩ rfl (by rw [ki_1]) (by decide) rfl rfl ?_
  refine y_goto (t := 24) ⟨dX8_refuteAll_105, rfl, rfl⟩ ?_
  cases hf
  exact y_wk (L2 := [some (.ref 45), some (.int (x1 + 1)), none]) ⟨Or.inr rfl, Or.inr rfl, Or.inr rfl, trivial⟩ hk
theorem w_b_sy_refuteAll_24_24 (x1 : Int32)  (M : dM) {Q : mz_P} {o : ((Int32 × dM) ⊕ dM)} (hf : b_sy_refuteAll_24_24 x1 M = some o) (hk : K_sy_refuteAll_24 Q  o) : mW mX8_refuteAll 2 Q 24 [some (.ref 45), some (.int x1), none] [] M := by
  unfold b_sy_refuteAll_24_24 at hf
  refine y_iload_n (i := 1) (n := 25) ⟨dX8_refuteAll_24, rfl⟩ rfl ?_
  refine y_aload_n (i := 0) (n := 26) ⟨dX8_refuteAll_25, rfl⟩ rfl ?_
  refine y_getR (n := 29) ⟨dX8_refuteAll_26, rfl⟩ kfX8_29 l_45 rfl r_45_1 ?_
  refine y_getI (n := 32) ⟨dX8_refuteAll_29, rfl⟩ kfX8_45 l_12 rfl ?_
  refine y_icmp_ge (t := 108) (n := 35) ⟨dX8_refuteAll_32, rfl, rfl⟩ (fun (hc : (gI M 12 7) ≤ x1) => ?_) (fun (hc : ¬ ((gI M 12 7) ≤ x1)) => ?_)
  · replace hf := i_t hc hf
    refine y_aload_n (i := 0) (n := 109) ⟨dX8_refuteAll_108, rfl⟩ rfl ?_
    obtain ⟨q5, hv6, hf⟩ := b_s hf
    refine c_sy_spreadToSmaller M (n := 112) ⟨dX8_refuteAll_109, rfl⟩ klX8_126 hv6 (by decide) (Nat.le_of_ble_eq_true rfl) rfl rfl ?_
    cases hf
    exact y_return (n := 113) ⟨dX8_refuteAll_112, rfl⟩ rfl hk
  · replace hf := i_f hc hf
    refine y_aload_n (i := 0) (n := 36) ⟨dX8_refuteAll_35, rfl⟩ rfl ?_
    refine y_getJ (n := 39) ⟨dX8_refuteAll_36, rfl⟩ kfX8_41 l_45 rfl ?_
    refine y_iload_n (i := 1) (n := 40) ⟨dX8_refuteAll_39, rfl⟩ rfl ?_
    refine c_ax_hasBit (gJ M 45 6) x1 M (n := 43) ⟨dX8_refuteAll_40, rfl⟩ klX8_114 rfl (by decide) (Nat.le_of_ble_eq_true rfl) rfl rfl ?_
    refine y_if_eq (t := 56) (n := 46) ⟨dX8_refuteAll_43, rfl, rfl⟩ (fun h0 => ?_) (fun h0 => ?_)
    · have hc := bI_0 h0
      replace hf := i_f hc hf
      exact y_wk (L2 := [some (.ref 45), some (.int x1), none]) ⟨Or.inr rfl, Or.inr rfl, Or.inr rfl, trivial⟩ (w_b_sy_refuteAll_24_56 x1 M hf hk)
    · have hc := bI_1 h0
      replace hf := i_t hc hf
      refine y_aload_n (i := 0) (n := 47) ⟨dX8_refuteAll_46, rfl⟩ rfl ?_
      refine y_aload_n (i := 0) (n := 48) ⟨dX8_refuteAll_47, rfl⟩ rfl ?_
      refine y_getR (n := 51) ⟨dX8_refuteAll_48, rfl⟩ kfX8_15 l_45 rfl r_45_5 ?_
      refine y_iload_n (i := 1) (n := 52) ⟨dX8_refuteAll_51, rfl⟩ rfl ?_
      obtain ⟨hg14, hf⟩ := g_s hf
      refine y_iaload (n := 53) ⟨dX8_refuteAll_52, rfl⟩ l_47 hg14 ?_
      obtain ⟨q15, hv16, hf⟩ := b_s hf
      refine c_sy_refuteWithout (gI M 47 x1.toNatClampNeg) M (n := 56) ⟨dX8_refuteAll_53, rfl⟩ klX8_118 hv16 (by decide) (Nat.le_of_ble_eq_true rfl) rfl rfl ?_
      exact y_wk (L2 := [some (.ref 45), some (.int x1), none]) ⟨Or.inr rfl, Or.inr rfl, Or.inr rfl, trivial⟩ (w_b_sy_refuteAll_24_56 x1 q15 hf hk)
theorem wl_sy_refuteAll_24 (x1 : Int32) (M : dM) {Q : mz_P} {x : dM} (hf : l_sy_refuteAll_24 x1 M = some x) (hk : K_sy_refuteAll_24 Q  (.inr x)) : mW mX8_refuteAll 2 Q 24 [some (.ref 45), some (.int x1), none] [] M :=
  lpc_wp (σ := (Int32 × dM)) (ξ := dM) (s := (x1, M)) (Wh := fun s => mW mX8_refuteAll 2 Q 24 [some (.ref 45), some (.int s.1), none] [] s.2) (K := K_sy_refuteAll_24 Q ) (fun _ h => h) (fun s o hb hk => w_b_sy_refuteAll_24_24 s.1 s.2 hb hk) hf hk
theorem ok_sy_refuteAll  (M : dM) {o : dM} (hf : f_sy_refuteAll M = some o) : mO mX8_refuteAll 2 [.ref 45] M none o := by
  refine y_ok (by decide +kernel) (Nat.le_of_ble_eq_true rfl) (L0 := [some (.ref 45), none, none]) rfl ?_
  have hk := mR_mQ none o
  generalize mQ _ _ = Q at hk ⊢
  unfold f_sy_refuteAll at hf
  refine y_iconst (n := 1) (v := 0) ⟨dX8_refuteAll_0, rfl⟩ ki_0 ?_
  refine y_istore_n (i := 1) (n := 2) (L2 := [some (.ref 45), some (.int 0), none]) ⟨dX8_refuteAll_1, rfl⟩ (by decide) rfl rfl ?_
  obtain ⟨t2, hl3, hf⟩ := b_s hf
  refine y_wk (L2 := [some (.ref 45), some (.int 0), none]) ⟨Or.inr rfl, Or.inr rfl, Or.inr rfl, trivial⟩ (wl_sy_refuteAll_2 0 M hl3 ?_)
  show mW mX8_refuteAll 2 Q 22 [some (.ref 45), none, none] [] t2
  refine y_iconst (n := 23) (v := 0) ⟨dX8_refuteAll_22, rfl⟩ ki_0 ?_
  refine y_istore_n (i := 1) (n := 24) (L2 := [some (.ref 45), some (.int 0), none]) ⟨dX8_refuteAll_23, rfl⟩ (by decide) rfl rfl ?_
  obtain ⟨r19, hl18, hf⟩ := b_s hf
  cases hf
  exact y_wk (L2 := [some (.ref 45), some (.int 0), none]) ⟨Or.inr rfl, Or.inr rfl, Or.inr rfl, trivial⟩ (wl_sy_refuteAll_24 0 t2 hl18 hk)
theorem c_sy_refuteAll  (M : dM) {o : dM} {y : mz_M} {d : Nat} {Q : mz_P} {pc n i : Nat} {L : List (Option Value)} {st : List Value} (h : mz_d y.2.1 pc n 3 (.invokevirtual i)) (hl : mz_ml y.1.cls i yX8_refuteAll) (hf : f_sy_refuteAll M = some o) (hd : 2 + 1 ≤ d) (hsm : (st.map (fun v => v.category)).sum ≤ 8) (hLr : mz_rL 133 L = true) (hSr : mz_rS 133 st = true) (kk : mW y d Q n L st o) : mW y d Q pc L (.ref 45 :: st) M :=
  y_callV kmX8_refuteAll kvX8_refuteAll l_45 (by decide +kernel) (by decide +kernel) h hl (ok_sy_refuteAll  M hf) (vs := []) rfl rfl hd hsm hLr hSr kk
def K_sy_countStories_28 (Q : mz_P)  : ((Int32 × dM) ⊕ dM) → Prop
  | .inl s => mW mX8_countStories 2 Q 28 [some (.ref 45), some (.int s.1), none] [] s.2
  | .inr r => mR Q none r
noncomputable def b_sy_countStories_28_28 (x1 : Int32) (M : dM) : Option ((Int32 × dM) ⊕ dM) :=
  if 1024 ≤ x1 then
    some (.inr M)
  else
    gd (vp_in x1 1024) <|
    if (gI M 48 x1.toNatClampNeg) = 0 then
      if (gI (sI M 45 9 ((gI M 45 9) + 1)) 45 10) ≤ (f_jd_bitCount_0f7a4 x1) then
        if (f_jd_bitCount_0f7a4 x1) = (gI (sI M 45 9 ((gI M 45 9) + 1)) 45 10) then
          some (.inl ((x1 + 1), (sI (sI (sI M 45 9 ((gI M 45 9) + 1)) 45 12 ((gI (sI M 45 9 ((gI M 45 9) + 1)) 45 12) &&& x1)) 45 13 ((gI (sI (sI M 45 9 ((gI M 45 9) + 1)) 45 12 ((gI (sI M 45 9 ((gI M 45 9) + 1)) 45 12) &&& x1)) 45 13) ||| x1))))
        else
          some (.inl ((x1 + 1), (sI M 45 9 ((gI M 45 9) + 1))))
      else
        some (.inl ((x1 + 1), (sI (sI (sI (sI (sI M 45 9 ((gI M 45 9) + 1)) 45 10 (f_jd_bitCount_0f7a4 x1)) 45 11 x1) 45 12 x1) 45 13 x1)))
    else
      some (.inl ((x1 + 1), M))
noncomputable def l_sy_countStories_28 (x1 : Int32) (M : dM) : Option dM := lpc (fun s => b_sy_countStories_28_28 s.1 s.2) (x1, M)
noncomputable def f_sy_countStories (M : dM) : Option dM :=
  (l_sy_countStories_28 0 (sI (sI (sI (sI (sI M 45 9 0) 45 10 11) 45 11 0) 45 12 0) 45 13 0)).bind fun r4 => some r4
theorem w_b_sy_countStories_28_28 (x1 : Int32)  (M : dM) {Q : mz_P} {o : ((Int32 × dM) ⊕ dM)} (hf : b_sy_countStories_28_28 x1 M = some o) (hk : K_sy_countStories_28 Q  o) : mW mX8_countStories 2 Q 28 [some (.ref 45), some (.int x1), none] [] M := by
  unfold b_sy_countStories_28_28 at hf
  refine y_iload_n (i := 1) (n := 29) ⟨dX8_countStories_28, rfl⟩ rfl ?_
  refine y_sipush (n := 32) (v := 1024) ⟨dX8_countStories_29, rfl⟩ ks_1024 ?_
  refine y_icmp_ge (t := 127) (n := 35) ⟨dX8_countStories_32, rfl, rfl⟩ (fun (hc : 1024 ≤ x1) => ?_) (fun (hc : ¬ (1024 ≤ x1)) => ?_)
  · replace hf := i_t hc hf
    cases hf
    exact y_return (n := 128) ⟨dX8_countStories_127, rfl⟩ rfl hk
  · replace hf := i_f hc hf
    refine y_aload_n (i := 0) (n := 36) ⟨dX8_countStories_35, rfl⟩ rfl ?_
    refine y_getR (n := 39) ⟨dX8_countStories_36, rfl⟩ kfX8_18 l_45 rfl r_45_8 ?_
    refine y_iload_n (i := 1) (n := 40) ⟨dX8_countStories_39, rfl⟩ rfl ?_
    obtain ⟨hg1, hf⟩ := g_s hf
    refine y_baload (n := 41) ⟨dX8_countStories_40, rfl⟩ l_48 hg1 ?_
    refine y_if_eq (t := 47) (n := 44) ⟨dX8_countStories_41, rfl, rfl⟩ (fun (hc : (gI M 48 x1.toNatClampNeg) = 0) => ?_) (fun (hc : ¬ ((gI M 48 x1.toNatClampNeg) = 0)) => ?_)
    · replace hf := i_t hc hf
      refine y_aload_n (i := 0) (n := 48) ⟨dX8_countStories_47, rfl⟩ rfl ?_
      refine y_dup_r (n := 49) ⟨dX8_countStories_48, rfl⟩ ?_
      refine y_getI (n := 52) ⟨dX8_countStories_49, rfl⟩ kfX8_129 l_45 rfl ?_
      refine y_iconst (n := 53) (v := 1) ⟨dX8_countStories_52, rfl⟩ ki_1 ?_
      refine y_iadd (n := 54) ⟨dX8_countStories_53, rfl⟩ ?_
      refine y_putI (n := 57) ⟨dX8_countStories_54, rfl⟩ kfX8_129 l_45 (by decide +kernel) rfl ?_
      refine y_iload_n (i := 1) (n := 58) ⟨dX8_countStories_57, rfl⟩ rfl ?_
      refine c_jd_bitCount_0f7a4 x1 (sI M 45 9 ((gI M 45 9) + 1)) (n := 61) ⟨dX8_countStories_58, rfl⟩ klX8_144 rfl (by decide) (Nat.le_of_ble_eq_true rfl) rfl rfl ?_
      refine y_istore_n (i := 2) (n := 62) (L2 := [some (.ref 45), some (.int x1), some (.int (f_jd_bitCount_0f7a4 x1))]) ⟨dX8_countStories_61, rfl⟩ (by decide) rfl rfl ?_
      refine y_iload_n (i := 2) (n := 63) ⟨dX8_countStories_62, rfl⟩ rfl ?_
      refine y_aload_n (i := 0) (n := 64) ⟨dX8_countStories_63, rfl⟩ rfl ?_
      refine y_getI (n := 67) ⟨dX8_countStories_64, rfl⟩ kfX8_132 l_45 rfl ?_
      refine y_icmp_ge (t := 93) (n := 70) ⟨dX8_countStories_67, rfl, rfl⟩ (fun (hc : (gI (sI M 45 9 ((gI M 45 9) + 1)) 45 10) ≤ (f_jd_bitCount_0f7a4 x1)) => ?_) (fun (hc : ¬ ((gI (sI M 45 9 ((gI M 45 9) + 1)) 45 10) ≤ (f_jd_bitCount_0f7a4 x1))) => ?_)
      · replace hf := i_t hc hf
        refine y_iload_n (i := 2) (n := 94) ⟨dX8_countStories_93, rfl⟩ rfl ?_
        refine y_aload_n (i := 0) (n := 95) ⟨dX8_countStories_94, rfl⟩ rfl ?_
        refine y_getI (n := 98) ⟨dX8_countStories_95, rfl⟩ kfX8_132 l_45 rfl ?_
        refine y_icmp_ne (t := 121) (n := 101) ⟨dX8_countStories_98, rfl, rfl⟩ (fun (hc : ¬ ((f_jd_bitCount_0f7a4 x1) = (gI (sI M 45 9 ((gI M 45 9) + 1)) 45 10))) => ?_) (fun (hc : (f_jd_bitCount_0f7a4 x1) = (gI (sI M 45 9 ((gI M 45 9) + 1)) 45 10)) => ?_)
        · replace hf := i_f hc hf
          refine y_iinc (i := 1) (n := 124) (b := (x1 + 1)) (L2 := [some (.ref 45), some (.int (x1 + 1)), some (.int (f_jd_bitCount_0f7a4 x1))]) ⟨dX8_countStories_121, rfl⟩ rfl (by rw [ki_1]) (by decide) rfl rfl ?_
          refine y_goto (t := 28) ⟨dX8_countStories_124, rfl, rfl⟩ ?_
          cases hf
          exact y_wk (L2 := [some (.ref 45), some (.int (x1 + 1)), none]) ⟨Or.inr rfl, Or.inr rfl, Or.inl rfl, trivial⟩ hk
        · replace hf := i_t hc hf
          refine y_aload_n (i := 0) (n := 102) ⟨dX8_countStories_101, rfl⟩ rfl ?_
          refine y_dup_r (n := 103) ⟨dX8_countStories_102, rfl⟩ ?_
          refine y_getI (n := 106) ⟨dX8_countStories_103, rfl⟩ kfX8_138 l_45 rfl ?_
          refine y_iload_n (i := 1) (n := 107) ⟨dX8_countStories_106, rfl⟩ rfl ?_
          refine y_iand (n := 108) ⟨dX8_countStories_107, rfl⟩ ?_
          refine y_putI (n := 111) ⟨dX8_countStories_108, rfl⟩ kfX8_138 l_45 (by decide +kernel) rfl ?_
          refine y_aload_n (i := 0) (n := 112) ⟨dX8_countStories_111, rfl⟩ rfl ?_
          refine y_dup_r (n := 113) ⟨dX8_countStories_112, rfl⟩ ?_
          refine y_getI (n := 116) ⟨dX8_countStories_113, rfl⟩ kfX8_141 l_45 rfl ?_
          refine y_iload_n (i := 1) (n := 117) ⟨dX8_countStories_116, rfl⟩ rfl ?_
          refine y_ior (n := 118) ⟨dX8_countStories_117, rfl⟩ ?_
          refine y_putI (n := 121) ⟨dX8_countStories_118, rfl⟩ kfX8_141 l_45 (by decide +kernel) rfl ?_
          refine y_iinc (i := 1) (n := 124) (b := (x1 + 1)) (L2 := [some (.ref 45), some (.int (x1 + 1)), some (.int (f_jd_bitCount_0f7a4 x1))]) ⟨dX8_countStories_121, rfl⟩ rfl (by rw [ki_1]) (by decide) rfl rfl ?_
          refine y_goto (t := 28) ⟨dX8_countStories_124, rfl, rfl⟩ ?_
          cases hf
          exact y_wk (L2 := [some (.ref 45), some (.int (x1 + 1)), none]) ⟨Or.inr rfl, Or.inr rfl, Or.inl rfl, trivial⟩ hk
      · replace hf := i_f hc hf
        refine y_aload_n (i := 0) (n := 71) ⟨dX8_countStories_70, rfl⟩ rfl ?_
        refine y_iload_n (i := 2) (n := 72) ⟨dX8_countStories_71, rfl⟩ rfl ?_
        refine y_putI (n := 75) ⟨dX8_countStories_72, rfl⟩ kfX8_132 l_45 (by decide +kernel) rfl ?_
        refine y_aload_n (i := 0) (n := 76) ⟨dX8_countStories_75, rfl⟩ rfl ?_
        refine y_iload_n (i := 1) (n := 77) ⟨dX8_countStories_76, rfl⟩ rfl ?_
        refine y_putI (n := 80) ⟨dX8_countStories_77, rfl⟩ kfX8_135 l_45 (by decide +kernel) rfl ?_
        refine y_aload_n (i := 0) (n := 81) ⟨dX8_countStories_80, rfl⟩ rfl ?_
        refine y_iload_n (i := 1) (n := 82) ⟨dX8_countStories_81, rfl⟩ rfl ?_
        refine y_putI (n := 85) ⟨dX8_countStories_82, rfl⟩ kfX8_138 l_45 (by decide +kernel) rfl ?_
        refine y_aload_n (i := 0) (n := 86) ⟨dX8_countStories_85, rfl⟩ rfl ?_
        refine y_iload_n (i := 1) (n := 87) ⟨dX8_countStories_86, rfl⟩ rfl ?_
        refine y_putI (n := 90) ⟨dX8_countStories_87, rfl⟩ kfX8_141 l_45 (by decide +kernel) rfl ?_
        refine y_goto (t := 121) ⟨dX8_countStories_90, rfl, rfl⟩ ?_
        refine y_iinc (i := 1) (n := 124) (b := (x1 + 1)) (L2 := [some (.ref 45), some (.int (x1 + 1)), some (.int (f_jd_bitCount_0f7a4 x1))]) ⟨dX8_countStories_121, rfl⟩ rfl (by rw [ki_1]) (by decide) rfl rfl ?_
        refine y_goto (t := 28) ⟨dX8_countStories_124, rfl, rfl⟩ ?_
        cases hf
        exact y_wk (L2 := [some (.ref 45), some (.int (x1 + 1)), none]) ⟨Or.inr rfl, Or.inr rfl, Or.inl rfl, trivial⟩ hk
    · replace hf := i_f hc hf
      refine y_goto (t := 121) ⟨dX8_countStories_44, rfl, rfl⟩ ?_
      refine y_iinc (i := 1) (n := 124) (b := (x1 + 1)) (L2 := [some (.ref 45), some (.int (x1 + 1)), none]) ⟨dX8_countStories_121, rfl⟩ rfl (by rw [ki_1]) (by decide) rfl rfl ?_
      refine y_goto (t := 28) ⟨dX8_countStories_124, rfl, rfl⟩ ?_
      cases hf
      exact y_wk (L2 := [some (.ref 45), some (.int (x1 + 1)), none]) ⟨Or.inr rfl, Or.inr rfl, Or.inr rfl, trivial⟩ hk
theorem wl_sy_countStories_28 (x1 : Int32) (M : dM) {Q : mz_P} {x : dM} (hf : l_sy_countStories_28 x1 M = some x) (hk : K_sy_countStories_28 Q  (.inr x)) : mW mX8_countStories 2 Q 28 [some (.ref 45), some (.int x1), none] [] M :=
  lpc_wp (σ := (Int32 × dM)) (ξ := dM) (s := (x1, M)) (Wh := fun s => mW mX8_countStories 2 Q 28 [some (.ref 45), some (.int s.1), none] [] s.2) (K := K_sy_countStories_28 Q ) (fun _ h => h) (fun s o hb hk => w_b_sy_countStories_28_28 s.1 s.2 hb hk) hf hk
theorem ok_sy_countStories  (M : dM) {o : dM} (hf : f_sy_countStories M = some o) : mO mX8_countStories 2 [.ref 45] M none o := by
  refine y_ok (by decide +kernel) (Nat.le_of_ble_eq_true rfl) (L0 := [some (.ref 45), none, none]) rfl ?_
  have hk := mR_mQ none o
  generalize mQ _ _ = Q at hk ⊢
  unfold f_sy_countStories at hf
  refine y_aload_n (i := 0) (n := 1) ⟨dX8_countStories_0, rfl⟩ rfl ?_
  refine y_iconst (n := 2) (v := 0) ⟨dX8_countStories_1, rfl⟩ ki_0 ?_
  refine y_putI (n := 5) ⟨dX8_countStories_2, rfl⟩ kfX8_129 l_45 (by decide +kernel) rfl ?_
  refine y_aload_n (i := 0) (n := 6) ⟨dX8_countStories_5, rfl⟩ rfl ?_
  refine y_bipush (n := 8) (v := 11) ⟨dX8_countStories_6, rfl⟩ kb_11 ?_
  refine y_putI (n := 11) ⟨dX8_countStories_8, rfl⟩ kfX8_132 l_45 (by decide +kernel) rfl ?_
  refine y_aload_n (i := 0) (n := 12) ⟨dX8_countStories_11, rfl⟩ rfl ?_
  refine y_iconst (n := 13) (v := 0) ⟨dX8_countStories_12, rfl⟩ ki_0 ?_
  refine y_putI (n := 16) ⟨dX8_countStories_13, rfl⟩ kfX8_135 l_45 (by decide +kernel) rfl ?_
  refine y_aload_n (i := 0) (n := 17) ⟨dX8_countStories_16, rfl⟩ rfl ?_
  refine y_iconst (n := 18) (v := 0) ⟨dX8_countStories_17, rfl⟩ ki_0 ?_
  refine y_putI (n := 21) ⟨dX8_countStories_18, rfl⟩ kfX8_138 l_45 (by decide +kernel) rfl ?_
  refine y_aload_n (i := 0) (n := 22) ⟨dX8_countStories_21, rfl⟩ rfl ?_
  refine y_iconst (n := 23) (v := 0) ⟨dX8_countStories_22, rfl⟩ ki_0 ?_
  refine y_putI (n := 26) ⟨dX8_countStories_23, rfl⟩ kfX8_141 l_45 (by decide +kernel) rfl ?_
  refine y_iconst (n := 27) (v := 0) ⟨dX8_countStories_26, rfl⟩ ki_0 ?_
  refine y_istore_n (i := 1) (n := 28) (L2 := [some (.ref 45), some (.int 0), none]) ⟨dX8_countStories_27, rfl⟩ (by decide) rfl rfl ?_
  obtain ⟨r4, hl3, hf⟩ := b_s hf
  cases hf
  exact y_wk (L2 := [some (.ref 45), some (.int 0), none]) ⟨Or.inr rfl, Or.inr rfl, Or.inr rfl, trivial⟩ (wl_sy_countStories_28 0 (sI (sI (sI (sI (sI M 45 9 0) 45 10 11) 45 11 0) 45 12 0) 45 13 0) hl3 hk)
theorem c_sy_countStories  (M : dM) {o : dM} {y : mz_M} {d : Nat} {Q : mz_P} {pc n i : Nat} {L : List (Option Value)} {st : List Value} (h : mz_d y.2.1 pc n 3 (.invokevirtual i)) (hl : mz_ml y.1.cls i yX8_countStories) (hf : f_sy_countStories M = some o) (hd : 2 + 1 ≤ d) (hsm : (st.map (fun v => v.category)).sum ≤ 8) (hLr : mz_rL 133 L = true) (hSr : mz_rS 133 st = true) (kk : mW y d Q n L st o) : mW y d Q pc L (.ref 45 :: st) M :=
  y_callV kmX8_countStories kvX8_countStories l_45 (by decide +kernel) (by decide +kernel) h hl (ok_sy_countStories  M hf) (vs := []) rfl rfl hd hsm hLr hSr kk
def K_sy_doubt_7 (Q : mz_P)  : ((Int32 × dM) ⊕ dM) → Prop
  | .inl s => mW mX8_doubt 2 Q 7 [some (.ref 45), some (.int s.1)] [] s.2
  | .inr r => mR Q none r
noncomputable def b_sy_doubt_7_50 (x1 : Int32) (M : dM) : Option ((Int32 × dM) ⊕ dM) :=
  some (.inl ((x1 + 1), (sJ M 45 7 ((gJ M 45 7) ||| ((1 : Int64) <<< (x1.toInt64 &&& 63))))))
noncomputable def b_sy_doubt_7_7 (x1 : Int32) (M : dM) : Option ((Int32 × dM) ⊕ dM) :=
  if (gI M 12 7) ≤ x1 then
    some (.inr M)
  else
    gd (vp_in x1 40) <|
    if (gI M 41 x1.toNatClampNeg) = 0 then
      if (f_ax_hasBit ((gI M 45 13).toInt64) (gI M 17 x1.toNatClampNeg)) = true then
        b_sy_doubt_7_50 x1 M
      else
        some (.inl ((x1 + 1), M))
    else
      b_sy_doubt_7_50 x1 M
noncomputable def l_sy_doubt_7 (x1 : Int32) (M : dM) : Option dM := lpc (fun s => b_sy_doubt_7_7 s.1 s.2) (x1, M)
noncomputable def f_sy_doubt (M : dM) : Option dM :=
  (l_sy_doubt_7 0 (sJ M 45 7 0)).bind fun r4 => some r4
theorem w_b_sy_doubt_7_50 (x1 : Int32)  (M : dM) {Q : mz_P} {o : ((Int32 × dM) ⊕ dM)} (hf : b_sy_doubt_7_50 x1 M = some o) (hk : K_sy_doubt_7 Q  o) : mW mX8_doubt 2 Q 50 [some (.ref 45), some (.int x1)] [] M := by
  unfold b_sy_doubt_7_50 at hf
  refine y_aload_n (i := 0) (n := 51) ⟨dX8_doubt_50, rfl⟩ rfl ?_
  refine y_dup_r (n := 52) ⟨dX8_doubt_51, rfl⟩ ?_
  refine y_getJ (n := 55) ⟨dX8_doubt_52, rfl⟩ kfX8_149 l_45 rfl ?_
  refine y_lconst (n := 56) (v := 1) ⟨dX8_doubt_55, rfl⟩ kl_1 ?_
  refine y_iload_n (i := 1) (n := 57) ⟨dX8_doubt_56, rfl⟩ rfl ?_
  refine y_lshl (n := 58) ⟨dX8_doubt_57, rfl⟩ ?_
  refine y_lor (n := 59) ⟨dX8_doubt_58, rfl⟩ ?_
  refine y_putJ (n := 62) ⟨dX8_doubt_59, rfl⟩ kfX8_149 l_45 (by decide +kernel) rfl ?_
  refine y_iinc (i := 1) (n := 65) (b := (x1 + 1)) (L2 := [some (.ref 45), some (.int (x1 + 1))]) ⟨dX8_doubt_62, rfl⟩ rfl (by rw [ki_1]) (by decide) rfl rfl ?_
  refine y_goto (t := 7) ⟨dX8_doubt_65, rfl, rfl⟩ ?_
  cases hf
  exact y_wk (L2 := [some (.ref 45), some (.int (x1 + 1))]) ⟨Or.inr rfl, Or.inr rfl, trivial⟩ hk
theorem w_b_sy_doubt_7_7 (x1 : Int32)  (M : dM) {Q : mz_P} {o : ((Int32 × dM) ⊕ dM)} (hf : b_sy_doubt_7_7 x1 M = some o) (hk : K_sy_doubt_7 Q  o) : mW mX8_doubt 2 Q 7 [some (.ref 45), some (.int x1)] [] M := by
  unfold b_sy_doubt_7_7 at hf
  refine y_iload_n (i := 1) (n := 8) ⟨dX8_doubt_7, rfl⟩ rfl ?_
  refine y_aload_n (i := 0) (n := 9) ⟨dX8_doubt_8, rfl⟩ rfl ?_
  refine y_getR (n := 12) ⟨dX8_doubt_9, rfl⟩ kfX8_29 l_45 rfl r_45_1 ?_
  refine y_getI (n := 15) ⟨dX8_doubt_12, rfl⟩ kfX8_45 l_12 rfl ?_
  refine y_icmp_ge (t := 68) (n := 18) ⟨dX8_doubt_15, rfl, rfl⟩ (fun (hc : (gI M 12 7) ≤ x1) => ?_) (fun (hc : ¬ ((gI M 12 7) ≤ x1)) => ?_)
  · replace hf := i_t hc hf
    cases hf
    exact y_return (n := 69) ⟨dX8_doubt_68, rfl⟩ rfl hk
  · replace hf := i_f hc hf
    refine y_aload_n (i := 0) (n := 19) ⟨dX8_doubt_18, rfl⟩ rfl ?_
    refine y_getR (n := 22) ⟨dX8_doubt_19, rfl⟩ kfX8_37 l_45 rfl r_45_3 ?_
    refine y_getR (n := 25) ⟨dX8_doubt_22, rfl⟩ kfX8_58 l_39 rfl r_39_5 ?_
    refine y_iload_n (i := 1) (n := 26) ⟨dX8_doubt_25, rfl⟩ rfl ?_
    obtain ⟨hg1, hf⟩ := g_s hf
    refine y_iaload (n := 27) ⟨dX8_doubt_26, rfl⟩ l_41 hg1 ?_
    refine y_if_ne (t := 50) (n := 30) ⟨dX8_doubt_27, rfl, rfl⟩ (fun (hc : ¬ ((gI M 41 x1.toNatClampNeg) = 0)) => ?_) (fun (hc : (gI M 41 x1.toNatClampNeg) = 0) => ?_)
    · replace hf := i_f hc hf
      exact y_wk (L2 := [some (.ref 45), some (.int x1)]) ⟨Or.inr rfl, Or.inr rfl, trivial⟩ (w_b_sy_doubt_7_50 x1 M hf hk)
    · replace hf := i_t hc hf
      refine y_aload_n (i := 0) (n := 31) ⟨dX8_doubt_30, rfl⟩ rfl ?_
      refine y_getI (n := 34) ⟨dX8_doubt_31, rfl⟩ kfX8_141 l_45 rfl ?_
      refine y_i2l (n := 35) ⟨dX8_doubt_34, rfl⟩ ?_
      refine y_aload_n (i := 0) (n := 36) ⟨dX8_doubt_35, rfl⟩ rfl ?_
      refine y_getR (n := 39) ⟨dX8_doubt_36, rfl⟩ kfX8_29 l_45 rfl r_45_1 ?_
      refine y_getR (n := 42) ⟨dX8_doubt_39, rfl⟩ kfX8_152 l_12 rfl r_12_4 ?_
      refine y_iload_n (i := 1) (n := 43) ⟨dX8_doubt_42, rfl⟩ rfl ?_
      refine y_iaload (n := 44) ⟨dX8_doubt_43, rfl⟩ l_17 hg1 ?_
      refine c_ax_hasBit ((gI M 45 13).toInt64) (gI M 17 x1.toNatClampNeg) M (n := 47) ⟨dX8_doubt_44, rfl⟩ klX8_114 rfl (by decide) (Nat.le_of_ble_eq_true rfl) rfl rfl ?_
      refine y_if_eq (t := 62) (n := 50) ⟨dX8_doubt_47, rfl, rfl⟩ (fun h0 => ?_) (fun h0 => ?_)
      · have hc := bI_0 h0
        replace hf := i_f hc hf
        refine y_iinc (i := 1) (n := 65) (b := (x1 + 1)) (L2 := [some (.ref 45), some (.int (x1 + 1))]) ⟨dX8_doubt_62, rfl⟩ rfl (by rw [ki_1]) (by decide) rfl rfl ?_
        refine y_goto (t := 7) ⟨dX8_doubt_65, rfl, rfl⟩ ?_
        cases hf
        exact y_wk (L2 := [some (.ref 45), some (.int (x1 + 1))]) ⟨Or.inr rfl, Or.inr rfl, trivial⟩ hk
      · have hc := bI_1 h0
        replace hf := i_t hc hf
        exact y_wk (L2 := [some (.ref 45), some (.int x1)]) ⟨Or.inr rfl, Or.inr rfl, trivial⟩ (w_b_sy_doubt_7_50 x1 M hf hk)
theorem wl_sy_doubt_7 (x1 : Int32) (M : dM) {Q : mz_P} {x : dM} (hf : l_sy_doubt_7 x1 M = some x) (hk : K_sy_doubt_7 Q  (.inr x)) : mW mX8_doubt 2 Q 7 [some (.ref 45), some (.int x1)] [] M :=
  lpc_wp (σ := (Int32 × dM)) (ξ := dM) (s := (x1, M)) (Wh := fun s => mW mX8_doubt 2 Q 7 [some (.ref 45), some (.int s.1)] [] s.2) (K := K_sy_doubt_7 Q ) (fun _ h => h) (fun s o hb hk => w_b_sy_doubt_7_7 s.1 s.2 hb hk) hf hk
theorem ok_sy_doubt  (M : dM) {o : dM} (hf : f_sy_doubt M = some o) : mO mX8_doubt 2 [.ref 45] M none o := by
  refine y_ok (by decide +kernel) (Nat.le_of_ble_eq_true rfl) (L0 := [some (.ref 45), none]) rfl ?_
  have hk := mR_mQ none o
  generalize mQ _ _ = Q at hk ⊢
  unfold f_sy_doubt at hf
  refine y_aload_n (i := 0) (n := 1) ⟨dX8_doubt_0, rfl⟩ rfl ?_
  refine y_lconst (n := 2) (v := 0) ⟨dX8_doubt_1, rfl⟩ kl_0 ?_
  refine y_putJ (n := 5) ⟨dX8_doubt_2, rfl⟩ kfX8_149 l_45 (by decide +kernel) rfl ?_
  refine y_iconst (n := 6) (v := 0) ⟨dX8_doubt_5, rfl⟩ ki_0 ?_
  refine y_istore_n (i := 1) (n := 7) (L2 := [some (.ref 45), some (.int 0)]) ⟨dX8_doubt_6, rfl⟩ (by decide) rfl rfl ?_
  obtain ⟨r4, hl3, hf⟩ := b_s hf
  cases hf
  exact y_wk (L2 := [some (.ref 45), some (.int 0)]) ⟨Or.inr rfl, Or.inr rfl, trivial⟩ (wl_sy_doubt_7 0 (sJ M 45 7 0) hl3 hk)
theorem c_sy_doubt  (M : dM) {o : dM} {y : mz_M} {d : Nat} {Q : mz_P} {pc n i : Nat} {L : List (Option Value)} {st : List Value} (h : mz_d y.2.1 pc n 3 (.invokevirtual i)) (hl : mz_ml y.1.cls i yX8_doubt) (hf : f_sy_doubt M = some o) (hd : 2 + 1 ≤ d) (hsm : (st.map (fun v => v.category)).sum ≤ 8) (hLr : mz_rL 133 L = true) (hSr : mz_rS 133 st = true) (kk : mW y d Q n L st o) : mW y d Q pc L (.ref 45 :: st) M :=
  y_callV kmX8_doubt kvX8_doubt l_45 (by decide +kernel) (by decide +kernel) h hl (ok_sy_doubt  M hf) (vs := []) rfl rfl hd hsm hLr hSr kk
def K_sy_tell_7 (Q : mz_P)  : ((Int32 × dM) ⊕ dM) → Prop
  | .inl s => mW mX8_tell 3 Q 7 [some (.ref 45), some (.int s.1), none] [] s.2
  | .inr r => mR Q none r
noncomputable def b_sy_tell_7_79 (x1 : Int32) (M : dM) : Option ((Int32 × dM) ⊕ dM) :=
  some (.inl ((x1 + 1), (sJ M 45 6 ((gJ M 45 6) ||| ((1 : Int64) <<< (x1.toInt64 &&& 63))))))
noncomputable def b_sy_tell_7_61 (x1 : Int32) (x2 : Int32) (y1 : Int32) (y2 : Int32) (M : dM) : Option ((Int32 × dM) ⊕ dM) :=
  gd (vp_in y1 40) <|
  if x2 = 0 then
    gd (vp_in x1 40) <|
    if (gI (sI M 47 y1.toNatClampNeg y2) 41 x1.toNatClampNeg) = 2 then
      b_sy_tell_7_79 x1 (sI M 47 y1.toNatClampNeg y2)
    else
      some (.inl ((x1 + 1), (sI M 47 y1.toNatClampNeg y2)))
  else
    b_sy_tell_7_79 x1 (sI M 47 y1.toNatClampNeg y2)
noncomputable def b_sy_tell_7_7 (x1 : Int32) (M : dM) : Option ((Int32 × dM) ⊕ dM) :=
  if (gI M 12 7) ≤ x1 then
    (f_sy_refuteAll M).bind fun q1 =>
    (f_sy_countStories q1).bind fun q3 =>
    (f_sy_doubt q3).bind fun q5 =>
    some (.inr q5)
  else
    (f_sy_whoCan x1 M).bind fun v7 =>
    gd (vp_in x1 40) <|
    (f_sy_whoWasSeen x1 (sI M 46 x1.toNatClampNeg v7)).bind fun v10 =>
    if (v10 &&& (gI (sI M 46 x1.toNatClampNeg v7) 46 x1.toNatClampNeg)) = 0 then
      b_sy_tell_7_61 x1 (v10 &&& (gI (sI M 46 x1.toNatClampNeg v7) 46 x1.toNatClampNeg)) x1 (gI (sI M 46 x1.toNatClampNeg v7) 46 x1.toNatClampNeg) (sI M 46 x1.toNatClampNeg v7)
    else
      b_sy_tell_7_61 x1 (v10 &&& (gI (sI M 46 x1.toNatClampNeg v7) 46 x1.toNatClampNeg)) x1 (v10 &&& (gI (sI M 46 x1.toNatClampNeg v7) 46 x1.toNatClampNeg)) (sI M 46 x1.toNatClampNeg v7)
noncomputable def l_sy_tell_7 (x1 : Int32) (M : dM) : Option dM := lpc (fun s => b_sy_tell_7_7 s.1 s.2) (x1, M)
noncomputable def f_sy_tell (M : dM) : Option dM :=
  (l_sy_tell_7 0 (sJ M 45 6 0)).bind fun r16 => some r16
theorem w_b_sy_tell_7_79 (x1 : Int32)  (M : dM) {Q : mz_P} {o : ((Int32 × dM) ⊕ dM)} (hf : b_sy_tell_7_79 x1 M = some o) (hk : K_sy_tell_7 Q  o) : mW mX8_tell 3 Q 79 [some (.ref 45), some (.int x1), none] [] M := by
  unfold b_sy_tell_7_79 at hf
  refine y_aload_n (i := 0) (n := 80) ⟨dX8_tell_79, rfl⟩ rfl ?_
  refine y_dup_r (n := 81) ⟨dX8_tell_80, rfl⟩ ?_
  refine y_getJ (n := 84) ⟨dX8_tell_81, rfl⟩ kfX8_41 l_45 rfl ?_
  refine y_lconst (n := 85) (v := 1) ⟨dX8_tell_84, rfl⟩ kl_1 ?_
  refine y_iload_n (i := 1) (n := 86) ⟨dX8_tell_85, rfl⟩ rfl ?_
  refine y_lshl (n := 87) ⟨dX8_tell_86, rfl⟩ ?_
  refine y_lor (n := 88) ⟨dX8_tell_87, rfl⟩ ?_
  refine y_putJ (n := 91) ⟨dX8_tell_88, rfl⟩ kfX8_41 l_45 (by decide +kernel) rfl ?_
  refine y_iinc (i := 1) (n := 94) (b := (x1 + 1)) (L2 := [some (.ref 45), some (.int (x1 + 1)), none]) ⟨dX8_tell_91, rfl⟩ rfl (by rw [ki_1]) (by decide) rfl rfl ?_
  refine y_goto (t := 7) ⟨dX8_tell_94, rfl, rfl⟩ ?_
  cases hf
  exact y_wk (L2 := [some (.ref 45), some (.int (x1 + 1)), none]) ⟨Or.inr rfl, Or.inr rfl, Or.inr rfl, trivial⟩ hk
theorem w_b_sy_tell_7_61 (x1 : Int32) (x2 : Int32) (y1 : Int32) (y2 : Int32)  (M : dM) {Q : mz_P} {o : ((Int32 × dM) ⊕ dM)} (hf : b_sy_tell_7_61 x1 x2 y1 y2 M = some o) (hk : K_sy_tell_7 Q  o) : mW mX8_tell 3 Q 61 [some (.ref 45), some (.int x1), some (.int x2)] [.int y2, .int y1, .ref 47] M := by
  unfold b_sy_tell_7_61 at hf
  obtain ⟨hg12, hf⟩ := g_s hf
  refine y_iastore (n := 62) ⟨dX8_tell_61, rfl⟩ l_47 hg12 ?_
  refine y_iload_n (i := 2) (n := 63) ⟨dX8_tell_62, rfl⟩ rfl ?_
  refine y_if_ne (t := 79) (n := 66) ⟨dX8_tell_63, rfl, rfl⟩ (fun (hc : ¬ (x2 = 0)) => ?_) (fun (hc : x2 = 0) => ?_)
  · replace hf := i_f hc hf
    exact y_wk (L2 := [some (.ref 45), some (.int x1), none]) ⟨Or.inr rfl, Or.inr rfl, Or.inl rfl, trivial⟩ (w_b_sy_tell_7_79 x1 (sI M 47 y1.toNatClampNeg y2) hf hk)
  · replace hf := i_t hc hf
    refine y_aload_n (i := 0) (n := 67) ⟨dX8_tell_66, rfl⟩ rfl ?_
    refine y_getR (n := 70) ⟨dX8_tell_67, rfl⟩ kfX8_37 l_45 rfl r_45_3 ?_
    refine y_getR (n := 73) ⟨dX8_tell_70, rfl⟩ kfX8_58 l_39 rfl r_39_5 ?_
    refine y_iload_n (i := 1) (n := 74) ⟨dX8_tell_73, rfl⟩ rfl ?_
    obtain ⟨hg13, hf⟩ := g_s hf
    refine y_iaload (n := 75) ⟨dX8_tell_74, rfl⟩ l_41 hg13 ?_
    refine y_iconst (n := 76) (v := 2) ⟨dX8_tell_75, rfl⟩ ki_2 ?_
    refine y_icmp_ne (t := 91) (n := 79) ⟨dX8_tell_76, rfl, rfl⟩ (fun (hc : ¬ ((gI (sI M 47 y1.toNatClampNeg y2) 41 x1.toNatClampNeg) = 2)) => ?_) (fun (hc : (gI (sI M 47 y1.toNatClampNeg y2) 41 x1.toNatClampNeg) = 2) => ?_)
    · replace hf := i_f hc hf
      refine y_iinc (i := 1) (n := 94) (b := (x1 + 1)) (L2 := [some (.ref 45), some (.int (x1 + 1)), some (.int x2)]) ⟨dX8_tell_91, rfl⟩ rfl (by rw [ki_1]) (by decide) rfl rfl ?_
      refine y_goto (t := 7) ⟨dX8_tell_94, rfl, rfl⟩ ?_
      cases hf
      exact y_wk (L2 := [some (.ref 45), some (.int (x1 + 1)), none]) ⟨Or.inr rfl, Or.inr rfl, Or.inl rfl, trivial⟩ hk
    · replace hf := i_t hc hf
      exact y_wk (L2 := [some (.ref 45), some (.int x1), none]) ⟨Or.inr rfl, Or.inr rfl, Or.inl rfl, trivial⟩ (w_b_sy_tell_7_79 x1 (sI M 47 y1.toNatClampNeg y2) hf hk)
theorem w_b_sy_tell_7_7 (x1 : Int32)  (M : dM) {Q : mz_P} {o : ((Int32 × dM) ⊕ dM)} (hf : b_sy_tell_7_7 x1 M = some o) (hk : K_sy_tell_7 Q  o) : mW mX8_tell 3 Q 7 [some (.ref 45), some (.int x1), none] [] M := by
  unfold b_sy_tell_7_7 at hf
  refine y_iload_n (i := 1) (n := 8) ⟨dX8_tell_7, rfl⟩ rfl ?_
  refine y_aload_n (i := 0) (n := 9) ⟨dX8_tell_8, rfl⟩ rfl ?_
  refine y_getR (n := 12) ⟨dX8_tell_9, rfl⟩ kfX8_29 l_45 rfl r_45_1 ?_
  refine y_getI (n := 15) ⟨dX8_tell_12, rfl⟩ kfX8_45 l_12 rfl ?_
  refine y_icmp_ge (t := 97) (n := 18) ⟨dX8_tell_15, rfl, rfl⟩ (fun (hc : (gI M 12 7) ≤ x1) => ?_) (fun (hc : ¬ ((gI M 12 7) ≤ x1)) => ?_)
  · replace hf := i_t hc hf
    refine y_aload_n (i := 0) (n := 98) ⟨dX8_tell_97, rfl⟩ rfl ?_
    obtain ⟨q1, hv2, hf⟩ := b_s hf
    refine c_sy_refuteAll M (n := 101) ⟨dX8_tell_98, rfl⟩ klX8_63 hv2 (by decide) (Nat.le_of_ble_eq_true rfl) rfl rfl ?_
    refine y_aload_n (i := 0) (n := 102) ⟨dX8_tell_101, rfl⟩ rfl ?_
    obtain ⟨q3, hv4, hf⟩ := b_s hf
    refine c_sy_countStories q1 (n := 105) ⟨dX8_tell_102, rfl⟩ klX8_66 hv4 (by decide) (Nat.le_of_ble_eq_true rfl) rfl rfl ?_
    refine y_aload_n (i := 0) (n := 106) ⟨dX8_tell_105, rfl⟩ rfl ?_
    obtain ⟨q5, hv6, hf⟩ := b_s hf
    refine c_sy_doubt q3 (n := 109) ⟨dX8_tell_106, rfl⟩ klX8_69 hv6 (by decide) (Nat.le_of_ble_eq_true rfl) rfl rfl ?_
    cases hf
    exact y_return (n := 110) ⟨dX8_tell_109, rfl⟩ rfl hk
  · replace hf := i_f hc hf
    refine y_aload_n (i := 0) (n := 19) ⟨dX8_tell_18, rfl⟩ rfl ?_
    refine y_getR (n := 22) ⟨dX8_tell_19, rfl⟩ kfX8_9 l_45 rfl r_45_4 ?_
    refine y_iload_n (i := 1) (n := 23) ⟨dX8_tell_22, rfl⟩ rfl ?_
    refine y_aload_n (i := 0) (n := 24) ⟨dX8_tell_23, rfl⟩ rfl ?_
    refine y_iload_n (i := 1) (n := 25) ⟨dX8_tell_24, rfl⟩ rfl ?_
    obtain ⟨v7, hv8, hf⟩ := b_s hf
    refine c_sy_whoCan x1 M (n := 28) ⟨dX8_tell_25, rfl⟩ klX8_51 hv8 (by decide) (Nat.le_of_ble_eq_true rfl) rfl rfl ?_
    obtain ⟨hg9, hf⟩ := g_s hf
    refine y_iastore (n := 29) ⟨dX8_tell_28, rfl⟩ l_46 hg9 ?_
    refine y_aload_n (i := 0) (n := 30) ⟨dX8_tell_29, rfl⟩ rfl ?_
    refine y_iload_n (i := 1) (n := 31) ⟨dX8_tell_30, rfl⟩ rfl ?_
    obtain ⟨v10, hv11, hf⟩ := b_s hf
    refine c_sy_whoWasSeen x1 (sI M 46 x1.toNatClampNeg v7) (n := 34) ⟨dX8_tell_31, rfl⟩ klX8_55 hv11 (by decide) (Nat.le_of_ble_eq_true rfl) rfl rfl ?_
    refine y_aload_n (i := 0) (n := 35) ⟨dX8_tell_34, rfl⟩ rfl ?_
    refine y_getR (n := 38) ⟨dX8_tell_35, rfl⟩ kfX8_9 l_45 rfl r_45_4 ?_
    refine y_iload_n (i := 1) (n := 39) ⟨dX8_tell_38, rfl⟩ rfl ?_
    refine y_iaload (n := 40) ⟨dX8_tell_39, rfl⟩ l_46 hg9 ?_
    refine y_iand (n := 41) ⟨dX8_tell_40, rfl⟩ ?_
    refine y_istore_n (i := 2) (n := 42) (L2 := [some (.ref 45), some (.int x1), some (.int (v10 &&& (gI (sI M 46 x1.toNatClampNeg v7) 46 x1.toNatClampNeg)))]) ⟨dX8_tell_41, rfl⟩ (by decide) rfl rfl ?_
    refine y_aload_n (i := 0) (n := 43) ⟨dX8_tell_42, rfl⟩ rfl ?_
    refine y_getR (n := 46) ⟨dX8_tell_43, rfl⟩ kfX8_15 l_45 rfl r_45_5 ?_
    refine y_iload_n (i := 1) (n := 47) ⟨dX8_tell_46, rfl⟩ rfl ?_
    refine y_iload_n (i := 2) (n := 48) ⟨dX8_tell_47, rfl⟩ rfl ?_
    refine y_if_eq (t := 55) (n := 51) ⟨dX8_tell_48, rfl, rfl⟩ (fun (hc : (v10 &&& (gI (sI M 46 x1.toNatClampNeg v7) 46 x1.toNatClampNeg)) = 0) => ?_) (fun (hc : ¬ ((v10 &&& (gI (sI M 46 x1.toNatClampNeg v7) 46 x1.toNatClampNeg)) = 0)) => ?_)
    · replace hf := i_t hc hf
      refine y_aload_n (i := 0) (n := 56) ⟨dX8_tell_55, rfl⟩ rfl ?_
      refine y_getR (n := 59) ⟨dX8_tell_56, rfl⟩ kfX8_9 l_45 rfl r_45_4 ?_
      refine y_iload_n (i := 1) (n := 60) ⟨dX8_tell_59, rfl⟩ rfl ?_
      refine y_iaload (n := 61) ⟨dX8_tell_60, rfl⟩ l_46 hg9 ?_
      exact y_wk (L2 := [some (.ref 45), some (.int x1), some (.int (v10 &&& (gI (sI M 46 x1.toNatClampNeg v7) 46 x1.toNatClampNeg)))]) ⟨Or.inr rfl, Or.inr rfl, Or.inr rfl, trivial⟩ (w_b_sy_tell_7_61 x1 (v10 &&& (gI (sI M 46 x1.toNatClampNeg v7) 46 x1.toNatClampNeg)) x1 (gI (sI M 46 x1.toNatClampNeg v7) 46 x1.toNatClampNeg) (sI M 46 x1.toNatClampNeg v7) hf hk)
    · replace hf := i_f hc hf
      refine y_iload_n (i := 2) (n := 52) ⟨dX8_tell_51, rfl⟩ rfl ?_
      refine y_goto (t := 61) ⟨dX8_tell_52, rfl, rfl⟩ ?_
      exact y_wk (L2 := [some (.ref 45), some (.int x1), some (.int (v10 &&& (gI (sI M 46 x1.toNatClampNeg v7) 46 x1.toNatClampNeg)))]) ⟨Or.inr rfl, Or.inr rfl, Or.inr rfl, trivial⟩ (w_b_sy_tell_7_61 x1 (v10 &&& (gI (sI M 46 x1.toNatClampNeg v7) 46 x1.toNatClampNeg)) x1 (v10 &&& (gI (sI M 46 x1.toNatClampNeg v7) 46 x1.toNatClampNeg)) (sI M 46 x1.toNatClampNeg v7) hf hk)
theorem wl_sy_tell_7 (x1 : Int32) (M : dM) {Q : mz_P} {x : dM} (hf : l_sy_tell_7 x1 M = some x) (hk : K_sy_tell_7 Q  (.inr x)) : mW mX8_tell 3 Q 7 [some (.ref 45), some (.int x1), none] [] M :=
  lpc_wp (σ := (Int32 × dM)) (ξ := dM) (s := (x1, M)) (Wh := fun s => mW mX8_tell 3 Q 7 [some (.ref 45), some (.int s.1), none] [] s.2) (K := K_sy_tell_7 Q ) (fun _ h => h) (fun s o hb hk => w_b_sy_tell_7_7 s.1 s.2 hb hk) hf hk
theorem ok_sy_tell  (M : dM) {o : dM} (hf : f_sy_tell M = some o) : mO mX8_tell 3 [.ref 45] M none o := by
  refine y_ok (by decide +kernel) (Nat.le_of_ble_eq_true rfl) (L0 := [some (.ref 45), none, none]) rfl ?_
  have hk := mR_mQ none o
  generalize mQ _ _ = Q at hk ⊢
  unfold f_sy_tell at hf
  refine y_aload_n (i := 0) (n := 1) ⟨dX8_tell_0, rfl⟩ rfl ?_
  refine y_lconst (n := 2) (v := 0) ⟨dX8_tell_1, rfl⟩ kl_0 ?_
  refine y_putJ (n := 5) ⟨dX8_tell_2, rfl⟩ kfX8_41 l_45 (by decide +kernel) rfl ?_
  refine y_iconst (n := 6) (v := 0) ⟨dX8_tell_5, rfl⟩ ki_0 ?_
  refine y_istore_n (i := 1) (n := 7) (L2 := [some (.ref 45), some (.int 0), none]) ⟨dX8_tell_6, rfl⟩ (by decide) rfl rfl ?_
  obtain ⟨r16, hl15, hf⟩ := b_s hf
  cases hf
  exact y_wk (L2 := [some (.ref 45), some (.int 0), none]) ⟨Or.inr rfl, Or.inr rfl, Or.inr rfl, trivial⟩ (wl_sy_tell_7 0 (sJ M 45 6 0) hl15 hk)
theorem c_sy_tell  (M : dM) {o : dM} {y : mz_M} {d : Nat} {Q : mz_P} {pc n i : Nat} {L : List (Option Value)} {st : List Value} (h : mz_d y.2.1 pc n 3 (.invokevirtual i)) (hl : mz_ml y.1.cls i yX8_tell) (hf : f_sy_tell M = some o) (hd : 3 + 1 ≤ d) (hsm : (st.map (fun v => v.category)).sum ≤ 8) (hLr : mz_rL 133 L = true) (hSr : mz_rS 133 st = true) (kk : mW y d Q n L st o) : mW y d Q pc L (.ref 45 :: st) M :=
  y_callV kmX8_tell kvX8_tell l_45 (by decide +kernel) (by decide +kernel) h hl (ok_sy_tell  M hf) (vs := []) rfl rfl hd hsm hLr hSr kk
noncomputable def t_ax_study_27 (x1 : Int32) (M : dM) : Option dM :=
  if x1 < 2 then
    some M
  else
    if (2 : Int32) ≤ (gI M 0 10) then
      some M
    else
      (f_sy_tell M).bind fun q1 =>
      some (sI q1 0 10 2)
noncomputable def f_ax_study (a1 : Int32) (M : dM) : Option dM :=
  if (1 : Int32) ≤ (gI M 0 10) then
    t_ax_study_27 a1 M
  else
    (f_li_weigh M).bind fun q3 =>
    (f_ju_judgeAll q3).bind fun q5 =>
    t_ax_study_27 a1 (sI q5 0 10 1)
theorem w_t_ax_study_27 (x1 : Int32) (M : dM) {Q : mz_P} {o : dM} (hf : t_ax_study_27 x1 M = some o) (hk : mR Q none o) : mW mX11_study 5 Q 27 [some (.ref 0), some (.int x1)] [] M := by
  unfold t_ax_study_27 at hf
  refine y_iload_n (i := 1) (n := 28) ⟨dX11_study_27, rfl⟩ rfl ?_
  refine y_iconst (n := 29) (v := 2) ⟨dX11_study_28, rfl⟩ ki_2 ?_
  refine y_icmp_lt (t := 52) (n := 32) ⟨dX11_study_29, rfl, rfl⟩ (fun (hc : x1 < 2) => ?_) (fun (hc : ¬ (x1 < 2)) => ?_)
  · replace hf := i_t hc hf
    cases hf
    exact y_return (n := 53) ⟨dX11_study_52, rfl⟩ rfl hk
  · replace hf := i_f hc hf
    refine y_aload_n (i := 0) (n := 33) ⟨dX11_study_32, rfl⟩ rfl ?_
    refine y_getI (n := 36) ⟨dX11_study_33, rfl⟩ kfX11_87 l_0 rfl ?_
    refine y_iconst (n := 37) (v := 2) ⟨dX11_study_36, rfl⟩ ki_2 ?_
    refine y_icmp_ge (t := 52) (n := 40) ⟨dX11_study_37, rfl, rfl⟩ (fun (hc : (2 : Int32) ≤ (gI M 0 10)) => ?_) (fun (hc : ¬ ((2 : Int32) ≤ (gI M 0 10))) => ?_)
    · replace hf := i_t hc hf
      cases hf
      exact y_return (n := 53) ⟨dX11_study_52, rfl⟩ rfl hk
    · replace hf := i_f hc hf
      refine y_aload_n (i := 0) (n := 41) ⟨dX11_study_40, rfl⟩ rfl ?_
      refine y_getR (n := 44) ⟨dX11_study_41, rfl⟩ kfX11_65 l_0 rfl r_0_7 ?_
      obtain ⟨q1, hv2, hf⟩ := b_s hf
      refine c_sy_tell M (n := 47) ⟨dX11_study_44, rfl⟩ klX11_368 hv2 (by decide) (Nat.le_of_ble_eq_true rfl) rfl rfl ?_
      refine y_aload_n (i := 0) (n := 48) ⟨dX11_study_47, rfl⟩ rfl ?_
      refine y_iconst (n := 49) (v := 2) ⟨dX11_study_48, rfl⟩ ki_2 ?_
      refine y_putI (n := 52) ⟨dX11_study_49, rfl⟩ kfX11_87 l_0 (by decide +kernel) rfl ?_
      cases hf
      exact y_return (n := 53) ⟨dX11_study_52, rfl⟩ rfl hk
theorem ok_ax_study (a1 : Int32) (M : dM) {o : dM} (hf : f_ax_study a1 M = some o) : mO mX11_study 5 [.ref 0, .int a1] M none o := by
  refine y_ok (by decide +kernel) (Nat.le_of_ble_eq_true rfl) (L0 := [some (.ref 0), some (.int a1)]) rfl ?_
  have hk := mR_mQ none o
  generalize mQ _ _ = Q at hk ⊢
  unfold f_ax_study at hf
  refine y_aload_n (i := 0) (n := 1) ⟨dX11_study_0, rfl⟩ rfl ?_
  refine y_getI (n := 4) ⟨dX11_study_1, rfl⟩ kfX11_87 l_0 rfl ?_
  refine y_iconst (n := 5) (v := 1) ⟨dX11_study_4, rfl⟩ ki_1 ?_
  refine y_icmp_ge (t := 27) (n := 8) ⟨dX11_study_5, rfl, rfl⟩ (fun (hc : (1 : Int32) ≤ (gI M 0 10)) => ?_) (fun (hc : ¬ ((1 : Int32) ≤ (gI M 0 10))) => ?_)
  · replace hf := i_t hc hf
    exact y_wk (L2 := [some (.ref 0), some (.int a1)]) ⟨Or.inr rfl, Or.inr rfl, trivial⟩ (w_t_ax_study_27 a1 M hf hk)
  · replace hf := i_f hc hf
    refine y_aload_n (i := 0) (n := 9) ⟨dX11_study_8, rfl⟩ rfl ?_
    refine y_getR (n := 12) ⟨dX11_study_9, rfl⟩ kfX11_19 l_0 rfl r_0_1 ?_
    obtain ⟨q3, hv4, hf⟩ := b_s hf
    refine c_li_weigh M (n := 15) ⟨dX11_study_12, rfl⟩ klX11_362 hv4 (by decide) (Nat.le_of_ble_eq_true rfl) rfl rfl ?_
    refine y_aload_n (i := 0) (n := 16) ⟨dX11_study_15, rfl⟩ rfl ?_
    refine y_getR (n := 19) ⟨dX11_study_16, rfl⟩ kfX11_56 l_0 rfl r_0_6 ?_
    obtain ⟨q5, hv6, hf⟩ := b_s hf
    refine c_ju_judgeAll q3 (n := 22) ⟨dX11_study_19, rfl⟩ klX11_365 hv6 (by decide) (Nat.le_of_ble_eq_true rfl) rfl rfl ?_
    refine y_aload_n (i := 0) (n := 23) ⟨dX11_study_22, rfl⟩ rfl ?_
    refine y_iconst (n := 24) (v := 1) ⟨dX11_study_23, rfl⟩ ki_1 ?_
    refine y_putI (n := 27) ⟨dX11_study_24, rfl⟩ kfX11_87 l_0 (by decide +kernel) rfl ?_
    exact y_wk (L2 := [some (.ref 0), some (.int a1)]) ⟨Or.inr rfl, Or.inr rfl, trivial⟩ (w_t_ax_study_27 a1 (sI q5 0 10 1) hf hk)
theorem c_ax_study (a1 : Int32) (M : dM) {o : dM} {y : mz_M} {d : Nat} {Q : mz_P} {pc n i : Nat} {L : List (Option Value)} {st : List Value} (h : mz_d y.2.1 pc n 3 (.invokevirtual i)) (hl : mz_ml y.1.cls i yX11_study) (hf : f_ax_study a1 M = some o) (hd : 5 + 1 ≤ d) (hsm : (st.map (fun v => v.category)).sum ≤ 8) (hLr : mz_rL 133 L = true) (hSr : mz_rS 133 st = true) (kk : mW y d Q n L st o) : mW y d Q pc L (.int a1 :: .ref 0 :: st) M :=
  y_callV kmX11_study kvX11_study l_0 (by decide +kernel) (by decide +kernel) h hl (ok_ax_study a1 M hf) (vs := [.int a1]) rfl rfl hd hsm hLr hSr kk
noncomputable def f_ax_fact (a1 : Int32) (a2 : Int32) (M : dM) : Option (Int32 × dM) :=
  if (f_ax_within a1 (gI M 12 7)) = true then
    if (f_ax_within a2 20) = true then
      if 17 ≤ a2 then
        if a2 = 17 then
          gd (vp_in a1 40) <|
          some ((gI M 13 a1.toNatClampNeg), M)
        else
          if a2 = 18 then
            gd (vp_in a1 40) <|
            some ((gI M 15 a1.toNatClampNeg), M)
          else
            gd (vp_in a1 40) <|
            some ((gI M 17 a1.toNatClampNeg), M)
      else
        (f_ax_study 1 M).bind fun q4 =>
        gd (vp_in ((a1 * 17) + a2) 697) <|
        some ((gI q4 40 ((a1 * 17) + a2).toNatClampNeg), q4)
    else
      none
  else
    none
theorem ok_ax_fact (a1 : Int32) (a2 : Int32) (M : dM) {o : (Int32 × dM)} (hf : f_ax_fact a1 a2 M = some o) : mO mX11_fact 6 [.ref 0, .int a1, .int a2] M (some (.int o.1)) o.2 := by
  refine y_ok (by decide +kernel) (Nat.le_of_ble_eq_true rfl) (L0 := [some (.ref 0), some (.int a1), some (.int a2)]) rfl ?_
  have hk := mR_mQ (some (.int o.1)) o.2
  generalize mQ _ _ = Q at hk ⊢
  unfold f_ax_fact at hf
  refine y_iload_n (i := 1) (n := 1) ⟨dX11_fact_0, rfl⟩ rfl ?_
  refine y_aload_n (i := 0) (n := 2) ⟨dX11_fact_1, rfl⟩ rfl ?_
  refine y_getR (n := 5) ⟨dX11_fact_2, rfl⟩ kfX11_26 l_0 rfl r_0_2 ?_
  refine y_getI (n := 8) ⟨dX11_fact_5, rfl⟩ kfX11_146 l_12 rfl ?_
  refine c_ax_within a1 (gI M 12 7) M (n := 11) ⟨dX11_fact_8, rfl⟩ klX11_91 rfl (by decide) (Nat.le_of_ble_eq_true rfl) rfl rfl ?_
  refine y_if_eq (t := 23) (n := 14) ⟨dX11_fact_11, rfl, rfl⟩ (fun h0 => ?_) (fun h0 => ?_)
  · have hc := bI_0 h0
    replace hf := i_f hc hf
    cases hf
  · have hc := bI_1 h0
    replace hf := i_t hc hf
    refine y_iload_n (i := 2) (n := 15) ⟨dX11_fact_14, rfl⟩ rfl ?_
    refine y_bipush (n := 17) (v := 20) ⟨dX11_fact_15, rfl⟩ kb_20 ?_
    refine c_ax_within a2 20 M (n := 20) ⟨dX11_fact_17, rfl⟩ klX11_91 rfl (by decide) (Nat.le_of_ble_eq_true rfl) rfl rfl ?_
    refine y_if_ne (t := 33) (n := 23) ⟨dX11_fact_20, rfl, rfl⟩ (fun h0 => ?_) (fun h0 => ?_)
    · have hc := bI_1 h0
      replace hf := i_t hc hf
      refine y_iload_n (i := 2) (n := 34) ⟨dX11_fact_33, rfl⟩ rfl ?_
      refine y_bipush (n := 36) (v := 17) ⟨dX11_fact_34, rfl⟩ kb_17 ?_
      refine y_icmp_ge (t := 59) (n := 39) ⟨dX11_fact_36, rfl, rfl⟩ (fun (hc : 17 ≤ a2) => ?_) (fun (hc : ¬ (17 ≤ a2)) => ?_)
      · replace hf := i_t hc hf
        refine y_iload_n (i := 2) (n := 60) ⟨dX11_fact_59, rfl⟩ rfl ?_
        refine y_bipush (n := 62) (v := 17) ⟨dX11_fact_60, rfl⟩ kb_17 ?_
        refine y_icmp_ne (t := 75) (n := 65) ⟨dX11_fact_62, rfl, rfl⟩ (fun (hc : ¬ (a2 = 17)) => ?_) (fun (hc : a2 = 17) => ?_)
        · replace hf := i_f hc hf
          refine y_iload_n (i := 2) (n := 76) ⟨dX11_fact_75, rfl⟩ rfl ?_
          refine y_bipush (n := 78) (v := 18) ⟨dX11_fact_76, rfl⟩ kb_18 ?_
          refine y_icmp_ne (t := 93) (n := 81) ⟨dX11_fact_78, rfl, rfl⟩ (fun (hc : ¬ (a2 = 18)) => ?_) (fun (hc : a2 = 18) => ?_)
          · replace hf := i_f hc hf
            refine y_aload_n (i := 0) (n := 94) ⟨dX11_fact_93, rfl⟩ rfl ?_
            refine y_getR (n := 97) ⟨dX11_fact_94, rfl⟩ kfX11_26 l_0 rfl r_0_2 ?_
            refine y_getR (n := 100) ⟨dX11_fact_97, rfl⟩ kfX11_170 l_12 rfl r_12_4 ?_
            refine y_iload_n (i := 1) (n := 101) ⟨dX11_fact_100, rfl⟩ rfl ?_
            obtain ⟨hg1, hf⟩ := g_s hf
            refine y_iaload (n := 102) ⟨dX11_fact_101, rfl⟩ l_17 hg1 ?_
            cases hf
            exact y_ireturn (n := 103) ⟨dX11_fact_102, rfl⟩ rfl rfl hk
          · replace hf := i_t hc hf
            refine y_aload_n (i := 0) (n := 82) ⟨dX11_fact_81, rfl⟩ rfl ?_
            refine y_getR (n := 85) ⟨dX11_fact_82, rfl⟩ kfX11_26 l_0 rfl r_0_2 ?_
            refine y_getR (n := 88) ⟨dX11_fact_85, rfl⟩ kfX11_167 l_12 rfl r_12_2 ?_
            refine y_iload_n (i := 1) (n := 89) ⟨dX11_fact_88, rfl⟩ rfl ?_
            obtain ⟨hg2, hf⟩ := g_s hf
            refine y_iaload (n := 90) ⟨dX11_fact_89, rfl⟩ l_15 hg2 ?_
            refine y_goto (t := 102) ⟨dX11_fact_90, rfl, rfl⟩ ?_
            cases hf
            exact y_ireturn (n := 103) ⟨dX11_fact_102, rfl⟩ rfl rfl hk
        · replace hf := i_t hc hf
          refine y_aload_n (i := 0) (n := 66) ⟨dX11_fact_65, rfl⟩ rfl ?_
          refine y_getR (n := 69) ⟨dX11_fact_66, rfl⟩ kfX11_26 l_0 rfl r_0_2 ?_
          refine y_getR (n := 72) ⟨dX11_fact_69, rfl⟩ kfX11_164 l_12 rfl r_12_0 ?_
          refine y_iload_n (i := 1) (n := 73) ⟨dX11_fact_72, rfl⟩ rfl ?_
          obtain ⟨hg3, hf⟩ := g_s hf
          refine y_iaload (n := 74) ⟨dX11_fact_73, rfl⟩ l_13 hg3 ?_
          cases hf
          exact y_ireturn (n := 75) ⟨dX11_fact_74, rfl⟩ rfl rfl hk
      · replace hf := i_f hc hf
        refine y_aload_n (i := 0) (n := 40) ⟨dX11_fact_39, rfl⟩ rfl ?_
        refine y_iconst (n := 41) (v := 1) ⟨dX11_fact_40, rfl⟩ ki_1 ?_
        obtain ⟨q4, hv5, hf⟩ := b_s hf
        refine c_ax_study 1 M (n := 44) ⟨dX11_fact_41, rfl⟩ klX11_156 hv5 (by decide) (Nat.le_of_ble_eq_true rfl) rfl rfl ?_
        refine y_aload_n (i := 0) (n := 45) ⟨dX11_fact_44, rfl⟩ rfl ?_
        refine y_getR (n := 48) ⟨dX11_fact_45, rfl⟩ kfX11_56 l_0 rfl r_0_6 ?_
        refine y_getR (n := 51) ⟨dX11_fact_48, rfl⟩ kfX11_160 l_39 rfl r_39_4 ?_
        refine y_iload_n (i := 1) (n := 52) ⟨dX11_fact_51, rfl⟩ rfl ?_
        refine y_bipush (n := 54) (v := 17) ⟨dX11_fact_52, rfl⟩ kb_17 ?_
        refine y_imul (n := 55) ⟨dX11_fact_54, rfl⟩ ?_
        refine y_iload_n (i := 2) (n := 56) ⟨dX11_fact_55, rfl⟩ rfl ?_
        refine y_iadd (n := 57) ⟨dX11_fact_56, rfl⟩ ?_
        obtain ⟨hg6, hf⟩ := g_s hf
        refine y_iaload (n := 58) ⟨dX11_fact_57, rfl⟩ l_40 hg6 ?_
        cases hf
        exact y_ireturn (n := 59) ⟨dX11_fact_58, rfl⟩ rfl rfl hk
    · have hc := bI_0 h0
      replace hf := i_f hc hf
      cases hf
theorem c_ax_fact (a1 : Int32) (a2 : Int32) (M : dM) {o : (Int32 × dM)} {y : mz_M} {d : Nat} {Q : mz_P} {pc n i : Nat} {L : List (Option Value)} {st : List Value} (h : mz_d y.2.1 pc n 3 (.invokevirtual i)) (hl : mz_ml y.1.cls i yX11_fact) (hf : f_ax_fact a1 a2 M = some o) (hd : 6 + 1 ≤ d) (hsm : (st.map (fun v => v.category)).sum ≤ 8) (hLr : mz_rL 133 L = true) (hSr : mz_rS 133 st = true) (kk : mW y d Q n L (.int o.1 :: st) o.2) : mW y d Q pc L (.int a2 :: .int a1 :: .ref 0 :: st) M :=
  y_callV kmX11_fact kvX11_fact l_0 (by decide +kernel) (by decide +kernel) h hl (ok_ax_fact a1 a2 M hf) (vs := [.int a1, .int a2]) rfl rfl hd hsm hLr hSr kk
noncomputable def f_ax_each (a1 : Int32) (M : dM) : Option (Int32 × dM) :=
  if (f_ax_within a1 (gI M 12 7)) = true then
    (f_ax_study 1 M).bind fun q1 =>
    gd (vp_in a1 40) <|
    some ((gI q1 41 a1.toNatClampNeg), q1)
  else
    some ((-1), M)
theorem ok_ax_each (a1 : Int32) (M : dM) {o : (Int32 × dM)} (hf : f_ax_each a1 M = some o) : mO mX11_each 6 [.ref 0, .int a1] M (some (.int o.1)) o.2 := by
  refine y_ok (by decide +kernel) (Nat.le_of_ble_eq_true rfl) (L0 := [some (.ref 0), some (.int a1)]) rfl ?_
  have hk := mR_mQ (some (.int o.1)) o.2
  generalize mQ _ _ = Q at hk ⊢
  unfold f_ax_each at hf
  refine y_iload_n (i := 1) (n := 1) ⟨dX11_each_0, rfl⟩ rfl ?_
  refine y_aload_n (i := 0) (n := 2) ⟨dX11_each_1, rfl⟩ rfl ?_
  refine y_getR (n := 5) ⟨dX11_each_2, rfl⟩ kfX11_26 l_0 rfl r_0_2 ?_
  refine y_getI (n := 8) ⟨dX11_each_5, rfl⟩ kfX11_146 l_12 rfl ?_
  refine c_ax_within a1 (gI M 12 7) M (n := 11) ⟨dX11_each_8, rfl⟩ klX11_91 rfl (by decide) (Nat.le_of_ble_eq_true rfl) rfl rfl ?_
  refine y_if_ne (t := 16) (n := 14) ⟨dX11_each_11, rfl, rfl⟩ (fun h0 => ?_) (fun h0 => ?_)
  · have hc := bI_1 h0
    replace hf := i_t hc hf
    refine y_aload_n (i := 0) (n := 17) ⟨dX11_each_16, rfl⟩ rfl ?_
    refine y_iconst (n := 18) (v := 1) ⟨dX11_each_17, rfl⟩ ki_1 ?_
    obtain ⟨q1, hv2, hf⟩ := b_s hf
    refine c_ax_study 1 M (n := 21) ⟨dX11_each_18, rfl⟩ klX11_156 hv2 (by decide) (Nat.le_of_ble_eq_true rfl) rfl rfl ?_
    refine y_aload_n (i := 0) (n := 22) ⟨dX11_each_21, rfl⟩ rfl ?_
    refine y_getR (n := 25) ⟨dX11_each_22, rfl⟩ kfX11_56 l_0 rfl r_0_6 ?_
    refine y_getR (n := 28) ⟨dX11_each_25, rfl⟩ kfX11_173 l_39 rfl r_39_5 ?_
    refine y_iload_n (i := 1) (n := 29) ⟨dX11_each_28, rfl⟩ rfl ?_
    obtain ⟨hg3, hf⟩ := g_s hf
    refine y_iaload (n := 30) ⟨dX11_each_29, rfl⟩ l_41 hg3 ?_
    cases hf
    exact y_ireturn (n := 31) ⟨dX11_each_30, rfl⟩ rfl rfl hk
  · have hc := bI_0 h0
    replace hf := i_f hc hf
    refine y_iconst (n := 15) (v := (-1)) ⟨dX11_each_14, rfl⟩ ki_m1 ?_
    cases hf
    exact y_ireturn (n := 16) ⟨dX11_each_15, rfl⟩ rfl rfl hk
theorem c_ax_each (a1 : Int32) (M : dM) {o : (Int32 × dM)} {y : mz_M} {d : Nat} {Q : mz_P} {pc n i : Nat} {L : List (Option Value)} {st : List Value} (h : mz_d y.2.1 pc n 3 (.invokevirtual i)) (hl : mz_ml y.1.cls i yX11_each) (hf : f_ax_each a1 M = some o) (hd : 6 + 1 ≤ d) (hsm : (st.map (fun v => v.category)).sum ≤ 8) (hLr : mz_rL 133 L = true) (hSr : mz_rS 133 st = true) (kk : mW y d Q n L (.int o.1 :: st) o.2) : mW y d Q pc L (.int a1 :: .ref 0 :: st) M :=
  y_callV kmX11_each kvX11_each l_0 (by decide +kernel) (by decide +kernel) h hl (ok_ax_each a1 M hf) (vs := [.int a1]) rfl rfl hd hsm hLr hSr kk
noncomputable def f_la_isTold_27 (a1 : Int32) (M : dM) : Option Bool :=
  gd (vp_in a1 21) <|
  if (gI M 30 a1.toNatClampNeg) ≤ (gI M 29 a1.toNatClampNeg) then
    some false
  else
    some true
theorem ok_la_isTold_27 (a1 : Int32) (M : dM) {o : Bool} (hf : f_la_isTold_27 a1 M = some o) : mO mX3_isTold 1 [.ref 27, .int a1] M (some (.int (bI o))) M := by
  refine y_ok (by decide +kernel) (Nat.le_of_ble_eq_true rfl) (L0 := [some (.ref 27), some (.int a1)]) rfl ?_
  have hk := mR_mQ (some (.int (bI o))) M
  generalize mQ _ _ = Q at hk ⊢
  unfold f_la_isTold_27 at hf
  refine y_aload_n (i := 0) (n := 1) ⟨dX3_isTold_0, rfl⟩ rfl ?_
  refine y_getR (n := 4) ⟨dX3_isTold_1, rfl⟩ kfX3_18 l_27 rfl r_27_3 ?_
  refine y_iload_n (i := 1) (n := 5) ⟨dX3_isTold_4, rfl⟩ rfl ?_
  obtain ⟨hg1, hf⟩ := g_s hf
  refine y_iaload (n := 6) ⟨dX3_isTold_5, rfl⟩ l_30 hg1 ?_
  refine y_aload_n (i := 0) (n := 7) ⟨dX3_isTold_6, rfl⟩ rfl ?_
  refine y_getR (n := 10) ⟨dX3_isTold_7, rfl⟩ kfX3_15 l_27 rfl r_27_2 ?_
  refine y_iload_n (i := 1) (n := 11) ⟨dX3_isTold_10, rfl⟩ rfl ?_
  refine y_iaload (n := 12) ⟨dX3_isTold_11, rfl⟩ l_29 hg1 ?_
  refine y_icmp_le (t := 19) (n := 15) ⟨dX3_isTold_12, rfl, rfl⟩ (fun (hc : (gI M 30 a1.toNatClampNeg) ≤ (gI M 29 a1.toNatClampNeg)) => ?_) (fun (hc : ¬ ((gI M 30 a1.toNatClampNeg) ≤ (gI M 29 a1.toNatClampNeg))) => ?_)
  · replace hf := i_t hc hf
    refine y_iconst (n := 20) (v := 0) ⟨dX3_isTold_19, rfl⟩ ki_0 ?_
    cases hf
    exact y_ireturn (n := 21) ⟨dX3_isTold_20, rfl⟩ rfl rfl hk
  · replace hf := i_f hc hf
    refine y_iconst (n := 16) (v := 1) ⟨dX3_isTold_15, rfl⟩ ki_1 ?_
    refine y_goto (t := 20) ⟨dX3_isTold_16, rfl, rfl⟩ ?_
    cases hf
    exact y_ireturn (n := 21) ⟨dX3_isTold_20, rfl⟩ rfl rfl hk
theorem c_la_isTold_27 (a1 : Int32) (M : dM) {o : Bool} {y : mz_M} {d : Nat} {Q : mz_P} {pc n i : Nat} {L : List (Option Value)} {st : List Value} (h : mz_d y.2.1 pc n 3 (.invokevirtual i)) (hl : mz_ml y.1.cls i yX3_isTold) (hf : f_la_isTold_27 a1 M = some o) (hd : 1 + 1 ≤ d) (hsm : (st.map (fun v => v.category)).sum ≤ 8) (hLr : mz_rL 133 L = true) (hSr : mz_rS 133 st = true) (kk : mW y d Q n L (.int (bI o) :: st) M) : mW y d Q pc L (.int a1 :: .ref 27 :: st) M :=
  y_callV kmX3_isTold kvX3_isTold l_27 (by decide +kernel) (by decide +kernel) h hl (ok_la_isTold_27 a1 M hf) (vs := [.int a1]) rfl rfl hd hsm hLr hSr kk
noncomputable def f_ju_isStopped (a1 : Int32) (a2 : Int32) (M : dM) : Option (Bool × dM) :=
  (f_la_valueOf_27_40 (12 + a1) (a2 * 17) M).bind fun q1 =>
  if q1.1 = 0 then
    some (false, q1.2)
  else
    some (true, q1.2)
theorem ok_ju_isStopped (a1 : Int32) (a2 : Int32) (M : dM) {o : (Bool × dM)} (hf : f_ju_isStopped a1 a2 M = some o) : mO mX2_isStopped 3 [.ref 39, .int a1, .int a2] M (some (.int (bI o.1))) o.2 := by
  refine y_ok (by decide +kernel) (Nat.le_of_ble_eq_true rfl) (L0 := [some (.ref 39), some (.int a1), some (.int a2)]) rfl ?_
  have hk := mR_mQ (some (.int (bI o.1))) o.2
  generalize mQ _ _ = Q at hk ⊢
  unfold f_ju_isStopped at hf
  refine y_aload_n (i := 0) (n := 1) ⟨dX2_isStopped_0, rfl⟩ rfl ?_
  refine y_getR (n := 4) ⟨dX2_isStopped_1, rfl⟩ kfX2_44 l_39 rfl r_39_3 ?_
  refine y_bipush (n := 6) (v := 12) ⟨dX2_isStopped_4, rfl⟩ kb_12 ?_
  refine y_iload_n (i := 1) (n := 7) ⟨dX2_isStopped_6, rfl⟩ rfl ?_
  refine y_iadd (n := 8) ⟨dX2_isStopped_7, rfl⟩ ?_
  refine y_aload_n (i := 0) (n := 9) ⟨dX2_isStopped_8, rfl⟩ rfl ?_
  refine y_getR (n := 12) ⟨dX2_isStopped_9, rfl⟩ kfX2_9 l_39 rfl r_39_4 ?_
  refine y_iload_n (i := 2) (n := 13) ⟨dX2_isStopped_12, rfl⟩ rfl ?_
  refine y_bipush (n := 15) (v := 17) ⟨dX2_isStopped_13, rfl⟩ kb_17 ?_
  refine y_imul (n := 16) ⟨dX2_isStopped_15, rfl⟩ ?_
  obtain ⟨q1, hv2, hf⟩ := b_s hf
  refine c_la_valueOf_27_40 (12 + a1) (a2 * 17) M (n := 19) ⟨dX2_isStopped_16, rfl⟩ klX2_138 hv2 (by decide) (Nat.le_of_ble_eq_true rfl) rfl rfl ?_
  refine y_if_eq (t := 26) (n := 22) ⟨dX2_isStopped_19, rfl, rfl⟩ (fun (hc : q1.1 = 0) => ?_) (fun (hc : ¬ (q1.1 = 0)) => ?_)
  · replace hf := i_t hc hf
    refine y_iconst (n := 27) (v := 0) ⟨dX2_isStopped_26, rfl⟩ ki_0 ?_
    cases hf
    exact y_ireturn (n := 28) ⟨dX2_isStopped_27, rfl⟩ rfl rfl hk
  · replace hf := i_f hc hf
    refine y_iconst (n := 23) (v := 1) ⟨dX2_isStopped_22, rfl⟩ ki_1 ?_
    refine y_goto (t := 27) ⟨dX2_isStopped_23, rfl, rfl⟩ ?_
    cases hf
    exact y_ireturn (n := 28) ⟨dX2_isStopped_27, rfl⟩ rfl rfl hk
theorem c_ju_isStopped (a1 : Int32) (a2 : Int32) (M : dM) {o : (Bool × dM)} {y : mz_M} {d : Nat} {Q : mz_P} {pc n i : Nat} {L : List (Option Value)} {st : List Value} (h : mz_d y.2.1 pc n 3 (.invokevirtual i)) (hl : mz_ml y.1.cls i yX2_isStopped) (hf : f_ju_isStopped a1 a2 M = some o) (hd : 3 + 1 ≤ d) (hsm : (st.map (fun v => v.category)).sum ≤ 8) (hLr : mz_rL 133 L = true) (hSr : mz_rS 133 st = true) (kk : mW y d Q n L (.int (bI o.1) :: st) o.2) : mW y d Q pc L (.int a2 :: .int a1 :: .ref 39 :: st) M :=
  y_callV kmX2_isStopped kvX2_isStopped l_39 (by decide +kernel) (by decide +kernel) h hl (ok_ju_isStopped a1 a2 M hf) (vs := [.int a1, .int a2]) rfl rfl hd hsm hLr hSr kk
noncomputable def f_ax_stops (a1 : Int32) (a2 : Int32) (M : dM) : Option (Int32 × dM) :=
  if (f_ax_within a1 8) = true then
    if (f_ax_within a2 (gI M 12 7)) = true then
      (f_la_isTold_27 (12 + a1) M).bind fun v1 =>
      if v1 = true then
        (f_ax_study 1 M).bind fun q3 =>
        (f_ju_isStopped a1 a2 q3).bind fun q5 =>
        if q5.1 = true then
          some (1, q5.2)
        else
          some (0, q5.2)
      else
        some ((-1), M)
    else
      some ((-1), M)
  else
    some ((-1), M)
theorem ok_ax_stops (a1 : Int32) (a2 : Int32) (M : dM) {o : (Int32 × dM)} (hf : f_ax_stops a1 a2 M = some o) : mO mX11_stops 6 [.ref 0, .int a1, .int a2] M (some (.int o.1)) o.2 := by
  refine y_ok (by decide +kernel) (Nat.le_of_ble_eq_true rfl) (L0 := [some (.ref 0), some (.int a1), some (.int a2)]) rfl ?_
  have hk := mR_mQ (some (.int o.1)) o.2
  generalize mQ _ _ = Q at hk ⊢
  unfold f_ax_stops at hf
  refine y_iload_n (i := 1) (n := 1) ⟨dX11_stops_0, rfl⟩ rfl ?_
  refine y_bipush (n := 3) (v := 8) ⟨dX11_stops_1, rfl⟩ kb_8 ?_
  refine c_ax_within a1 8 M (n := 6) ⟨dX11_stops_3, rfl⟩ klX11_91 rfl (by decide) (Nat.le_of_ble_eq_true rfl) rfl rfl ?_
  refine y_if_eq (t := 37) (n := 9) ⟨dX11_stops_6, rfl, rfl⟩ (fun h0 => ?_) (fun h0 => ?_)
  · have hc := bI_0 h0
    replace hf := i_f hc hf
    refine y_iconst (n := 38) (v := (-1)) ⟨dX11_stops_37, rfl⟩ ki_m1 ?_
    cases hf
    exact y_ireturn (n := 39) ⟨dX11_stops_38, rfl⟩ rfl rfl hk
  · have hc := bI_1 h0
    replace hf := i_t hc hf
    refine y_iload_n (i := 2) (n := 10) ⟨dX11_stops_9, rfl⟩ rfl ?_
    refine y_aload_n (i := 0) (n := 11) ⟨dX11_stops_10, rfl⟩ rfl ?_
    refine y_getR (n := 14) ⟨dX11_stops_11, rfl⟩ kfX11_26 l_0 rfl r_0_2 ?_
    refine y_getI (n := 17) ⟨dX11_stops_14, rfl⟩ kfX11_146 l_12 rfl ?_
    refine c_ax_within a2 (gI M 12 7) M (n := 20) ⟨dX11_stops_17, rfl⟩ klX11_91 rfl (by decide) (Nat.le_of_ble_eq_true rfl) rfl rfl ?_
    refine y_if_eq (t := 37) (n := 23) ⟨dX11_stops_20, rfl, rfl⟩ (fun h0 => ?_) (fun h0 => ?_)
    · have hc := bI_0 h0
      replace hf := i_f hc hf
      refine y_iconst (n := 38) (v := (-1)) ⟨dX11_stops_37, rfl⟩ ki_m1 ?_
      cases hf
      exact y_ireturn (n := 39) ⟨dX11_stops_38, rfl⟩ rfl rfl hk
    · have hc := bI_1 h0
      replace hf := i_t hc hf
      refine y_aload_n (i := 0) (n := 24) ⟨dX11_stops_23, rfl⟩ rfl ?_
      refine y_getR (n := 27) ⟨dX11_stops_24, rfl⟩ kfX11_40 l_0 rfl r_0_4 ?_
      refine y_bipush (n := 29) (v := 12) ⟨dX11_stops_27, rfl⟩ kb_12 ?_
      refine y_iload_n (i := 1) (n := 30) ⟨dX11_stops_29, rfl⟩ rfl ?_
      refine y_iadd (n := 31) ⟨dX11_stops_30, rfl⟩ ?_
      obtain ⟨v1, hv2, hf⟩ := b_s hf
      refine c_la_isTold_27 (12 + a1) M (n := 34) ⟨dX11_stops_31, rfl⟩ klX11_176 hv2 (by decide) (Nat.le_of_ble_eq_true rfl) rfl rfl ?_
      refine y_if_ne (t := 39) (n := 37) ⟨dX11_stops_34, rfl, rfl⟩ (fun h0 => ?_) (fun h0 => ?_)
      · have hc := bI_1 h0
        replace hf := i_t hc hf
        refine y_aload_n (i := 0) (n := 40) ⟨dX11_stops_39, rfl⟩ rfl ?_
        refine y_iconst (n := 41) (v := 1) ⟨dX11_stops_40, rfl⟩ ki_1 ?_
        obtain ⟨q3, hv4, hf⟩ := b_s hf
        refine c_ax_study 1 M (n := 44) ⟨dX11_stops_41, rfl⟩ klX11_156 hv4 (by decide) (Nat.le_of_ble_eq_true rfl) rfl rfl ?_
        refine y_aload_n (i := 0) (n := 45) ⟨dX11_stops_44, rfl⟩ rfl ?_
        refine y_getR (n := 48) ⟨dX11_stops_45, rfl⟩ kfX11_56 l_0 rfl r_0_6 ?_
        refine y_iload_n (i := 1) (n := 49) ⟨dX11_stops_48, rfl⟩ rfl ?_
        refine y_iload_n (i := 2) (n := 50) ⟨dX11_stops_49, rfl⟩ rfl ?_
        obtain ⟨q5, hv6, hf⟩ := b_s hf
        refine c_ju_isStopped a1 a2 q3 (n := 53) ⟨dX11_stops_50, rfl⟩ klX11_179 hv6 (by decide) (Nat.le_of_ble_eq_true rfl) rfl rfl ?_
        refine y_if_eq (t := 60) (n := 56) ⟨dX11_stops_53, rfl, rfl⟩ (fun h0 => ?_) (fun h0 => ?_)
        · have hc := bI_0 h0
          replace hf := i_f hc hf
          refine y_iconst (n := 61) (v := 0) ⟨dX11_stops_60, rfl⟩ ki_0 ?_
          cases hf
          exact y_ireturn (n := 62) ⟨dX11_stops_61, rfl⟩ rfl rfl hk
        · have hc := bI_1 h0
          replace hf := i_t hc hf
          refine y_iconst (n := 57) (v := 1) ⟨dX11_stops_56, rfl⟩ ki_1 ?_
          refine y_goto (t := 61) ⟨dX11_stops_57, rfl, rfl⟩ ?_
          cases hf
          exact y_ireturn (n := 62) ⟨dX11_stops_61, rfl⟩ rfl rfl hk
      · have hc := bI_0 h0
        replace hf := i_f hc hf
        refine y_iconst (n := 38) (v := (-1)) ⟨dX11_stops_37, rfl⟩ ki_m1 ?_
        cases hf
        exact y_ireturn (n := 39) ⟨dX11_stops_38, rfl⟩ rfl rfl hk
theorem c_ax_stops (a1 : Int32) (a2 : Int32) (M : dM) {o : (Int32 × dM)} {y : mz_M} {d : Nat} {Q : mz_P} {pc n i : Nat} {L : List (Option Value)} {st : List Value} (h : mz_d y.2.1 pc n 3 (.invokevirtual i)) (hl : mz_ml y.1.cls i yX11_stops) (hf : f_ax_stops a1 a2 M = some o) (hd : 6 + 1 ≤ d) (hsm : (st.map (fun v => v.category)).sum ≤ 8) (hLr : mz_rL 133 L = true) (hSr : mz_rS 133 st = true) (kk : mW y d Q n L (.int o.1 :: st) o.2) : mW y d Q pc L (.int a2 :: .int a1 :: .ref 0 :: st) M :=
  y_callV kmX11_stops kvX11_stops l_0 (by decide +kernel) (by decide +kernel) h hl (ok_ax_stops a1 a2 M hf) (vs := [.int a1, .int a2]) rfl rfl hd hsm hLr hSr kk
def K_ju_findsOf_4 (Q : mz_P) (x1 : Int32) (M : dM) : ((Int32 × Int32) ⊕ Int32) → Prop
  | .inl s => mW mX2_findsOf 1 Q 4 [some (.ref 39), some (.int x1), some (.int s.1), some (.int s.2)] [] M
  | .inr r => mR Q (some (.int r)) M
noncomputable def b_ju_findsOf_4_4 (x1 : Int32) (x2 : Int32) (x3 : Int32) (M : dM) : Option ((Int32 × Int32) ⊕ Int32) :=
  if (gI M 12 7) ≤ x3 then
    some (.inr x2)
  else
    if x1 = (-1) then
      some (.inl ((x2 + 1), (x3 + 1)))
    else
      gd (vp_in x3 40) <|
      if (gI M 17 x3.toNatClampNeg) = x1 then
        some (.inl ((x2 + 1), (x3 + 1)))
      else
        some (.inl (x2, (x3 + 1)))
noncomputable def l_ju_findsOf_4 (x1 : Int32) (x2 : Int32) (x3 : Int32) (M : dM) : Option Int32 := lpc (fun s => b_ju_findsOf_4_4 x1 s.1 s.2 M) (x2, x3)
noncomputable def f_ju_findsOf (a1 : Int32) (M : dM) : Option Int32 :=
  (l_ju_findsOf_4 a1 0 0 M).bind fun r4 => some r4
theorem w_b_ju_findsOf_4_4 (x1 : Int32) (x2 : Int32) (x3 : Int32)  (M : dM) {Q : mz_P} {o : ((Int32 × Int32) ⊕ Int32)} (hf : b_ju_findsOf_4_4 x1 x2 x3 M = some o) (hk : K_ju_findsOf_4 Q x1 M o) : mW mX2_findsOf 1 Q 4 [some (.ref 39), some (.int x1), some (.int x2), some (.int x3)] [] M := by
  unfold b_ju_findsOf_4_4 at hf
  refine y_iload_n (i := 3) (n := 5) ⟨dX2_findsOf_4, rfl⟩ rfl ?_
  refine y_aload_n (i := 0) (n := 6) ⟨dX2_findsOf_5, rfl⟩ rfl ?_
  refine y_getR (n := 9) ⟨dX2_findsOf_6, rfl⟩ kfX2_40 l_39 rfl r_39_2 ?_
  refine y_getI (n := 12) ⟨dX2_findsOf_9, rfl⟩ kfX2_51 l_12 rfl ?_
  refine y_icmp_ge (t := 42) (n := 15) ⟨dX2_findsOf_12, rfl, rfl⟩ (fun (hc : (gI M 12 7) ≤ x3) => ?_) (fun (hc : ¬ ((gI M 12 7) ≤ x3)) => ?_)
  · replace hf := i_t hc hf
    refine y_iload_n (i := 2) (n := 43) ⟨dX2_findsOf_42, rfl⟩ rfl ?_
    cases hf
    exact y_ireturn (n := 44) ⟨dX2_findsOf_43, rfl⟩ rfl rfl hk
  · replace hf := i_f hc hf
    refine y_iload_n (i := 1) (n := 16) ⟨dX2_findsOf_15, rfl⟩ rfl ?_
    refine y_iconst (n := 17) (v := (-1)) ⟨dX2_findsOf_16, rfl⟩ ki_m1 ?_
    refine y_icmp_eq (t := 33) (n := 20) ⟨dX2_findsOf_17, rfl, rfl⟩ (fun (hc : x1 = (-1)) => ?_) (fun (hc : ¬ (x1 = (-1))) => ?_)
    · replace hf := i_t hc hf
      refine y_iinc (i := 2) (n := 36) (b := (x2 + 1)) (L2 := [some (.ref 39), some (.int x1), some (.int (x2 + 1)), some (.int x3)]) ⟨dX2_findsOf_33, rfl⟩ rfl (by rw [ki_1]) (by decide) rfl rfl ?_
      refine y_iinc (i := 3) (n := 39) (b := (x3 + 1)) (L2 := [some (.ref 39), some (.int x1), some (.int (x2 + 1)), some (.int (x3 + 1))]) ⟨dX2_findsOf_36, rfl⟩ rfl (by rw [ki_1]) (by decide) rfl rfl ?_
      refine y_goto (t := 4) ⟨dX2_findsOf_39, rfl, rfl⟩ ?_
      cases hf
      exact y_wk (L2 := [some (.ref 39), some (.int x1), some (.int (x2 + 1)), some (.int (x3 + 1))]) ⟨Or.inr rfl, Or.inr rfl, Or.inr rfl, Or.inr rfl, trivial⟩ hk
    · replace hf := i_f hc hf
      refine y_aload_n (i := 0) (n := 21) ⟨dX2_findsOf_20, rfl⟩ rfl ?_
      refine y_getR (n := 24) ⟨dX2_findsOf_21, rfl⟩ kfX2_40 l_39 rfl r_39_2 ?_
      refine y_getR (n := 27) ⟨dX2_findsOf_24, rfl⟩ kfX2_65 l_12 rfl r_12_4 ?_
      refine y_iload_n (i := 3) (n := 28) ⟨dX2_findsOf_27, rfl⟩ rfl ?_
      obtain ⟨hg1, hf⟩ := g_s hf
      refine y_iaload (n := 29) ⟨dX2_findsOf_28, rfl⟩ l_17 hg1 ?_
      refine y_iload_n (i := 1) (n := 30) ⟨dX2_findsOf_29, rfl⟩ rfl ?_
      refine y_icmp_ne (t := 36) (n := 33) ⟨dX2_findsOf_30, rfl, rfl⟩ (fun (hc : ¬ ((gI M 17 x3.toNatClampNeg) = x1)) => ?_) (fun (hc : (gI M 17 x3.toNatClampNeg) = x1) => ?_)
      · replace hf := i_f hc hf
        refine y_iinc (i := 3) (n := 39) (b := (x3 + 1)) (L2 := [some (.ref 39), some (.int x1), some (.int x2), some (.int (x3 + 1))]) ⟨dX2_findsOf_36, rfl⟩ rfl (by rw [ki_1]) (by decide) rfl rfl ?_
        refine y_goto (t := 4) ⟨dX2_findsOf_39, rfl, rfl⟩ ?_
        cases hf
        exact y_wk (L2 := [some (.ref 39), some (.int x1), some (.int x2), some (.int (x3 + 1))]) ⟨Or.inr rfl, Or.inr rfl, Or.inr rfl, Or.inr rfl, trivial⟩ hk
      · replace hf := i_t hc hf
        refine y_iinc (i := 2) (n := 36) (b := (x2 + 1)) (L2 := [some (.ref 39), some (.int x1), some (.int (x2 + 1)), some (.int x3)]) ⟨dX2_findsOf_33, rfl⟩ rfl (by rw [ki_1]) (by decide) rfl rfl ?_
        refine y_iinc (i := 3) (n := 39) (b := (x3 + 1)) (L2 := [some (.ref 39), some (.int x1), some (.int (x2 + 1)), some (.int (x3 + 1))]) ⟨dX2_findsOf_36, rfl⟩ rfl (by rw [ki_1]) (by decide) rfl rfl ?_
        refine y_goto (t := 4) ⟨dX2_findsOf_39, rfl, rfl⟩ ?_
        cases hf
        exact y_wk (L2 := [some (.ref 39), some (.int x1), some (.int (x2 + 1)), some (.int (x3 + 1))]) ⟨Or.inr rfl, Or.inr rfl, Or.inr rfl, Or.inr rfl, trivial⟩ hk
theorem wl_ju_findsOf_4 (x1 : Int32) (x2 : Int32) (x3 : Int32) (M : dM) {Q : mz_P} {x : Int32} (hf : l_ju_findsOf_4 x1 x2 x3 M = some x) (hk : K_ju_findsOf_4 Q x1 M (.inr x)) : mW mX2_findsOf 1 Q 4 [some (.ref 39), some (.int x1), some (.int x2), some (.int x3)] [] M :=
  lpc_wp (σ := (Int32 × Int32)) (ξ := Int32) (s := (x2, x3)) (Wh := fun s => mW mX2_findsOf 1 Q 4 [some (.ref 39), some (.int x1), some (.int s.1), some (.int s.2)] [] M) (K := K_ju_findsOf_4 Q x1 M) (fun _ h => h) (fun s o hb hk => w_b_ju_findsOf_4_4 x1 s.1 s.2 M hb hk) hf hk
theorem ok_ju_findsOf (a1 : Int32) (M : dM) {o : Int32} (hf : f_ju_findsOf a1 M = some o) : mO mX2_findsOf 1 [.ref 39, .int a1] M (some (.int o)) M := by
  refine y_ok (by decide +kernel) (Nat.le_of_ble_eq_true rfl) (L0 := [some (.ref 39), some (.int a1), none, none]) rfl ?_
  have hk := mR_mQ (some (.int o)) M
  generalize mQ _ _ = Q at hk ⊢
  unfold f_ju_findsOf at hf
  refine y_iconst (n := 1) (v := 0) ⟨dX2_findsOf_0, rfl⟩ ki_0 ?_
  refine y_istore_n (i := 2) (n := 2) (L2 := [some (.ref 39), some (.int a1), some (.int 0), none]) ⟨dX2_findsOf_1, rfl⟩ (by decide) rfl rfl ?_
  refine y_iconst (n := 3) (v := 0) ⟨dX2_findsOf_2, rfl⟩ ki_0 ?_
  refine y_istore_n (i := 3) (n := 4) (L2 := [some (.ref 39), some (.int a1), some (.int 0), some (.int 0)]) ⟨dX2_findsOf_3, rfl⟩ (by decide) rfl rfl ?_
  obtain ⟨r4, hl3, hf⟩ := b_s hf
  cases hf
  exact y_wk (L2 := [some (.ref 39), some (.int a1), some (.int 0), some (.int 0)]) ⟨Or.inr rfl, Or.inr rfl, Or.inr rfl, Or.inr rfl, trivial⟩ (wl_ju_findsOf_4 a1 0 0 M hl3 hk)
theorem c_ju_findsOf (a1 : Int32) (M : dM) {o : Int32} {y : mz_M} {d : Nat} {Q : mz_P} {pc n i : Nat} {L : List (Option Value)} {st : List Value} (h : mz_d y.2.1 pc n 3 (.invokevirtual i)) (hl : mz_ml y.1.cls i yX2_findsOf) (hf : f_ju_findsOf a1 M = some o) (hd : 1 + 1 ≤ d) (hsm : (st.map (fun v => v.category)).sum ≤ 8) (hLr : mz_rL 133 L = true) (hSr : mz_rS 133 st = true) (kk : mW y d Q n L (.int o :: st) M) : mW y d Q pc L (.int a1 :: .ref 39 :: st) M :=
  y_callV kmX2_findsOf kvX2_findsOf l_39 (by decide +kernel) (by decide +kernel) h hl (ok_ju_findsOf a1 M hf) (vs := [.int a1]) rfl rfl hd hsm hLr hSr kk
noncomputable def t_ju_isOfSort_39 (y1 : Int32) (y2 : Int32) (M : dM) : Option Bool :=
  gd (vp_in (y1 + y2) 697) <|
  if (gI M 40 (y1 + y2).toNatClampNeg) ≤ 0 then
    some false
  else
    some true
noncomputable def f_ju_isOfSort (a1 : Int32) (a2 : Int32) (M : dM) : Option Bool :=
  if a2 = 2 then
    gd (vp_in a1 40) <|
    if (gI M 41 a1.toNatClampNeg) = 0 then
      some false
    else
      some true
  else
    if a2 = 0 then
      t_ju_isOfSort_39 (a1 * 17) 14 M
    else
      t_ju_isOfSort_39 (a1 * 17) 12 M
theorem w_t_ju_isOfSort_39 (y1 : Int32) (y2 : Int32) (M : dM) {Q : mz_P} {o : Bool} (hf : t_ju_isOfSort_39 y1 y2 M = some o) (hk : mR Q (some (.int (bI o))) M) : mW mX2_isOfSort 1 Q 39 [none, none, none] [.int y2, .int y1, .ref 40] M := by
  unfold t_ju_isOfSort_39 at hf
  refine y_iadd (n := 40) ⟨dX2_isOfSort_39, rfl⟩ ?_
  obtain ⟨hg1, hf⟩ := g_s hf
  refine y_iaload (n := 41) ⟨dX2_isOfSort_40, rfl⟩ l_40 hg1 ?_
  refine y_if_le (t := 48) (n := 44) ⟨dX2_isOfSort_41, rfl, rfl⟩ (fun (hc : (gI M 40 (y1 + y2).toNatClampNeg) ≤ 0) => ?_) (fun (hc : ¬ ((gI M 40 (y1 + y2).toNatClampNeg) ≤ 0)) => ?_)
  · replace hf := i_t hc hf
    refine y_iconst (n := 49) (v := 0) ⟨dX2_isOfSort_48, rfl⟩ ki_0 ?_
    cases hf
    exact y_ireturn (n := 50) ⟨dX2_isOfSort_49, rfl⟩ rfl rfl hk
  · replace hf := i_f hc hf
    refine y_iconst (n := 45) (v := 1) ⟨dX2_isOfSort_44, rfl⟩ ki_1 ?_
    refine y_goto (t := 49) ⟨dX2_isOfSort_45, rfl, rfl⟩ ?_
    cases hf
    exact y_ireturn (n := 50) ⟨dX2_isOfSort_49, rfl⟩ rfl rfl hk
theorem ok_ju_isOfSort (a1 : Int32) (a2 : Int32) (M : dM) {o : Bool} (hf : f_ju_isOfSort a1 a2 M = some o) : mO mX2_isOfSort 1 [.ref 39, .int a1, .int a2] M (some (.int (bI o))) M := by
  refine y_ok (by decide +kernel) (Nat.le_of_ble_eq_true rfl) (L0 := [some (.ref 39), some (.int a1), some (.int a2)]) rfl ?_
  have hk := mR_mQ (some (.int (bI o))) M
  generalize mQ _ _ = Q at hk ⊢
  unfold f_ju_isOfSort at hf
  refine y_iload_n (i := 2) (n := 1) ⟨dX2_isOfSort_0, rfl⟩ rfl ?_
  refine y_iconst (n := 2) (v := 2) ⟨dX2_isOfSort_1, rfl⟩ ki_2 ?_
  refine y_icmp_ne (t := 20) (n := 5) ⟨dX2_isOfSort_2, rfl, rfl⟩ (fun (hc : ¬ (a2 = 2)) => ?_) (fun (hc : a2 = 2) => ?_)
  · replace hf := i_f hc hf
    refine y_aload_n (i := 0) (n := 21) ⟨dX2_isOfSort_20, rfl⟩ rfl ?_
    refine y_getR (n := 24) ⟨dX2_isOfSort_21, rfl⟩ kfX2_9 l_39 rfl r_39_4 ?_
    refine y_iload_n (i := 1) (n := 25) ⟨dX2_isOfSort_24, rfl⟩ rfl ?_
    refine y_bipush (n := 27) (v := 17) ⟨dX2_isOfSort_25, rfl⟩ kb_17 ?_
    refine y_imul (n := 28) ⟨dX2_isOfSort_27, rfl⟩ ?_
    refine y_iload_n (i := 2) (n := 29) ⟨dX2_isOfSort_28, rfl⟩ rfl ?_
    refine y_if_ne (t := 37) (n := 32) ⟨dX2_isOfSort_29, rfl, rfl⟩ (fun (hc : ¬ (a2 = 0)) => ?_) (fun (hc : a2 = 0) => ?_)
    · replace hf := i_f hc hf
      refine y_bipush (n := 39) (v := 12) ⟨dX2_isOfSort_37, rfl⟩ kb_12 ?_
      exact y_wk (L2 := [none, none, none]) ⟨Or.inl rfl, Or.inl rfl, Or.inl rfl, trivial⟩ (w_t_ju_isOfSort_39 (a1 * 17) 12 M hf hk)
    · replace hf := i_t hc hf
      refine y_bipush (n := 34) (v := 14) ⟨dX2_isOfSort_32, rfl⟩ kb_14 ?_
      refine y_goto (t := 39) ⟨dX2_isOfSort_34, rfl, rfl⟩ ?_
      exact y_wk (L2 := [none, none, none]) ⟨Or.inl rfl, Or.inl rfl, Or.inl rfl, trivial⟩ (w_t_ju_isOfSort_39 (a1 * 17) 14 M hf hk)
  · replace hf := i_t hc hf
    refine y_aload_n (i := 0) (n := 6) ⟨dX2_isOfSort_5, rfl⟩ rfl ?_
    refine y_getR (n := 9) ⟨dX2_isOfSort_6, rfl⟩ kfX2_15 l_39 rfl r_39_5 ?_
    refine y_iload_n (i := 1) (n := 10) ⟨dX2_isOfSort_9, rfl⟩ rfl ?_
    obtain ⟨hg2, hf⟩ := g_s hf
    refine y_iaload (n := 11) ⟨dX2_isOfSort_10, rfl⟩ l_41 hg2 ?_
    refine y_if_eq (t := 18) (n := 14) ⟨dX2_isOfSort_11, rfl, rfl⟩ (fun (hc : (gI M 41 a1.toNatClampNeg) = 0) => ?_) (fun (hc : ¬ ((gI M 41 a1.toNatClampNeg) = 0)) => ?_)
    · replace hf := i_t hc hf
      refine y_iconst (n := 19) (v := 0) ⟨dX2_isOfSort_18, rfl⟩ ki_0 ?_
      cases hf
      exact y_ireturn (n := 20) ⟨dX2_isOfSort_19, rfl⟩ rfl rfl hk
    · replace hf := i_f hc hf
      refine y_iconst (n := 15) (v := 1) ⟨dX2_isOfSort_14, rfl⟩ ki_1 ?_
      refine y_goto (t := 19) ⟨dX2_isOfSort_15, rfl, rfl⟩ ?_
      cases hf
      exact y_ireturn (n := 20) ⟨dX2_isOfSort_19, rfl⟩ rfl rfl hk
theorem c_ju_isOfSort (a1 : Int32) (a2 : Int32) (M : dM) {o : Bool} {y : mz_M} {d : Nat} {Q : mz_P} {pc n i : Nat} {L : List (Option Value)} {st : List Value} (h : mz_d y.2.1 pc n 3 (.invokevirtual i)) (hl : mz_ml y.1.cls i yX2_isOfSort) (hf : f_ju_isOfSort a1 a2 M = some o) (hd : 1 + 1 ≤ d) (hsm : (st.map (fun v => v.category)).sum ≤ 8) (hLr : mz_rL 133 L = true) (hSr : mz_rS 133 st = true) (kk : mW y d Q n L (.int (bI o) :: st) M) : mW y d Q pc L (.int a2 :: .int a1 :: .ref 39 :: st) M :=
  y_callV kmX2_isOfSort kvX2_isOfSort l_39 (by decide +kernel) (by decide +kernel) h hl (ok_ju_isOfSort a1 a2 M hf) (vs := [.int a1, .int a2]) rfl rfl hd hsm hLr hSr kk
def K_ju_findsOfSort_5 (Q : mz_P) (x1 : Int32) (x2 : Int32) (M : dM) : ((Int32 × Int32) ⊕ Int32) → Prop
  | .inl s => mW mX2_findsOfSort 2 Q 5 [some (.ref 39), some (.int x1), some (.int x2), some (.int s.1), some (.int s.2)] [] M
  | .inr r => mR Q (some (.int r)) M
noncomputable def b_ju_findsOfSort_5_36 (x1 : Int32) (x2 : Int32) (x3 : Int32) (x4 : Int32) (M : dM) : Option ((Int32 × Int32) ⊕ Int32) :=
  (f_ju_isOfSort x4 x2 M).bind fun v1 =>
  if v1 = true then
    some (.inl ((x3 + 1), (x4 + 1)))
  else
    some (.inl (x3, (x4 + 1)))
noncomputable def b_ju_findsOfSort_5_5 (x1 : Int32) (x2 : Int32) (x3 : Int32) (x4 : Int32) (M : dM) : Option ((Int32 × Int32) ⊕ Int32) :=
  if (gI M 12 7) ≤ x4 then
    some (.inr x3)
  else
    if x1 = (-1) then
      b_ju_findsOfSort_5_36 x1 x2 x3 x4 M
    else
      gd (vp_in x4 40) <|
      if (gI M 17 x4.toNatClampNeg) = x1 then
        b_ju_findsOfSort_5_36 x1 x2 x3 x4 M
      else
        some (.inl (x3, (x4 + 1)))
noncomputable def l_ju_findsOfSort_5 (x1 : Int32) (x2 : Int32) (x3 : Int32) (x4 : Int32) (M : dM) : Option Int32 := lpc (fun s => b_ju_findsOfSort_5_5 x1 x2 s.1 s.2 M) (x3, x4)
noncomputable def f_ju_findsOfSort (a1 : Int32) (a2 : Int32) (M : dM) : Option Int32 :=
  (l_ju_findsOfSort_5 a1 a2 0 0 M).bind fun r6 => some r6
theorem w_b_ju_findsOfSort_5_36 (x1 : Int32) (x2 : Int32) (x3 : Int32) (x4 : Int32)  (M : dM) {Q : mz_P} {o : ((Int32 × Int32) ⊕ Int32)} (hf : b_ju_findsOfSort_5_36 x1 x2 x3 x4 M = some o) (hk : K_ju_findsOfSort_5 Q x1 x2 M o) : mW mX2_findsOfSort 2 Q 36 [some (.ref 39), some (.int x1), some (.int x2), some (.int x3), some (.int x4)] [] M := by
  unfold b_ju_findsOfSort_5_36 at hf
  refine y_aload_n (i := 0) (n := 37) ⟨dX2_findsOfSort_36, rfl⟩ rfl ?_
  refine y_iload (i := 4) (n := 39) ⟨dX2_findsOfSort_37, rfl⟩ rfl ?_
  refine y_iload_n (i := 2) (n := 40) ⟨dX2_findsOfSort_39, rfl⟩ rfl ?_
  obtain ⟨v1, hv2, hf⟩ := b_s hf
  refine c_ju_isOfSort x4 x2 M (n := 43) ⟨dX2_findsOfSort_40, rfl⟩ klX2_142 hv2 (by decide) (Nat.le_of_ble_eq_true rfl) rfl rfl ?_
  refine y_if_eq (t := 49) (n := 46) ⟨dX2_findsOfSort_43, rfl, rfl⟩ (fun h0 => ?_) (fun h0 => ?_)
  · have hc := bI_0 h0
    replace hf := i_f hc hf
    refine y_iinc (i := 4) (n := 52) (b := (x4 + 1)) (L2 := [some (.ref 39), some (.int x1), some (.int x2), some (.int x3), some (.int (x4 + 1))]) ⟨dX2_findsOfSort_49, rfl⟩ rfl (by rw [ki_1]) (by decide) rfl rfl ?_
    refine y_goto (t := 5) ⟨dX2_findsOfSort_52, rfl, rfl⟩ ?_
    cases hf
    exact y_wk (L2 := [some (.ref 39), some (.int x1), some (.int x2), some (.int x3), some (.int (x4 + 1))]) ⟨Or.inr rfl, Or.inr rfl, Or.inr rfl, Or.inr rfl, Or.inr rfl, trivial⟩ hk
  · have hc := bI_1 h0
    replace hf := i_t hc hf
    refine y_iinc (i := 3) (n := 49) (b := (x3 + 1)) (L2 := [some (.ref 39), some (.int x1), some (.int x2), some (.int (x3 + 1)), some (.int x4)]) ⟨dX2_findsOfSort_46, rfl⟩ rfl (by rw [ki_1]) (by decide) rfl rfl ?_
    refine y_iinc (i := 4) (n := 52) (b := (x4 + 1)) (L2 := [some (.ref 39), some (.int x1), some (.int x2), some (.int (x3 + 1)), some (.int (x4 + 1))]) ⟨dX2_findsOfSort_49, rfl⟩ rfl (by rw [ki_1]) (by decide) rfl rfl ?_
    refine y_goto (t := 5) ⟨dX2_findsOfSort_52, rfl, rfl⟩ ?_
    cases hf
    exact y_wk (L2 := [some (.ref 39), some (.int x1), some (.int x2), some (.int (x3 + 1)), some (.int (x4 + 1))]) ⟨Or.inr rfl, Or.inr rfl, Or.inr rfl, Or.inr rfl, Or.inr rfl, trivial⟩ hk
theorem w_b_ju_findsOfSort_5_5 (x1 : Int32) (x2 : Int32) (x3 : Int32) (x4 : Int32)  (M : dM) {Q : mz_P} {o : ((Int32 × Int32) ⊕ Int32)} (hf : b_ju_findsOfSort_5_5 x1 x2 x3 x4 M = some o) (hk : K_ju_findsOfSort_5 Q x1 x2 M o) : mW mX2_findsOfSort 2 Q 5 [some (.ref 39), some (.int x1), some (.int x2), some (.int x3), some (.int x4)] [] M := by
  unfold b_ju_findsOfSort_5_5 at hf
  refine y_iload (i := 4) (n := 7) ⟨dX2_findsOfSort_5, rfl⟩ rfl ?_
  refine y_aload_n (i := 0) (n := 8) ⟨dX2_findsOfSort_7, rfl⟩ rfl ?_
  refine y_getR (n := 11) ⟨dX2_findsOfSort_8, rfl⟩ kfX2_40 l_39 rfl r_39_2 ?_
  refine y_getI (n := 14) ⟨dX2_findsOfSort_11, rfl⟩ kfX2_51 l_12 rfl ?_
  refine y_icmp_ge (t := 55) (n := 17) ⟨dX2_findsOfSort_14, rfl, rfl⟩ (fun (hc : (gI M 12 7) ≤ x4) => ?_) (fun (hc : ¬ ((gI M 12 7) ≤ x4)) => ?_)
  · replace hf := i_t hc hf
    refine y_iload_n (i := 3) (n := 56) ⟨dX2_findsOfSort_55, rfl⟩ rfl ?_
    cases hf
    exact y_ireturn (n := 57) ⟨dX2_findsOfSort_56, rfl⟩ rfl rfl hk
  · replace hf := i_f hc hf
    refine y_iload_n (i := 1) (n := 18) ⟨dX2_findsOfSort_17, rfl⟩ rfl ?_
    refine y_iconst (n := 19) (v := (-1)) ⟨dX2_findsOfSort_18, rfl⟩ ki_m1 ?_
    refine y_icmp_eq (t := 36) (n := 22) ⟨dX2_findsOfSort_19, rfl, rfl⟩ (fun (hc : x1 = (-1)) => ?_) (fun (hc : ¬ (x1 = (-1))) => ?_)
    · replace hf := i_t hc hf
      exact y_wk (L2 := [some (.ref 39), some (.int x1), some (.int x2), some (.int x3), some (.int x4)]) ⟨Or.inr rfl, Or.inr rfl, Or.inr rfl, Or.inr rfl, Or.inr rfl, trivial⟩ (w_b_ju_findsOfSort_5_36 x1 x2 x3 x4 M hf hk)
    · replace hf := i_f hc hf
      refine y_aload_n (i := 0) (n := 23) ⟨dX2_findsOfSort_22, rfl⟩ rfl ?_
      refine y_getR (n := 26) ⟨dX2_findsOfSort_23, rfl⟩ kfX2_40 l_39 rfl r_39_2 ?_
      refine y_getR (n := 29) ⟨dX2_findsOfSort_26, rfl⟩ kfX2_65 l_12 rfl r_12_4 ?_
      refine y_iload (i := 4) (n := 31) ⟨dX2_findsOfSort_29, rfl⟩ rfl ?_
      obtain ⟨hg3, hf⟩ := g_s hf
      refine y_iaload (n := 32) ⟨dX2_findsOfSort_31, rfl⟩ l_17 hg3 ?_
      refine y_iload_n (i := 1) (n := 33) ⟨dX2_findsOfSort_32, rfl⟩ rfl ?_
      refine y_icmp_ne (t := 49) (n := 36) ⟨dX2_findsOfSort_33, rfl, rfl⟩ (fun (hc : ¬ ((gI M 17 x4.toNatClampNeg) = x1)) => ?_) (fun (hc : (gI M 17 x4.toNatClampNeg) = x1) => ?_)
      · replace hf := i_f hc hf
        refine y_iinc (i := 4) (n := 52) (b := (x4 + 1)) (L2 := [some (.ref 39), some (.int x1), some (.int x2), some (.int x3), some (.int (x4 + 1))]) ⟨dX2_findsOfSort_49, rfl⟩ rfl (by rw [ki_1]) (by decide) rfl rfl ?_
        refine y_goto (t := 5) ⟨dX2_findsOfSort_52, rfl, rfl⟩ ?_
        cases hf
        exact y_wk (L2 := [some (.ref 39), some (.int x1), some (.int x2), some (.int x3), some (.int (x4 + 1))]) ⟨Or.inr rfl, Or.inr rfl, Or.inr rfl, Or.inr rfl, Or.inr rfl, trivial⟩ hk
      · replace hf := i_t hc hf
        exact y_wk (L2 := [some (.ref 39), some (.int x1), some (.int x2), some (.int x3), some (.int x4)]) ⟨Or.inr rfl, Or.inr rfl, Or.inr rfl, Or.inr rfl, Or.inr rfl, trivial⟩ (w_b_ju_findsOfSort_5_36 x1 x2 x3 x4 M hf hk)
theorem wl_ju_findsOfSort_5 (x1 : Int32) (x2 : Int32) (x3 : Int32) (x4 : Int32) (M : dM) {Q : mz_P} {x : Int32} (hf : l_ju_findsOfSort_5 x1 x2 x3 x4 M = some x) (hk : K_ju_findsOfSort_5 Q x1 x2 M (.inr x)) : mW mX2_findsOfSort 2 Q 5 [some (.ref 39), some (.int x1), some (.int x2), some (.int x3), some (.int x4)] [] M :=
  lpc_wp (σ := (Int32 × Int32)) (ξ := Int32) (s := (x3, x4)) (Wh := fun s => mW mX2_findsOfSort 2 Q 5 [some (.ref 39), some (.int x1), some (.int x2), some (.int s.1), some (.int s.2)] [] M) (K := K_ju_findsOfSort_5 Q x1 x2 M) (fun _ h => h) (fun s o hb hk => w_b_ju_findsOfSort_5_5 x1 x2 s.1 s.2 M hb hk) hf hk
theorem ok_ju_findsOfSort (a1 : Int32) (a2 : Int32) (M : dM) {o : Int32} (hf : f_ju_findsOfSort a1 a2 M = some o) : mO mX2_findsOfSort 2 [.ref 39, .int a1, .int a2] M (some (.int o)) M := by
  refine y_ok (by decide +kernel) (Nat.le_of_ble_eq_true rfl) (L0 := [some (.ref 39), some (.int a1), some (.int a2), none, none]) rfl ?_
  have hk := mR_mQ (some (.int o)) M
  generalize mQ _ _ = Q at hk ⊢
  unfold f_ju_findsOfSort at hf
  refine y_iconst (n := 1) (v := 0) ⟨dX2_findsOfSort_0, rfl⟩ ki_0 ?_
  refine y_istore_n (i := 3) (n := 2) (L2 := [some (.ref 39), some (.int a1), some (.int a2), some (.int 0), none]) ⟨dX2_findsOfSort_1, rfl⟩ (by decide) rfl rfl ?_
  refine y_iconst (n := 3) (v := 0) ⟨dX2_findsOfSort_2, rfl⟩ ki_0 ?_
  refine y_istore (i := 4) (n := 5) (L2 := [some (.ref 39), some (.int a1), some (.int a2), some (.int 0), some (.int 0)]) ⟨dX2_findsOfSort_3, rfl⟩ (by decide) rfl rfl ?_
  obtain ⟨r6, hl5, hf⟩ := b_s hf
  cases hf
  exact y_wk (L2 := [some (.ref 39), some (.int a1), some (.int a2), some (.int 0), some (.int 0)]) ⟨Or.inr rfl, Or.inr rfl, Or.inr rfl, Or.inr rfl, Or.inr rfl, trivial⟩ (wl_ju_findsOfSort_5 a1 a2 0 0 M hl5 hk)
theorem c_ju_findsOfSort (a1 : Int32) (a2 : Int32) (M : dM) {o : Int32} {y : mz_M} {d : Nat} {Q : mz_P} {pc n i : Nat} {L : List (Option Value)} {st : List Value} (h : mz_d y.2.1 pc n 3 (.invokevirtual i)) (hl : mz_ml y.1.cls i yX2_findsOfSort) (hf : f_ju_findsOfSort a1 a2 M = some o) (hd : 2 + 1 ≤ d) (hsm : (st.map (fun v => v.category)).sum ≤ 8) (hLr : mz_rL 133 L = true) (hSr : mz_rS 133 st = true) (kk : mW y d Q n L (.int o :: st) M) : mW y d Q pc L (.int a2 :: .int a1 :: .ref 39 :: st) M :=
  y_callV kmX2_findsOfSort kvX2_findsOfSort l_39 (by decide +kernel) (by decide +kernel) h hl (ok_ju_findsOfSort a1 a2 M hf) (vs := [.int a1, .int a2]) rfl rfl hd hsm hLr hSr kk
noncomputable def t_ax_row_42 (x2 : Int32) (x3 : Int32) (y0 : Int32) (M : dM) : Option (Int32 × dM) :=
  if (x3 - x3 / 2 * 2) = 0 then
    (f_ju_findsOf y0 M).bind fun v5 =>
    some (v5, M)
  else
    (f_ju_findsOfSort y0 x2 M).bind fun v3 =>
    some (v3, M)
noncomputable def f_ax_row (a1 : Int32) (a2 : Int32) (a3 : Int32) (M : dM) : Option (Int32 × dM) :=
  if (f_ax_within a1 10) = true then
    if (f_ax_within a2 3) = true then
      if (f_ax_within a3 4) = true then
        (f_ax_study 1 M).bind fun q1 =>
        if 2 ≤ a3 then
          t_ax_row_42 a2 a3 (-1) q1
        else
          t_ax_row_42 a2 a3 a1 q1
      else
        some ((-1), M)
    else
      some ((-1), M)
  else
    some ((-1), M)
theorem w_t_ax_row_42 (x2 : Int32) (x3 : Int32) (y0 : Int32) (M : dM) {Q : mz_P} {o : (Int32 × dM)} (hf : t_ax_row_42 x2 x3 y0 M = some o) (hk : mR Q (some (.int o.1)) o.2) : mW mX11_row 6 Q 42 [some (.ref 0), none, some (.int x2), some (.int x3), none] [.int y0] M := by
  unfold t_ax_row_42 at hf
  refine y_istore (i := 4) (n := 44) (L2 := [some (.ref 0), none, some (.int x2), some (.int x3), some (.int y0)]) ⟨dX11_row_42, rfl⟩ (by decide) rfl rfl ?_
  refine y_iload_n (i := 3) (n := 45) ⟨dX11_row_44, rfl⟩ rfl ?_
  refine y_iconst (n := 46) (v := 2) ⟨dX11_row_45, rfl⟩ ki_2 ?_
  refine y_irem (n := 47) ⟨dX11_row_46, rfl⟩ (by decide) ?_
  refine y_if_ne (t := 62) (n := 50) ⟨dX11_row_47, rfl, rfl⟩ (fun (hc : ¬ ((x3 - x3 / 2 * 2) = 0)) => ?_) (fun (hc : (x3 - x3 / 2 * 2) = 0) => ?_)
  · replace hf := i_f hc hf
    refine y_aload_n (i := 0) (n := 63) ⟨dX11_row_62, rfl⟩ rfl ?_
    refine y_getR (n := 66) ⟨dX11_row_63, rfl⟩ kfX11_56 l_0 rfl r_0_6 ?_
    refine y_iload (i := 4) (n := 68) ⟨dX11_row_66, rfl⟩ rfl ?_
    refine y_iload_n (i := 2) (n := 69) ⟨dX11_row_68, rfl⟩ rfl ?_
    obtain ⟨v3, hv4, hf⟩ := b_s hf
    refine c_ju_findsOfSort y0 x2 M (n := 72) ⟨dX11_row_69, rfl⟩ klX11_186 hv4 (by decide) (Nat.le_of_ble_eq_true rfl) rfl rfl ?_
    cases hf
    exact y_ireturn (n := 73) ⟨dX11_row_72, rfl⟩ rfl rfl hk
  · replace hf := i_t hc hf
    refine y_aload_n (i := 0) (n := 51) ⟨dX11_row_50, rfl⟩ rfl ?_
    refine y_getR (n := 54) ⟨dX11_row_51, rfl⟩ kfX11_56 l_0 rfl r_0_6 ?_
    refine y_iload (i := 4) (n := 56) ⟨dX11_row_54, rfl⟩ rfl ?_
    obtain ⟨v5, hv6, hf⟩ := b_s hf
    refine c_ju_findsOf y0 M (n := 59) ⟨dX11_row_56, rfl⟩ klX11_182 hv6 (by decide) (Nat.le_of_ble_eq_true rfl) rfl rfl ?_
    refine y_goto (t := 72) ⟨dX11_row_59, rfl, rfl⟩ ?_
    cases hf
    exact y_ireturn (n := 73) ⟨dX11_row_72, rfl⟩ rfl rfl hk
theorem ok_ax_row (a1 : Int32) (a2 : Int32) (a3 : Int32) (M : dM) {o : (Int32 × dM)} (hf : f_ax_row a1 a2 a3 M = some o) : mO mX11_row 6 [.ref 0, .int a1, .int a2, .int a3] M (some (.int o.1)) o.2 := by
  refine y_ok (by decide +kernel) (Nat.le_of_ble_eq_true rfl) (L0 := [some (.ref 0), some (.int a1), some (.int a2), some (.int a3), none]) rfl ?_
  have hk := mR_mQ (some (.int o.1)) o.2
  generalize mQ _ _ = Q at hk ⊢
  unfold f_ax_row at hf
  refine y_iload_n (i := 1) (n := 1) ⟨dX11_row_0, rfl⟩ rfl ?_
  refine y_bipush (n := 3) (v := 10) ⟨dX11_row_1, rfl⟩ kb_10 ?_
  refine c_ax_within a1 10 M (n := 6) ⟨dX11_row_3, rfl⟩ klX11_91 rfl (by decide) (Nat.le_of_ble_eq_true rfl) rfl rfl ?_
  refine y_if_eq (t := 25) (n := 9) ⟨dX11_row_6, rfl, rfl⟩ (fun h0 => ?_) (fun h0 => ?_)
  · have hc := bI_0 h0
    replace hf := i_f hc hf
    refine y_iconst (n := 26) (v := (-1)) ⟨dX11_row_25, rfl⟩ ki_m1 ?_
    cases hf
    exact y_ireturn (n := 27) ⟨dX11_row_26, rfl⟩ rfl rfl hk
  · have hc := bI_1 h0
    replace hf := i_t hc hf
    refine y_iload_n (i := 2) (n := 10) ⟨dX11_row_9, rfl⟩ rfl ?_
    refine y_iconst (n := 11) (v := 3) ⟨dX11_row_10, rfl⟩ ki_3 ?_
    refine c_ax_within a2 3 M (n := 14) ⟨dX11_row_11, rfl⟩ klX11_91 rfl (by decide) (Nat.le_of_ble_eq_true rfl) rfl rfl ?_
    refine y_if_eq (t := 25) (n := 17) ⟨dX11_row_14, rfl, rfl⟩ (fun h0 => ?_) (fun h0 => ?_)
    · have hc := bI_0 h0
      replace hf := i_f hc hf
      refine y_iconst (n := 26) (v := (-1)) ⟨dX11_row_25, rfl⟩ ki_m1 ?_
      cases hf
      exact y_ireturn (n := 27) ⟨dX11_row_26, rfl⟩ rfl rfl hk
    · have hc := bI_1 h0
      replace hf := i_t hc hf
      refine y_iload_n (i := 3) (n := 18) ⟨dX11_row_17, rfl⟩ rfl ?_
      refine y_iconst (n := 19) (v := 4) ⟨dX11_row_18, rfl⟩ ki_4 ?_
      refine c_ax_within a3 4 M (n := 22) ⟨dX11_row_19, rfl⟩ klX11_91 rfl (by decide) (Nat.le_of_ble_eq_true rfl) rfl rfl ?_
      refine y_if_ne (t := 27) (n := 25) ⟨dX11_row_22, rfl, rfl⟩ (fun h0 => ?_) (fun h0 => ?_)
      · have hc := bI_1 h0
        replace hf := i_t hc hf
        refine y_aload_n (i := 0) (n := 28) ⟨dX11_row_27, rfl⟩ rfl ?_
        refine y_iconst (n := 29) (v := 1) ⟨dX11_row_28, rfl⟩ ki_1 ?_
        obtain ⟨q1, hv2, hf⟩ := b_s hf
        refine c_ax_study 1 M (n := 32) ⟨dX11_row_29, rfl⟩ klX11_156 hv2 (by decide) (Nat.le_of_ble_eq_true rfl) rfl rfl ?_
        refine y_iload_n (i := 3) (n := 33) ⟨dX11_row_32, rfl⟩ rfl ?_
        refine y_iconst (n := 34) (v := 2) ⟨dX11_row_33, rfl⟩ ki_2 ?_
        refine y_icmp_ge (t := 41) (n := 37) ⟨dX11_row_34, rfl, rfl⟩ (fun (hc : 2 ≤ a3) => ?_) (fun (hc : ¬ (2 ≤ a3)) => ?_)
        · replace hf := i_t hc hf
          refine y_iconst (n := 42) (v := (-1)) ⟨dX11_row_41, rfl⟩ ki_m1 ?_
          exact y_wk (L2 := [some (.ref 0), none, some (.int a2), some (.int a3), none]) ⟨Or.inr rfl, Or.inl rfl, Or.inr rfl, Or.inr rfl, Or.inr rfl, trivial⟩ (w_t_ax_row_42 a2 a3 (-1) q1 hf hk)
        · replace hf := i_f hc hf
          refine y_iload_n (i := 1) (n := 38) ⟨dX11_row_37, rfl⟩ rfl ?_
          refine y_goto (t := 42) ⟨dX11_row_38, rfl, rfl⟩ ?_
          exact y_wk (L2 := [some (.ref 0), none, some (.int a2), some (.int a3), none]) ⟨Or.inr rfl, Or.inl rfl, Or.inr rfl, Or.inr rfl, Or.inr rfl, trivial⟩ (w_t_ax_row_42 a2 a3 a1 q1 hf hk)
      · have hc := bI_0 h0
        replace hf := i_f hc hf
        refine y_iconst (n := 26) (v := (-1)) ⟨dX11_row_25, rfl⟩ ki_m1 ?_
        cases hf
        exact y_ireturn (n := 27) ⟨dX11_row_26, rfl⟩ rfl rfl hk
theorem c_ax_row (a1 : Int32) (a2 : Int32) (a3 : Int32) (M : dM) {o : (Int32 × dM)} {y : mz_M} {d : Nat} {Q : mz_P} {pc n i : Nat} {L : List (Option Value)} {st : List Value} (h : mz_d y.2.1 pc n 3 (.invokevirtual i)) (hl : mz_ml y.1.cls i yX11_row) (hf : f_ax_row a1 a2 a3 M = some o) (hd : 6 + 1 ≤ d) (hsm : (st.map (fun v => v.category)).sum ≤ 8) (hLr : mz_rL 133 L = true) (hSr : mz_rS 133 st = true) (kk : mW y d Q n L (.int o.1 :: st) o.2) : mW y d Q pc L (.int a3 :: .int a2 :: .int a1 :: .ref 0 :: st) M :=
  y_callV kmX11_row kvX11_row l_0 (by decide +kernel) (by decide +kernel) h hl (ok_ax_row a1 a2 a3 M hf) (vs := [.int a1, .int a2, .int a3]) rfl rfl hd hsm hLr hSr kk
def K_ch_choose_5 (Q : mz_P) (x0 : Int32) (x1 : Int32) (M : dM) : ((Int64 × Int32) ⊕ Int64) → Prop
  | .inl s => mW mX0_choose 1 Q 5 [some (.int x0), some (.int x1), some (.long s.1), none, some (.int s.2)] [] M
  | .inr t => mW mX0_choose 1 Q 31 [some (.int x0), some (.int x1), some (.long t), none, none] [] M
noncomputable def b_ch_choose_5_5 (x0 : Int32) (x1 : Int32) (x2 : Int64) (x4 : Int32) : Option ((Int64 × Int32) ⊕ Int64) :=
  if x1 < x4 then
    some (.inr x2)
  else
    gd (¬ x4.toInt64 = 0) <|
    some (.inl (((x2 * ((x0 - x1) + x4).toInt64) / x4.toInt64), (x4 + 1)))
noncomputable def l_ch_choose_5 (x0 : Int32) (x1 : Int32) (x2 : Int64) (x4 : Int32) : Option Int64 := lpc (fun s => b_ch_choose_5_5 x0 x1 s.1 s.2) (x2, x4)
noncomputable def f_ch_choose (a1 : Int32) (a2 : Int32) : Option Int64 :=
  (l_ch_choose_5 a1 a2 1 1).bind fun t2 =>
    if a2 < 0 then
      some 0
    else
      if a2 ≤ a1 then
        some t2
      else
        some 0
theorem w_b_ch_choose_5_5 (x0 : Int32) (x1 : Int32) (x2 : Int64) (x4 : Int32)  (M : dM) {Q : mz_P} {o : ((Int64 × Int32) ⊕ Int64)} (hf : b_ch_choose_5_5 x0 x1 x2 x4 = some o) (hk : K_ch_choose_5 Q x0 x1 M o) : mW mX0_choose 1 Q 5 [some (.int x0), some (.int x1), some (.long x2), none, some (.int x4)] [] M := by
  unfold b_ch_choose_5_5 at hf
  refine y_iload (i := 4) (n := 7) ⟨dX0_choose_5, rfl⟩ rfl ?_
  refine y_iload_n (i := 1) (n := 8) ⟨dX0_choose_7, rfl⟩ rfl ?_
  refine y_icmp_gt (t := 31) (n := 11) ⟨dX0_choose_8, rfl, rfl⟩ (fun (hc : x1 < x4) => ?_) (fun (hc : ¬ (x1 < x4)) => ?_)
  · replace hf := i_t hc hf
    cases hf
    exact y_wk (L2 := [some (.int x0), some (.int x1), some (.long x2), none, none]) ⟨Or.inr rfl, Or.inr rfl, Or.inr rfl, Or.inr rfl, Or.inl rfl, trivial⟩ hk
  · replace hf := i_f hc hf
    refine y_lload_n (i := 2) (n := 12) ⟨dX0_choose_11, rfl⟩ rfl ?_
    refine y_iload_n (i := 0) (n := 13) ⟨dX0_choose_12, rfl⟩ rfl ?_
    refine y_iload_n (i := 1) (n := 14) ⟨dX0_choose_13, rfl⟩ rfl ?_
    refine y_isub (n := 15) ⟨dX0_choose_14, rfl⟩ ?_
    refine y_iload (i := 4) (n := 17) ⟨dX0_choose_15, rfl⟩ rfl ?_
    refine y_iadd (n := 18) ⟨dX0_choose_17, rfl⟩ ?_
    refine y_i2l (n := 19) ⟨dX0_choose_18, rfl⟩ ?_
    refine y_lmul (n := 20) ⟨dX0_choose_19, rfl⟩ ?_
    refine y_iload (i := 4) (n := 22) ⟨dX0_choose_20, rfl⟩ rfl ?_
    refine y_i2l (n := 23) ⟨dX0_choose_22, rfl⟩ ?_
    obtain ⟨hg1, hf⟩ := g_s hf
    refine y_ldiv (n := 24) ⟨dX0_choose_23, rfl⟩ hg1 ?_
    refine y_lstore_n (i := 2) (n := 25) (L2 := [some (.int x0), some (.int x1), some (.long ((x2 * ((x0 - x1) + x4).toInt64) / x4.toInt64)), none, some (.int x4)]) ⟨dX0_choose_24, rfl⟩ (by decide) rfl rfl ?_
    refine y_iinc (i := 4) (n := 28) (b := (x4 + 1)) (L2 := [some (.int x0), some (.int x1), some (.long ((x2 * ((x0 - x1) + x4).toInt64) / x4.toInt64)), none, some (.int (x4 + 1))]) ⟨dX0_choose_25, rfl⟩ rfl (by rw [ki_1]) (by decide) rfl rfl ?_
    refine y_goto (t := 5) ⟨dX0_choose_28, rfl, rfl⟩ ?_
    cases hf
    exact y_wk (L2 := [some (.int x0), some (.int x1), some (.long ((x2 * ((x0 - x1) + x4).toInt64) / x4.toInt64)), none, some (.int (x4 + 1))]) ⟨Or.inr rfl, Or.inr rfl, Or.inr rfl, Or.inr rfl, Or.inr rfl, trivial⟩ hk
theorem wl_ch_choose_5 (x0 : Int32) (x1 : Int32) (x2 : Int64) (x4 : Int32) (M : dM) {Q : mz_P} {x : Int64} (hf : l_ch_choose_5 x0 x1 x2 x4 = some x) (hk : K_ch_choose_5 Q x0 x1 M (.inr x)) : mW mX0_choose 1 Q 5 [some (.int x0), some (.int x1), some (.long x2), none, some (.int x4)] [] M :=
  lpc_wp (σ := (Int64 × Int32)) (ξ := Int64) (s := (x2, x4)) (Wh := fun s => mW mX0_choose 1 Q 5 [some (.int x0), some (.int x1), some (.long s.1), none, some (.int s.2)] [] M) (K := K_ch_choose_5 Q x0 x1 M) (fun _ h => h) (fun s o hb hk => w_b_ch_choose_5_5 x0 x1 s.1 s.2 M hb hk) hf hk
theorem ok_ch_choose (a1 : Int32) (a2 : Int32) (M : dM) {o : Int64} (hf : f_ch_choose a1 a2 = some o) : mO mX0_choose 1 [.int a1, .int a2] M (some (.long o)) M := by
  refine y_ok (by decide +kernel) (Nat.le_of_ble_eq_true rfl) (L0 := [some (.int a1), some (.int a2), none, none, none]) rfl ?_
  have hk := mR_mQ (some (.long o)) M
  generalize mQ _ _ = Q at hk ⊢
  unfold f_ch_choose at hf
  refine y_lconst (n := 1) (v := 1) ⟨dX0_choose_0, rfl⟩ kl_1 ?_
  refine y_lstore_n (i := 2) (n := 2) (L2 := [some (.int a1), some (.int a2), some (.long 1), none, none]) ⟨dX0_choose_1, rfl⟩ (by decide) rfl rfl ?_
  refine y_iconst (n := 3) (v := 1) ⟨dX0_choose_2, rfl⟩ ki_1 ?_
  refine y_istore (i := 4) (n := 5) (L2 := [some (.int a1), some (.int a2), some (.long 1), none, some (.int 1)]) ⟨dX0_choose_3, rfl⟩ (by decide) rfl rfl ?_
  obtain ⟨t2, hl3, hf⟩ := b_s hf
  refine y_wk (L2 := [some (.int a1), some (.int a2), some (.long 1), none, some (.int 1)]) ⟨Or.inr rfl, Or.inr rfl, Or.inr rfl, Or.inr rfl, Or.inr rfl, trivial⟩ (wl_ch_choose_5 a1 a2 1 1 M hl3 ?_)
  show mW mX0_choose 1 Q 31 [some (.int a1), some (.int a2), some (.long t2), none, none] [] M
  refine y_iload_n (i := 1) (n := 32) ⟨dX0_choose_31, rfl⟩ rfl ?_
  refine y_if_lt (t := 40) (n := 35) ⟨dX0_choose_32, rfl, rfl⟩ (fun (hc : a2 < 0) => ?_) (fun (hc : ¬ (a2 < 0)) => ?_)
  · replace hf := i_t hc hf
    refine y_lconst (n := 41) (v := 0) ⟨dX0_choose_40, rfl⟩ kl_0 ?_
    refine y_goto (t := 45) ⟨dX0_choose_41, rfl, rfl⟩ ?_
    cases hf
    exact y_lreturn (n := 46) ⟨dX0_choose_45, rfl⟩ rfl hk
  · replace hf := i_f hc hf
    refine y_iload_n (i := 1) (n := 36) ⟨dX0_choose_35, rfl⟩ rfl ?_
    refine y_iload_n (i := 0) (n := 37) ⟨dX0_choose_36, rfl⟩ rfl ?_
    refine y_icmp_le (t := 44) (n := 40) ⟨dX0_choose_37, rfl, rfl⟩ (fun (hc : a2 ≤ a1) => ?_) (fun (hc : ¬ (a2 ≤ a1)) => ?_)
    · replace hf := i_t hc hf
      refine y_lload_n (i := 2) (n := 45) ⟨dX0_choose_44, rfl⟩ rfl ?_
      cases hf
      exact y_lreturn (n := 46) ⟨dX0_choose_45, rfl⟩ rfl hk
    · replace hf := i_f hc hf
      refine y_lconst (n := 41) (v := 0) ⟨dX0_choose_40, rfl⟩ kl_0 ?_
      refine y_goto (t := 45) ⟨dX0_choose_41, rfl, rfl⟩ ?_
      cases hf
      exact y_lreturn (n := 46) ⟨dX0_choose_45, rfl⟩ rfl hk
theorem c_ch_choose (a1 : Int32) (a2 : Int32) (M : dM) {o : Int64} {y : mz_M} {d : Nat} {Q : mz_P} {pc n i : Nat} {L : List (Option Value)} {st : List Value} (h : mz_d y.2.1 pc n 3 (.invokestatic i)) (hl : mz_ml y.1.cls i yX0_choose) (hf : f_ch_choose a1 a2 = some o) (hd : 1 + 1 ≤ d) (hsm : (st.map (fun v => v.category)).sum ≤ 8) (hLr : mz_rL 133 L = true) (hSr : mz_rS 133 st = true) (kk : mW y d Q n L (.long o :: st) M) : mW y d Q pc L (.int a2 :: .int a1 :: st) M :=
  y_callS kmX0_choose ksX0_choose h hl (ok_ch_choose a1 a2 M hf) (vs := [.int a1, .int a2]) rfl rfl hd hsm hLr hSr kk
def K_ch_drawsWith_6 (Q : mz_P) (x0 : Int32) (x1 : Int32) (x2 : Int32) (M : dM) : ((Int64 × Int32) ⊕ Int64) → Prop
  | .inl s => mW mX0_drawsWith 2 Q 6 [some (.int x0), some (.int x1), some (.int x2), none, some (.long s.1), none, some (.int s.2)] [] M
  | .inr r => mR Q (some (.long r)) M
noncomputable def b_ch_drawsWith_6_6 (x0 : Int32) (x1 : Int32) (x2 : Int32) (x4 : Int64) (x6 : Int32) : Option ((Int64 × Int32) ⊕ Int64) :=
  if (if x1 < x2 then x1 else x2) < x6 then
    some (.inr x4)
  else
    (f_ch_choose x1 x6).bind fun v1 =>
    (f_ch_choose (x0 - x1) (x2 - x6)).bind fun v3 =>
    some (.inl ((x4 + (v1 * v3)), (x6 + 1)))
noncomputable def l_ch_drawsWith_6 (x0 : Int32) (x1 : Int32) (x2 : Int32) (x4 : Int64) (x6 : Int32) : Option Int64 := lpc (fun s => b_ch_drawsWith_6_6 x0 x1 x2 s.1 s.2) (x4, x6)
noncomputable def f_ch_drawsWith (a1 : Int32) (a2 : Int32) (a3 : Int32) (a4 : Int32) : Option Int64 :=
  (l_ch_drawsWith_6 a1 a2 a3 0 a4).bind fun r7 => some r7
theorem w_b_ch_drawsWith_6_6 (x0 : Int32) (x1 : Int32) (x2 : Int32) (x4 : Int64) (x6 : Int32)  (M : dM) {Q : mz_P} {o : ((Int64 × Int32) ⊕ Int64)} (hf : b_ch_drawsWith_6_6 x0 x1 x2 x4 x6 = some o) (hk : K_ch_drawsWith_6 Q x0 x1 x2 M o) : mW mX0_drawsWith 2 Q 6 [some (.int x0), some (.int x1), some (.int x2), none, some (.long x4), none, some (.int x6)] [] M := by
  unfold b_ch_drawsWith_6_6 at hf
  refine y_iload (i := 6) (n := 8) ⟨dX0_drawsWith_6, rfl⟩ rfl ?_
  refine y_iload_n (i := 2) (n := 9) ⟨dX0_drawsWith_8, rfl⟩ rfl ?_
  refine y_iload_n (i := 1) (n := 10) ⟨dX0_drawsWith_9, rfl⟩ rfl ?_
  refine y_mmin kcmin ksmin kiMath (n := 13) ⟨dX0_drawsWith_10, rfl⟩ (mz_in 1075 (by decide +kernel) (by decide +kernel)) (by decide) (Nat.le_of_ble_eq_true rfl) ?_
  refine y_icmp_gt (t := 44) (n := 16) ⟨dX0_drawsWith_13, rfl, rfl⟩ (fun (hc : (if x1 < x2 then x1 else x2) < x6) => ?_) (fun (hc : ¬ ((if x1 < x2 then x1 else x2) < x6)) => ?_)
  · replace hf := i_t hc hf
    refine y_lload (i := 4) (n := 46) ⟨dX0_drawsWith_44, rfl⟩ rfl ?_
    cases hf
    exact y_lreturn (n := 47) ⟨dX0_drawsWith_46, rfl⟩ rfl hk
  · replace hf := i_f hc hf
    refine y_lload (i := 4) (n := 18) ⟨dX0_drawsWith_16, rfl⟩ rfl ?_
    refine y_iload_n (i := 1) (n := 19) ⟨dX0_drawsWith_18, rfl⟩ rfl ?_
    refine y_iload (i := 6) (n := 21) ⟨dX0_drawsWith_19, rfl⟩ rfl ?_
    obtain ⟨v1, hv2, hf⟩ := b_s hf
    refine c_ch_choose x1 x6 M (n := 24) ⟨dX0_drawsWith_21, rfl⟩ klX0_13 hv2 (by decide) (Nat.le_of_ble_eq_true rfl) rfl rfl ?_
    refine y_iload_n (i := 0) (n := 25) ⟨dX0_drawsWith_24, rfl⟩ rfl ?_
    refine y_iload_n (i := 1) (n := 26) ⟨dX0_drawsWith_25, rfl⟩ rfl ?_
    refine y_isub (n := 27) ⟨dX0_drawsWith_26, rfl⟩ ?_
    refine y_iload_n (i := 2) (n := 28) ⟨dX0_drawsWith_27, rfl⟩ rfl ?_
    refine y_iload (i := 6) (n := 30) ⟨dX0_drawsWith_28, rfl⟩ rfl ?_
    refine y_isub (n := 31) ⟨dX0_drawsWith_30, rfl⟩ ?_
    obtain ⟨v3, hv4, hf⟩ := b_s hf
    refine c_ch_choose (x0 - x1) (x2 - x6) M (n := 34) ⟨dX0_drawsWith_31, rfl⟩ klX0_13 hv4 (by decide) (Nat.le_of_ble_eq_true rfl) rfl rfl ?_
    refine y_lmul (n := 35) ⟨dX0_drawsWith_34, rfl⟩ ?_
    refine y_ladd (n := 36) ⟨dX0_drawsWith_35, rfl⟩ ?_
    refine y_lstore (i := 4) (n := 38) (L2 := [some (.int x0), some (.int x1), some (.int x2), none, some (.long (x4 + (v1 * v3))), none, some (.int x6)]) ⟨dX0_drawsWith_36, rfl⟩ (by decide) rfl rfl ?_
    refine y_iinc (i := 6) (n := 41) (b := (x6 + 1)) (L2 := [some (.int x0), some (.int x1), some (.int x2), none, some (.long (x4 + (v1 * v3))), none, some (.int (x6 + 1))]) ⟨dX0_drawsWith_38, rfl⟩ rfl (by rw [ki_1]) (by decide) rfl rfl ?_
    refine y_goto (t := 6) ⟨dX0_drawsWith_41, rfl, rfl⟩ ?_
    cases hf
    exact y_wk (L2 := [some (.int x0), some (.int x1), some (.int x2), none, some (.long (x4 + (v1 * v3))), none, some (.int (x6 + 1))]) ⟨Or.inr rfl, Or.inr rfl, Or.inr rfl, Or.inr rfl, Or.inr rfl, Or.inr rfl, Or.inr rfl, trivial⟩ hk
theorem wl_ch_drawsWith_6 (x0 : Int32) (x1 : Int32) (x2 : Int32) (x4 : Int64) (x6 : Int32) (M : dM) {Q : mz_P} {x : Int64} (hf : l_ch_drawsWith_6 x0 x1 x2 x4 x6 = some x) (hk : K_ch_drawsWith_6 Q x0 x1 x2 M (.inr x)) : mW mX0_drawsWith 2 Q 6 [some (.int x0), some (.int x1), some (.int x2), none, some (.long x4), none, some (.int x6)] [] M :=
  lpc_wp (σ := (Int64 × Int32)) (ξ := Int64) (s := (x4, x6)) (Wh := fun s => mW mX0_drawsWith 2 Q 6 [some (.int x0), some (.int x1), some (.int x2), none, some (.long s.1), none, some (.int s.2)] [] M) (K := K_ch_drawsWith_6 Q x0 x1 x2 M) (fun _ h => h) (fun s o hb hk => w_b_ch_drawsWith_6_6 x0 x1 x2 s.1 s.2 M hb hk) hf hk
theorem ok_ch_drawsWith (a1 : Int32) (a2 : Int32) (a3 : Int32) (a4 : Int32) (M : dM) {o : Int64} (hf : f_ch_drawsWith a1 a2 a3 a4 = some o) : mO mX0_drawsWith 2 [.int a1, .int a2, .int a3, .int a4] M (some (.long o)) M := by
  refine y_ok (by decide +kernel) (Nat.le_of_ble_eq_true rfl) (L0 := [some (.int a1), some (.int a2), some (.int a3), some (.int a4), none, none, none]) rfl ?_
  have hk := mR_mQ (some (.long o)) M
  generalize mQ _ _ = Q at hk ⊢
  unfold f_ch_drawsWith at hf
  refine y_lconst (n := 1) (v := 0) ⟨dX0_drawsWith_0, rfl⟩ kl_0 ?_
  refine y_lstore (i := 4) (n := 3) (L2 := [some (.int a1), some (.int a2), some (.int a3), some (.int a4), some (.long 0), none, none]) ⟨dX0_drawsWith_1, rfl⟩ (by decide) rfl rfl ?_
  refine y_iload_n (i := 3) (n := 4) ⟨dX0_drawsWith_3, rfl⟩ rfl ?_
  refine y_istore (i := 6) (n := 6) (L2 := [some (.int a1), some (.int a2), some (.int a3), some (.int a4), some (.long 0), none, some (.int a4)]) ⟨dX0_drawsWith_4, rfl⟩ (by decide) rfl rfl ?_
  obtain ⟨r7, hl6, hf⟩ := b_s hf
  cases hf
  exact y_wk (L2 := [some (.int a1), some (.int a2), some (.int a3), none, some (.long 0), none, some (.int a4)]) ⟨Or.inr rfl, Or.inr rfl, Or.inr rfl, Or.inl rfl, Or.inr rfl, Or.inr rfl, Or.inr rfl, trivial⟩ (wl_ch_drawsWith_6 a1 a2 a3 0 a4 M hl6 hk)
theorem c_ch_drawsWith (a1 : Int32) (a2 : Int32) (a3 : Int32) (a4 : Int32) (M : dM) {o : Int64} {y : mz_M} {d : Nat} {Q : mz_P} {pc n i : Nat} {L : List (Option Value)} {st : List Value} (h : mz_d y.2.1 pc n 3 (.invokestatic i)) (hl : mz_ml y.1.cls i yX0_drawsWith) (hf : f_ch_drawsWith a1 a2 a3 a4 = some o) (hd : 2 + 1 ≤ d) (hsm : (st.map (fun v => v.category)).sum ≤ 8) (hLr : mz_rL 133 L = true) (hSr : mz_rS 133 st = true) (kk : mW y d Q n L (.long o :: st) M) : mW y d Q pc L (.int a4 :: .int a3 :: .int a2 :: .int a1 :: st) M :=
  y_callS kmX0_drawsWith ksX0_drawsWith h hl (ok_ch_drawsWith a1 a2 a3 a4 M hf) (vs := [.int a1, .int a2, .int a3, .int a4]) rfl rfl hd hsm hLr hSr kk
def K_ch_lowest_9 (Q : mz_P) (x0 : Int64) (x2 : Int64) (x4 : Int32) (M : dM) : ((Int64 × Int64 × Int32) ⊕ Int64) → Prop
  | .inl s => mW mX0_lowest 1 Q 9 [some (.long x0), none, some (.long x2), none, some (.int x4), some (.long s.1), none, some (.long s.2.1), none, some (.int s.2.2), none, none] [] M
  | .inr t => mW mX0_lowest 1 Q 45 [some (.long x0), none, some (.long x2), none, some (.int x4), some (.long t), none, none, none, none, none, none] [] M
noncomputable def b_ch_lowest_9_9 (x0 : Int64) (x2 : Int64) (x4 : Int32) (x5 : Int64) (x7 : Int64) (x9 : Int32) : Option ((Int64 × Int64 × Int32) ⊕ Int64) :=
  if 200 ≤ x9 then
    some (.inr x5)
  else
    if x7 = 0 then
      some (.inr x5)
    else
      gd (¬ x7 = 0) <|
      some (.inl (x7, (x5 - x5 / x7 * x7), (x9 + 1)))
noncomputable def l_ch_lowest_9 (x0 : Int64) (x2 : Int64) (x4 : Int32) (x5 : Int64) (x7 : Int64) (x9 : Int32) : Option Int64 := lpc (fun s => b_ch_lowest_9_9 x0 x2 x4 s.1 s.2.1 s.2.2) (x5, x7, x9)
noncomputable def t_ch_lowest_55 (x5 : Int64) (y0 : Int64) : Option Int64 :=
  if x5 = 0 then
    some y0
  else
    gd (¬ x5 = 0) <|
    some (y0 / x5)
noncomputable def t_ch_lowest_45 (x0 : Int64) (x2 : Int64) (x4 : Int32) (x5 : Int64) : Option Int64 :=
  if x4 = 0 then
    t_ch_lowest_55 x5 x0
  else
    t_ch_lowest_55 x5 x2
noncomputable def f_ch_lowest (a1 : Int64) (a2 : Int64) (a3 : Int32) : Option Int64 :=
  (l_ch_lowest_9 a1 a2 a3 a2 a1 0).bind fun t2 =>
    t_ch_lowest_45 a1 a2 a3 t2
theorem w_b_ch_lowest_9_9 (x0 : Int64) (x2 : Int64) (x4 : Int32) (x5 : Int64) (x7 : Int64) (x9 : Int32)  (M : dM) {Q : mz_P} {o : ((Int64 × Int64 × Int32) ⊕ Int64)} (hf : b_ch_lowest_9_9 x0 x2 x4 x5 x7 x9 = some o) (hk : K_ch_lowest_9 Q x0 x2 x4 M o) : mW mX0_lowest 1 Q 9 [some (.long x0), none, some (.long x2), none, some (.int x4), some (.long x5), none, some (.long x7), none, some (.int x9), none, none] [] M := by
  unfold b_ch_lowest_9_9 at hf
  refine y_iload (i := 9) (n := 11) ⟨dX0_lowest_9, rfl⟩ rfl ?_
  refine y_sipush (n := 14) (v := 200) ⟨dX0_lowest_11, rfl⟩ ks_200 ?_
  refine y_icmp_ge (t := 45) (n := 17) ⟨dX0_lowest_14, rfl, rfl⟩ (fun (hc : 200 ≤ x9) => ?_) (fun (hc : ¬ (200 ≤ x9)) => ?_)
  · replace hf := i_t hc hf
    cases hf
    exact y_wk (L2 := [some (.long x0), none, some (.long x2), none, some (.int x4), some (.long x5), none, none, none, none, none, none]) ⟨Or.inr rfl, Or.inr rfl, Or.inr rfl, Or.inr rfl, Or.inr rfl, Or.inr rfl, Or.inr rfl, Or.inl rfl, Or.inr rfl, Or.inl rfl, Or.inr rfl, Or.inr rfl, trivial⟩ hk
  · replace hf := i_f hc hf
    refine y_lload (i := 7) (n := 19) ⟨dX0_lowest_17, rfl⟩ rfl ?_
    refine y_lconst (n := 20) (v := 0) ⟨dX0_lowest_19, rfl⟩ kl_0 ?_
    refine y_lcmp (n := 21) ⟨dX0_lowest_20, rfl⟩ ?_
    refine y_if_eq (t := 45) (n := 24) ⟨dX0_lowest_21, rfl, rfl⟩ (fun h0 => ?_) (fun h0 => ?_)
    · have hc : x7 = 0 := (lc_eq _ _).mp h0
      replace hf := i_t hc hf
      cases hf
      exact y_wk (L2 := [some (.long x0), none, some (.long x2), none, some (.int x4), some (.long x5), none, none, none, none, none, none]) ⟨Or.inr rfl, Or.inr rfl, Or.inr rfl, Or.inr rfl, Or.inr rfl, Or.inr rfl, Or.inr rfl, Or.inl rfl, Or.inr rfl, Or.inl rfl, Or.inr rfl, Or.inr rfl, trivial⟩ hk
    · have hc : ¬ (x7 = 0) := fun e => h0 ((lc_eq _ _).mpr e)
      replace hf := i_f hc hf
      refine y_lload (i := 5) (n := 26) ⟨dX0_lowest_24, rfl⟩ rfl ?_
      refine y_lload (i := 7) (n := 28) ⟨dX0_lowest_26, rfl⟩ rfl ?_
      obtain ⟨hg1, hf⟩ := g_s hf
      refine y_lrem (n := 29) ⟨dX0_lowest_28, rfl⟩ hg1 ?_
      refine y_lstore (i := 10) (n := 31) (L2 := [some (.long x0), none, some (.long x2), none, some (.int x4), some (.long x5), none, some (.long x7), none, some (.int x9), some (.long (x5 - x5 / x7 * x7)), none]) ⟨dX0_lowest_29, rfl⟩ (by decide) rfl rfl ?_
      refine y_lload (i := 7) (n := 33) ⟨dX0_lowest_31, rfl⟩ rfl ?_
      refine y_lstore (i := 5) (n := 35) (L2 := [some (.long x0), none, some (.long x2), none, some (.int x4), some (.long x7), none, some (.long x7), none, some (.int x9), some (.long (x5 - x5 / x7 * x7)), none]) ⟨dX0_lowest_33, rfl⟩ (by decide) rfl rfl ?_
      refine y_lload (i := 10) (n := 37) ⟨dX0_lowest_35, rfl⟩ rfl ?_
      refine y_lstore (i := 7) (n := 39) (L2 := [some (.long x0), none, some (.long x2), none, some (.int x4), some (.long x7), none, some (.long (x5 - x5 / x7 * x7)), none, some (.int x9), some (.long (x5 - x5 / x7 * x7)), none]) ⟨dX0_lowest_37, rfl⟩ (by decide) rfl rfl ?_
      refine y_iinc (i := 9) (n := 42) (b := (x9 + 1)) (L2 := [some (.long x0), none, some (.long x2), none, some (.int x4), some (.long x7), none, some (.long (x5 - x5 / x7 * x7)), none, some (.int (x9 + 1)), some (.long (x5 - x5 / x7 * x7)), none]) ⟨dX0_lowest_39, rfl⟩ rfl (by rw [ki_1]) (by decide) rfl rfl ?_
      refine y_goto (t := 9) ⟨dX0_lowest_42, rfl, rfl⟩ ?_
      cases hf
      exact y_wk (L2 := [some (.long x0), none, some (.long x2), none, some (.int x4), some (.long x7), none, some (.long (x5 - x5 / x7 * x7)), none, some (.int (x9 + 1)), none, none]) ⟨Or.inr rfl, Or.inr rfl, Or.inr rfl, Or.inr rfl, Or.inr rfl, Or.inr rfl, Or.inr rfl, Or.inr rfl, Or.inr rfl, Or.inr rfl, Or.inl rfl, Or.inr rfl, trivial⟩ hk
theorem wl_ch_lowest_9 (x0 : Int64) (x2 : Int64) (x4 : Int32) (x5 : Int64) (x7 : Int64) (x9 : Int32) (M : dM) {Q : mz_P} {x : Int64} (hf : l_ch_lowest_9 x0 x2 x4 x5 x7 x9 = some x) (hk : K_ch_lowest_9 Q x0 x2 x4 M (.inr x)) : mW mX0_lowest 1 Q 9 [some (.long x0), none, some (.long x2), none, some (.int x4), some (.long x5), none, some (.long x7), none, some (.int x9), none, none] [] M :=
  lpc_wp (σ := (Int64 × Int64 × Int32)) (ξ := Int64) (s := (x5, x7, x9)) (Wh := fun s => mW mX0_lowest 1 Q 9 [some (.long x0), none, some (.long x2), none, some (.int x4), some (.long s.1), none, some (.long s.2.1), none, some (.int s.2.2), none, none] [] M) (K := K_ch_lowest_9 Q x0 x2 x4 M) (fun _ h => h) (fun s o hb hk => w_b_ch_lowest_9_9 x0 x2 x4 s.1 s.2.1 s.2.2 M hb hk) hf hk
theorem w_t_ch_lowest_55 (x5 : Int64) (y0 : Int64) (M : dM) {Q : mz_P} {o : Int64} (hf : t_ch_lowest_55 x5 y0 = some o) (hk : mR Q (some (.long o)) M) : mW mX0_lowest 1 Q 55 [none, none, none, none, none, some (.long x5), none, none, none, none, none, none] [.long y0] M := by
  unfold t_ch_lowest_55 at hf
  refine y_lstore (i := 9) (n := 57) (L2 := [none, none, none, none, none, some (.long x5), none, none, none, some (.long y0), none, none]) ⟨dX0_lowest_55, rfl⟩ (by decide) rfl rfl ?_
  refine y_lload (i := 5) (n := 59) ⟨dX0_lowest_57, rfl⟩ rfl ?_
  refine y_lconst (n := 60) (v := 0) ⟨dX0_lowest_59, rfl⟩ kl_0 ?_
  refine y_lcmp (n := 61) ⟨dX0_lowest_60, rfl⟩ ?_
  refine y_if_ne (t := 69) (n := 64) ⟨dX0_lowest_61, rfl, rfl⟩ (fun h0 => ?_) (fun h0 => ?_)
  · have hc : ¬ (x5 = 0) := fun e => h0 ((lc_eq _ _).mpr e)
    replace hf := i_f hc hf
    refine y_lload (i := 9) (n := 71) ⟨dX0_lowest_69, rfl⟩ rfl ?_
    refine y_lload (i := 5) (n := 73) ⟨dX0_lowest_71, rfl⟩ rfl ?_
    obtain ⟨hg5, hf⟩ := g_s hf
    refine y_ldiv (n := 74) ⟨dX0_lowest_73, rfl⟩ hg5 ?_
    cases hf
    exact y_lreturn (n := 75) ⟨dX0_lowest_74, rfl⟩ rfl hk
  · have hc : x5 = 0 := (lc_eq _ _).mp h0
    replace hf := i_t hc hf
    refine y_lload (i := 9) (n := 66) ⟨dX0_lowest_64, rfl⟩ rfl ?_
    refine y_goto (t := 74) ⟨dX0_lowest_66, rfl, rfl⟩ ?_
    cases hf
    exact y_lreturn (n := 75) ⟨dX0_lowest_74, rfl⟩ rfl hk
theorem w_t_ch_lowest_45 (x0 : Int64) (x2 : Int64) (x4 : Int32) (x5 : Int64) (M : dM) {Q : mz_P} {o : Int64} (hf : t_ch_lowest_45 x0 x2 x4 x5 = some o) (hk : mR Q (some (.long o)) M) : mW mX0_lowest 1 Q 45 [some (.long x0), none, some (.long x2), none, some (.int x4), some (.long x5), none, none, none, none, none, none] [] M := by
  unfold t_ch_lowest_45 at hf
  refine y_iload (i := 4) (n := 47) ⟨dX0_lowest_45, rfl⟩ rfl ?_
  refine y_if_ne (t := 54) (n := 50) ⟨dX0_lowest_47, rfl, rfl⟩ (fun (hc : ¬ (x4 = 0)) => ?_) (fun (hc : x4 = 0) => ?_)
  · replace hf := i_f hc hf
    refine y_lload_n (i := 2) (n := 55) ⟨dX0_lowest_54, rfl⟩ rfl ?_
    exact y_wk (L2 := [none, none, none, none, none, some (.long x5), none, none, none, none, none, none]) ⟨Or.inl rfl, Or.inr rfl, Or.inl rfl, Or.inr rfl, Or.inl rfl, Or.inr rfl, Or.inr rfl, Or.inr rfl, Or.inr rfl, Or.inr rfl, Or.inr rfl, Or.inr rfl, trivial⟩ (w_t_ch_lowest_55 x5 x2 M hf hk)
  · replace hf := i_t hc hf
    refine y_lload_n (i := 0) (n := 51) ⟨dX0_lowest_50, rfl⟩ rfl ?_
    refine y_goto (t := 55) ⟨dX0_lowest_51, rfl, rfl⟩ ?_
    exact y_wk (L2 := [none, none, none, none, none, some (.long x5), none, none, none, none, none, none]) ⟨Or.inl rfl, Or.inr rfl, Or.inl rfl, Or.inr rfl, Or.inl rfl, Or.inr rfl, Or.inr rfl, Or.inr rfl, Or.inr rfl, Or.inr rfl, Or.inr rfl, Or.inr rfl, trivial⟩ (w_t_ch_lowest_55 x5 x0 M hf hk)
theorem ok_ch_lowest (a1 : Int64) (a2 : Int64) (a3 : Int32) (M : dM) {o : Int64} (hf : f_ch_lowest a1 a2 a3 = some o) : mO mX0_lowest 1 [.long a1, .long a2, .int a3] M (some (.long o)) M := by
  refine y_ok (by decide +kernel) (Nat.le_of_ble_eq_true rfl) (L0 := [some (.long a1), none, some (.long a2), none, some (.int a3), none, none, none, none, none, none, none]) rfl ?_
  have hk := mR_mQ (some (.long o)) M
  generalize mQ _ _ = Q at hk ⊢
  unfold f_ch_lowest at hf
  refine y_lload_n (i := 2) (n := 1) ⟨dX0_lowest_0, rfl⟩ rfl ?_
  refine y_lstore (i := 5) (n := 3) (L2 := [some (.long a1), none, some (.long a2), none, some (.int a3), some (.long a2), none, none, none, none, none, none]) ⟨dX0_lowest_1, rfl⟩ (by decide) rfl rfl ?_
  refine y_lload_n (i := 0) (n := 4) ⟨dX0_lowest_3, rfl⟩ rfl ?_
  refine y_lstore (i := 7) (n := 6) (L2 := [some (.long a1), none, some (.long a2), none, some (.int a3), some (.long a2), none, some (.long a1), none, none, none, none]) ⟨dX0_lowest_4, rfl⟩ (by decide) rfl rfl ?_
  refine y_iconst (n := 7) (v := 0) ⟨dX0_lowest_6, rfl⟩ ki_0 ?_
  refine y_istore (i := 9) (n := 9) (L2 := [some (.long a1), none, some (.long a2), none, some (.int a3), some (.long a2), none, some (.long a1), none, some (.int 0), none, none]) ⟨dX0_lowest_7, rfl⟩ (by decide) rfl rfl ?_
  obtain ⟨t2, hl3, hf⟩ := b_s hf
  refine y_wk (L2 := [some (.long a1), none, some (.long a2), none, some (.int a3), some (.long a2), none, some (.long a1), none, some (.int 0), none, none]) ⟨Or.inr rfl, Or.inr rfl, Or.inr rfl, Or.inr rfl, Or.inr rfl, Or.inr rfl, Or.inr rfl, Or.inr rfl, Or.inr rfl, Or.inr rfl, Or.inr rfl, Or.inr rfl, trivial⟩ (wl_ch_lowest_9 a1 a2 a3 a2 a1 0 M hl3 ?_)
  show mW mX0_lowest 1 Q 45 [some (.long a1), none, some (.long a2), none, some (.int a3), some (.long t2), none, none, none, none, none, none] [] M
  exact y_wk (L2 := [some (.long a1), none, some (.long a2), none, some (.int a3), some (.long t2), none, none, none, none, none, none]) ⟨Or.inr rfl, Or.inr rfl, Or.inr rfl, Or.inr rfl, Or.inr rfl, Or.inr rfl, Or.inr rfl, Or.inr rfl, Or.inr rfl, Or.inr rfl, Or.inr rfl, Or.inr rfl, trivial⟩ (w_t_ch_lowest_45 a1 a2 a3 t2 M hf hk)
theorem c_ch_lowest (a1 : Int64) (a2 : Int64) (a3 : Int32) (M : dM) {o : Int64} {y : mz_M} {d : Nat} {Q : mz_P} {pc n i : Nat} {L : List (Option Value)} {st : List Value} (h : mz_d y.2.1 pc n 3 (.invokestatic i)) (hl : mz_ml y.1.cls i yX0_lowest) (hf : f_ch_lowest a1 a2 a3 = some o) (hd : 1 + 1 ≤ d) (hsm : (st.map (fun v => v.category)).sum ≤ 8) (hLr : mz_rL 133 L = true) (hSr : mz_rS 133 st = true) (kk : mW y d Q n L (.long o :: st) M) : mW y d Q pc L (.int a3 :: .long a2 :: .long a1 :: st) M :=
  y_callS kmX0_lowest ksX0_lowest h hl (ok_ch_lowest a1 a2 a3 M hf) (vs := [.long a1, .long a2, .int a3]) rfl rfl hd hsm hLr hSr kk
noncomputable def f_ax_odds (a1 : Int32) (a2 : Int32) (a3 : Int32) (M : dM) : Option (Int64 × dM) :=
  if (f_ax_within a1 10) = true then
    if (f_ax_within a2 3) = true then
      if (f_ax_within a3 2) = true then
        (f_ax_study 1 M).bind fun q1 =>
        (f_ju_findsOf (-1) q1).bind fun v3 =>
        (f_ju_findsOfSort (-1) a2 q1).bind fun v5 =>
        (f_ju_findsOf a1 q1).bind fun v7 =>
        (f_ju_findsOfSort a1 a2 q1).bind fun v9 =>
        (f_ch_drawsWith v3 v5 v7 v9).bind fun v11 =>
        (f_ch_choose v3 v7).bind fun v13 =>
        (f_ch_lowest v11 v13 a3).bind fun v15 =>
        some (v15, q1)
      else
        some ((-1), M)
    else
      some ((-1), M)
  else
    some ((-1), M)
theorem ok_ax_odds (a1 : Int32) (a2 : Int32) (a3 : Int32) (M : dM) {o : (Int64 × dM)} (hf : f_ax_odds a1 a2 a3 M = some o) : mO mX11_odds 6 [.ref 0, .int a1, .int a2, .int a3] M (some (.long o.1)) o.2 := by
  refine y_ok (by decide +kernel) (Nat.le_of_ble_eq_true rfl) (L0 := [some (.ref 0), some (.int a1), some (.int a2), some (.int a3), none, none, none, none, none, none]) rfl ?_
  have hk := mR_mQ (some (.long o.1)) o.2
  generalize mQ _ _ = Q at hk ⊢
  unfold f_ax_odds at hf
  refine y_iload_n (i := 1) (n := 1) ⟨dX11_odds_0, rfl⟩ rfl ?_
  refine y_bipush (n := 3) (v := 10) ⟨dX11_odds_1, rfl⟩ kb_10 ?_
  refine c_ax_within a1 10 M (n := 6) ⟨dX11_odds_3, rfl⟩ klX11_91 rfl (by decide) (Nat.le_of_ble_eq_true rfl) rfl rfl ?_
  refine y_if_eq (t := 25) (n := 9) ⟨dX11_odds_6, rfl, rfl⟩ (fun h0 => ?_) (fun h0 => ?_)
  · have hc := bI_0 h0
    replace hf := i_f hc hf
    refine y_ldc2 (n := 28) ⟨dX11_odds_25, rfl⟩ kcX11_189 ?_
    cases hf
    exact y_lreturn (n := 29) ⟨dX11_odds_28, rfl⟩ rfl hk
  · have hc := bI_1 h0
    replace hf := i_t hc hf
    refine y_iload_n (i := 2) (n := 10) ⟨dX11_odds_9, rfl⟩ rfl ?_
    refine y_iconst (n := 11) (v := 3) ⟨dX11_odds_10, rfl⟩ ki_3 ?_
    refine c_ax_within a2 3 M (n := 14) ⟨dX11_odds_11, rfl⟩ klX11_91 rfl (by decide) (Nat.le_of_ble_eq_true rfl) rfl rfl ?_
    refine y_if_eq (t := 25) (n := 17) ⟨dX11_odds_14, rfl, rfl⟩ (fun h0 => ?_) (fun h0 => ?_)
    · have hc := bI_0 h0
      replace hf := i_f hc hf
      refine y_ldc2 (n := 28) ⟨dX11_odds_25, rfl⟩ kcX11_189 ?_
      cases hf
      exact y_lreturn (n := 29) ⟨dX11_odds_28, rfl⟩ rfl hk
    · have hc := bI_1 h0
      replace hf := i_t hc hf
      refine y_iload_n (i := 3) (n := 18) ⟨dX11_odds_17, rfl⟩ rfl ?_
      refine y_iconst (n := 19) (v := 2) ⟨dX11_odds_18, rfl⟩ ki_2 ?_
      refine c_ax_within a3 2 M (n := 22) ⟨dX11_odds_19, rfl⟩ klX11_91 rfl (by decide) (Nat.le_of_ble_eq_true rfl) rfl rfl ?_
      refine y_if_ne (t := 29) (n := 25) ⟨dX11_odds_22, rfl, rfl⟩ (fun h0 => ?_) (fun h0 => ?_)
      · have hc := bI_1 h0
        replace hf := i_t hc hf
        refine y_aload_n (i := 0) (n := 30) ⟨dX11_odds_29, rfl⟩ rfl ?_
        refine y_iconst (n := 31) (v := 1) ⟨dX11_odds_30, rfl⟩ ki_1 ?_
        obtain ⟨q1, hv2, hf⟩ := b_s hf
        refine c_ax_study 1 M (n := 34) ⟨dX11_odds_31, rfl⟩ klX11_156 hv2 (by decide) (Nat.le_of_ble_eq_true rfl) rfl rfl ?_
        refine y_aload_n (i := 0) (n := 35) ⟨dX11_odds_34, rfl⟩ rfl ?_
        refine y_getR (n := 38) ⟨dX11_odds_35, rfl⟩ kfX11_56 l_0 rfl r_0_6 ?_
        refine y_iconst (n := 39) (v := (-1)) ⟨dX11_odds_38, rfl⟩ ki_m1 ?_
        obtain ⟨v3, hv4, hf⟩ := b_s hf
        refine c_ju_findsOf (-1) q1 (n := 42) ⟨dX11_odds_39, rfl⟩ klX11_182 hv4 (by decide) (Nat.le_of_ble_eq_true rfl) rfl rfl ?_
        refine y_istore (i := 4) (n := 44) (L2 := [some (.ref 0), some (.int a1), some (.int a2), some (.int a3), some (.int v3), none, none, none, none, none]) ⟨dX11_odds_42, rfl⟩ (by decide) rfl rfl ?_
        refine y_aload_n (i := 0) (n := 45) ⟨dX11_odds_44, rfl⟩ rfl ?_
        refine y_getR (n := 48) ⟨dX11_odds_45, rfl⟩ kfX11_56 l_0 rfl r_0_6 ?_
        refine y_iconst (n := 49) (v := (-1)) ⟨dX11_odds_48, rfl⟩ ki_m1 ?_
        refine y_iload_n (i := 2) (n := 50) ⟨dX11_odds_49, rfl⟩ rfl ?_
        obtain ⟨v5, hv6, hf⟩ := b_s hf
        refine c_ju_findsOfSort (-1) a2 q1 (n := 53) ⟨dX11_odds_50, rfl⟩ klX11_186 hv6 (by decide) (Nat.le_of_ble_eq_true rfl) rfl rfl ?_
        refine y_istore (i := 5) (n := 55) (L2 := [some (.ref 0), some (.int a1), some (.int a2), some (.int a3), some (.int v3), some (.int v5), none, none, none, none]) ⟨dX11_odds_53, rfl⟩ (by decide) rfl rfl ?_
        refine y_aload_n (i := 0) (n := 56) ⟨dX11_odds_55, rfl⟩ rfl ?_
        refine y_getR (n := 59) ⟨dX11_odds_56, rfl⟩ kfX11_56 l_0 rfl r_0_6 ?_
        refine y_iload_n (i := 1) (n := 60) ⟨dX11_odds_59, rfl⟩ rfl ?_
        obtain ⟨v7, hv8, hf⟩ := b_s hf
        refine c_ju_findsOf a1 q1 (n := 63) ⟨dX11_odds_60, rfl⟩ klX11_182 hv8 (by decide) (Nat.le_of_ble_eq_true rfl) rfl rfl ?_
        refine y_istore (i := 6) (n := 65) (L2 := [some (.ref 0), some (.int a1), some (.int a2), some (.int a3), some (.int v3), some (.int v5), some (.int v7), none, none, none]) ⟨dX11_odds_63, rfl⟩ (by decide) rfl rfl ?_
        refine y_aload_n (i := 0) (n := 66) ⟨dX11_odds_65, rfl⟩ rfl ?_
        refine y_getR (n := 69) ⟨dX11_odds_66, rfl⟩ kfX11_56 l_0 rfl r_0_6 ?_
        refine y_iload_n (i := 1) (n := 70) ⟨dX11_odds_69, rfl⟩ rfl ?_
        refine y_iload_n (i := 2) (n := 71) ⟨dX11_odds_70, rfl⟩ rfl ?_
        obtain ⟨v9, hv10, hf⟩ := b_s hf
        refine c_ju_findsOfSort a1 a2 q1 (n := 74) ⟨dX11_odds_71, rfl⟩ klX11_186 hv10 (by decide) (Nat.le_of_ble_eq_true rfl) rfl rfl ?_
        refine y_istore (i := 7) (n := 76) (L2 := [some (.ref 0), some (.int a1), some (.int a2), some (.int a3), some (.int v3), some (.int v5), some (.int v7), some (.int v9), none, none]) ⟨dX11_odds_74, rfl⟩ (by decide) rfl rfl ?_
        refine y_iload (i := 4) (n := 78) ⟨dX11_odds_76, rfl⟩ rfl ?_
        refine y_iload (i := 5) (n := 80) ⟨dX11_odds_78, rfl⟩ rfl ?_
        refine y_iload (i := 6) (n := 82) ⟨dX11_odds_80, rfl⟩ rfl ?_
        refine y_iload (i := 7) (n := 84) ⟨dX11_odds_82, rfl⟩ rfl ?_
        obtain ⟨v11, hv12, hf⟩ := b_s hf
        refine c_ch_drawsWith v3 v5 v7 v9 q1 (n := 87) ⟨dX11_odds_84, rfl⟩ klX11_191 hv12 (by decide) (Nat.le_of_ble_eq_true rfl) rfl rfl ?_
        refine y_lstore (i := 8) (n := 89) (L2 := [some (.ref 0), some (.int a1), some (.int a2), some (.int a3), some (.int v3), some (.int v5), some (.int v7), some (.int v9), some (.long v11), none]) ⟨dX11_odds_87, rfl⟩ (by decide) rfl rfl ?_
        refine y_lload (i := 8) (n := 91) ⟨dX11_odds_89, rfl⟩ rfl ?_
        refine y_iload (i := 4) (n := 93) ⟨dX11_odds_91, rfl⟩ rfl ?_
        refine y_iload (i := 6) (n := 95) ⟨dX11_odds_93, rfl⟩ rfl ?_
        obtain ⟨v13, hv14, hf⟩ := b_s hf
        refine c_ch_choose v3 v7 q1 (n := 98) ⟨dX11_odds_95, rfl⟩ klX11_197 hv14 (by decide) (Nat.le_of_ble_eq_true rfl) rfl rfl ?_
        refine y_iload_n (i := 3) (n := 99) ⟨dX11_odds_98, rfl⟩ rfl ?_
        obtain ⟨v15, hv16, hf⟩ := b_s hf
        refine c_ch_lowest v11 v13 a3 q1 (n := 102) ⟨dX11_odds_99, rfl⟩ klX11_201 hv16 (by decide) (Nat.le_of_ble_eq_true rfl) rfl rfl ?_
        cases hf
        exact y_lreturn (n := 103) ⟨dX11_odds_102, rfl⟩ rfl hk
      · have hc := bI_0 h0
        replace hf := i_f hc hf
        refine y_ldc2 (n := 28) ⟨dX11_odds_25, rfl⟩ kcX11_189 ?_
        cases hf
        exact y_lreturn (n := 29) ⟨dX11_odds_28, rfl⟩ rfl hk
theorem c_ax_odds (a1 : Int32) (a2 : Int32) (a3 : Int32) (M : dM) {o : (Int64 × dM)} {y : mz_M} {d : Nat} {Q : mz_P} {pc n i : Nat} {L : List (Option Value)} {st : List Value} (h : mz_d y.2.1 pc n 3 (.invokevirtual i)) (hl : mz_ml y.1.cls i yX11_odds) (hf : f_ax_odds a1 a2 a3 M = some o) (hd : 6 + 1 ≤ d) (hsm : (st.map (fun v => v.category)).sum ≤ 8) (hLr : mz_rL 133 L = true) (hSr : mz_rS 133 st = true) (kk : mW y d Q n L (.long o.1 :: st) o.2) : mW y d Q pc L (.int a3 :: .int a2 :: .int a1 :: .ref 0 :: st) M :=
  y_callV kmX11_odds kvX11_odds l_0 (by decide +kernel) (by decide +kernel) h hl (ok_ax_odds a1 a2 a3 M hf) (vs := [.int a1, .int a2, .int a3]) rfl rfl hd hsm hLr hSr kk
