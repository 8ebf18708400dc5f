def K_mo_feed_8 (Q : mz_P) (x1 : Int64) (x3 : Int64) (x5 : Int64) (M : dM) : ((Int32 × dM) ⊕ (Int32 × dM)) → Prop
  | .inl s => mW mX12_feed 1 Q 8 [some (.ref 66), some (.long x1), none, some (.long x3), none, some (.long x5), none, some (.int s.1), none, none, none] [] s.2
  | .inr r => mR Q (some (.int r.1)) r.2
noncomputable def b_mo_feed_8_93 (x1 : Int64) (x3 : Int64) (x5 : Int64) (x7 : Int32) (x10 : Int32) (M : dM) : Option ((Int32 × dM) ⊕ (Int32 × dM)) :=
  gd (vp_in (gI M 66 17) 1000) <|
  some (.inl ((x7 + 1), (sI (sI M 81 (gI M 66 17).toNatClampNeg x10) 66 17 ((gI (sI M 81 (gI M 66 17).toNatClampNeg x10) 66 17) + 1))))
noncomputable def b_mo_feed_8_39 (x1 : Int64) (x3 : Int64) (x5 : Int64) (x7 : Int32) (y0 : Int64) (M : dM) : Option ((Int32 × dM) ⊕ (Int32 × dM)) :=
  if (1000 : Int32) ≤ (gI M 66 17) then
    some (.inl ((x7 + 1), M))
  else
    if (((y0.toUInt64 >>> ((56 - (8 * (x7 &&& 7))).toInt64.toUInt64 &&& Int64.toUInt64 63)).toInt64) &&& 255).toInt32 = 10 then
      b_mo_feed_8_93 x1 x3 x5 x7 ((((y0.toUInt64 >>> ((56 - (8 * (x7 &&& 7))).toInt64.toUInt64 &&& Int64.toUInt64 63)).toInt64) &&& 255).toInt32) M
    else
      if (((y0.toUInt64 >>> ((56 - (8 * (x7 &&& 7))).toInt64.toUInt64 &&& Int64.toUInt64 63)).toInt64) &&& 255).toInt32 < 32 then
        some (.inl ((x7 + 1), M))
      else
        if 126 < (((y0.toUInt64 >>> ((56 - (8 * (x7 &&& 7))).toInt64.toUInt64 &&& Int64.toUInt64 63)).toInt64) &&& 255).toInt32 then
          some (.inl ((x7 + 1), M))
        else
          b_mo_feed_8_93 x1 x3 x5 x7 ((((y0.toUInt64 >>> ((56 - (8 * (x7 &&& 7))).toInt64.toUInt64 &&& Int64.toUInt64 63)).toInt64) &&& 255).toInt32) M
noncomputable def b_mo_feed_8_8 (x1 : Int64) (x3 : Int64) (x5 : Int64) (x7 : Int32) (M : dM) : Option ((Int32 × dM) ⊕ (Int32 × dM)) :=
  if 24 ≤ x7 then
    some (.inr ((gI M 66 17), M))
  else
    if 8 ≤ x7 then
      if 16 ≤ x7 then
        b_mo_feed_8_39 x1 x3 x5 x7 x5 M
      else
        b_mo_feed_8_39 x1 x3 x5 x7 x3 M
    else
      b_mo_feed_8_39 x1 x3 x5 x7 x1 M
noncomputable def l_mo_feed_8 (x1 : Int64) (x3 : Int64) (x5 : Int64) (x7 : Int32) (M : dM) : Option (Int32 × dM) := lpc (fun s => b_mo_feed_8_8 x1 x3 x5 s.1 s.2) (x7, M)
noncomputable def f_mo_feed (a1 : Int64) (a2 : Int64) (a3 : Int64) (M : dM) : Option (Int32 × dM) :=
  (l_mo_feed_8 a1 a2 a3 0 (sI M 66 0 0)).bind fun r4 => some r4
theorem w_b_mo_feed_8_93 (x1 : Int64) (x3 : Int64) (x5 : Int64) (x7 : Int32) (x10 : Int32) (M : dM) {Q : mz_P} {o : ((Int32 × dM) ⊕ (Int32 × dM))} (hf : b_mo_feed_8_93 x1 x3 x5 x7 x10 M = some o) (hk : K_mo_feed_8 Q x1 x3 x5 M o) : mW mX12_feed 1 Q 93 [some (.ref 66), some (.long x1), none, some (.long x3), none, some (.long x5), none, some (.int x7), none, none, some (.int x10)] [] M := by
  unfold b_mo_feed_8_93 at hf
  refine y_aload_n (i := 0) (n := 94) ⟨dX12_feed_93, rfl⟩ rfl ?_
  refine y_getR (n := 97) ⟨dX12_feed_94, rfl⟩ kfX12_52 l_66 rfl r_66_18 ?_
  refine y_aload_n (i := 0) (n := 98) ⟨dX12_feed_97, rfl⟩ rfl ?_
  refine y_getI (n := 101) ⟨dX12_feed_98, rfl⟩ kfX12_258 l_66 rfl ?_
  refine y_iload (i := 10) (n := 103) ⟨dX12_feed_101, rfl⟩ rfl ?_
  obtain ⟨hg1, hf⟩ := g_s hf
  refine y_iastore (n := 104) ⟨dX12_feed_103, rfl⟩ l_81 hg1 ?_
  refine y_aload_n (i := 0) (n := 105) ⟨dX12_feed_104, rfl⟩ rfl ?_
  refine y_dup_r (n := 106) ⟨dX12_feed_105, rfl⟩ ?_
  refine y_getI (n := 109) ⟨dX12_feed_106, rfl⟩ kfX12_258 l_66 rfl ?_
  refine y_iconst (n := 110) (v := 1) ⟨dX12_feed_109, rfl⟩ ki_1 ?_
  refine y_iadd (n := 111) ⟨dX12_feed_110, rfl⟩ ?_
  refine y_putI (n := 114) ⟨dX12_feed_111, rfl⟩ kfX12_258 l_66 (by decide +kernel) rfl ?_
  refine y_iinc (i := 7) (n := 117) (b := (x7 + 1)) (L2 := [some (.ref 66), some (.long x1), none, some (.long x3), none, some (.long x5), none, some (.int (x7 + 1)), none, none, some (.int x10)]) ⟨dX12_feed_114, rfl⟩ rfl (by rw [ki_1]) (by decide) rfl rfl ?_
  refine y_goto (t := 8) ⟨dX12_feed_117, rfl, rfl⟩ ?_
  cases hf
  exact y_wk ⟨Or.inr rfl, Or.inr rfl, Or.inr rfl, Or.inr rfl, Or.inr rfl, Or.inr rfl, Or.inr rfl, Or.inr rfl, Or.inr rfl, Or.inr rfl, Or.inl rfl, trivial⟩ hk
theorem w_b_mo_feed_8_39 (x1 : Int64) (x3 : Int64) (x5 : Int64) (x7 : Int32) (y0 : Int64) (M : dM) {Q : mz_P} {o : ((Int32 × dM) ⊕ (Int32 × dM))} (hf : b_mo_feed_8_39 x1 x3 x5 x7 y0 M = some o) (hk : K_mo_feed_8 Q x1 x3 x5 M o) : mW mX12_feed 1 Q 39 [some (.ref 66), some (.long x1), none, some (.long x3), none, some (.long x5), none, some (.int x7), none, none, none] [.long y0] M := by
  unfold b_mo_feed_8_39 at hf
  refine y_lstore (i := 8) (n := 41) (L2 := [some (.ref 66), some (.long x1), none, some (.long x3), none, some (.long x5), none, some (.int x7), some (.long y0), none, none]) ⟨dX12_feed_39, rfl⟩ (by decide) rfl rfl ?_
  refine y_lload (i := 8) (n := 43) ⟨dX12_feed_41, rfl⟩ rfl ?_
  refine y_bipush (n := 45) (v := 56) ⟨dX12_feed_43, rfl⟩ kb_56 ?_
  refine y_bipush (n := 47) (v := 8) ⟨dX12_feed_45, rfl⟩ kb_8 ?_
  refine y_iload (i := 7) (n := 49) ⟨dX12_feed_47, rfl⟩ rfl ?_
  refine y_bipush (n := 51) (v := 7) ⟨dX12_feed_49, rfl⟩ kb_7 ?_
  refine y_iand (n := 52) ⟨dX12_feed_51, rfl⟩ ?_
  refine y_imul (n := 53) ⟨dX12_feed_52, rfl⟩ ?_
  refine y_isub (n := 54) ⟨dX12_feed_53, rfl⟩ ?_
  refine y_lushr (n := 55) ⟨dX12_feed_54, rfl⟩ ?_
  refine y_ldc2 (n := 58) ⟨dX12_feed_55, rfl⟩ kcX12_256 ?_
  refine y_land (n := 59) ⟨dX12_feed_58, rfl⟩ ?_
  refine y_l2i (n := 60) ⟨dX12_feed_59, rfl⟩ ?_
  refine y_istore (i := 10) (n := 62) (L2 := [some (.ref 66), some (.long x1), none, some (.long x3), none, some (.long x5), none, some (.int x7), some (.long y0), none, some (.int ((((y0.toUInt64 >>> ((56 - (8 * (x7 &&& 7))).toInt64.toUInt64 &&& Int64.toUInt64 63)).toInt64) &&& 255).toInt32))]) ⟨dX12_feed_60, rfl⟩ (by decide) rfl rfl ?_
  refine y_aload_n (i := 0) (n := 63) ⟨dX12_feed_62, rfl⟩ rfl ?_
  refine y_getI (n := 66) ⟨dX12_feed_63, rfl⟩ kfX12_258 l_66 rfl ?_
  refine y_sipush (n := 69) (v := 1000) ⟨dX12_feed_66, rfl⟩ ks_1000 ?_
  refine y_icmp_ge (t := 114) (n := 72) ⟨dX12_feed_69, rfl, rfl⟩ (fun (hc : (1000 : Int32) ≤ (gI M 66 17)) => ?_) (fun (hc : ¬ ((1000 : Int32) ≤ (gI M 66 17))) => ?_)
  · replace hf := i_t hc hf
    refine y_iinc (i := 7) (n := 117) (b := (x7 + 1)) (L2 := [some (.ref 66), some (.long x1), none, some (.long x3), none, some (.long x5), none, some (.int (x7 + 1)), some (.long y0), none, some (.int ((((y0.toUInt64 >>> ((56 - (8 * (x7 &&& 7))).toInt64.toUInt64 &&& Int64.toUInt64 63)).toInt64) &&& 255).toInt32))]) ⟨dX12_feed_114, rfl⟩ rfl (by rw [ki_1]) (by decide) rfl rfl ?_
    refine y_goto (t := 8) ⟨dX12_feed_117, rfl, rfl⟩ ?_
    cases hf
    exact y_wk ⟨Or.inr rfl, Or.inr rfl, Or.inr rfl, Or.inr rfl, Or.inr rfl, Or.inr rfl, Or.inr rfl, Or.inr rfl, Or.inl rfl, Or.inr rfl, Or.inl rfl, trivial⟩ hk
  · replace hf := i_f hc hf
    refine y_iload (i := 10) (n := 74) ⟨dX12_feed_72, rfl⟩ rfl ?_
    refine y_bipush (n := 76) (v := 10) ⟨dX12_feed_74, rfl⟩ kb_10 ?_
    refine y_icmp_eq (t := 93) (n := 79) ⟨dX12_feed_76, rfl, rfl⟩ (fun (hc : (((y0.toUInt64 >>> ((56 - (8 * (x7 &&& 7))).toInt64.toUInt64 &&& Int64.toUInt64 63)).toInt64) &&& 255).toInt32 = 10) => ?_) (fun (hc : ¬ ((((y0.toUInt64 >>> ((56 - (8 * (x7 &&& 7))).toInt64.toUInt64 &&& Int64.toUInt64 63)).toInt64) &&& 255).toInt32 = 10)) => ?_)
    · replace hf := i_t hc hf
      exact y_wk ⟨Or.inr rfl, Or.inr rfl, Or.inr rfl, Or.inr rfl, Or.inr rfl, Or.inr rfl, Or.inr rfl, Or.inr rfl, Or.inl rfl, Or.inr rfl, Or.inr rfl, trivial⟩ (w_b_mo_feed_8_93 x1 x3 x5 x7 ((((y0.toUInt64 >>> ((56 - (8 * (x7 &&& 7))).toInt64.toUInt64 &&& Int64.toUInt64 63)).toInt64) &&& 255).toInt32) M hf hk)
    · replace hf := i_f hc hf
      refine y_iload (i := 10) (n := 81) ⟨dX12_feed_79, rfl⟩ rfl ?_
      refine y_bipush (n := 83) (v := 32) ⟨dX12_feed_81, rfl⟩ kb_32 ?_
      refine y_icmp_lt (t := 114) (n := 86) ⟨dX12_feed_83, rfl, rfl⟩ (fun (hc : (((y0.toUInt64 >>> ((56 - (8 * (x7 &&& 7))).toInt64.toUInt64 &&& Int64.toUInt64 63)).toInt64) &&& 255).toInt32 < 32) => ?_) (fun (hc : ¬ ((((y0.toUInt64 >>> ((56 - (8 * (x7 &&& 7))).toInt64.toUInt64 &&& Int64.toUInt64 63)).toInt64) &&& 255).toInt32 < 32)) => ?_)
      · replace hf := i_t hc hf
        refine y_iinc (i := 7) (n := 117) (b := (x7 + 1)) (L2 := [some (.ref 66), some (.long x1), none, some (.long x3), none, some (.long x5), none, some (.int (x7 + 1)), some (.long y0), none, some (.int ((((y0.toUInt64 >>> ((56 - (8 * (x7 &&& 7))).toInt64.toUInt64 &&& Int64.toUInt64 63)).toInt64) &&& 255).toInt32))]) ⟨dX12_feed_114, rfl⟩ rfl (by rw [ki_1]) (by decide) rfl rfl ?_
        refine y_goto (t := 8) ⟨dX12_feed_117, rfl, rfl⟩ ?_
        cases hf
        exact y_wk ⟨Or.inr rfl, Or.inr rfl, Or.inr rfl, Or.inr rfl, Or.inr rfl, Or.inr rfl, Or.inr rfl, Or.inr rfl, Or.inl rfl, Or.inr rfl, Or.inl rfl, trivial⟩ hk
      · replace hf := i_f hc hf
        refine y_iload (i := 10) (n := 88) ⟨dX12_feed_86, rfl⟩ rfl ?_
        refine y_bipush (n := 90) (v := 126) ⟨dX12_feed_88, rfl⟩ kb_126 ?_
        refine y_icmp_gt (t := 114) (n := 93) ⟨dX12_feed_90, rfl, rfl⟩ (fun (hc : 126 < (((y0.toUInt64 >>> ((56 - (8 * (x7 &&& 7))).toInt64.toUInt64 &&& Int64.toUInt64 63)).toInt64) &&& 255).toInt32) => ?_) (fun (hc : ¬ (126 < (((y0.toUInt64 >>> ((56 - (8 * (x7 &&& 7))).toInt64.toUInt64 &&& Int64.toUInt64 63)).toInt64) &&& 255).toInt32)) => ?_)
        · replace hf := i_t hc hf
          refine y_iinc (i := 7) (n := 117) (b := (x7 + 1)) (L2 := [some (.ref 66), some (.long x1), none, some (.long x3), none, some (.long x5), none, some (.int (x7 + 1)), some (.long y0), none, some (.int ((((y0.toUInt64 >>> ((56 - (8 * (x7 &&& 7))).toInt64.toUInt64 &&& Int64.toUInt64 63)).toInt64) &&& 255).toInt32))]) ⟨dX12_feed_114, rfl⟩ rfl (by rw [ki_1]) (by decide) rfl rfl ?_
          refine y_goto (t := 8) ⟨dX12_feed_117, rfl, rfl⟩ ?_
          cases hf
          exact y_wk ⟨Or.inr rfl, Or.inr rfl, Or.inr rfl, Or.inr rfl, Or.inr rfl, Or.inr rfl, Or.inr rfl, Or.inr rfl, Or.inl rfl, Or.inr rfl, Or.inl rfl, trivial⟩ hk
        · replace hf := i_f hc hf
          exact y_wk ⟨Or.inr rfl, Or.inr rfl, Or.inr rfl, Or.inr rfl, Or.inr rfl, Or.inr rfl, Or.inr rfl, Or.inr rfl, Or.inl rfl, Or.inr rfl, Or.inr rfl, trivial⟩ (w_b_mo_feed_8_93 x1 x3 x5 x7 ((((y0.toUInt64 >>> ((56 - (8 * (x7 &&& 7))).toInt64.toUInt64 &&& Int64.toUInt64 63)).toInt64) &&& 255).toInt32) M hf hk)
theorem w_b_mo_feed_8_8 (x1 : Int64) (x3 : Int64) (x5 : Int64) (x7 : Int32) (M : dM) {Q : mz_P} {o : ((Int32 × dM) ⊕ (Int32 × dM))} (hf : b_mo_feed_8_8 x1 x3 x5 x7 M = some o) (hk : K_mo_feed_8 Q x1 x3 x5 M o) : mW mX12_feed 1 Q 8 [some (.ref 66), some (.long x1), none, some (.long x3), none, some (.long x5), none, some (.int x7), none, none, none] [] M := by
  unfold b_mo_feed_8_8 at hf
  refine y_iload (i := 7) (n := 10) ⟨dX12_feed_8, rfl⟩ rfl ?_
  refine y_bipush (n := 12) (v := 24) ⟨dX12_feed_10, rfl⟩ kb_24 ?_
  refine y_icmp_ge (t := 120) (n := 15) ⟨dX12_feed_12, rfl, rfl⟩ (fun (hc : 24 ≤ x7) => ?_) (fun (hc : ¬ (24 ≤ x7)) => ?_)
  · replace hf := i_t hc hf
    refine y_aload_n (i := 0) (n := 121) ⟨dX12_feed_120, rfl⟩ rfl ?_
    refine y_getI (n := 124) ⟨dX12_feed_121, rfl⟩ kfX12_258 l_66 rfl ?_
    cases hf
    exact y_ireturn (n := 125) ⟨dX12_feed_124, rfl⟩ rfl rfl hk
  · replace hf := i_f hc hf
    refine y_iload (i := 7) (n := 17) ⟨dX12_feed_15, rfl⟩ rfl ?_
    refine y_bipush (n := 19) (v := 8) ⟨dX12_feed_17, rfl⟩ kb_8 ?_
    refine y_icmp_ge (t := 26) (n := 22) ⟨dX12_feed_19, rfl, rfl⟩ (fun (hc : 8 ≤ x7) => ?_) (fun (hc : ¬ (8 ≤ x7)) => ?_)
    · replace hf := i_t hc hf
      refine y_iload (i := 7) (n := 28) ⟨dX12_feed_26, rfl⟩ rfl ?_
      refine y_bipush (n := 30) (v := 16) ⟨dX12_feed_28, rfl⟩ kb_16 ?_
      refine y_icmp_ge (t := 37) (n := 33) ⟨dX12_feed_30, rfl, rfl⟩ (fun (hc : 16 ≤ x7) => ?_) (fun (hc : ¬ (16 ≤ x7)) => ?_)
      · replace hf := i_t hc hf
        refine y_lload (i := 5) (n := 39) ⟨dX12_feed_37, rfl⟩ rfl ?_
        exact y_wk ⟨Or.inr rfl, Or.inr rfl, Or.inr rfl, Or.inr rfl, Or.inr rfl, Or.inr rfl, Or.inr rfl, Or.inr rfl, Or.inr rfl, Or.inr rfl, Or.inr rfl, trivial⟩ (w_b_mo_feed_8_39 x1 x3 x5 x7 x5 M hf hk)
      · replace hf := i_f hc hf
        refine y_lload_n (i := 3) (n := 34) ⟨dX12_feed_33, rfl⟩ rfl ?_
        refine y_goto (t := 39) ⟨dX12_feed_34, rfl, rfl⟩ ?_
        exact y_wk ⟨Or.inr rfl, Or.inr rfl, Or.inr rfl, Or.inr rfl, Or.inr rfl, Or.inr rfl, Or.inr rfl, Or.inr rfl, Or.inr rfl, Or.inr rfl, Or.inr rfl, trivial⟩ (w_b_mo_feed_8_39 x1 x3 x5 x7 x3 M hf hk)
    · replace hf := i_f hc hf
      refine y_lload_n (i := 1) (n := 23) ⟨dX12_feed_22, rfl⟩ rfl ?_
      refine y_goto (t := 39) ⟨dX12_feed_23, rfl, rfl⟩ ?_
      exact y_wk ⟨Or.inr rfl, Or.inr rfl, Or.inr rfl, Or.inr rfl, Or.inr rfl, Or.inr rfl, Or.inr rfl, Or.inr rfl, Or.inr rfl, Or.inr rfl, Or.inr rfl, trivial⟩ (w_b_mo_feed_8_39 x1 x3 x5 x7 x1 M hf hk)
theorem wl_mo_feed_8 (x1 : Int64) (x3 : Int64) (x5 : Int64) (x7 : Int32) (M : dM) {Q : mz_P} {x : (Int32 × dM)} (hf : l_mo_feed_8 x1 x3 x5 x7 M = some x) (hk : K_mo_feed_8 Q x1 x3 x5 M (.inr x)) : mW mX12_feed 1 Q 8 [some (.ref 66), some (.long x1), none, some (.long x3), none, some (.long x5), none, some (.int x7), none, none, none] [] M :=
  lpc_wp (Wh := fun s => mW mX12_feed 1 Q 8 [some (.ref 66), some (.long x1), none, some (.long x3), none, some (.long x5), none, some (.int s.1), none, none, none] [] s.2) (K := K_mo_feed_8 Q x1 x3 x5 M) (fun _ h => h) (fun s o hb hk => w_b_mo_feed_8_8 x1 x3 x5 s.1 s.2 hb hk) hf hk
theorem ok_mo_feed (a1 : Int64) (a2 : Int64) (a3 : Int64) (M : dM) {o : (Int32 × dM)} (hf : f_mo_feed a1 a2 a3 M = some o) : mO mX12_feed 1 [.ref 66, .long a1, .long a2, .long a3] M (some (.int o.1)) o.2 := by
  refine y_ok (by decide +kernel) (by decide) (L0 := [some (.ref 66), some (.long a1), none, some (.long a2), none, some (.long a3), none, none, none, none, none]) rfl ?_
  have hk := mR_mQ (some (.int o.1)) o.2
  generalize mQ _ _ = Q at hk ⊢
  unfold f_mo_feed at hf
  refine y_aload_n (i := 0) (n := 1) ⟨dX12_feed_0, rfl⟩ rfl ?_
  refine y_iconst (n := 2) (v := 0) ⟨dX12_feed_1, rfl⟩ ki_0 ?_
  refine y_putI (n := 5) ⟨dX12_feed_2, rfl⟩ kfX12_214 l_66 (by decide +kernel) rfl ?_
  refine y_iconst (n := 6) (v := 0) ⟨dX12_feed_5, rfl⟩ ki_0 ?_
  refine y_istore (i := 7) (n := 8) (L2 := [some (.ref 66), some (.long a1), none, some (.long a2), none, some (.long a3), none, some (.int 0), none, none, none]) ⟨dX12_feed_6, rfl⟩ (by decide) rfl rfl ?_
  obtain ⟨r4, hl3, hf⟩ := b_s hf
  cases hf
  exact y_wk ⟨Or.inr rfl, Or.inr rfl, Or.inr rfl, Or.inr rfl, Or.inr rfl, Or.inr rfl, Or.inr rfl, Or.inr rfl, Or.inr rfl, Or.inr rfl, Or.inr rfl, trivial⟩ (wl_mo_feed_8 a1 a2 a3 0 (sI M 66 0 0) hl3 hk)
theorem c_mo_feed (a1 : Int64) (a2 : Int64) (a3 : Int64) (M : dM) {o : (Int32 × dM)} {y : mz_M} {d : Nat} {Q : mz_P} {pc n i : Nat} {L : List (Option Value)} {st : List Value} (h : mz_d y.2.1 pc n 3 (.invokevirtual i)) (hl : mz_ml y.1.cls i yX12_feed) (hf : f_mo_feed a1 a2 a3 M = some o) (hd : 1 + 1 ≤ d) (hsm : (st.map (fun v => v.category)).sum ≤ 8) (hLr : mz_rL 133 L = true) (hSr : mz_rS 133 st = true) (kk : mW y d Q n L (.int o.1 :: st) o.2) : mW y d Q pc L (.long a3 :: .long a2 :: .long a1 :: .ref 66 :: st) M :=
  y_callV kmX12_feed kvX12_feed l_66 (by decide +kernel) (by decide +kernel) h hl (ok_mo_feed a1 a2 a3 M hf) (vs := [.long a1, .long a2, .long a3]) rfl rfl hd hsm hLr hSr kk
noncomputable def f_mo_signAt (a1 : Int32) (M : dM) : Option Int32 :=
  if (gI M 66 19) ≤ a1 then
    some 0
  else
    gd (vp_in a1 1000) <|
    some (gI M 81 a1.toNatClampNeg)
theorem ok_mo_signAt (a1 : Int32) (M : dM) {o : Int32} (hf : f_mo_signAt a1 M = some o) : mO mX12_signAt 1 [.ref 66, .int a1] M (some (.int o)) M := by
  refine y_ok (by decide +kernel) (by decide) (L0 := [some (.ref 66), some (.int a1)]) rfl ?_
  have hk := mR_mQ (some (.int o)) M
  generalize mQ _ _ = Q at hk ⊢
  unfold f_mo_signAt at hf
  refine y_iload_n (i := 1) (n := 1) ⟨dX12_signAt_0, rfl⟩ rfl ?_
  refine y_aload_n (i := 0) (n := 2) ⟨dX12_signAt_1, rfl⟩ rfl ?_
  refine y_getI (n := 5) ⟨dX12_signAt_2, rfl⟩ kfX12_261 l_66 rfl ?_
  refine y_icmp_ge (t := 17) (n := 8) ⟨dX12_signAt_5, rfl, rfl⟩ (fun (hc : (gI M 66 19) ≤ a1) => ?_) (fun (hc : ¬ ((gI M 66 19) ≤ a1)) => ?_)
  · replace hf := i_t hc hf
    refine y_iconst (n := 18) (v := 0) ⟨dX12_signAt_17, rfl⟩ ki_0 ?_
    cases hf
    exact y_ireturn (n := 19) ⟨dX12_signAt_18, rfl⟩ rfl rfl hk
  · replace hf := i_f hc hf
    refine y_aload_n (i := 0) (n := 9) ⟨dX12_signAt_8, rfl⟩ rfl ?_
    refine y_getR (n := 12) ⟨dX12_signAt_9, rfl⟩ kfX12_52 l_66 rfl r_66_18 ?_
    refine y_iload_n (i := 1) (n := 13) ⟨dX12_signAt_12, rfl⟩ rfl ?_
    obtain ⟨hg1, hf⟩ := g_s hf
    refine y_iaload (n := 14) ⟨dX12_signAt_13, rfl⟩ l_81 hg1 ?_
    refine y_goto (t := 18) ⟨dX12_signAt_14, rfl, rfl⟩ ?_
    cases hf
    exact y_ireturn (n := 19) ⟨dX12_signAt_18, rfl⟩ rfl rfl hk
theorem c_mo_signAt (a1 : Int32) (M : dM) {o : Int32} {y : mz_M} {d : Nat} {Q : mz_P} {pc n i : Nat} {L : List (Option Value)} {st : List Value} (h : mz_d y.2.1 pc n 3 (.invokevirtual i)) (hl : mz_ml y.1.cls i yX12_signAt) (hf : f_mo_signAt a1 M = some o) (hd : 1 + 1 ≤ d) (hsm : (st.map (fun v => v.category)).sum ≤ 8) (hLr : mz_rL 133 L = true) (hSr : mz_rS 133 st = true) (kk : mW y d Q n L (.int o :: st) M) : mW y d Q pc L (.int a1 :: .ref 66 :: st) M :=
  y_callV kmX12_signAt kvX12_signAt l_66 (by decide +kernel) (by decide +kernel) h hl (ok_mo_signAt a1 M hf) (vs := [.int a1]) rfl rfl hd hsm hLr hSr kk
def K_mo_nextToken_0 (Q : mz_P)  (M : dM) : (dM ⊕ dM) → Prop
  | .inl s => mW mX12_nextToken 2 Q 0 [some (.ref 66), none] [] s
  | .inr t => mW mX12_nextToken 2 Q 52 [some (.ref 66), none] [] t
noncomputable def b_mo_nextToken_0_39 (M : dM) : Option (dM ⊕ dM) :=
  some (.inl (sI M 66 20 ((gI M 66 20) + 1)))
noncomputable def b_mo_nextToken_0_0 (M : dM) : Option (dM ⊕ dM) :=
  if (gI M 66 19) ≤ (gI M 66 20) then
    some (.inr M)
  else
    gd (vp_in (gI M 66 20) 1000) <|
    if (gI M 81 (gI M 66 20).toNatClampNeg) = 32 then
      b_mo_nextToken_0_39 M
    else
      if (gI M 81 (gI M 66 20).toNatClampNeg) = 10 then
        b_mo_nextToken_0_39 M
      else
        some (.inr M)
noncomputable def l_mo_nextToken_0 (M : dM) : Option dM := lpc (fun s => b_mo_nextToken_0_0 s) M
noncomputable def t_mo_nextToken_368 (y1 : Int32) (M : dM) : Option dM :=
  some (sI M 66 22 y1)
noncomputable def t_mo_nextToken_363 (M : dM) : Option dM :=
  t_mo_nextToken_368 3 M
noncomputable def t_mo_nextToken_367 (M : dM) : Option dM :=
  t_mo_nextToken_368 4 M
noncomputable def t_mo_nextToken_345 (x1 : Int32) (M : dM) : Option dM :=
  if x1 = 45 then
    t_mo_nextToken_363 M
  else
    if x1 < 59 then
      t_mo_nextToken_367 M
    else
      if 61 < x1 then
        t_mo_nextToken_367 M
      else
        t_mo_nextToken_363 M
noncomputable def t_mo_nextToken_322 (x1 : Int32) (M : dM) : Option dM :=
  if x1 < 40 then
    t_mo_nextToken_345 x1 (sI M 66 20 ((gI M 66 20) + 1))
  else
    if x1 ≤ 43 then
      t_mo_nextToken_363 (sI M 66 20 ((gI M 66 20) + 1))
    else
      t_mo_nextToken_345 x1 (sI M 66 20 ((gI M 66 20) + 1))
def K_mo_nextToken_224 (Q : mz_P)  (M : dM) : (dM ⊕ dM) → Prop
  | .inl s => mW mX12_nextToken 2 Q 224 [some (.ref 66), none] [] s
  | .inr t => mW mX12_nextToken 2 Q 299 [some (.ref 66), none] [] t
noncomputable def b_mo_nextToken_224_286 (M : dM) : Option (dM ⊕ dM) :=
  some (.inl (sI M 66 20 ((gI M 66 20) + 1)))
noncomputable def b_mo_nextToken_224_224 (M : dM) : Option (dM ⊕ dM) :=
  (f_mo_signAt (gI M 66 20) M).bind fun v6 =>
  if v6 < 48 then
    some (.inr M)
  else
    (f_mo_signAt (gI M 66 20) M).bind fun v8 =>
    if 57 < v8 then
      some (.inr M)
    else
      if 4 ≤ ((gI M 66 20) - (gI M 66 21)) then
        b_mo_nextToken_224_286 M
      else
        (f_mo_signAt (gI M 66 20) M).bind fun v10 =>
        b_mo_nextToken_224_286 (sI M 66 24 ((((gI M 66 24) * 10) + v10) - 48))
noncomputable def l_mo_nextToken_224 (M : dM) : Option dM := lpc (fun s => b_mo_nextToken_224_224 s) M
noncomputable def t_mo_nextToken_318 (y1 : Int32) (M : dM) : Option dM :=
  some (sI M 66 22 y1)
noncomputable def t_mo_nextToken_299 (M : dM) : Option dM :=
  if ((gI M 66 20) - (gI M 66 21)) ≤ 4 then
    t_mo_nextToken_318 2 M
  else
    t_mo_nextToken_318 4 M
noncomputable def t_mo_nextToken_212 (x1 : Int32) (M : dM) : Option dM :=
  if x1 < 48 then
    t_mo_nextToken_322 x1 M
  else
    if 57 < x1 then
      t_mo_nextToken_322 x1 M
    else
      (l_mo_nextToken_224 M).bind fun t12 =>
        t_mo_nextToken_299 t12
def K_mo_nextToken_109 (Q : mz_P)  (M : dM) : (dM ⊕ dM) → Prop
  | .inl s => mW mX12_nextToken 2 Q 109 [some (.ref 66), none] [] s
  | .inr t => mW mX12_nextToken 2 Q 188 [some (.ref 66), none] [] t
noncomputable def b_mo_nextToken_109_175 (M : dM) : Option (dM ⊕ dM) :=
  some (.inl (sI M 66 20 ((gI M 66 20) + 1)))
noncomputable def b_mo_nextToken_109_109 (M : dM) : Option (dM ⊕ dM) :=
  (f_mo_signAt (gI M 66 20) M).bind fun v15 =>
  if v15 < 97 then
    some (.inr M)
  else
    (f_mo_signAt (gI M 66 20) M).bind fun v17 =>
    if 122 < v17 then
      some (.inr M)
    else
      if 8 ≤ ((gI M 66 20) - (gI M 66 21)) then
        b_mo_nextToken_109_175 M
      else
        (f_mo_signAt (gI M 66 20) M).bind fun v19 =>
        b_mo_nextToken_109_175 (sJ M 66 23 ((((gJ M 66 23) * 27) + v19.toInt64) - 96))
noncomputable def l_mo_nextToken_109 (M : dM) : Option dM := lpc (fun s => b_mo_nextToken_109_109 s) M
noncomputable def t_mo_nextToken_208 (y1 : Int32) (M : dM) : Option dM :=
  some (sI M 66 22 y1)
noncomputable def t_mo_nextToken_188 (M : dM) : Option dM :=
  if ((gI M 66 20) - (gI M 66 21)) ≤ 8 then
    t_mo_nextToken_208 1 M
  else
    t_mo_nextToken_208 4 M
noncomputable def t_mo_nextToken_52 (M : dM) : Option dM :=
  if (gI (sI (sJ (sI M 66 21 (gI M 66 20)) 66 23 0) 66 24 0) 66 20) = (gI (sI (sJ (sI M 66 21 (gI M 66 20)) 66 23 0) 66 24 0) 66 19) then
    some (sI (sI (sJ (sI M 66 21 (gI M 66 20)) 66 23 0) 66 24 0) 66 22 0)
  else
    gd (vp_in (gI (sI (sJ (sI M 66 21 (gI M 66 20)) 66 23 0) 66 24 0) 66 20) 1000) <|
    if (gI (sI (sJ (sI M 66 21 (gI M 66 20)) 66 23 0) 66 24 0) 81 (gI (sI (sJ (sI M 66 21 (gI M 66 20)) 66 23 0) 66 24 0) 66 20).toNatClampNeg) < 97 then
      t_mo_nextToken_212 (gI (sI (sJ (sI M 66 21 (gI M 66 20)) 66 23 0) 66 24 0) 81 (gI (sI (sJ (sI M 66 21 (gI M 66 20)) 66 23 0) 66 24 0) 66 20).toNatClampNeg) (sI (sJ (sI M 66 21 (gI M 66 20)) 66 23 0) 66 24 0)
    else
      if 122 < (gI (sI (sJ (sI M 66 21 (gI M 66 20)) 66 23 0) 66 24 0) 81 (gI (sI (sJ (sI M 66 21 (gI M 66 20)) 66 23 0) 66 24 0) 66 20).toNatClampNeg) then
        t_mo_nextToken_212 (gI (sI (sJ (sI M 66 21 (gI M 66 20)) 66 23 0) 66 24 0) 81 (gI (sI (sJ (sI M 66 21 (gI M 66 20)) 66 23 0) 66 24 0) 66 20).toNatClampNeg) (sI (sJ (sI M 66 21 (gI M 66 20)) 66 23 0) 66 24 0)
      else
        (l_mo_nextToken_109 (sI (sJ (sI M 66 21 (gI M 66 20)) 66 23 0) 66 24 0)).bind fun t21 =>
          t_mo_nextToken_188 t21
noncomputable def f_mo_nextToken (M : dM) : Option dM :=
  (l_mo_nextToken_0 M).bind fun t2 =>
    t_mo_nextToken_52 t2
theorem w_b_mo_nextToken_0_39  (M : dM) {Q : mz_P} {o : (dM ⊕ dM)} (hf : b_mo_nextToken_0_39 M = some o) (hk : K_mo_nextToken_0 Q  M o) : mW mX12_nextToken 2 Q 39 [some (.ref 66), none] [] M := by
  unfold b_mo_nextToken_0_39 at hf
  refine y_aload_n (i := 0) (n := 40) ⟨dX12_nextToken_39, rfl⟩ rfl ?_
  refine y_dup_r (n := 41) ⟨dX12_nextToken_40, rfl⟩ ?_
  refine y_getI (n := 44) ⟨dX12_nextToken_41, rfl⟩ kfX12_264 l_66 rfl ?_
  refine y_iconst (n := 45) (v := 1) ⟨dX12_nextToken_44, rfl⟩ ki_1 ?_
  refine y_iadd (n := 46) ⟨dX12_nextToken_45, rfl⟩ ?_
  refine y_putI (n := 49) ⟨dX12_nextToken_46, rfl⟩ kfX12_264 l_66 (by decide +kernel) rfl ?_
  refine y_goto (t := 0) ⟨dX12_nextToken_49, rfl, rfl⟩ ?_
  cases hf
  exact y_wk ⟨Or.inr rfl, Or.inr rfl, trivial⟩ hk
theorem w_b_mo_nextToken_0_0  (M : dM) {Q : mz_P} {o : (dM ⊕ dM)} (hf : b_mo_nextToken_0_0 M = some o) (hk : K_mo_nextToken_0 Q  M o) : mW mX12_nextToken 2 Q 0 [some (.ref 66), none] [] M := by
  unfold b_mo_nextToken_0_0 at hf
  refine y_aload_n (i := 0) (n := 1) ⟨dX12_nextToken_0, rfl⟩ rfl ?_
  refine y_getI (n := 4) ⟨dX12_nextToken_1, rfl⟩ kfX12_264 l_66 rfl ?_
  refine y_aload_n (i := 0) (n := 5) ⟨dX12_nextToken_4, rfl⟩ rfl ?_
  refine y_getI (n := 8) ⟨dX12_nextToken_5, rfl⟩ kfX12_261 l_66 rfl ?_
  refine y_icmp_ge (t := 52) (n := 11) ⟨dX12_nextToken_8, rfl, rfl⟩ (fun (hc : (gI M 66 19) ≤ (gI M 66 20)) => ?_) (fun (hc : ¬ ((gI M 66 19) ≤ (gI M 66 20))) => ?_)
  · replace hf := i_t hc hf
    cases hf
    exact y_wk ⟨Or.inr rfl, Or.inr rfl, trivial⟩ hk
  · replace hf := i_f hc hf
    refine y_aload_n (i := 0) (n := 12) ⟨dX12_nextToken_11, rfl⟩ rfl ?_
    refine y_getR (n := 15) ⟨dX12_nextToken_12, rfl⟩ kfX12_52 l_66 rfl r_66_18 ?_
    refine y_aload_n (i := 0) (n := 16) ⟨dX12_nextToken_15, rfl⟩ rfl ?_
    refine y_getI (n := 19) ⟨dX12_nextToken_16, rfl⟩ kfX12_264 l_66 rfl ?_
    obtain ⟨hg1, hf⟩ := g_s hf
    refine y_iaload (n := 20) ⟨dX12_nextToken_19, rfl⟩ l_81 hg1 ?_
    refine y_bipush (n := 22) (v := 32) ⟨dX12_nextToken_20, rfl⟩ kb_32 ?_
    refine y_icmp_eq (t := 39) (n := 25) ⟨dX12_nextToken_22, rfl, rfl⟩ (fun (hc : (gI M 81 (gI M 66 20).toNatClampNeg) = 32) => ?_) (fun (hc : ¬ ((gI M 81 (gI M 66 20).toNatClampNeg) = 32)) => ?_)
    · replace hf := i_t hc hf
      exact y_wk ⟨Or.inr rfl, Or.inr rfl, trivial⟩ (w_b_mo_nextToken_0_39 M hf hk)
    · replace hf := i_f hc hf
      refine y_aload_n (i := 0) (n := 26) ⟨dX12_nextToken_25, rfl⟩ rfl ?_
      refine y_getR (n := 29) ⟨dX12_nextToken_26, rfl⟩ kfX12_52 l_66 rfl r_66_18 ?_
      refine y_aload_n (i := 0) (n := 30) ⟨dX12_nextToken_29, rfl⟩ rfl ?_
      refine y_getI (n := 33) ⟨dX12_nextToken_30, rfl⟩ kfX12_264 l_66 rfl ?_
      refine y_iaload (n := 34) ⟨dX12_nextToken_33, rfl⟩ l_81 hg1 ?_
      refine y_bipush (n := 36) (v := 10) ⟨dX12_nextToken_34, rfl⟩ kb_10 ?_
      refine y_icmp_ne (t := 52) (n := 39) ⟨dX12_nextToken_36, rfl, rfl⟩ (fun (hc : ¬ ((gI M 81 (gI M 66 20).toNatClampNeg) = 10)) => ?_) (fun (hc : (gI M 81 (gI M 66 20).toNatClampNeg) = 10) => ?_)
      · replace hf := i_f hc hf
        cases hf
        exact y_wk ⟨Or.inr rfl, Or.inr rfl, trivial⟩ hk
      · replace hf := i_t hc hf
        exact y_wk ⟨Or.inr rfl, Or.inr rfl, trivial⟩ (w_b_mo_nextToken_0_39 M hf hk)
theorem wl_mo_nextToken_0  (M : dM) {Q : mz_P} {x : dM} (hf : l_mo_nextToken_0 M = some x) (hk : K_mo_nextToken_0 Q  M (.inr x)) : mW mX12_nextToken 2 Q 0 [some (.ref 66), none] [] M :=
  lpc_wp (Wh := fun s => mW mX12_nextToken 2 Q 0 [some (.ref 66), none] [] s) (K := K_mo_nextToken_0 Q  M) (fun _ h => h) (fun s o hb hk => w_b_mo_nextToken_0_0 s hb hk) hf hk
theorem w_t_mo_nextToken_368 (y1 : Int32) (M : dM) {Q : mz_P} {o : dM} (hf : t_mo_nextToken_368 y1 M = some o) (hk : mR Q none o) : mW mX12_nextToken 2 Q 368 [none, none] [.ref 66, .int y1] M := by
  unfold t_mo_nextToken_368 at hf
  refine y_putI (n := 371) ⟨dX12_nextToken_368, rfl⟩ kfX12_277 l_66 (by decide +kernel) rfl ?_
  cases hf
  exact y_return (n := 372) ⟨dX12_nextToken_371, rfl⟩ rfl hk
theorem w_t_mo_nextToken_363  (M : dM) {Q : mz_P} {o : dM} (hf : t_mo_nextToken_363 M = some o) (hk : mR Q none o) : mW mX12_nextToken 2 Q 363 [none, none] [.ref 66] M := by
  unfold t_mo_nextToken_363 at hf
  refine y_iconst (n := 364) (v := 3) ⟨dX12_nextToken_363, rfl⟩ ki_3 ?_
  refine y_goto (t := 368) ⟨dX12_nextToken_364, rfl, rfl⟩ ?_
  exact y_wk ⟨Or.inr rfl, Or.inr rfl, trivial⟩ (w_t_mo_nextToken_368 3 M hf hk)
theorem w_t_mo_nextToken_367  (M : dM) {Q : mz_P} {o : dM} (hf : t_mo_nextToken_367 M = some o) (hk : mR Q none o) : mW mX12_nextToken 2 Q 367 [none, none] [.ref 66] M := by
  unfold t_mo_nextToken_367 at hf
  refine y_iconst (n := 368) (v := 4) ⟨dX12_nextToken_367, rfl⟩ ki_4 ?_
  exact y_wk ⟨Or.inr rfl, Or.inr rfl, trivial⟩ (w_t_mo_nextToken_368 4 M hf hk)
theorem w_t_mo_nextToken_345 (x1 : Int32) (M : dM) {Q : mz_P} {o : dM} (hf : t_mo_nextToken_345 x1 M = some o) (hk : mR Q none o) : mW mX12_nextToken 2 Q 345 [none, some (.int x1)] [.ref 66] M := by
  unfold t_mo_nextToken_345 at hf
  refine y_iload_n (i := 1) (n := 346) ⟨dX12_nextToken_345, rfl⟩ rfl ?_
  refine y_bipush (n := 348) (v := 45) ⟨dX12_nextToken_346, rfl⟩ kb_45 ?_
  refine y_icmp_eq (t := 363) (n := 351) ⟨dX12_nextToken_348, rfl, rfl⟩ (fun (hc : x1 = 45) => ?_) (fun (hc : ¬ (x1 = 45)) => ?_)
  · replace hf := i_t hc hf
    exact y_wk ⟨Or.inr rfl, Or.inl rfl, trivial⟩ (w_t_mo_nextToken_363 M hf hk)
  · replace hf := i_f hc hf
    refine y_iload_n (i := 1) (n := 352) ⟨dX12_nextToken_351, rfl⟩ rfl ?_
    refine y_bipush (n := 354) (v := 59) ⟨dX12_nextToken_352, rfl⟩ kb_59 ?_
    refine y_icmp_lt (t := 367) (n := 357) ⟨dX12_nextToken_354, rfl, rfl⟩ (fun (hc : x1 < 59) => ?_) (fun (hc : ¬ (x1 < 59)) => ?_)
    · replace hf := i_t hc hf
      exact y_wk ⟨Or.inr rfl, Or.inl rfl, trivial⟩ (w_t_mo_nextToken_367 M hf hk)
    · replace hf := i_f hc hf
      refine y_iload_n (i := 1) (n := 358) ⟨dX12_nextToken_357, rfl⟩ rfl ?_
      refine y_bipush (n := 360) (v := 61) ⟨dX12_nextToken_358, rfl⟩ kb_61 ?_
      refine y_icmp_gt (t := 367) (n := 363) ⟨dX12_nextToken_360, rfl, rfl⟩ (fun (hc : 61 < x1) => ?_) (fun (hc : ¬ (61 < x1)) => ?_)
      · replace hf := i_t hc hf
        exact y_wk ⟨Or.inr rfl, Or.inl rfl, trivial⟩ (w_t_mo_nextToken_367 M hf hk)
      · replace hf := i_f hc hf
        exact y_wk ⟨Or.inr rfl, Or.inl rfl, trivial⟩ (w_t_mo_nextToken_363 M hf hk)
theorem w_t_mo_nextToken_322 (x1 : Int32) (M : dM) {Q : mz_P} {o : dM} (hf : t_mo_nextToken_322 x1 M = some o) (hk : mR Q none o) : mW mX12_nextToken 2 Q 322 [some (.ref 66), some (.int x1)] [] M := by
  unfold t_mo_nextToken_322 at hf
  refine y_aload_n (i := 0) (n := 323) ⟨dX12_nextToken_322, rfl⟩ rfl ?_
  refine y_dup_r (n := 324) ⟨dX12_nextToken_323, rfl⟩ ?_
  refine y_getI (n := 327) ⟨dX12_nextToken_324, rfl⟩ kfX12_264 l_66 rfl ?_
  refine y_iconst (n := 328) (v := 1) ⟨dX12_nextToken_327, rfl⟩ ki_1 ?_
  refine y_iadd (n := 329) ⟨dX12_nextToken_328, rfl⟩ ?_
  refine y_putI (n := 332) ⟨dX12_nextToken_329, rfl⟩ kfX12_264 l_66 (by decide +kernel) rfl ?_
  refine y_aload_n (i := 0) (n := 333) ⟨dX12_nextToken_332, rfl⟩ rfl ?_
  refine y_iload_n (i := 1) (n := 334) ⟨dX12_nextToken_333, rfl⟩ rfl ?_
  refine y_bipush (n := 336) (v := 40) ⟨dX12_nextToken_334, rfl⟩ kb_40 ?_
  refine y_icmp_lt (t := 345) (n := 339) ⟨dX12_nextToken_336, rfl, rfl⟩ (fun (hc : x1 < 40) => ?_) (fun (hc : ¬ (x1 < 40)) => ?_)
  · replace hf := i_t hc hf
    exact y_wk ⟨Or.inl rfl, Or.inr rfl, trivial⟩ (w_t_mo_nextToken_345 x1 (sI M 66 20 ((gI M 66 20) + 1)) hf hk)
  · replace hf := i_f hc hf
    refine y_iload_n (i := 1) (n := 340) ⟨dX12_nextToken_339, rfl⟩ rfl ?_
    refine y_bipush (n := 342) (v := 43) ⟨dX12_nextToken_340, rfl⟩ kb_43 ?_
    refine y_icmp_le (t := 363) (n := 345) ⟨dX12_nextToken_342, rfl, rfl⟩ (fun (hc : x1 ≤ 43) => ?_) (fun (hc : ¬ (x1 ≤ 43)) => ?_)
    · replace hf := i_t hc hf
      exact y_wk ⟨Or.inl rfl, Or.inl rfl, trivial⟩ (w_t_mo_nextToken_363 (sI M 66 20 ((gI M 66 20) + 1)) hf hk)
    · replace hf := i_f hc hf
      exact y_wk ⟨Or.inl rfl, Or.inr rfl, trivial⟩ (w_t_mo_nextToken_345 x1 (sI M 66 20 ((gI M 66 20) + 1)) hf hk)
theorem w_b_mo_nextToken_224_286  (M : dM) {Q : mz_P} {o : (dM ⊕ dM)} (hf : b_mo_nextToken_224_286 M = some o) (hk : K_mo_nextToken_224 Q  M o) : mW mX12_nextToken 2 Q 286 [some (.ref 66), none] [] M := by
  unfold b_mo_nextToken_224_286 at hf
  refine y_aload_n (i := 0) (n := 287) ⟨dX12_nextToken_286, rfl⟩ rfl ?_
  refine y_dup_r (n := 288) ⟨dX12_nextToken_287, rfl⟩ ?_
  refine y_getI (n := 291) ⟨dX12_nextToken_288, rfl⟩ kfX12_264 l_66 rfl ?_
  refine y_iconst (n := 292) (v := 1) ⟨dX12_nextToken_291, rfl⟩ ki_1 ?_
  refine y_iadd (n := 293) ⟨dX12_nextToken_292, rfl⟩ ?_
  refine y_putI (n := 296) ⟨dX12_nextToken_293, rfl⟩ kfX12_264 l_66 (by decide +kernel) rfl ?_
  refine y_goto (t := 224) ⟨dX12_nextToken_296, rfl, rfl⟩ ?_
  cases hf
  exact y_wk ⟨Or.inr rfl, Or.inr rfl, trivial⟩ hk
theorem w_b_mo_nextToken_224_224  (M : dM) {Q : mz_P} {o : (dM ⊕ dM)} (hf : b_mo_nextToken_224_224 M = some o) (hk : K_mo_nextToken_224 Q  M o) : mW mX12_nextToken 2 Q 224 [some (.ref 66), none] [] M := by
  unfold b_mo_nextToken_224_224 at hf
  refine y_aload_n (i := 0) (n := 225) ⟨dX12_nextToken_224, rfl⟩ rfl ?_
  refine y_aload_n (i := 0) (n := 226) ⟨dX12_nextToken_225, rfl⟩ rfl ?_
  refine y_getI (n := 229) ⟨dX12_nextToken_226, rfl⟩ kfX12_264 l_66 rfl ?_
  obtain ⟨v6, hv7, hf⟩ := b_s hf
  refine c_mo_signAt (gI M 66 20) M (n := 232) ⟨dX12_nextToken_229, rfl⟩ klX12_280 hv7 (by decide) (Nat.le_of_ble_eq_true rfl) rfl rfl ?_
  refine y_bipush (n := 234) (v := 48) ⟨dX12_nextToken_232, rfl⟩ kb_48 ?_
  refine y_icmp_lt (t := 299) (n := 237) ⟨dX12_nextToken_234, rfl, rfl⟩ (fun (hc : v6 < 48) => ?_) (fun (hc : ¬ (v6 < 48)) => ?_)
  · replace hf := i_t hc hf
    cases hf
    exact y_wk ⟨Or.inr rfl, Or.inr rfl, trivial⟩ hk
  · replace hf := i_f hc hf
    refine y_aload_n (i := 0) (n := 238) ⟨dX12_nextToken_237, rfl⟩ rfl ?_
    refine y_aload_n (i := 0) (n := 239) ⟨dX12_nextToken_238, rfl⟩ rfl ?_
    refine y_getI (n := 242) ⟨dX12_nextToken_239, rfl⟩ kfX12_264 l_66 rfl ?_
    obtain ⟨v8, hv9, hf⟩ := b_s hf
    refine c_mo_signAt (gI M 66 20) M (n := 245) ⟨dX12_nextToken_242, rfl⟩ klX12_280 hv9 (by decide) (Nat.le_of_ble_eq_true rfl) rfl rfl ?_
    refine y_bipush (n := 247) (v := 57) ⟨dX12_nextToken_245, rfl⟩ kb_57 ?_
    refine y_icmp_gt (t := 299) (n := 250) ⟨dX12_nextToken_247, rfl, rfl⟩ (fun (hc : 57 < v8) => ?_) (fun (hc : ¬ (57 < v8)) => ?_)
    · replace hf := i_t hc hf
      cases hf
      exact y_wk ⟨Or.inr rfl, Or.inr rfl, trivial⟩ hk
    · replace hf := i_f hc hf
      refine y_aload_n (i := 0) (n := 251) ⟨dX12_nextToken_250, rfl⟩ rfl ?_
      refine y_getI (n := 254) ⟨dX12_nextToken_251, rfl⟩ kfX12_264 l_66 rfl ?_
      refine y_aload_n (i := 0) (n := 255) ⟨dX12_nextToken_254, rfl⟩ rfl ?_
      refine y_getI (n := 258) ⟨dX12_nextToken_255, rfl⟩ kfX12_267 l_66 rfl ?_
      refine y_isub (n := 259) ⟨dX12_nextToken_258, rfl⟩ ?_
      refine y_iconst (n := 260) (v := 4) ⟨dX12_nextToken_259, rfl⟩ ki_4 ?_
      refine y_icmp_ge (t := 286) (n := 263) ⟨dX12_nextToken_260, rfl, rfl⟩ (fun (hc : 4 ≤ ((gI M 66 20) - (gI M 66 21))) => ?_) (fun (hc : ¬ (4 ≤ ((gI M 66 20) - (gI M 66 21)))) => ?_)
      · replace hf := i_t hc hf
        exact y_wk ⟨Or.inr rfl, Or.inr rfl, trivial⟩ (w_b_mo_nextToken_224_286 M hf hk)
      · replace hf := i_f hc hf
        refine y_aload_n (i := 0) (n := 264) ⟨dX12_nextToken_263, rfl⟩ rfl ?_
        refine y_aload_n (i := 0) (n := 265) ⟨dX12_nextToken_264, rfl⟩ rfl ?_
        refine y_getI (n := 268) ⟨dX12_nextToken_265, rfl⟩ kfX12_274 l_66 rfl ?_
        refine y_bipush (n := 270) (v := 10) ⟨dX12_nextToken_268, rfl⟩ kb_10 ?_
        refine y_imul (n := 271) ⟨dX12_nextToken_270, rfl⟩ ?_
        refine y_aload_n (i := 0) (n := 272) ⟨dX12_nextToken_271, rfl⟩ rfl ?_
        refine y_aload_n (i := 0) (n := 273) ⟨dX12_nextToken_272, rfl⟩ rfl ?_
        refine y_getI (n := 276) ⟨dX12_nextToken_273, rfl⟩ kfX12_264 l_66 rfl ?_
        obtain ⟨v10, hv11, hf⟩ := b_s hf
        refine c_mo_signAt (gI M 66 20) M (n := 279) ⟨dX12_nextToken_276, rfl⟩ klX12_280 hv11 (by decide) (Nat.le_of_ble_eq_true rfl) rfl rfl ?_
        refine y_iadd (n := 280) ⟨dX12_nextToken_279, rfl⟩ ?_
        refine y_bipush (n := 282) (v := 48) ⟨dX12_nextToken_280, rfl⟩ kb_48 ?_
        refine y_isub (n := 283) ⟨dX12_nextToken_282, rfl⟩ ?_
        refine y_putI (n := 286) ⟨dX12_nextToken_283, rfl⟩ kfX12_274 l_66 (by decide +kernel) rfl ?_
        exact y_wk ⟨Or.inr rfl, Or.inr rfl, trivial⟩ (w_b_mo_nextToken_224_286 (sI M 66 24 ((((gI M 66 24) * 10) + v10) - 48)) hf hk)
theorem wl_mo_nextToken_224  (M : dM) {Q : mz_P} {x : dM} (hf : l_mo_nextToken_224 M = some x) (hk : K_mo_nextToken_224 Q  M (.inr x)) : mW mX12_nextToken 2 Q 224 [some (.ref 66), none] [] M :=
  lpc_wp (Wh := fun s => mW mX12_nextToken 2 Q 224 [some (.ref 66), none] [] s) (K := K_mo_nextToken_224 Q  M) (fun _ h => h) (fun s o hb hk => w_b_mo_nextToken_224_224 s hb hk) hf hk
theorem w_t_mo_nextToken_318 (y1 : Int32) (M : dM) {Q : mz_P} {o : dM} (hf : t_mo_nextToken_318 y1 M = some o) (hk : mR Q none o) : mW mX12_nextToken 2 Q 318 [none, none] [.ref 66, .int y1] M := by
  unfold t_mo_nextToken_318 at hf
  refine y_putI (n := 321) ⟨dX12_nextToken_318, rfl⟩ kfX12_277 l_66 (by decide +kernel) rfl ?_
  cases hf
  exact y_return (n := 322) ⟨dX12_nextToken_321, rfl⟩ rfl hk
theorem w_t_mo_nextToken_299  (M : dM) {Q : mz_P} {o : dM} (hf : t_mo_nextToken_299 M = some o) (hk : mR Q none o) : mW mX12_nextToken 2 Q 299 [some (.ref 66), none] [] M := by
  unfold t_mo_nextToken_299 at hf
  refine y_aload_n (i := 0) (n := 300) ⟨dX12_nextToken_299, rfl⟩ rfl ?_
  refine y_aload_n (i := 0) (n := 301) ⟨dX12_nextToken_300, rfl⟩ rfl ?_
  refine y_getI (n := 304) ⟨dX12_nextToken_301, rfl⟩ kfX12_264 l_66 rfl ?_
  refine y_aload_n (i := 0) (n := 305) ⟨dX12_nextToken_304, rfl⟩ rfl ?_
  refine y_getI (n := 308) ⟨dX12_nextToken_305, rfl⟩ kfX12_267 l_66 rfl ?_
  refine y_isub (n := 309) ⟨dX12_nextToken_308, rfl⟩ ?_
  refine y_iconst (n := 310) (v := 4) ⟨dX12_nextToken_309, rfl⟩ ki_4 ?_
  refine y_icmp_le (t := 317) (n := 313) ⟨dX12_nextToken_310, rfl, rfl⟩ (fun (hc : ((gI M 66 20) - (gI M 66 21)) ≤ 4) => ?_) (fun (hc : ¬ (((gI M 66 20) - (gI M 66 21)) ≤ 4)) => ?_)
  · replace hf := i_t hc hf
    refine y_iconst (n := 318) (v := 2) ⟨dX12_nextToken_317, rfl⟩ ki_2 ?_
    exact y_wk ⟨Or.inl rfl, Or.inr rfl, trivial⟩ (w_t_mo_nextToken_318 2 M hf hk)
  · replace hf := i_f hc hf
    refine y_iconst (n := 314) (v := 4) ⟨dX12_nextToken_313, rfl⟩ ki_4 ?_
    refine y_goto (t := 318) ⟨dX12_nextToken_314, rfl, rfl⟩ ?_
    exact y_wk ⟨Or.inl rfl, Or.inr rfl, trivial⟩ (w_t_mo_nextToken_318 4 M hf hk)
theorem w_t_mo_nextToken_212 (x1 : Int32) (M : dM) {Q : mz_P} {o : dM} (hf : t_mo_nextToken_212 x1 M = some o) (hk : mR Q none o) : mW mX12_nextToken 2 Q 212 [some (.ref 66), some (.int x1)] [] M := by
  unfold t_mo_nextToken_212 at hf
  refine y_iload_n (i := 1) (n := 213) ⟨dX12_nextToken_212, rfl⟩ rfl ?_
  refine y_bipush (n := 215) (v := 48) ⟨dX12_nextToken_213, rfl⟩ kb_48 ?_
  refine y_icmp_lt (t := 322) (n := 218) ⟨dX12_nextToken_215, rfl, rfl⟩ (fun (hc : x1 < 48) => ?_) (fun (hc : ¬ (x1 < 48)) => ?_)
  · replace hf := i_t hc hf
    exact y_wk ⟨Or.inr rfl, Or.inr rfl, trivial⟩ (w_t_mo_nextToken_322 x1 M hf hk)
  · replace hf := i_f hc hf
    refine y_iload_n (i := 1) (n := 219) ⟨dX12_nextToken_218, rfl⟩ rfl ?_
    refine y_bipush (n := 221) (v := 57) ⟨dX12_nextToken_219, rfl⟩ kb_57 ?_
    refine y_icmp_gt (t := 322) (n := 224) ⟨dX12_nextToken_221, rfl, rfl⟩ (fun (hc : 57 < x1) => ?_) (fun (hc : ¬ (57 < x1)) => ?_)
    · replace hf := i_t hc hf
      exact y_wk ⟨Or.inr rfl, Or.inr rfl, trivial⟩ (w_t_mo_nextToken_322 x1 M hf hk)
    · replace hf := i_f hc hf
      obtain ⟨t12, hl13, hf⟩ := b_s hf
      refine y_wk ⟨Or.inr rfl, Or.inl rfl, trivial⟩ (wl_mo_nextToken_224 M hl13 ?_)
      show mW mX12_nextToken 2 Q 299 [some (.ref 66), none] [] t12
      exact y_wk ⟨Or.inr rfl, Or.inl rfl, trivial⟩ (w_t_mo_nextToken_299 t12 hf hk)
theorem w_b_mo_nextToken_109_175  (M : dM) {Q : mz_P} {o : (dM ⊕ dM)} (hf : b_mo_nextToken_109_175 M = some o) (hk : K_mo_nextToken_109 Q  M o) : mW mX12_nextToken 2 Q 175 [some (.ref 66), none] [] M := by
  unfold b_mo_nextToken_109_175 at hf
  refine y_aload_n (i := 0) (n := 176) ⟨dX12_nextToken_175, rfl⟩ rfl ?_
  refine y_dup_r (n := 177) ⟨dX12_nextToken_176, rfl⟩ ?_
  refine y_getI (n := 180) ⟨dX12_nextToken_177, rfl⟩ kfX12_264 l_66 rfl ?_
  refine y_iconst (n := 181) (v := 1) ⟨dX12_nextToken_180, rfl⟩ ki_1 ?_
  refine y_iadd (n := 182) ⟨dX12_nextToken_181, rfl⟩ ?_
  refine y_putI (n := 185) ⟨dX12_nextToken_182, rfl⟩ kfX12_264 l_66 (by decide +kernel) rfl ?_
  refine y_goto (t := 109) ⟨dX12_nextToken_185, rfl, rfl⟩ ?_
  cases hf
  exact y_wk ⟨Or.inr rfl, Or.inr rfl, trivial⟩ hk
theorem w_b_mo_nextToken_109_109  (M : dM) {Q : mz_P} {o : (dM ⊕ dM)} (hf : b_mo_nextToken_109_109 M = some o) (hk : K_mo_nextToken_109 Q  M o) : mW mX12_nextToken 2 Q 109 [some (.ref 66), none] [] M := by
  unfold b_mo_nextToken_109_109 at hf
  refine y_aload_n (i := 0) (n := 110) ⟨dX12_nextToken_109, rfl⟩ rfl ?_
  refine y_aload_n (i := 0) (n := 111) ⟨dX12_nextToken_110, rfl⟩ rfl ?_
  refine y_getI (n := 114) ⟨dX12_nextToken_111, rfl⟩ kfX12_264 l_66 rfl ?_
  obtain ⟨v15, hv16, hf⟩ := b_s hf
  refine c_mo_signAt (gI M 66 20) M (n := 117) ⟨dX12_nextToken_114, rfl⟩ klX12_280 hv16 (by decide) (Nat.le_of_ble_eq_true rfl) rfl rfl ?_
  refine y_bipush (n := 119) (v := 97) ⟨dX12_nextToken_117, rfl⟩ kb_97 ?_
  refine y_icmp_lt (t := 188) (n := 122) ⟨dX12_nextToken_119, rfl, rfl⟩ (fun (hc : v15 < 97) => ?_) (fun (hc : ¬ (v15 < 97)) => ?_)
  · replace hf := i_t hc hf
    cases hf
    exact y_wk ⟨Or.inr rfl, Or.inr rfl, trivial⟩ hk
  · replace hf := i_f hc hf
    refine y_aload_n (i := 0) (n := 123) ⟨dX12_nextToken_122, rfl⟩ rfl ?_
    refine y_aload_n (i := 0) (n := 124) ⟨dX12_nextToken_123, rfl⟩ rfl ?_
    refine y_getI (n := 127) ⟨dX12_nextToken_124, rfl⟩ kfX12_264 l_66 rfl ?_
    obtain ⟨v17, hv18, hf⟩ := b_s hf
    refine c_mo_signAt (gI M 66 20) M (n := 130) ⟨dX12_nextToken_127, rfl⟩ klX12_280 hv18 (by decide) (Nat.le_of_ble_eq_true rfl) rfl rfl ?_
    refine y_bipush (n := 132) (v := 122) ⟨dX12_nextToken_130, rfl⟩ kb_122 ?_
    refine y_icmp_gt (t := 188) (n := 135) ⟨dX12_nextToken_132, rfl, rfl⟩ (fun (hc : 122 < v17) => ?_) (fun (hc : ¬ (122 < v17)) => ?_)
    · replace hf := i_t hc hf
      cases hf
      exact y_wk ⟨Or.inr rfl, Or.inr rfl, trivial⟩ hk
    · replace hf := i_f hc hf
      refine y_aload_n (i := 0) (n := 136) ⟨dX12_nextToken_135, rfl⟩ rfl ?_
      refine y_getI (n := 139) ⟨dX12_nextToken_136, rfl⟩ kfX12_264 l_66 rfl ?_
      refine y_aload_n (i := 0) (n := 140) ⟨dX12_nextToken_139, rfl⟩ rfl ?_
      refine y_getI (n := 143) ⟨dX12_nextToken_140, rfl⟩ kfX12_267 l_66 rfl ?_
      refine y_isub (n := 144) ⟨dX12_nextToken_143, rfl⟩ ?_
      refine y_bipush (n := 146) (v := 8) ⟨dX12_nextToken_144, rfl⟩ kb_8 ?_
      refine y_icmp_ge (t := 175) (n := 149) ⟨dX12_nextToken_146, rfl, rfl⟩ (fun (hc : 8 ≤ ((gI M 66 20) - (gI M 66 21))) => ?_) (fun (hc : ¬ (8 ≤ ((gI M 66 20) - (gI M 66 21)))) => ?_)
      · replace hf := i_t hc hf
        exact y_wk ⟨Or.inr rfl, Or.inr rfl, trivial⟩ (w_b_mo_nextToken_109_175 M hf hk)
      · replace hf := i_f hc hf
        refine y_aload_n (i := 0) (n := 150) ⟨dX12_nextToken_149, rfl⟩ rfl ?_
        refine y_aload_n (i := 0) (n := 151) ⟨dX12_nextToken_150, rfl⟩ rfl ?_
        refine y_getJ (n := 154) ⟨dX12_nextToken_151, rfl⟩ kfX12_270 l_66 rfl ?_
        refine y_ldc2 (n := 157) ⟨dX12_nextToken_154, rfl⟩ kcX12_283 ?_
        refine y_lmul (n := 158) ⟨dX12_nextToken_157, rfl⟩ ?_
        refine y_aload_n (i := 0) (n := 159) ⟨dX12_nextToken_158, rfl⟩ rfl ?_
        refine y_aload_n (i := 0) (n := 160) ⟨dX12_nextToken_159, rfl⟩ rfl ?_
        refine y_getI (n := 163) ⟨dX12_nextToken_160, rfl⟩ kfX12_264 l_66 rfl ?_
        obtain ⟨v19, hv20, hf⟩ := b_s hf
        refine c_mo_signAt (gI M 66 20) M (n := 166) ⟨dX12_nextToken_163, rfl⟩ klX12_280 hv20 (by decide) (Nat.le_of_ble_eq_true rfl) rfl rfl ?_
        refine y_i2l (n := 167) ⟨dX12_nextToken_166, rfl⟩ ?_
        refine y_ladd (n := 168) ⟨dX12_nextToken_167, rfl⟩ ?_
        refine y_ldc2 (n := 171) ⟨dX12_nextToken_168, rfl⟩ kcX12_285 ?_
        refine y_lsub (n := 172) ⟨dX12_nextToken_171, rfl⟩ ?_
        refine y_putJ (n := 175) ⟨dX12_nextToken_172, rfl⟩ kfX12_270 l_66 (by decide +kernel) rfl ?_
        exact y_wk ⟨Or.inr rfl, Or.inr rfl, trivial⟩ (w_b_mo_nextToken_109_175 (sJ M 66 23 ((((gJ M 66 23) * 27) + v19.toInt64) - 96)) hf hk)
theorem wl_mo_nextToken_109  (M : dM) {Q : mz_P} {x : dM} (hf : l_mo_nextToken_109 M = some x) (hk : K_mo_nextToken_109 Q  M (.inr x)) : mW mX12_nextToken 2 Q 109 [some (.ref 66), none] [] M :=
  lpc_wp (Wh := fun s => mW mX12_nextToken 2 Q 109 [some (.ref 66), none] [] s) (K := K_mo_nextToken_109 Q  M) (fun _ h => h) (fun s o hb hk => w_b_mo_nextToken_109_109 s hb hk) hf hk
theorem w_t_mo_nextToken_208 (y1 : Int32) (M : dM) {Q : mz_P} {o : dM} (hf : t_mo_nextToken_208 y1 M = some o) (hk : mR Q none o) : mW mX12_nextToken 2 Q 208 [none, none] [.ref 66, .int y1] M := by
  unfold t_mo_nextToken_208 at hf
  refine y_putI (n := 211) ⟨dX12_nextToken_208, rfl⟩ kfX12_277 l_66 (by decide +kernel) rfl ?_
  cases hf
  exact y_return (n := 212) ⟨dX12_nextToken_211, rfl⟩ rfl hk
theorem w_t_mo_nextToken_188  (M : dM) {Q : mz_P} {o : dM} (hf : t_mo_nextToken_188 M = some o) (hk : mR Q none o) : mW mX12_nextToken 2 Q 188 [some (.ref 66), none] [] M := by
  unfold t_mo_nextToken_188 at hf
  refine y_aload_n (i := 0) (n := 189) ⟨dX12_nextToken_188, rfl⟩ rfl ?_
  refine y_aload_n (i := 0) (n := 190) ⟨dX12_nextToken_189, rfl⟩ rfl ?_
  refine y_getI (n := 193) ⟨dX12_nextToken_190, rfl⟩ kfX12_264 l_66 rfl ?_
  refine y_aload_n (i := 0) (n := 194) ⟨dX12_nextToken_193, rfl⟩ rfl ?_
  refine y_getI (n := 197) ⟨dX12_nextToken_194, rfl⟩ kfX12_267 l_66 rfl ?_
  refine y_isub (n := 198) ⟨dX12_nextToken_197, rfl⟩ ?_
  refine y_bipush (n := 200) (v := 8) ⟨dX12_nextToken_198, rfl⟩ kb_8 ?_
  refine y_icmp_le (t := 207) (n := 203) ⟨dX12_nextToken_200, rfl, rfl⟩ (fun (hc : ((gI M 66 20) - (gI M 66 21)) ≤ 8) => ?_) (fun (hc : ¬ (((gI M 66 20) - (gI M 66 21)) ≤ 8)) => ?_)
  · replace hf := i_t hc hf
    refine y_iconst (n := 208) (v := 1) ⟨dX12_nextToken_207, rfl⟩ ki_1 ?_
    exact y_wk ⟨Or.inl rfl, Or.inr rfl, trivial⟩ (w_t_mo_nextToken_208 1 M hf hk)
  · replace hf := i_f hc hf
    refine y_iconst (n := 204) (v := 4) ⟨dX12_nextToken_203, rfl⟩ ki_4 ?_
    refine y_goto (t := 208) ⟨dX12_nextToken_204, rfl, rfl⟩ ?_
    exact y_wk ⟨Or.inl rfl, Or.inr rfl, trivial⟩ (w_t_mo_nextToken_208 4 M hf hk)
theorem w_t_mo_nextToken_52  (M : dM) {Q : mz_P} {o : dM} (hf : t_mo_nextToken_52 M = some o) (hk : mR Q none o) : mW mX12_nextToken 2 Q 52 [some (.ref 66), none] [] M := by
  unfold t_mo_nextToken_52 at hf
  refine y_aload_n (i := 0) (n := 53) ⟨dX12_nextToken_52, rfl⟩ rfl ?_
  refine y_aload_n (i := 0) (n := 54) ⟨dX12_nextToken_53, rfl⟩ rfl ?_
  refine y_getI (n := 57) ⟨dX12_nextToken_54, rfl⟩ kfX12_264 l_66 rfl ?_
  refine y_putI (n := 60) ⟨dX12_nextToken_57, rfl⟩ kfX12_267 l_66 (by decide +kernel) rfl ?_
  refine y_aload_n (i := 0) (n := 61) ⟨dX12_nextToken_60, rfl⟩ rfl ?_
  refine y_lconst (n := 62) (v := 0) ⟨dX12_nextToken_61, rfl⟩ kl_0 ?_
  refine y_putJ (n := 65) ⟨dX12_nextToken_62, rfl⟩ kfX12_270 l_66 (by decide +kernel) rfl ?_
  refine y_aload_n (i := 0) (n := 66) ⟨dX12_nextToken_65, rfl⟩ rfl ?_
  refine y_iconst (n := 67) (v := 0) ⟨dX12_nextToken_66, rfl⟩ ki_0 ?_
  refine y_putI (n := 70) ⟨dX12_nextToken_67, rfl⟩ kfX12_274 l_66 (by decide +kernel) rfl ?_
  refine y_aload_n (i := 0) (n := 71) ⟨dX12_nextToken_70, rfl⟩ rfl ?_
  refine y_getI (n := 74) ⟨dX12_nextToken_71, rfl⟩ kfX12_264 l_66 rfl ?_
  refine y_aload_n (i := 0) (n := 75) ⟨dX12_nextToken_74, rfl⟩ rfl ?_
  refine y_getI (n := 78) ⟨dX12_nextToken_75, rfl⟩ kfX12_261 l_66 rfl ?_
  refine y_icmp_ne (t := 87) (n := 81) ⟨dX12_nextToken_78, rfl, rfl⟩ (fun (hc : ¬ ((gI (sI (sJ (sI M 66 21 (gI M 66 20)) 66 23 0) 66 24 0) 66 20) = (gI (sI (sJ (sI M 66 21 (gI M 66 20)) 66 23 0) 66 24 0) 66 19))) => ?_) (fun (hc : (gI (sI (sJ (sI M 66 21 (gI M 66 20)) 66 23 0) 66 24 0) 66 20) = (gI (sI (sJ (sI M 66 21 (gI M 66 20)) 66 23 0) 66 24 0) 66 19)) => ?_)
  · replace hf := i_f hc hf
    refine y_aload_n (i := 0) (n := 88) ⟨dX12_nextToken_87, rfl⟩ rfl ?_
    refine y_getR (n := 91) ⟨dX12_nextToken_88, rfl⟩ kfX12_52 l_66 rfl r_66_18 ?_
    refine y_aload_n (i := 0) (n := 92) ⟨dX12_nextToken_91, rfl⟩ rfl ?_
    refine y_getI (n := 95) ⟨dX12_nextToken_92, rfl⟩ kfX12_264 l_66 rfl ?_
    obtain ⟨hg5, hf⟩ := g_s hf
    refine y_iaload (n := 96) ⟨dX12_nextToken_95, rfl⟩ l_81 hg5 ?_
    refine y_istore_n (i := 1) (n := 97) (L2 := [some (.ref 66), some (.int (gI (sI (sJ (sI M 66 21 (gI M 66 20)) 66 23 0) 66 24 0) 81 (gI (sI (sJ (sI M 66 21 (gI M 66 20)) 66 23 0) 66 24 0) 66 20).toNatClampNeg))]) ⟨dX12_nextToken_96, rfl⟩ (by decide) rfl rfl ?_
    refine y_iload_n (i := 1) (n := 98) ⟨dX12_nextToken_97, rfl⟩ rfl ?_
    refine y_bipush (n := 100) (v := 97) ⟨dX12_nextToken_98, rfl⟩ kb_97 ?_
    refine y_icmp_lt (t := 212) (n := 103) ⟨dX12_nextToken_100, rfl, rfl⟩ (fun (hc : (gI (sI (sJ (sI M 66 21 (gI M 66 20)) 66 23 0) 66 24 0) 81 (gI (sI (sJ (sI M 66 21 (gI M 66 20)) 66 23 0) 66 24 0) 66 20).toNatClampNeg) < 97) => ?_) (fun (hc : ¬ ((gI (sI (sJ (sI M 66 21 (gI M 66 20)) 66 23 0) 66 24 0) 81 (gI (sI (sJ (sI M 66 21 (gI M 66 20)) 66 23 0) 66 24 0) 66 20).toNatClampNeg) < 97)) => ?_)
    · replace hf := i_t hc hf
      exact y_wk ⟨Or.inr rfl, Or.inr rfl, trivial⟩ (w_t_mo_nextToken_212 (gI (sI (sJ (sI M 66 21 (gI M 66 20)) 66 23 0) 66 24 0) 81 (gI (sI (sJ (sI M 66 21 (gI M 66 20)) 66 23 0) 66 24 0) 66 20).toNatClampNeg) (sI (sJ (sI M 66 21 (gI M 66 20)) 66 23 0) 66 24 0) hf hk)
    · replace hf := i_f hc hf
      refine y_iload_n (i := 1) (n := 104) ⟨dX12_nextToken_103, rfl⟩ rfl ?_
      refine y_bipush (n := 106) (v := 122) ⟨dX12_nextToken_104, rfl⟩ kb_122 ?_
      refine y_icmp_gt (t := 212) (n := 109) ⟨dX12_nextToken_106, rfl, rfl⟩ (fun (hc : 122 < (gI (sI (sJ (sI M 66 21 (gI M 66 20)) 66 23 0) 66 24 0) 81 (gI (sI (sJ (sI M 66 21 (gI M 66 20)) 66 23 0) 66 24 0) 66 20).toNatClampNeg)) => ?_) (fun (hc : ¬ (122 < (gI (sI (sJ (sI M 66 21 (gI M 66 20)) 66 23 0) 66 24 0) 81 (gI (sI (sJ (sI M 66 21 (gI M 66 20)) 66 23 0) 66 24 0) 66 20).toNatClampNeg))) => ?_)
      · replace hf := i_t hc hf
        exact y_wk ⟨Or.inr rfl, Or.inr rfl, trivial⟩ (w_t_mo_nextToken_212 (gI (sI (sJ (sI M 66 21 (gI M 66 20)) 66 23 0) 66 24 0) 81 (gI (sI (sJ (sI M 66 21 (gI M 66 20)) 66 23 0) 66 24 0) 66 20).toNatClampNeg) (sI (sJ (sI M 66 21 (gI M 66 20)) 66 23 0) 66 24 0) hf hk)
      · replace hf := i_f hc hf
        obtain ⟨t21, hl22, hf⟩ := b_s hf
        refine y_wk ⟨Or.inr rfl, Or.inl rfl, trivial⟩ (wl_mo_nextToken_109 (sI (sJ (sI M 66 21 (gI M 66 20)) 66 23 0) 66 24 0) hl22 ?_)
        show mW mX12_nextToken 2 Q 188 [some (.ref 66), none] [] t21
        exact y_wk ⟨Or.inr rfl, Or.inl rfl, trivial⟩ (w_t_mo_nextToken_188 t21 hf hk)
  · replace hf := i_t hc hf
    refine y_aload_n (i := 0) (n := 82) ⟨dX12_nextToken_81, rfl⟩ rfl ?_
    refine y_iconst (n := 83) (v := 0) ⟨dX12_nextToken_82, rfl⟩ ki_0 ?_
    refine y_putI (n := 86) ⟨dX12_nextToken_83, rfl⟩ kfX12_277 l_66 (by decide +kernel) rfl ?_
    cases hf
    exact y_return (n := 87) ⟨dX12_nextToken_86, rfl⟩ rfl hk
theorem ok_mo_nextToken  (M : dM) {o : dM} (hf : f_mo_nextToken M = some o) : mO mX12_nextToken 2 [.ref 66] M none o := by
  refine y_ok (by decide +kernel) (by decide) (L0 := [some (.ref 66), none]) rfl ?_
  have hk := mR_mQ none o
  generalize mQ _ _ = Q at hk ⊢
  unfold f_mo_nextToken at hf
  obtain ⟨t2, hl3, hf⟩ := b_s hf
  refine y_wk ⟨Or.inr rfl, Or.inr rfl, trivial⟩ (wl_mo_nextToken_0 M hl3 ?_)
  show mW mX12_nextToken 2 Q 52 [some (.ref 66), none] [] t2
  exact y_wk ⟨Or.inr rfl, Or.inr rfl, trivial⟩ (w_t_mo_nextToken_52 t2 hf hk)
theorem c_mo_nextToken  (M : dM) {o : dM} {y : mz_M} {d : Nat} {Q : mz_P} {pc n i : Nat} {L : List (Option Value)} {st : List Value} (h : mz_d y.2.1 pc n 3 (.invokevirtual i)) (hl : mz_ml y.1.cls i yX12_nextToken) (hf : f_mo_nextToken M = some o) (hd : 2 + 1 ≤ d) (hsm : (st.map (fun v => v.category)).sum ≤ 8) (hLr : mz_rL 133 L = true) (hSr : mz_rS 133 st = true) (kk : mW y d Q n L st o) : mW y d Q pc L (.ref 66 :: st) M :=
  y_callV kmX12_nextToken kvX12_nextToken l_66 (by decide +kernel) (by decide +kernel) h hl (ok_mo_nextToken  M hf) (vs := []) rfl rfl hd hsm hLr hSr kk
noncomputable def f_mo_isWord (a1 : Int64) (M : dM) : Bool :=
  if (gI M 66 22) = 1 then
    if (gJ M 66 23) = a1 then
      true
    else
      false
  else
    false
theorem ok_mo_isWord (a1 : Int64) (M : dM) {o : Bool} (hf : f_mo_isWord a1 M = o) : mO mX12_isWord 1 [.ref 66, .long a1] M (some (.int (bI o))) M := by
  refine y_ok (by decide +kernel) (by decide) (L0 := [some (.ref 66), some (.long a1), none]) rfl ?_
  have hk := mR_mQ (some (.int (bI o))) M
  generalize mQ _ _ = Q at hk ⊢
  unfold f_mo_isWord at hf
  refine y_aload_n (i := 0) (n := 1) ⟨dX12_isWord_0, rfl⟩ rfl ?_
  refine y_getI (n := 4) ⟨dX12_isWord_1, rfl⟩ kfX12_277 l_66 rfl ?_
  refine y_iconst (n := 5) (v := 1) ⟨dX12_isWord_4, rfl⟩ ki_1 ?_
  refine y_icmp_ne (t := 21) (n := 8) ⟨dX12_isWord_5, rfl, rfl⟩ (fun (hc : ¬ ((gI M 66 22) = 1)) => ?_) (fun (hc : (gI M 66 22) = 1) => ?_)
  · replace hf := i_f hc hf
    refine y_iconst (n := 22) (v := 0) ⟨dX12_isWord_21, rfl⟩ ki_0 ?_
    cases hf
    exact y_ireturn (n := 23) ⟨dX12_isWord_22, rfl⟩ rfl rfl hk
  · replace hf := i_t hc hf
    refine y_aload_n (i := 0) (n := 9) ⟨dX12_isWord_8, rfl⟩ rfl ?_
    refine y_getJ (n := 12) ⟨dX12_isWord_9, rfl⟩ kfX12_270 l_66 rfl ?_
    refine y_lload_n (i := 1) (n := 13) ⟨dX12_isWord_12, rfl⟩ rfl ?_
    refine y_lcmp (n := 14) ⟨dX12_isWord_13, rfl⟩ ?_
    refine y_if_ne (t := 21) (n := 17) ⟨dX12_isWord_14, rfl, rfl⟩ (fun h0 => ?_) (fun h0 => ?_)
    · have hc : ¬ ((gJ M 66 23) = a1) := fun e => h0 ((lc_eq _ _).mpr e)
      replace hf := i_f hc hf
      refine y_iconst (n := 22) (v := 0) ⟨dX12_isWord_21, rfl⟩ ki_0 ?_
      cases hf
      exact y_ireturn (n := 23) ⟨dX12_isWord_22, rfl⟩ rfl rfl hk
    · have hc : (gJ M 66 23) = a1 := (lc_eq _ _).mp h0
      replace hf := i_t hc hf
      refine y_iconst (n := 18) (v := 1) ⟨dX12_isWord_17, rfl⟩ ki_1 ?_
      refine y_goto (t := 22) ⟨dX12_isWord_18, rfl, rfl⟩ ?_
      cases hf
      exact y_ireturn (n := 23) ⟨dX12_isWord_22, rfl⟩ rfl rfl hk
theorem c_mo_isWord (a1 : Int64) (M : dM) {o : Bool} {y : mz_M} {d : Nat} {Q : mz_P} {pc n i : Nat} {L : List (Option Value)} {st : List Value} (h : mz_d y.2.1 pc n 3 (.invokevirtual i)) (hl : mz_ml y.1.cls i yX12_isWord) (hf : f_mo_isWord a1 M = o) (hd : 1 + 1 ≤ d) (hsm : (st.map (fun v => v.category)).sum ≤ 8) (hLr : mz_rL 133 L = true) (hSr : mz_rS 133 st = true) (kk : mW y d Q n L (.int (bI o) :: st) M) : mW y d Q pc L (.long a1 :: .ref 66 :: st) M :=
  y_callV kmX12_isWord kvX12_isWord l_66 (by decide +kernel) (by decide +kernel) h hl (ok_mo_isWord a1 M hf) (vs := [.long a1]) rfl rfl hd hsm hLr hSr kk
noncomputable def f_mo_fails (a1 : Int32) (M : dM) : (Bool × dM) :=
  (false, (sI M 66 25 (a1 + (16 * (gI M 66 21)))))
theorem ok_mo_fails (a1 : Int32) (M : dM) {o : (Bool × dM)} (hf : f_mo_fails a1 M = o) : mO mX12_fails 1 [.ref 66, .int a1] M (some (.int (bI o.1))) o.2 := by
  refine y_ok (by decide +kernel) (by decide) (L0 := [some (.ref 66), some (.int a1)]) rfl ?_
  have hk := mR_mQ (some (.int (bI o.1))) o.2
  generalize mQ _ _ = Q at hk ⊢
  unfold f_mo_fails at hf
  refine y_aload_n (i := 0) (n := 1) ⟨dX12_fails_0, rfl⟩ rfl ?_
  refine y_iload_n (i := 1) (n := 2) ⟨dX12_fails_1, rfl⟩ rfl ?_
  refine y_bipush (n := 4) (v := 16) ⟨dX12_fails_2, rfl⟩ kb_16 ?_
  refine y_aload_n (i := 0) (n := 5) ⟨dX12_fails_4, rfl⟩ rfl ?_
  refine y_getI (n := 8) ⟨dX12_fails_5, rfl⟩ kfX12_267 l_66 rfl ?_
  refine y_imul (n := 9) ⟨dX12_fails_8, rfl⟩ ?_
  refine y_iadd (n := 10) ⟨dX12_fails_9, rfl⟩ ?_
  refine y_putI (n := 13) ⟨dX12_fails_10, rfl⟩ kfX12_287 l_66 (by decide +kernel) rfl ?_
  refine y_iconst (n := 14) (v := 0) ⟨dX12_fails_13, rfl⟩ ki_0 ?_
  cases hf
  exact y_ireturn (n := 15) ⟨dX12_fails_14, rfl⟩ rfl rfl hk
theorem c_mo_fails (a1 : Int32) (M : dM) {o : (Bool × dM)} {y : mz_M} {d : Nat} {Q : mz_P} {pc n i : Nat} {L : List (Option Value)} {st : List Value} (h : mz_d y.2.1 pc n 3 (.invokevirtual i)) (hl : mz_ml y.1.cls i yX12_fails) (hf : f_mo_fails a1 M = o) (hd : 1 + 1 ≤ d) (hsm : (st.map (fun v => v.category)).sum ≤ 8) (hLr : mz_rL 133 L = true) (hSr : mz_rS 133 st = true) (kk : mW y d Q n L (.int (bI o.1) :: st) o.2) : mW y d Q pc L (.int a1 :: .ref 66 :: st) M :=
  y_callV kmX12_fails kvX12_fails l_66 (by decide +kernel) (by decide +kernel) h hl (ok_mo_fails a1 M hf) (vs := [.int a1]) rfl rfl hd hsm hLr hSr kk
noncomputable def f_mo_dayFact (M : dM) : Int32 :=
  if (gJ M 66 23) = 2968 then
    1
  else
    if (gJ M 66 23) = 3376126 then
      2
    else
      if (gJ M 66 23) = 29596810 then
        3
      else
        if (gJ M 66 23) = 11047 then
          4
        else
          if (gJ M 66 23) = 8529805 then
            5
          else
            if (gJ M 66 23) = 267347 then
              6
            else
              if (gJ M 66 23) = 2162611 then
                7
              else
                if (gJ M 66 23) = 230433031 then
                  8
                else
                  0
theorem ok_mo_dayFact  (M : dM) {o : Int32} (hf : f_mo_dayFact M = o) : mO mX12_dayFact 1 [.ref 66] M (some (.int o)) M := by
  refine y_ok (by decide +kernel) (by decide) (L0 := [some (.ref 66)]) rfl ?_
  have hk := mR_mQ (some (.int o)) M
  generalize mQ _ _ = Q at hk ⊢
  unfold f_mo_dayFact at hf
  refine y_aload_n (i := 0) (n := 1) ⟨dX12_dayFact_0, rfl⟩ rfl ?_
  refine y_getJ (n := 4) ⟨dX12_dayFact_1, rfl⟩ kfX12_270 l_66 rfl ?_
  refine y_ldc2 (n := 7) ⟨dX12_dayFact_4, rfl⟩ kcX12_293 ?_
  refine y_lcmp (n := 8) ⟨dX12_dayFact_7, rfl⟩ ?_
  refine y_if_ne (t := 13) (n := 11) ⟨dX12_dayFact_8, rfl, rfl⟩ (fun h0 => ?_) (fun h0 => ?_)
  · have hc : ¬ ((gJ M 66 23) = 2968) := fun e => h0 ((lc_eq _ _).mpr e)
    replace hf := i_f hc hf
    refine y_aload_n (i := 0) (n := 14) ⟨dX12_dayFact_13, rfl⟩ rfl ?_
    refine y_getJ (n := 17) ⟨dX12_dayFact_14, rfl⟩ kfX12_270 l_66 rfl ?_
    refine y_ldc2 (n := 20) ⟨dX12_dayFact_17, rfl⟩ kcX12_295 ?_
    refine y_lcmp (n := 21) ⟨dX12_dayFact_20, rfl⟩ ?_
    refine y_if_ne (t := 26) (n := 24) ⟨dX12_dayFact_21, rfl, rfl⟩ (fun h0 => ?_) (fun h0 => ?_)
    · have hc : ¬ ((gJ M 66 23) = 3376126) := fun e => h0 ((lc_eq _ _).mpr e)
      replace hf := i_f hc hf
      refine y_aload_n (i := 0) (n := 27) ⟨dX12_dayFact_26, rfl⟩ rfl ?_
      refine y_getJ (n := 30) ⟨dX12_dayFact_27, rfl⟩ kfX12_270 l_66 rfl ?_
      refine y_ldc2 (n := 33) ⟨dX12_dayFact_30, rfl⟩ kcX12_297 ?_
      refine y_lcmp (n := 34) ⟨dX12_dayFact_33, rfl⟩ ?_
      refine y_if_ne (t := 39) (n := 37) ⟨dX12_dayFact_34, rfl, rfl⟩ (fun h0 => ?_) (fun h0 => ?_)
      · have hc : ¬ ((gJ M 66 23) = 29596810) := fun e => h0 ((lc_eq _ _).mpr e)
        replace hf := i_f hc hf
        refine y_aload_n (i := 0) (n := 40) ⟨dX12_dayFact_39, rfl⟩ rfl ?_
        refine y_getJ (n := 43) ⟨dX12_dayFact_40, rfl⟩ kfX12_270 l_66 rfl ?_
        refine y_ldc2 (n := 46) ⟨dX12_dayFact_43, rfl⟩ kcX12_299 ?_
        refine y_lcmp (n := 47) ⟨dX12_dayFact_46, rfl⟩ ?_
        refine y_if_ne (t := 52) (n := 50) ⟨dX12_dayFact_47, rfl, rfl⟩ (fun h0 => ?_) (fun h0 => ?_)
        · have hc : ¬ ((gJ M 66 23) = 11047) := fun e => h0 ((lc_eq _ _).mpr e)
          replace hf := i_f hc hf
          refine y_aload_n (i := 0) (n := 53) ⟨dX12_dayFact_52, rfl⟩ rfl ?_
          refine y_getJ (n := 56) ⟨dX12_dayFact_53, rfl⟩ kfX12_270 l_66 rfl ?_
          refine y_ldc2 (n := 59) ⟨dX12_dayFact_56, rfl⟩ kcX12_301 ?_
          refine y_lcmp (n := 60) ⟨dX12_dayFact_59, rfl⟩ ?_
          refine y_if_ne (t := 65) (n := 63) ⟨dX12_dayFact_60, rfl, rfl⟩ (fun h0 => ?_) (fun h0 => ?_)
          · have hc : ¬ ((gJ M 66 23) = 8529805) := fun e => h0 ((lc_eq _ _).mpr e)
            replace hf := i_f hc hf
            refine y_aload_n (i := 0) (n := 66) ⟨dX12_dayFact_65, rfl⟩ rfl ?_
            refine y_getJ (n := 69) ⟨dX12_dayFact_66, rfl⟩ kfX12_270 l_66 rfl ?_
            refine y_ldc2 (n := 72) ⟨dX12_dayFact_69, rfl⟩ kcX12_303 ?_
            refine y_lcmp (n := 73) ⟨dX12_dayFact_72, rfl⟩ ?_
            refine y_if_ne (t := 79) (n := 76) ⟨dX12_dayFact_73, rfl, rfl⟩ (fun h0 => ?_) (fun h0 => ?_)
            · have hc : ¬ ((gJ M 66 23) = 267347) := fun e => h0 ((lc_eq _ _).mpr e)
              replace hf := i_f hc hf
              refine y_aload_n (i := 0) (n := 80) ⟨dX12_dayFact_79, rfl⟩ rfl ?_
              refine y_getJ (n := 83) ⟨dX12_dayFact_80, rfl⟩ kfX12_270 l_66 rfl ?_
              refine y_ldc2 (n := 86) ⟨dX12_dayFact_83, rfl⟩ kcX12_305 ?_
              refine y_lcmp (n := 87) ⟨dX12_dayFact_86, rfl⟩ ?_
              refine y_if_ne (t := 93) (n := 90) ⟨dX12_dayFact_87, rfl, rfl⟩ (fun h0 => ?_) (fun h0 => ?_)
              · have hc : ¬ ((gJ M 66 23) = 2162611) := fun e => h0 ((lc_eq _ _).mpr e)
                replace hf := i_f hc hf
                refine y_aload_n (i := 0) (n := 94) ⟨dX12_dayFact_93, rfl⟩ rfl ?_
                refine y_getJ (n := 97) ⟨dX12_dayFact_94, rfl⟩ kfX12_270 l_66 rfl ?_
                refine y_ldc2 (n := 100) ⟨dX12_dayFact_97, rfl⟩ kcX12_307 ?_
                refine y_lcmp (n := 101) ⟨dX12_dayFact_100, rfl⟩ ?_
                refine y_if_ne (t := 107) (n := 104) ⟨dX12_dayFact_101, rfl, rfl⟩ (fun h0 => ?_) (fun h0 => ?_)
                · have hc : ¬ ((gJ M 66 23) = 230433031) := fun e => h0 ((lc_eq _ _).mpr e)
                  replace hf := i_f hc hf
                  refine y_iconst (n := 108) (v := 0) ⟨dX12_dayFact_107, rfl⟩ ki_0 ?_
                  cases hf
                  exact y_ireturn (n := 109) ⟨dX12_dayFact_108, rfl⟩ rfl rfl hk
                · have hc : (gJ M 66 23) = 230433031 := (lc_eq _ _).mp h0
                  replace hf := i_t hc hf
                  refine y_bipush (n := 106) (v := 8) ⟨dX12_dayFact_104, rfl⟩ kb_8 ?_
                  cases hf
                  exact y_ireturn (n := 107) ⟨dX12_dayFact_106, rfl⟩ rfl rfl hk
              · have hc : (gJ M 66 23) = 2162611 := (lc_eq _ _).mp h0
                replace hf := i_t hc hf
                refine y_bipush (n := 92) (v := 7) ⟨dX12_dayFact_90, rfl⟩ kb_7 ?_
                cases hf
                exact y_ireturn (n := 93) ⟨dX12_dayFact_92, rfl⟩ rfl rfl hk
            · have hc : (gJ M 66 23) = 267347 := (lc_eq _ _).mp h0
              replace hf := i_t hc hf
              refine y_bipush (n := 78) (v := 6) ⟨dX12_dayFact_76, rfl⟩ kb_6 ?_
              cases hf
              exact y_ireturn (n := 79) ⟨dX12_dayFact_78, rfl⟩ rfl rfl hk
          · have hc : (gJ M 66 23) = 8529805 := (lc_eq _ _).mp h0
            replace hf := i_t hc hf
            refine y_iconst (n := 64) (v := 5) ⟨dX12_dayFact_63, rfl⟩ ki_5 ?_
            cases hf
            exact y_ireturn (n := 65) ⟨dX12_dayFact_64, rfl⟩ rfl rfl hk
        · have hc : (gJ M 66 23) = 11047 := (lc_eq _ _).mp h0
          replace hf := i_t hc hf
          refine y_iconst (n := 51) (v := 4) ⟨dX12_dayFact_50, rfl⟩ ki_4 ?_
          cases hf
          exact y_ireturn (n := 52) ⟨dX12_dayFact_51, rfl⟩ rfl rfl hk
      · have hc : (gJ M 66 23) = 29596810 := (lc_eq _ _).mp h0
        replace hf := i_t hc hf
        refine y_iconst (n := 38) (v := 3) ⟨dX12_dayFact_37, rfl⟩ ki_3 ?_
        cases hf
        exact y_ireturn (n := 39) ⟨dX12_dayFact_38, rfl⟩ rfl rfl hk
    · have hc : (gJ M 66 23) = 3376126 := (lc_eq _ _).mp h0
      replace hf := i_t hc hf
      refine y_iconst (n := 25) (v := 2) ⟨dX12_dayFact_24, rfl⟩ ki_2 ?_
      cases hf
      exact y_ireturn (n := 26) ⟨dX12_dayFact_25, rfl⟩ rfl rfl hk
  · have hc : (gJ M 66 23) = 2968 := (lc_eq _ _).mp h0
    replace hf := i_t hc hf
    refine y_iconst (n := 12) (v := 1) ⟨dX12_dayFact_11, rfl⟩ ki_1 ?_
    cases hf
    exact y_ireturn (n := 13) ⟨dX12_dayFact_12, rfl⟩ rfl rfl hk
theorem c_mo_dayFact  (M : dM) {o : Int32} {y : mz_M} {d : Nat} {Q : mz_P} {pc n i : Nat} {L : List (Option Value)} {st : List Value} (h : mz_d y.2.1 pc n 3 (.invokevirtual i)) (hl : mz_ml y.1.cls i yX12_dayFact) (hf : f_mo_dayFact M = o) (hd : 1 + 1 ≤ d) (hsm : (st.map (fun v => v.category)).sum ≤ 8) (hLr : mz_rL 133 L = true) (hSr : mz_rS 133 st = true) (kk : mW y d Q n L (.int o :: st) M) : mW y d Q pc L (.ref 66 :: st) M :=
  y_callV kmX12_dayFact kvX12_dayFact l_66 (by decide +kernel) (by decide +kernel) h hl (ok_mo_dayFact  M hf) (vs := []) rfl rfl hd hsm hLr hSr kk
noncomputable def f_mo_findFact (M : dM) : Int32 :=
  if (gJ M 66 23) = 370136 then
    1
  else
    if (gJ M 66 23) = 11438892 then
      2
    else
      if (gJ M 66 23) = 385167 then
        3
      else
        if (gJ M 66 23) = 168728 then
          4
        else
          if (gJ M 66 23) = 464144 then
            5
          else
            if (gJ M 66 23) = 3547106 then
              6
            else
              if (gJ M 66 23) = 298503040 then
                7
              else
                if (gJ M 66 23) = 1834205 then
                  8
                else
                  if (gJ M 66 23) = 923 then
                    9
                  else
                    if (gJ M 66 23) = 6415353 then
                      10
                    else
                      if (gJ M 66 23) = 168984 then
                        11
                      else
                        if (gJ M 66 23) = 10502357 then
                          12
                        else
                          if (gJ M 66 23) = 3379448 then
                            13
                          else
                            if (gJ M 66 23) = 778955 then
                              14
                            else
                              if (gJ M 66 23) = 80096 then
                                15
                              else
                                if (gJ M 66 23) = 226024039 then
                                  16
                                else
                                  if (gJ M 66 23) = 11088487 then
                                    17
                                  else
                                    0
theorem ok_mo_findFact  (M : dM) {o : Int32} (hf : f_mo_findFact M = o) : mO mX12_findFact 1 [.ref 66] M (some (.int o)) M := by
  refine y_ok (by decide +kernel) (by decide) (L0 := [some (.ref 66)]) rfl ?_
  have hk := mR_mQ (some (.int o)) M
  generalize mQ _ _ = Q at hk ⊢
  unfold f_mo_findFact at hf
  refine y_aload_n (i := 0) (n := 1) ⟨dX12_findFact_0, rfl⟩ rfl ?_
  refine y_getJ (n := 4) ⟨dX12_findFact_1, rfl⟩ kfX12_270 l_66 rfl ?_
  refine y_ldc2 (n := 7) ⟨dX12_findFact_4, rfl⟩ kcX12_309 ?_
  refine y_lcmp (n := 8) ⟨dX12_findFact_7, rfl⟩ ?_
  refine y_if_ne (t := 13) (n := 11) ⟨dX12_findFact_8, rfl, rfl⟩ (fun h0 => ?_) (fun h0 => ?_)
  · have hc : ¬ ((gJ M 66 23) = 370136) := fun e => h0 ((lc_eq _ _).mpr e)
    replace hf := i_f hc hf
    refine y_aload_n (i := 0) (n := 14) ⟨dX12_findFact_13, rfl⟩ rfl ?_
    refine y_getJ (n := 17) ⟨dX12_findFact_14, rfl⟩ kfX12_270 l_66 rfl ?_
    refine y_ldc2 (n := 20) ⟨dX12_findFact_17, rfl⟩ kcX12_311 ?_
    refine y_lcmp (n := 21) ⟨dX12_findFact_20, rfl⟩ ?_
    refine y_if_ne (t := 26) (n := 24) ⟨dX12_findFact_21, rfl, rfl⟩ (fun h0 => ?_) (fun h0 => ?_)
    · have hc : ¬ ((gJ M 66 23) = 11438892) := fun e => h0 ((lc_eq _ _).mpr e)
      replace hf := i_f hc hf
      refine y_aload_n (i := 0) (n := 27) ⟨dX12_findFact_26, rfl⟩ rfl ?_
      refine y_getJ (n := 30) ⟨dX12_findFact_27, rfl⟩ kfX12_270 l_66 rfl ?_
      refine y_ldc2 (n := 33) ⟨dX12_findFact_30, rfl⟩ kcX12_313 ?_
      refine y_lcmp (n := 34) ⟨dX12_findFact_33, rfl⟩ ?_
      refine y_if_ne (t := 39) (n := 37) ⟨dX12_findFact_34, rfl, rfl⟩ (fun h0 => ?_) (fun h0 => ?_)
      · have hc : ¬ ((gJ M 66 23) = 385167) := fun e => h0 ((lc_eq _ _).mpr e)
        replace hf := i_f hc hf
        refine y_aload_n (i := 0) (n := 40) ⟨dX12_findFact_39, rfl⟩ rfl ?_
        refine y_getJ (n := 43) ⟨dX12_findFact_40, rfl⟩ kfX12_270 l_66 rfl ?_
        refine y_ldc2 (n := 46) ⟨dX12_findFact_43, rfl⟩ kcX12_315 ?_
        refine y_lcmp (n := 47) ⟨dX12_findFact_46, rfl⟩ ?_
        refine y_if_ne (t := 52) (n := 50) ⟨dX12_findFact_47, rfl, rfl⟩ (fun h0 => ?_) (fun h0 => ?_)
        · have hc : ¬ ((gJ M 66 23) = 168728) := fun e => h0 ((lc_eq _ _).mpr e)
          replace hf := i_f hc hf
          refine y_aload_n (i := 0) (n := 53) ⟨dX12_findFact_52, rfl⟩ rfl ?_
          refine y_getJ (n := 56) ⟨dX12_findFact_53, rfl⟩ kfX12_270 l_66 rfl ?_
          refine y_ldc2 (n := 59) ⟨dX12_findFact_56, rfl⟩ kcX12_317 ?_
          refine y_lcmp (n := 60) ⟨dX12_findFact_59, rfl⟩ ?_
          refine y_if_ne (t := 65) (n := 63) ⟨dX12_findFact_60, rfl, rfl⟩ (fun h0 => ?_) (fun h0 => ?_)
          · have hc : ¬ ((gJ M 66 23) = 464144) := fun e => h0 ((lc_eq _ _).mpr e)
            replace hf := i_f hc hf
            refine y_aload_n (i := 0) (n := 66) ⟨dX12_findFact_65, rfl⟩ rfl ?_
            refine y_getJ (n := 69) ⟨dX12_findFact_66, rfl⟩ kfX12_270 l_66 rfl ?_
            refine y_ldc2 (n := 72) ⟨dX12_findFact_69, rfl⟩ kcX12_319 ?_
            refine y_lcmp (n := 73) ⟨dX12_findFact_72, rfl⟩ ?_
            refine y_if_ne (t := 79) (n := 76) ⟨dX12_findFact_73, rfl, rfl⟩ (fun h0 => ?_) (fun h0 => ?_)
            · have hc : ¬ ((gJ M 66 23) = 3547106) := fun e => h0 ((lc_eq _ _).mpr e)
              replace hf := i_f hc hf
              refine y_aload_n (i := 0) (n := 80) ⟨dX12_findFact_79, rfl⟩ rfl ?_
              refine y_getJ (n := 83) ⟨dX12_findFact_80, rfl⟩ kfX12_270 l_66 rfl ?_
              refine y_ldc2 (n := 86) ⟨dX12_findFact_83, rfl⟩ kcX12_321 ?_
              refine y_lcmp (n := 87) ⟨dX12_findFact_86, rfl⟩ ?_
              refine y_if_ne (t := 93) (n := 90) ⟨dX12_findFact_87, rfl, rfl⟩ (fun h0 => ?_) (fun h0 => ?_)
              · have hc : ¬ ((gJ M 66 23) = 298503040) := fun e => h0 ((lc_eq _ _).mpr e)
                replace hf := i_f hc hf
                refine y_aload_n (i := 0) (n := 94) ⟨dX12_findFact_93, rfl⟩ rfl ?_
                refine y_getJ (n := 97) ⟨dX12_findFact_94, rfl⟩ kfX12_270 l_66 rfl ?_
                refine y_ldc2 (n := 100) ⟨dX12_findFact_97, rfl⟩ kcX12_323 ?_
                refine y_lcmp (n := 101) ⟨dX12_findFact_100, rfl⟩ ?_
                refine y_if_ne (t := 107) (n := 104) ⟨dX12_findFact_101, rfl, rfl⟩ (fun h0 => ?_) (fun h0 => ?_)
                · have hc : ¬ ((gJ M 66 23) = 1834205) := fun e => h0 ((lc_eq _ _).mpr e)
                  replace hf := i_f hc hf
                  refine y_aload_n (i := 0) (n := 108) ⟨dX12_findFact_107, rfl⟩ rfl ?_
                  refine y_getJ (n := 111) ⟨dX12_findFact_108, rfl⟩ kfX12_270 l_66 rfl ?_
                  refine y_ldc2 (n := 114) ⟨dX12_findFact_111, rfl⟩ kcX12_325 ?_
                  refine y_lcmp (n := 115) ⟨dX12_findFact_114, rfl⟩ ?_
                  refine y_if_ne (t := 121) (n := 118) ⟨dX12_findFact_115, rfl, rfl⟩ (fun h0 => ?_) (fun h0 => ?_)
                  · have hc : ¬ ((gJ M 66 23) = 923) := fun e => h0 ((lc_eq _ _).mpr e)
                    replace hf := i_f hc hf
                    refine y_aload_n (i := 0) (n := 122) ⟨dX12_findFact_121, rfl⟩ rfl ?_
                    refine y_getJ (n := 125) ⟨dX12_findFact_122, rfl⟩ kfX12_270 l_66 rfl ?_
                    refine y_ldc2 (n := 128) ⟨dX12_findFact_125, rfl⟩ kcX12_327 ?_
                    refine y_lcmp (n := 129) ⟨dX12_findFact_128, rfl⟩ ?_
                    refine y_if_ne (t := 135) (n := 132) ⟨dX12_findFact_129, rfl, rfl⟩ (fun h0 => ?_) (fun h0 => ?_)
                    · have hc : ¬ ((gJ M 66 23) = 6415353) := fun e => h0 ((lc_eq _ _).mpr e)
                      replace hf := i_f hc hf
                      refine y_aload_n (i := 0) (n := 136) ⟨dX12_findFact_135, rfl⟩ rfl ?_
                      refine y_getJ (n := 139) ⟨dX12_findFact_136, rfl⟩ kfX12_270 l_66 rfl ?_
                      refine y_ldc2 (n := 142) ⟨dX12_findFact_139, rfl⟩ kcX12_329 ?_
                      refine y_lcmp (n := 143) ⟨dX12_findFact_142, rfl⟩ ?_
                      refine y_if_ne (t := 149) (n := 146) ⟨dX12_findFact_143, rfl, rfl⟩ (fun h0 => ?_) (fun h0 => ?_)
                      · have hc : ¬ ((gJ M 66 23) = 168984) := fun e => h0 ((lc_eq _ _).mpr e)
                        replace hf := i_f hc hf
                        refine y_aload_n (i := 0) (n := 150) ⟨dX12_findFact_149, rfl⟩ rfl ?_
                        refine y_getJ (n := 153) ⟨dX12_findFact_150, rfl⟩ kfX12_270 l_66 rfl ?_
                        refine y_ldc2 (n := 156) ⟨dX12_findFact_153, rfl⟩ kcX12_331 ?_
                        refine y_lcmp (n := 157) ⟨dX12_findFact_156, rfl⟩ ?_
                        refine y_if_ne (t := 163) (n := 160) ⟨dX12_findFact_157, rfl, rfl⟩ (fun h0 => ?_) (fun h0 => ?_)
                        · have hc : ¬ ((gJ M 66 23) = 10502357) := fun e => h0 ((lc_eq _ _).mpr e)
                          replace hf := i_f hc hf
                          refine y_aload_n (i := 0) (n := 164) ⟨dX12_findFact_163, rfl⟩ rfl ?_
                          refine y_getJ (n := 167) ⟨dX12_findFact_164, rfl⟩ kfX12_270 l_66 rfl ?_
                          refine y_ldc2 (n := 170) ⟨dX12_findFact_167, rfl⟩ kcX12_333 ?_
                          refine y_lcmp (n := 171) ⟨dX12_findFact_170, rfl⟩ ?_
                          refine y_if_ne (t := 177) (n := 174) ⟨dX12_findFact_171, rfl, rfl⟩ (fun h0 => ?_) (fun h0 => ?_)
                          · have hc : ¬ ((gJ M 66 23) = 3379448) := fun e => h0 ((lc_eq _ _).mpr e)
                            replace hf := i_f hc hf
                            refine y_aload_n (i := 0) (n := 178) ⟨dX12_findFact_177, rfl⟩ rfl ?_
                            refine y_getJ (n := 181) ⟨dX12_findFact_178, rfl⟩ kfX12_270 l_66 rfl ?_
                            refine y_ldc2 (n := 184) ⟨dX12_findFact_181, rfl⟩ kcX12_335 ?_
                            refine y_lcmp (n := 185) ⟨dX12_findFact_184, rfl⟩ ?_
                            refine y_if_ne (t := 191) (n := 188) ⟨dX12_findFact_185, rfl, rfl⟩ (fun h0 => ?_) (fun h0 => ?_)
                            · have hc : ¬ ((gJ M 66 23) = 778955) := fun e => h0 ((lc_eq _ _).mpr e)
                              replace hf := i_f hc hf
                              refine y_aload_n (i := 0) (n := 192) ⟨dX12_findFact_191, rfl⟩ rfl ?_
                              refine y_getJ (n := 195) ⟨dX12_findFact_192, rfl⟩ kfX12_270 l_66 rfl ?_
                              refine y_ldc2 (n := 198) ⟨dX12_findFact_195, rfl⟩ kcX12_337 ?_
                              refine y_lcmp (n := 199) ⟨dX12_findFact_198, rfl⟩ ?_
                              refine y_if_ne (t := 205) (n := 202) ⟨dX12_findFact_199, rfl, rfl⟩ (fun h0 => ?_) (fun h0 => ?_)
                              · have hc : ¬ ((gJ M 66 23) = 80096) := fun e => h0 ((lc_eq _ _).mpr e)
                                replace hf := i_f hc hf
                                refine y_aload_n (i := 0) (n := 206) ⟨dX12_findFact_205, rfl⟩ rfl ?_
                                refine y_getJ (n := 209) ⟨dX12_findFact_206, rfl⟩ kfX12_270 l_66 rfl ?_
                                refine y_ldc2 (n := 212) ⟨dX12_findFact_209, rfl⟩ kcX12_339 ?_
                                refine y_lcmp (n := 213) ⟨dX12_findFact_212, rfl⟩ ?_
                                refine y_if_ne (t := 219) (n := 216) ⟨dX12_findFact_213, rfl, rfl⟩ (fun h0 => ?_) (fun h0 => ?_)
                                · have hc : ¬ ((gJ M 66 23) = 226024039) := fun e => h0 ((lc_eq _ _).mpr e)
                                  replace hf := i_f hc hf
                                  refine y_aload_n (i := 0) (n := 220) ⟨dX12_findFact_219, rfl⟩ rfl ?_
                                  refine y_getJ (n := 223) ⟨dX12_findFact_220, rfl⟩ kfX12_270 l_66 rfl ?_
                                  refine y_ldc2 (n := 226) ⟨dX12_findFact_223, rfl⟩ kcX12_341 ?_
                                  refine y_lcmp (n := 227) ⟨dX12_findFact_226, rfl⟩ ?_
                                  refine y_if_ne (t := 233) (n := 230) ⟨dX12_findFact_227, rfl, rfl⟩ (fun h0 => ?_) (fun h0 => ?_)
                                  · have hc : ¬ ((gJ M 66 23) = 11088487) := fun e => h0 ((lc_eq _ _).mpr e)
                                    replace hf := i_f hc hf
                                    refine y_iconst (n := 234) (v := 0) ⟨dX12_findFact_233, rfl⟩ ki_0 ?_
                                    cases hf
                                    exact y_ireturn (n := 235) ⟨dX12_findFact_234, rfl⟩ rfl rfl hk
                                  · have hc : (gJ M 66 23) = 11088487 := (lc_eq _ _).mp h0
                                    replace hf := i_t hc hf
                                    refine y_bipush (n := 232) (v := 17) ⟨dX12_findFact_230, rfl⟩ kb_17 ?_
                                    cases hf
                                    exact y_ireturn (n := 233) ⟨dX12_findFact_232, rfl⟩ rfl rfl hk
                                · have hc : (gJ M 66 23) = 226024039 := (lc_eq _ _).mp h0
                                  replace hf := i_t hc hf
                                  refine y_bipush (n := 218) (v := 16) ⟨dX12_findFact_216, rfl⟩ kb_16 ?_
                                  cases hf
                                  exact y_ireturn (n := 219) ⟨dX12_findFact_218, rfl⟩ rfl rfl hk
                              · have hc : (gJ M 66 23) = 80096 := (lc_eq _ _).mp h0
                                replace hf := i_t hc hf
                                refine y_bipush (n := 204) (v := 15) ⟨dX12_findFact_202, rfl⟩ kb_15 ?_
                                cases hf
                                exact y_ireturn (n := 205) ⟨dX12_findFact_204, rfl⟩ rfl rfl hk
                            · have hc : (gJ M 66 23) = 778955 := (lc_eq _ _).mp h0
                              replace hf := i_t hc hf
                              refine y_bipush (n := 190) (v := 14) ⟨dX12_findFact_188, rfl⟩ kb_14 ?_
                              cases hf
                              exact y_ireturn (n := 191) ⟨dX12_findFact_190, rfl⟩ rfl rfl hk
                          · have hc : (gJ M 66 23) = 3379448 := (lc_eq _ _).mp h0
                            replace hf := i_t hc hf
                            refine y_bipush (n := 176) (v := 13) ⟨dX12_findFact_174, rfl⟩ kb_13 ?_
                            cases hf
                            exact y_ireturn (n := 177) ⟨dX12_findFact_176, rfl⟩ rfl rfl hk
                        · have hc : (gJ M 66 23) = 10502357 := (lc_eq _ _).mp h0
                          replace hf := i_t hc hf
                          refine y_bipush (n := 162) (v := 12) ⟨dX12_findFact_160, rfl⟩ kb_12 ?_
                          cases hf
                          exact y_ireturn (n := 163) ⟨dX12_findFact_162, rfl⟩ rfl rfl hk
                      · have hc : (gJ M 66 23) = 168984 := (lc_eq _ _).mp h0
                        replace hf := i_t hc hf
                        refine y_bipush (n := 148) (v := 11) ⟨dX12_findFact_146, rfl⟩ kb_11 ?_
                        cases hf
                        exact y_ireturn (n := 149) ⟨dX12_findFact_148, rfl⟩ rfl rfl hk
                    · have hc : (gJ M 66 23) = 6415353 := (lc_eq _ _).mp h0
                      replace hf := i_t hc hf
                      refine y_bipush (n := 134) (v := 10) ⟨dX12_findFact_132, rfl⟩ kb_10 ?_
                      cases hf
                      exact y_ireturn (n := 135) ⟨dX12_findFact_134, rfl⟩ rfl rfl hk
                  · have hc : (gJ M 66 23) = 923 := (lc_eq _ _).mp h0
                    replace hf := i_t hc hf
                    refine y_bipush (n := 120) (v := 9) ⟨dX12_findFact_118, rfl⟩ kb_9 ?_
                    cases hf
                    exact y_ireturn (n := 121) ⟨dX12_findFact_120, rfl⟩ rfl rfl hk
                · have hc : (gJ M 66 23) = 1834205 := (lc_eq _ _).mp h0
                  replace hf := i_t hc hf
                  refine y_bipush (n := 106) (v := 8) ⟨dX12_findFact_104, rfl⟩ kb_8 ?_
                  cases hf
                  exact y_ireturn (n := 107) ⟨dX12_findFact_106, rfl⟩ rfl rfl hk
              · have hc : (gJ M 66 23) = 298503040 := (lc_eq _ _).mp h0
                replace hf := i_t hc hf
                refine y_bipush (n := 92) (v := 7) ⟨dX12_findFact_90, rfl⟩ kb_7 ?_
                cases hf
                exact y_ireturn (n := 93) ⟨dX12_findFact_92, rfl⟩ rfl rfl hk
            · have hc : (gJ M 66 23) = 3547106 := (lc_eq _ _).mp h0
              replace hf := i_t hc hf
              refine y_bipush (n := 78) (v := 6) ⟨dX12_findFact_76, rfl⟩ kb_6 ?_
              cases hf
              exact y_ireturn (n := 79) ⟨dX12_findFact_78, rfl⟩ rfl rfl hk
          · have hc : (gJ M 66 23) = 464144 := (lc_eq _ _).mp h0
            replace hf := i_t hc hf
            refine y_iconst (n := 64) (v := 5) ⟨dX12_findFact_63, rfl⟩ ki_5 ?_
            cases hf
            exact y_ireturn (n := 65) ⟨dX12_findFact_64, rfl⟩ rfl rfl hk
        · have hc : (gJ M 66 23) = 168728 := (lc_eq _ _).mp h0
          replace hf := i_t hc hf
          refine y_iconst (n := 51) (v := 4) ⟨dX12_findFact_50, rfl⟩ ki_4 ?_
          cases hf
          exact y_ireturn (n := 52) ⟨dX12_findFact_51, rfl⟩ rfl rfl hk
      · have hc : (gJ M 66 23) = 385167 := (lc_eq _ _).mp h0
        replace hf := i_t hc hf
        refine y_iconst (n := 38) (v := 3) ⟨dX12_findFact_37, rfl⟩ ki_3 ?_
        cases hf
        exact y_ireturn (n := 39) ⟨dX12_findFact_38, rfl⟩ rfl rfl hk
    · have hc : (gJ M 66 23) = 11438892 := (lc_eq _ _).mp h0
      replace hf := i_t hc hf
      refine y_iconst (n := 25) (v := 2) ⟨dX12_findFact_24, rfl⟩ ki_2 ?_
      cases hf
      exact y_ireturn (n := 26) ⟨dX12_findFact_25, rfl⟩ rfl rfl hk
  · have hc : (gJ M 66 23) = 370136 := (lc_eq _ _).mp h0
    replace hf := i_t hc hf
    refine y_iconst (n := 12) (v := 1) ⟨dX12_findFact_11, rfl⟩ ki_1 ?_
    cases hf
    exact y_ireturn (n := 13) ⟨dX12_findFact_12, rfl⟩ rfl rfl hk
theorem c_mo_findFact  (M : dM) {o : Int32} {y : mz_M} {d : Nat} {Q : mz_P} {pc n i : Nat} {L : List (Option Value)} {st : List Value} (h : mz_d y.2.1 pc n 3 (.invokevirtual i)) (hl : mz_ml y.1.cls i yX12_findFact) (hf : f_mo_findFact M = o) (hd : 1 + 1 ≤ d) (hsm : (st.map (fun v => v.category)).sum ≤ 8) (hLr : mz_rL 133 L = true) (hSr : mz_rS 133 st = true) (kk : mW y d Q n L (.int o :: st) M) : mW y d Q pc L (.ref 66 :: st) M :=
  y_callV kmX12_findFact kvX12_findFact l_66 (by decide +kernel) (by decide +kernel) h hl (ok_mo_findFact  M hf) (vs := []) rfl rfl hd hsm hLr hSr kk
noncomputable def f_mo_fact0 (M : dM) : Int32 :=
  if (gI M 66 22) = 1 then
    if (gI M 66 38) = 0 then
      (f_mo_findFact M)
    else
      (f_mo_dayFact M)
  else
    0
theorem ok_mo_fact0  (M : dM) {o : Int32} (hf : f_mo_fact0 M = o) : mO mX12_fact0 2 [.ref 66] M (some (.int o)) M := by
  refine y_ok (by decide +kernel) (by decide) (L0 := [some (.ref 66)]) rfl ?_
  have hk := mR_mQ (some (.int o)) M
  generalize mQ _ _ = Q at hk ⊢
  unfold f_mo_fact0 at hf
  refine y_aload_n (i := 0) (n := 1) ⟨dX12_fact0_0, rfl⟩ rfl ?_
  refine y_getI (n := 4) ⟨dX12_fact0_1, rfl⟩ kfX12_277 l_66 rfl ?_
  refine y_iconst (n := 5) (v := 1) ⟨dX12_fact0_4, rfl⟩ ki_1 ?_
  refine y_icmp_eq (t := 12) (n := 8) ⟨dX12_fact0_5, rfl, rfl⟩ (fun (hc : (gI M 66 22) = 1) => ?_) (fun (hc : ¬ ((gI M 66 22) = 1)) => ?_)
  · replace hf := i_t hc hf
    refine y_aload_n (i := 0) (n := 13) ⟨dX12_fact0_12, rfl⟩ rfl ?_
    refine y_getI (n := 16) ⟨dX12_fact0_13, rfl⟩ kfX12_343 l_66 rfl ?_
    refine y_if_eq (t := 26) (n := 19) ⟨dX12_fact0_16, rfl, rfl⟩ (fun (hc : (gI M 66 38) = 0) => ?_) (fun (hc : ¬ ((gI M 66 38) = 0)) => ?_)
    · replace hf := i_t hc hf
      refine y_aload_n (i := 0) (n := 27) ⟨dX12_fact0_26, rfl⟩ rfl ?_
      refine c_mo_findFact M (n := 30) ⟨dX12_fact0_27, rfl⟩ klX12_351 rfl (by decide) (Nat.le_of_ble_eq_true rfl) rfl rfl ?_
      cases hf
      exact y_ireturn (n := 31) ⟨dX12_fact0_30, rfl⟩ rfl rfl hk
    · replace hf := i_f hc hf
      refine y_aload_n (i := 0) (n := 20) ⟨dX12_fact0_19, rfl⟩ rfl ?_
      refine c_mo_dayFact M (n := 23) ⟨dX12_fact0_20, rfl⟩ klX12_347 rfl (by decide) (Nat.le_of_ble_eq_true rfl) rfl rfl ?_
      refine y_goto (t := 30) ⟨dX12_fact0_23, rfl, rfl⟩ ?_
      cases hf
      exact y_ireturn (n := 31) ⟨dX12_fact0_30, rfl⟩ rfl rfl hk
  · replace hf := i_f hc hf
    refine y_iconst (n := 9) (v := 0) ⟨dX12_fact0_8, rfl⟩ ki_0 ?_
    refine y_goto (t := 30) ⟨dX12_fact0_9, rfl, rfl⟩ ?_
    cases hf
    exact y_ireturn (n := 31) ⟨dX12_fact0_30, rfl⟩ rfl rfl hk
theorem c_mo_fact0  (M : dM) {o : Int32} {y : mz_M} {d : Nat} {Q : mz_P} {pc n i : Nat} {L : List (Option Value)} {st : List Value} (h : mz_d y.2.1 pc n 3 (.invokevirtual i)) (hl : mz_ml y.1.cls i yX12_fact0) (hf : f_mo_fact0 M = o) (hd : 2 + 1 ≤ d) (hsm : (st.map (fun v => v.category)).sum ≤ 8) (hLr : mz_rL 133 L = true) (hSr : mz_rS 133 st = true) (kk : mW y d Q n L (.int o :: st) M) : mW y d Q pc L (.ref 66 :: st) M :=
  y_callV kmX12_fact0 kvX12_fact0 l_66 (by decide +kernel) (by decide +kernel) h hl (ok_mo_fact0  M hf) (vs := []) rfl rfl hd hsm hLr hSr kk
noncomputable def f_mo_isSign (a1 : Int32) (M : dM) : Option Bool :=
  if (gI M 66 22) = 3 then
    gd (vp_in (gI M 66 21) 1000) <|
    if (gI M 81 (gI M 66 21).toNatClampNeg) = a1 then
      some true
    else
      some false
  else
    some false
theorem ok_mo_isSign (a1 : Int32) (M : dM) {o : Bool} (hf : f_mo_isSign a1 M = some o) : mO mX12_isSign 1 [.ref 66, .int a1] M (some (.int (bI o))) M := by
  refine y_ok (by decide +kernel) (by decide) (L0 := [some (.ref 66), some (.int a1)]) rfl ?_
  have hk := mR_mQ (some (.int (bI o))) M
  generalize mQ _ _ = Q at hk ⊢
  unfold f_mo_isSign at hf
  refine y_aload_n (i := 0) (n := 1) ⟨dX12_isSign_0, rfl⟩ rfl ?_
  refine y_getI (n := 4) ⟨dX12_isSign_1, rfl⟩ kfX12_277 l_66 rfl ?_
  refine y_iconst (n := 5) (v := 3) ⟨dX12_isSign_4, rfl⟩ ki_3 ?_
  refine y_icmp_ne (t := 25) (n := 8) ⟨dX12_isSign_5, rfl, rfl⟩ (fun (hc : ¬ ((gI M 66 22) = 3)) => ?_) (fun (hc : (gI M 66 22) = 3) => ?_)
  · replace hf := i_f hc hf
    refine y_iconst (n := 26) (v := 0) ⟨dX12_isSign_25, rfl⟩ ki_0 ?_
    cases hf
    exact y_ireturn (n := 27) ⟨dX12_isSign_26, rfl⟩ rfl rfl hk
  · replace hf := i_t hc hf
    refine y_aload_n (i := 0) (n := 9) ⟨dX12_isSign_8, rfl⟩ rfl ?_
    refine y_getR (n := 12) ⟨dX12_isSign_9, rfl⟩ kfX12_52 l_66 rfl r_66_18 ?_
    refine y_aload_n (i := 0) (n := 13) ⟨dX12_isSign_12, rfl⟩ rfl ?_
    refine y_getI (n := 16) ⟨dX12_isSign_13, rfl⟩ kfX12_267 l_66 rfl ?_
    obtain ⟨hg1, hf⟩ := g_s hf
    refine y_iaload (n := 17) ⟨dX12_isSign_16, rfl⟩ l_81 hg1 ?_
    refine y_iload_n (i := 1) (n := 18) ⟨dX12_isSign_17, rfl⟩ rfl ?_
    refine y_icmp_ne (t := 25) (n := 21) ⟨dX12_isSign_18, rfl, rfl⟩ (fun (hc : ¬ ((gI M 81 (gI M 66 21).toNatClampNeg) = a1)) => ?_) (fun (hc : (gI M 81 (gI M 66 21).toNatClampNeg) = a1) => ?_)
    · replace hf := i_f hc hf
      refine y_iconst (n := 26) (v := 0) ⟨dX12_isSign_25, rfl⟩ ki_0 ?_
      cases hf
      exact y_ireturn (n := 27) ⟨dX12_isSign_26, rfl⟩ rfl rfl hk
    · replace hf := i_t hc hf
      refine y_iconst (n := 22) (v := 1) ⟨dX12_isSign_21, rfl⟩ ki_1 ?_
      refine y_goto (t := 26) ⟨dX12_isSign_22, rfl, rfl⟩ ?_
      cases hf
      exact y_ireturn (n := 27) ⟨dX12_isSign_26, rfl⟩ rfl rfl hk
theorem c_mo_isSign (a1 : Int32) (M : dM) {o : Bool} {y : mz_M} {d : Nat} {Q : mz_P} {pc n i : Nat} {L : List (Option Value)} {st : List Value} (h : mz_d y.2.1 pc n 3 (.invokevirtual i)) (hl : mz_ml y.1.cls i yX12_isSign) (hf : f_mo_isSign a1 M = some o) (hd : 1 + 1 ≤ d) (hsm : (st.map (fun v => v.category)).sum ≤ 8) (hLr : mz_rL 133 L = true) (hSr : mz_rS 133 st = true) (kk : mW y d Q n L (.int (bI o) :: st) M) : mW y d Q pc L (.int a1 :: .ref 66 :: st) M :=
  y_callV kmX12_isSign kvX12_isSign l_66 (by decide +kernel) (by decide +kernel) h hl (ok_mo_isSign a1 M hf) (vs := [.int a1]) rfl rfl hd hsm hLr hSr kk
noncomputable def f_mo_puts (a1 : Int32) (M : dM) : Option dM :=
  gd (vp_in (gI M 66 37) 2000) <|
  some (sI (sI M 88 (gI M 66 37).toNatClampNeg a1) 66 37 ((gI (sI M 88 (gI M 66 37).toNatClampNeg a1) 66 37) + 1))
theorem ok_mo_puts (a1 : Int32) (M : dM) {o : dM} (hf : f_mo_puts a1 M = some o) : mO mX12_puts 1 [.ref 66, .int a1] M none o := by
  refine y_ok (by decide +kernel) (by decide) (L0 := [some (.ref 66), some (.int a1)]) rfl ?_
  have hk := mR_mQ none o
  generalize mQ _ _ = Q at hk ⊢
  unfold f_mo_puts at hf
  refine y_aload_n (i := 0) (n := 1) ⟨dX12_puts_0, rfl⟩ rfl ?_
  refine y_getR (n := 4) ⟨dX12_puts_1, rfl⟩ kfX12_74 l_66 rfl r_66_36 ?_
  refine y_aload_n (i := 0) (n := 5) ⟨dX12_puts_4, rfl⟩ rfl ?_
  refine y_getI (n := 8) ⟨dX12_puts_5, rfl⟩ kfX12_290 l_66 rfl ?_
  refine y_iload_n (i := 1) (n := 9) ⟨dX12_puts_8, rfl⟩ rfl ?_
  obtain ⟨hg1, hf⟩ := g_s hf
  refine y_iastore (n := 10) ⟨dX12_puts_9, rfl⟩ l_88 hg1 ?_
  refine y_aload_n (i := 0) (n := 11) ⟨dX12_puts_10, rfl⟩ rfl ?_
  refine y_dup_r (n := 12) ⟨dX12_puts_11, rfl⟩ ?_
  refine y_getI (n := 15) ⟨dX12_puts_12, rfl⟩ kfX12_290 l_66 rfl ?_
  refine y_iconst (n := 16) (v := 1) ⟨dX12_puts_15, rfl⟩ ki_1 ?_
  refine y_iadd (n := 17) ⟨dX12_puts_16, rfl⟩ ?_
  refine y_putI (n := 20) ⟨dX12_puts_17, rfl⟩ kfX12_290 l_66 (by decide +kernel) rfl ?_
  cases hf
  exact y_return (n := 21) ⟨dX12_puts_20, rfl⟩ rfl hk
theorem c_mo_puts (a1 : Int32) (M : dM) {o : dM} {y : mz_M} {d : Nat} {Q : mz_P} {pc n i : Nat} {L : List (Option Value)} {st : List Value} (h : mz_d y.2.1 pc n 3 (.invokevirtual i)) (hl : mz_ml y.1.cls i yX12_puts) (hf : f_mo_puts a1 M = some o) (hd : 1 + 1 ≤ d) (hsm : (st.map (fun v => v.category)).sum ≤ 8) (hLr : mz_rL 133 L = true) (hSr : mz_rS 133 st = true) (kk : mW y d Q n L st o) : mW y d Q pc L (.int a1 :: .ref 66 :: st) M :=
  y_callV kmX12_puts kvX12_puts l_66 (by decide +kernel) (by decide +kernel) h hl (ok_mo_puts a1 M hf) (vs := [.int a1]) rfl rfl hd hsm hLr hSr kk
def K_mo_reads_11 (Q : mz_P)  (M : dM) : ((Int32 × Int32 × dM) ⊕ ((Int32 × dM) ⊕ (Bool × dM))) → Prop
  | .inl s => mW mX12_reads 3 Q 11 [some (.ref 66), some (.int s.1), some (.int s.2.1), none, none, none] [] s.2.2
  | .inr (.inl t) => mW mX12_reads 3 Q 399 [some (.ref 66), some (.int t.1), none, none, none, none] [] t.2
  | .inr (.inr r) => mR Q (some (.int (bI r.1))) r.2
noncomputable def b_mo_reads_11_424 (x1 : Int32) (x2 : Int32) (M : dM) : Option ((Int32 × Int32 × dM) ⊕ ((Int32 × dM) ⊕ (Bool × dM))) :=
  (f_mo_nextToken M).bind fun q9 =>
  some (.inl (x1, x2, q9))
noncomputable def b_mo_reads_11_237 (x1 : Int32) (y1 : Int32) (M : dM) : Option ((Int32 × Int32 × dM) ⊕ ((Int32 × dM) ⊕ (Bool × dM))) :=
  (f_mo_puts y1 M).bind fun q7 =>
  b_mo_reads_11_424 x1 1 q7
noncomputable def b_mo_reads_11_206 (x1 : Int32) (M : dM) : Option ((Int32 × Int32 × dM) ⊕ ((Int32 × dM) ⊕ (Bool × dM))) :=
  (f_mo_isSign 43 M).bind fun v3 =>
  if v3 = true then
    b_mo_reads_11_237 x1 20 M
  else
    (f_mo_isSign 45 M).bind fun v5 =>
    if v5 = true then
      b_mo_reads_11_237 x1 21 M
    else
      b_mo_reads_11_237 x1 22 M
noncomputable def b_mo_reads_11_342 (x1 : Int32) (y1 : Int32) (M : dM) : Option ((Int32 × Int32 × dM) ⊕ ((Int32 × dM) ⊕ (Bool × dM))) :=
  (f_mo_puts y1 M).bind fun q18 =>
  gd (vp_in x1 7) <|
  b_mo_reads_11_424 x1 1 (sI q18 90 x1.toNatClampNeg 0)
noncomputable def b_mo_reads_11_324 (x1 : Int32) (M : dM) : Option ((Int32 × Int32 × dM) ⊕ ((Int32 × dM) ⊕ (Bool × dM))) :=
  if (f_mo_isWord 1111 M) = true then
    b_mo_reads_11_342 x1 26 M
  else
    b_mo_reads_11_342 x1 27 M
def K_mo_reads_379 (Q : mz_P) (x2 : Int32) (M : dM) : (Int32 ⊕ Int32) → Prop
  | .inl s => mW mX12_reads 3 Q 379 [some (.ref 66), some (.int s), some (.int x2), none, none, none] [] M
  | .inr t => mW mX12_reads 3 Q 424 [some (.ref 66), some (.int t), some (.int x2), none, none, none] [] M
noncomputable def b_mo_reads_379_379 (x1 : Int32) (x2 : Int32) (M : dM) : Option (Int32 ⊕ Int32) :=
  if x1 ≤ 0 then
    some (.inr x1)
  else
    gd (vp_in x1 7) <|
    if (gI M 89 x1.toNatClampNeg) = 1 then
      some (.inl (x1 + (-1)))
    else
      some (.inr x1)
noncomputable def l_mo_reads_379 (x1 : Int32) (x2 : Int32) (M : dM) : Option Int32 := lpc (fun s => b_mo_reads_379_379 s x2 M) x1
noncomputable def b_mo_reads_11_304 (x1 : Int32) (x2 : Int32) (M : dM) : Option ((Int32 × Int32 × dM) ⊕ ((Int32 × dM) ⊕ (Bool × dM))) :=
  if (f_mo_isWord 1111 M) = true then
    b_mo_reads_11_324 x1 M
  else
    if (f_mo_isWord 423 M) = true then
      b_mo_reads_11_324 x1 M
    else
      (f_mo_isSign 41 M).bind fun v21 =>
      if v21 = true then
        if x1 ≤ 0 then
          some (.inr (.inl (x1, M)))
        else
          (f_mo_puts 29 M).bind fun q23 =>
          (l_mo_reads_379 (x1 + (-1)) x2 q23).bind fun t26 =>
            b_mo_reads_11_424 t26 x2 q23
      else
        some (.inr (.inl (x1, M)))
noncomputable def b_mo_reads_11_289 (x1 : Int32) (y1 : Int32) (M : dM) : Option ((Int32 × Int32 × dM) ⊕ ((Int32 × dM) ⊕ (Bool × dM))) :=
  (f_mo_puts y1 M).bind fun q31 =>
  gd (vp_in x1 7) <|
  b_mo_reads_11_424 x1 1 (sI q31 90 x1.toNatClampNeg 1)
noncomputable def b_mo_reads_11_263 (x1 : Int32) (x2 : Int32) (M : dM) : Option ((Int32 × Int32 × dM) ⊕ ((Int32 × dM) ⊕ (Bool × dM))) :=
  gd (vp_in x1 7) <|
  if (gI M 90 x1.toNatClampNeg) = 0 then
    (f_mo_isSign 60 M).bind fun v29 =>
    if v29 = true then
      b_mo_reads_11_289 x1 24 M
    else
      b_mo_reads_11_289 x1 25 M
  else
    b_mo_reads_11_304 x1 x2 M
noncomputable def b_mo_reads_11_172 (x1 : Int32) (x2 : Int32) (M : dM) : Option ((Int32 × Int32 × dM) ⊕ ((Int32 × dM) ⊕ (Bool × dM))) :=
  (f_mo_nextToken M).bind fun q42 =>
  some (.inl (x1, x2, q42))
noncomputable def b_mo_reads_11_120 (x1 : Int32) (x2 : Int32) (y1 : Int32) (y2 : Int32) (M : dM) : Option ((Int32 × Int32 × dM) ⊕ ((Int32 × dM) ⊕ (Bool × dM))) :=
  gd (vp_in y1 7) <|
  gd (vp_in x1 7) <|
  b_mo_reads_11_172 x1 x2 (sI (sI M 89 y1.toNatClampNeg y2) 90 x1.toNatClampNeg 0)
noncomputable def b_mo_reads_11_99 (x1 : Int32) (x2 : Int32) (x4 : Int32) (y1 : Int32) (M : dM) : Option ((Int32 × Int32 × dM) ⊕ ((Int32 × dM) ⊕ (Bool × dM))) :=
  (f_mo_puts y1 M).bind fun q38 =>
  if x4 = 0 then
    b_mo_reads_11_120 (x1 + 1) x2 (x1 + 1) 2 q38
  else
    b_mo_reads_11_120 (x1 + 1) x2 (x1 + 1) 1 q38
noncomputable def b_mo_reads_11_86 (x1 : Int32) (x2 : Int32) (x4 : Int32) (M : dM) : Option ((Int32 × Int32 × dM) ⊕ ((Int32 × dM) ⊕ (Bool × dM))) :=
  if x4 = 0 then
    b_mo_reads_11_99 x1 x2 x4 28 M
  else
    b_mo_reads_11_99 x1 x2 x4 30 M
def K_mo_reads_152 (Q : mz_P) (x2 : Int32) (M : dM) : (Int32 ⊕ Int32) → Prop
  | .inl s => mW mX12_reads 3 Q 152 [some (.ref 66), some (.int s), some (.int x2), none, none, none] [] M
  | .inr t => mW mX12_reads 3 Q 172 [some (.ref 66), some (.int t), some (.int x2), none, none, none] [] M
noncomputable def b_mo_reads_152_152 (x1 : Int32) (x2 : Int32) (M : dM) : Option (Int32 ⊕ Int32) :=
  if x1 ≤ 0 then
    some (.inr x1)
  else
    gd (vp_in x1 7) <|
    if (gI M 89 x1.toNatClampNeg) = 1 then
      some (.inl (x1 + (-1)))
    else
      some (.inr x1)
noncomputable def l_mo_reads_152 (x1 : Int32) (x2 : Int32) (M : dM) : Option Int32 := lpc (fun s => b_mo_reads_152_152 s x2 M) x1
noncomputable def b_mo_reads_11_147 (x1 : Int32) (y1 : Int32) (M : dM) : Option ((Int32 × Int32 × dM) ⊕ ((Int32 × dM) ⊕ (Bool × dM))) :=
  (f_mo_puts y1 M).bind fun q44 =>
  (l_mo_reads_152 x1 0 q44).bind fun t47 =>
    b_mo_reads_11_172 t47 0 q44
noncomputable def b_mo_reads_11_65 (x1 : Int32) (x2 : Int32) (x3 : Int32) (x4 : Int32) (x5 : Int32) (M : dM) : Option ((Int32 × Int32 × dM) ⊕ ((Int32 × dM) ⊕ (Bool × dM))) :=
  if x1 = 5 then
    some (.inr (.inr (((f_mo_fails 5 M).1), (f_mo_fails 5 M).2)))
  else
    if x4 = 0 then
      if x5 = 0 then
        if x3 ≤ 0 then
          b_mo_reads_11_147 x1 (100 + (gI M 66 24)) M
        else
          b_mo_reads_11_147 x1 x3 M
      else
        b_mo_reads_11_86 x1 x2 x4 M
    else
      b_mo_reads_11_86 x1 x2 x4 M
noncomputable def b_mo_reads_11_11 (x1 : Int32) (x2 : Int32) (M : dM) : Option ((Int32 × Int32 × dM) ⊕ ((Int32 × dM) ⊕ (Bool × dM))) :=
  if x2 = 0 then
    (f_mo_isSign 43 M).bind fun v1 =>
    if v1 = true then
      b_mo_reads_11_206 x1 M
    else
      (f_mo_isSign 45 M).bind fun v11 =>
      if v11 = true then
        b_mo_reads_11_206 x1 M
      else
        (f_mo_isSign 42 M).bind fun v13 =>
        if v13 = true then
          b_mo_reads_11_206 x1 M
        else
          (f_mo_isSign 60 M).bind fun v15 =>
          if v15 = true then
            b_mo_reads_11_263 x1 x2 M
          else
            (f_mo_isSign 61 M).bind fun v34 =>
            if v34 = true then
              b_mo_reads_11_263 x1 x2 M
            else
              b_mo_reads_11_304 x1 x2 M
  else
    (f_mo_isSign 40 M).bind fun v36 =>
    if (f_mo_fact0 M) = 0 then
      if (f_mo_isWord 10631 M) = true then
        b_mo_reads_11_65 x1 x2 (f_mo_fact0 M) (bI (f_mo_isWord 10631 M)) (bI v36) M
      else
        if v36 = true then
          b_mo_reads_11_65 x1 x2 (f_mo_fact0 M) (bI (f_mo_isWord 10631 M)) (bI v36) M
        else
          if (gI M 66 22) = 2 then
            b_mo_reads_11_65 x1 x2 (f_mo_fact0 M) (bI (f_mo_isWord 10631 M)) (bI v36) M
          else
            some (.inr (.inr (((f_mo_fails 1 M).1), (f_mo_fails 1 M).2)))
    else
      b_mo_reads_11_65 x1 x2 (f_mo_fact0 M) (bI (f_mo_isWord 10631 M)) (bI v36) M
noncomputable def l_mo_reads_11 (x1 : Int32) (x2 : Int32) (M : dM) : Option ((Int32 × dM) ⊕ (Bool × dM)) := lpc (fun s => b_mo_reads_11_11 s.1 s.2.1 s.2.2) (x1, x2, M)
noncomputable def t_mo_reads_418 (M : dM) : Option (Bool × dM) :=
  some (((f_mo_fails 1 M).1), (f_mo_fails 1 M).2)
noncomputable def t_mo_reads_399 (x1 : Int32) (M : dM) : Option (Bool × dM) :=
  if x1 = 0 then
    (f_mo_isSign 59 M).bind fun v56 =>
    if v56 = true then
      (f_mo_nextToken M).bind fun q58 =>
      some (true, q58)
    else
      t_mo_reads_418 M
  else
    t_mo_reads_418 M
noncomputable def f_mo_reads (M : dM) : Option (Bool × dM) :=
  (l_mo_reads_11 0 1 (sI M 90 0 0)).bind (Sum.elim (fun t52 =>
      t_mo_reads_399 t52.1 t52.2
    ) (fun r54 => some r54))
theorem w_b_mo_reads_11_424 (x1 : Int32) (x2 : Int32) (M : dM) {Q : mz_P} {o : ((Int32 × Int32 × dM) ⊕ ((Int32 × dM) ⊕ (Bool × dM)))} (hf : b_mo_reads_11_424 x1 x2 M = some o) (hk : K_mo_reads_11 Q  M o) : mW mX12_reads 3 Q 424 [some (.ref 66), some (.int x1), some (.int x2), none, none, none] [] M := by
  unfold b_mo_reads_11_424 at hf
  refine y_aload_n (i := 0) (n := 425) ⟨dX12_reads_424, rfl⟩ rfl ?_
  obtain ⟨q9, hv10, hf⟩ := b_s hf
  refine c_mo_nextToken M (n := 428) ⟨dX12_reads_425, rfl⟩ klX12_373 hv10 (by decide) (Nat.le_of_ble_eq_true rfl) rfl rfl ?_
  refine y_goto (t := 11) ⟨dX12_reads_428, rfl, rfl⟩ ?_
  cases hf
  exact y_wk ⟨Or.inr rfl, Or.inr rfl, Or.inr rfl, Or.inr rfl, Or.inr rfl, Or.inr rfl, trivial⟩ hk
theorem w_b_mo_reads_11_237 (x1 : Int32) (y1 : Int32) (M : dM) {Q : mz_P} {o : ((Int32 × Int32 × dM) ⊕ ((Int32 × dM) ⊕ (Bool × dM)))} (hf : b_mo_reads_11_237 x1 y1 M = some o) (hk : K_mo_reads_11 Q  M o) : mW mX12_reads 3 Q 237 [some (.ref 66), some (.int x1), none, none, none, none] [.ref 66, .int y1] M := by
  unfold b_mo_reads_11_237 at hf
  obtain ⟨q7, hv8, hf⟩ := b_s hf
  refine c_mo_puts y1 M (n := 240) ⟨dX12_reads_237, rfl⟩ klX12_369 hv8 (by decide) (Nat.le_of_ble_eq_true rfl) rfl rfl ?_
  refine y_iconst (n := 241) (v := 1) ⟨dX12_reads_240, rfl⟩ ki_1 ?_
  refine y_istore_n (i := 2) (n := 242) (L2 := [some (.ref 66), some (.int x1), some (.int 1), none, none, none]) ⟨dX12_reads_241, rfl⟩ (by decide) rfl rfl ?_
  refine y_goto (t := 424) ⟨dX12_reads_242, rfl, rfl⟩ ?_
  exact y_wk ⟨Or.inr rfl, Or.inr rfl, Or.inr rfl, Or.inr rfl, Or.inr rfl, Or.inr rfl, trivial⟩ (w_b_mo_reads_11_424 x1 1 q7 hf hk)
theorem w_b_mo_reads_11_206 (x1 : Int32) (M : dM) {Q : mz_P} {o : ((Int32 × Int32 × dM) ⊕ ((Int32 × dM) ⊕ (Bool × dM)))} (hf : b_mo_reads_11_206 x1 M = some o) (hk : K_mo_reads_11 Q  M o) : mW mX12_reads 3 Q 206 [some (.ref 66), some (.int x1), none, none, none, none] [] M := by
  unfold b_mo_reads_11_206 at hf
  refine y_aload_n (i := 0) (n := 207) ⟨dX12_reads_206, rfl⟩ rfl ?_
  refine y_aload_n (i := 0) (n := 208) ⟨dX12_reads_207, rfl⟩ rfl ?_
  refine y_bipush (n := 210) (v := 43) ⟨dX12_reads_208, rfl⟩ kb_43 ?_
  obtain ⟨v3, hv4, hf⟩ := b_s hf
  refine c_mo_isSign 43 M (n := 213) ⟨dX12_reads_210, rfl⟩ klX12_363 hv4 (by decide) (Nat.le_of_ble_eq_true rfl) rfl rfl ?_
  refine y_if_eq (t := 221) (n := 216) ⟨dX12_reads_213, rfl, rfl⟩ (fun h0 => ?_) (fun h0 => ?_)
  · have hc := bI_0 h0
    replace hf := i_f hc hf
    refine y_aload_n (i := 0) (n := 222) ⟨dX12_reads_221, rfl⟩ rfl ?_
    refine y_bipush (n := 224) (v := 45) ⟨dX12_reads_222, rfl⟩ kb_45 ?_
    obtain ⟨v5, hv6, hf⟩ := b_s hf
    refine c_mo_isSign 45 M (n := 227) ⟨dX12_reads_224, rfl⟩ klX12_363 hv6 (by decide) (Nat.le_of_ble_eq_true rfl) rfl rfl ?_
    refine y_if_eq (t := 235) (n := 230) ⟨dX12_reads_227, rfl, rfl⟩ (fun h0 => ?_) (fun h0 => ?_)
    · have hc := bI_0 h0
      replace hf := i_f hc hf
      refine y_bipush (n := 237) (v := 22) ⟨dX12_reads_235, rfl⟩ kb_22 ?_
      exact y_wk ⟨Or.inr rfl, Or.inr rfl, Or.inr rfl, Or.inr rfl, Or.inr rfl, Or.inr rfl, trivial⟩ (w_b_mo_reads_11_237 x1 22 M hf hk)
    · have hc := bI_1 h0
      replace hf := i_t hc hf
      refine y_bipush (n := 232) (v := 21) ⟨dX12_reads_230, rfl⟩ kb_21 ?_
      refine y_goto (t := 237) ⟨dX12_reads_232, rfl, rfl⟩ ?_
      exact y_wk ⟨Or.inr rfl, Or.inr rfl, Or.inr rfl, Or.inr rfl, Or.inr rfl, Or.inr rfl, trivial⟩ (w_b_mo_reads_11_237 x1 21 M hf hk)
  · have hc := bI_1 h0
    replace hf := i_t hc hf
    refine y_bipush (n := 218) (v := 20) ⟨dX12_reads_216, rfl⟩ kb_20 ?_
    refine y_goto (t := 237) ⟨dX12_reads_218, rfl, rfl⟩ ?_
    exact y_wk ⟨Or.inr rfl, Or.inr rfl, Or.inr rfl, Or.inr rfl, Or.inr rfl, Or.inr rfl, trivial⟩ (w_b_mo_reads_11_237 x1 20 M hf hk)
theorem w_b_mo_reads_11_342 (x1 : Int32) (y1 : Int32) (M : dM) {Q : mz_P} {o : ((Int32 × Int32 × dM) ⊕ ((Int32 × dM) ⊕ (Bool × dM)))} (hf : b_mo_reads_11_342 x1 y1 M = some o) (hk : K_mo_reads_11 Q  M o) : mW mX12_reads 3 Q 342 [some (.ref 66), some (.int x1), none, none, none, none] [.ref 66, .int y1] M := by
  unfold b_mo_reads_11_342 at hf
  obtain ⟨q18, hv19, hf⟩ := b_s hf
  refine c_mo_puts y1 M (n := 345) ⟨dX12_reads_342, rfl⟩ klX12_369 hv19 (by decide) (Nat.le_of_ble_eq_true rfl) rfl rfl ?_
  refine y_aload_n (i := 0) (n := 346) ⟨dX12_reads_345, rfl⟩ rfl ?_
  refine y_getR (n := 349) ⟨dX12_reads_346, rfl⟩ kfX12_80 l_66 rfl r_66_40 ?_
  refine y_iload_n (i := 1) (n := 350) ⟨dX12_reads_349, rfl⟩ rfl ?_
  refine y_iconst (n := 351) (v := 0) ⟨dX12_reads_350, rfl⟩ ki_0 ?_
  obtain ⟨hg20, hf⟩ := g_s hf
  refine y_bastore (x' := 0) (n := 352) ⟨dX12_reads_351, rfl⟩ l_90 hg20 rfl ?_
  refine y_iconst (n := 353) (v := 1) ⟨dX12_reads_352, rfl⟩ ki_1 ?_
  refine y_istore_n (i := 2) (n := 354) (L2 := [some (.ref 66), some (.int x1), some (.int 1), none, none, none]) ⟨dX12_reads_353, rfl⟩ (by decide) rfl rfl ?_
  refine y_goto (t := 424) ⟨dX12_reads_354, rfl, rfl⟩ ?_
  exact y_wk ⟨Or.inr rfl, Or.inr rfl, Or.inr rfl, Or.inr rfl, Or.inr rfl, Or.inr rfl, trivial⟩ (w_b_mo_reads_11_424 x1 1 (sI q18 90 x1.toNatClampNeg 0) hf hk)
theorem w_b_mo_reads_11_324 (x1 : Int32) (M : dM) {Q : mz_P} {o : ((Int32 × Int32 × dM) ⊕ ((Int32 × dM) ⊕ (Bool × dM)))} (hf : b_mo_reads_11_324 x1 M = some o) (hk : K_mo_reads_11 Q  M o) : mW mX12_reads 3 Q 324 [some (.ref 66), some (.int x1), none, none, none, none] [] M := by
  unfold b_mo_reads_11_324 at hf
  refine y_aload_n (i := 0) (n := 325) ⟨dX12_reads_324, rfl⟩ rfl ?_
  refine y_aload_n (i := 0) (n := 326) ⟨dX12_reads_325, rfl⟩ rfl ?_
  refine y_ldc2 (n := 329) ⟨dX12_reads_326, rfl⟩ kcX12_376 ?_
  refine c_mo_isWord 1111 M (n := 332) ⟨dX12_reads_329, rfl⟩ klX12_359 rfl (by decide) (Nat.le_of_ble_eq_true rfl) rfl rfl ?_
  refine y_if_eq (t := 340) (n := 335) ⟨dX12_reads_332, rfl, rfl⟩ (fun h0 => ?_) (fun h0 => ?_)
  · have hc := bI_0 h0
    replace hf := i_f hc hf
    refine y_bipush (n := 342) (v := 27) ⟨dX12_reads_340, rfl⟩ kb_27 ?_
    exact y_wk ⟨Or.inr rfl, Or.inr rfl, Or.inr rfl, Or.inr rfl, Or.inr rfl, Or.inr rfl, trivial⟩ (w_b_mo_reads_11_342 x1 27 M hf hk)
  · have hc := bI_1 h0
    replace hf := i_t hc hf
    refine y_bipush (n := 337) (v := 26) ⟨dX12_reads_335, rfl⟩ kb_26 ?_
    refine y_goto (t := 342) ⟨dX12_reads_337, rfl, rfl⟩ ?_
    exact y_wk ⟨Or.inr rfl, Or.inr rfl, Or.inr rfl, Or.inr rfl, Or.inr rfl, Or.inr rfl, trivial⟩ (w_b_mo_reads_11_342 x1 26 M hf hk)
theorem w_b_mo_reads_379_379 (x1 : Int32) (x2 : Int32) (M : dM) {Q : mz_P} {o : (Int32 ⊕ Int32)} (hf : b_mo_reads_379_379 x1 x2 M = some o) (hk : K_mo_reads_379 Q x2 M o) : mW mX12_reads 3 Q 379 [some (.ref 66), some (.int x1), some (.int x2), none, none, none] [] M := by
  unfold b_mo_reads_379_379 at hf
  refine y_iload_n (i := 1) (n := 380) ⟨dX12_reads_379, rfl⟩ rfl ?_
  refine y_if_le (t := 424) (n := 383) ⟨dX12_reads_380, rfl, rfl⟩ (fun (hc : x1 ≤ 0) => ?_) (fun (hc : ¬ (x1 ≤ 0)) => ?_)
  · replace hf := i_t hc hf
    cases hf
    exact y_wk ⟨Or.inr rfl, Or.inr rfl, Or.inr rfl, Or.inr rfl, Or.inr rfl, Or.inr rfl, trivial⟩ hk
  · replace hf := i_f hc hf
    refine y_aload_n (i := 0) (n := 384) ⟨dX12_reads_383, rfl⟩ rfl ?_
    refine y_getR (n := 387) ⟨dX12_reads_384, rfl⟩ kfX12_77 l_66 rfl r_66_39 ?_
    refine y_iload_n (i := 1) (n := 388) ⟨dX12_reads_387, rfl⟩ rfl ?_
    obtain ⟨hg25, hf⟩ := g_s hf
    refine y_iaload (n := 389) ⟨dX12_reads_388, rfl⟩ l_89 hg25 ?_
    refine y_iconst (n := 390) (v := 1) ⟨dX12_reads_389, rfl⟩ ki_1 ?_
    refine y_icmp_ne (t := 424) (n := 393) ⟨dX12_reads_390, rfl, rfl⟩ (fun (hc : ¬ ((gI M 89 x1.toNatClampNeg) = 1)) => ?_) (fun (hc : (gI M 89 x1.toNatClampNeg) = 1) => ?_)
    · replace hf := i_f hc hf
      cases hf
      exact y_wk ⟨Or.inr rfl, Or.inr rfl, Or.inr rfl, Or.inr rfl, Or.inr rfl, Or.inr rfl, trivial⟩ hk
    · replace hf := i_t hc hf
      refine y_iinc (i := 1) (n := 396) (b := (x1 + (-1))) (L2 := [some (.ref 66), some (.int (x1 + (-1))), some (.int x2), none, none, none]) ⟨dX12_reads_393, rfl⟩ rfl (by rw [ki_m1]) (by decide) rfl rfl ?_
      refine y_goto (t := 379) ⟨dX12_reads_396, rfl, rfl⟩ ?_
      cases hf
      exact y_wk ⟨Or.inr rfl, Or.inr rfl, Or.inr rfl, Or.inr rfl, Or.inr rfl, Or.inr rfl, trivial⟩ hk
theorem wl_mo_reads_379 (x1 : Int32) (x2 : Int32) (M : dM) {Q : mz_P} {x : Int32} (hf : l_mo_reads_379 x1 x2 M = some x) (hk : K_mo_reads_379 Q x2 M (.inr x)) : mW mX12_reads 3 Q 379 [some (.ref 66), some (.int x1), some (.int x2), none, none, none] [] M :=
  lpc_wp (Wh := fun s => mW mX12_reads 3 Q 379 [some (.ref 66), some (.int s), some (.int x2), none, none, none] [] M) (K := K_mo_reads_379 Q x2 M) (fun _ h => h) (fun s o hb hk => w_b_mo_reads_379_379 s x2 M hb hk) hf hk
theorem w_b_mo_reads_11_304 (x1 : Int32) (x2 : Int32) (M : dM) {Q : mz_P} {o : ((Int32 × Int32 × dM) ⊕ ((Int32 × dM) ⊕ (Bool × dM)))} (hf : b_mo_reads_11_304 x1 x2 M = some o) (hk : K_mo_reads_11 Q  M o) : mW mX12_reads 3 Q 304 [some (.ref 66), some (.int x1), some (.int x2), none, none, none] [] M := by
  unfold b_mo_reads_11_304 at hf
  refine y_aload_n (i := 0) (n := 305) ⟨dX12_reads_304, rfl⟩ rfl ?_
  refine y_ldc2 (n := 308) ⟨dX12_reads_305, rfl⟩ kcX12_376 ?_
  refine c_mo_isWord 1111 M (n := 311) ⟨dX12_reads_308, rfl⟩ klX12_359 rfl (by decide) (Nat.le_of_ble_eq_true rfl) rfl rfl ?_
  refine y_if_ne (t := 324) (n := 314) ⟨dX12_reads_311, rfl, rfl⟩ (fun h0 => ?_) (fun h0 => ?_)
  · have hc := bI_1 h0
    replace hf := i_t hc hf
    exact y_wk ⟨Or.inr rfl, Or.inr rfl, Or.inl rfl, Or.inr rfl, Or.inr rfl, Or.inr rfl, trivial⟩ (w_b_mo_reads_11_324 x1 M hf hk)
  · have hc := bI_0 h0
    replace hf := i_f hc hf
    refine y_aload_n (i := 0) (n := 315) ⟨dX12_reads_314, rfl⟩ rfl ?_
    refine y_ldc2 (n := 318) ⟨dX12_reads_315, rfl⟩ kcX12_378 ?_
    refine c_mo_isWord 423 M (n := 321) ⟨dX12_reads_318, rfl⟩ klX12_359 rfl (by decide) (Nat.le_of_ble_eq_true rfl) rfl rfl ?_
    refine y_if_eq (t := 357) (n := 324) ⟨dX12_reads_321, rfl, rfl⟩ (fun h0 => ?_) (fun h0 => ?_)
    · have hc := bI_0 h0
      replace hf := i_f hc hf
      refine y_aload_n (i := 0) (n := 358) ⟨dX12_reads_357, rfl⟩ rfl ?_
      refine y_bipush (n := 360) (v := 41) ⟨dX12_reads_358, rfl⟩ kb_41 ?_
      obtain ⟨v21, hv22, hf⟩ := b_s hf
      refine c_mo_isSign 41 M (n := 363) ⟨dX12_reads_360, rfl⟩ klX12_363 hv22 (by decide) (Nat.le_of_ble_eq_true rfl) rfl rfl ?_
      refine y_if_eq (t := 399) (n := 366) ⟨dX12_reads_363, rfl, rfl⟩ (fun h0 => ?_) (fun h0 => ?_)
      · have hc := bI_0 h0
        replace hf := i_f hc hf
        cases hf
        exact y_wk ⟨Or.inr rfl, Or.inr rfl, Or.inl rfl, Or.inr rfl, Or.inr rfl, Or.inr rfl, trivial⟩ hk
      · have hc := bI_1 h0
        replace hf := i_t hc hf
        refine y_iload_n (i := 1) (n := 367) ⟨dX12_reads_366, rfl⟩ rfl ?_
        refine y_if_le (t := 399) (n := 370) ⟨dX12_reads_367, rfl, rfl⟩ (fun (hc : x1 ≤ 0) => ?_) (fun (hc : ¬ (x1 ≤ 0)) => ?_)
        · replace hf := i_t hc hf
          cases hf
          exact y_wk ⟨Or.inr rfl, Or.inr rfl, Or.inl rfl, Or.inr rfl, Or.inr rfl, Or.inr rfl, trivial⟩ hk
        · replace hf := i_f hc hf
          refine y_aload_n (i := 0) (n := 371) ⟨dX12_reads_370, rfl⟩ rfl ?_
          refine y_bipush (n := 373) (v := 29) ⟨dX12_reads_371, rfl⟩ kb_29 ?_
          obtain ⟨q23, hv24, hf⟩ := b_s hf
          refine c_mo_puts 29 M (n := 376) ⟨dX12_reads_373, rfl⟩ klX12_369 hv24 (by decide) (Nat.le_of_ble_eq_true rfl) rfl rfl ?_
          refine y_iinc (i := 1) (n := 379) (b := (x1 + (-1))) (L2 := [some (.ref 66), some (.int (x1 + (-1))), some (.int x2), none, none, none]) ⟨dX12_reads_376, rfl⟩ rfl (by rw [ki_m1]) (by decide) rfl rfl ?_
          obtain ⟨t26, hl27, hf⟩ := b_s hf
          refine y_wk ⟨Or.inr rfl, Or.inr rfl, Or.inr rfl, Or.inr rfl, Or.inr rfl, Or.inr rfl, trivial⟩ (wl_mo_reads_379 (x1 + (-1)) x2 q23 hl27 ?_)
          show mW mX12_reads 3 Q 424 [some (.ref 66), some (.int t26), some (.int x2), none, none, none] [] q23
          exact y_wk ⟨Or.inr rfl, Or.inr rfl, Or.inr rfl, Or.inr rfl, Or.inr rfl, Or.inr rfl, trivial⟩ (w_b_mo_reads_11_424 t26 x2 q23 hf hk)
    · have hc := bI_1 h0
      replace hf := i_t hc hf
      exact y_wk ⟨Or.inr rfl, Or.inr rfl, Or.inl rfl, Or.inr rfl, Or.inr rfl, Or.inr rfl, trivial⟩ (w_b_mo_reads_11_324 x1 M hf hk)
theorem w_b_mo_reads_11_289 (x1 : Int32) (y1 : Int32) (M : dM) {Q : mz_P} {o : ((Int32 × Int32 × dM) ⊕ ((Int32 × dM) ⊕ (Bool × dM)))} (hf : b_mo_reads_11_289 x1 y1 M = some o) (hk : K_mo_reads_11 Q  M o) : mW mX12_reads 3 Q 289 [some (.ref 66), some (.int x1), none, none, none, none] [.ref 66, .int y1] M := by
  unfold b_mo_reads_11_289 at hf
  obtain ⟨q31, hv32, hf⟩ := b_s hf
  refine c_mo_puts y1 M (n := 292) ⟨dX12_reads_289, rfl⟩ klX12_369 hv32 (by decide) (Nat.le_of_ble_eq_true rfl) rfl rfl ?_
  refine y_aload_n (i := 0) (n := 293) ⟨dX12_reads_292, rfl⟩ rfl ?_
  refine y_getR (n := 296) ⟨dX12_reads_293, rfl⟩ kfX12_80 l_66 rfl r_66_40 ?_
  refine y_iload_n (i := 1) (n := 297) ⟨dX12_reads_296, rfl⟩ rfl ?_
  refine y_iconst (n := 298) (v := 1) ⟨dX12_reads_297, rfl⟩ ki_1 ?_
  obtain ⟨hg33, hf⟩ := g_s hf
  refine y_bastore (x' := 1) (n := 299) ⟨dX12_reads_298, rfl⟩ l_90 hg33 rfl ?_
  refine y_iconst (n := 300) (v := 1) ⟨dX12_reads_299, rfl⟩ ki_1 ?_
  refine y_istore_n (i := 2) (n := 301) (L2 := [some (.ref 66), some (.int x1), some (.int 1), none, none, none]) ⟨dX12_reads_300, rfl⟩ (by decide) rfl rfl ?_
  refine y_goto (t := 424) ⟨dX12_reads_301, rfl, rfl⟩ ?_
  exact y_wk ⟨Or.inr rfl, Or.inr rfl, Or.inr rfl, Or.inr rfl, Or.inr rfl, Or.inr rfl, trivial⟩ (w_b_mo_reads_11_424 x1 1 (sI q31 90 x1.toNatClampNeg 1) hf hk)
theorem w_b_mo_reads_11_263 (x1 : Int32) (x2 : Int32) (M : dM) {Q : mz_P} {o : ((Int32 × Int32 × dM) ⊕ ((Int32 × dM) ⊕ (Bool × dM)))} (hf : b_mo_reads_11_263 x1 x2 M = some o) (hk : K_mo_reads_11 Q  M o) : mW mX12_reads 3 Q 263 [some (.ref 66), some (.int x1), some (.int x2), none, none, none] [] M := by
  unfold b_mo_reads_11_263 at hf
  refine y_aload_n (i := 0) (n := 264) ⟨dX12_reads_263, rfl⟩ rfl ?_
  refine y_getR (n := 267) ⟨dX12_reads_264, rfl⟩ kfX12_80 l_66 rfl r_66_40 ?_
  refine y_iload_n (i := 1) (n := 268) ⟨dX12_reads_267, rfl⟩ rfl ?_
  obtain ⟨hg17, hf⟩ := g_s hf
  refine y_baload (n := 269) ⟨dX12_reads_268, rfl⟩ l_90 hg17 ?_
  refine y_if_ne (t := 304) (n := 272) ⟨dX12_reads_269, rfl, rfl⟩ (fun (hc : ¬ ((gI M 90 x1.toNatClampNeg) = 0)) => ?_) (fun (hc : (gI M 90 x1.toNatClampNeg) = 0) => ?_)
  · replace hf := i_f hc hf
    exact y_wk ⟨Or.inr rfl, Or.inr rfl, Or.inr rfl, Or.inr rfl, Or.inr rfl, Or.inr rfl, trivial⟩ (w_b_mo_reads_11_304 x1 x2 M hf hk)
  · replace hf := i_t hc hf
    refine y_aload_n (i := 0) (n := 273) ⟨dX12_reads_272, rfl⟩ rfl ?_
    refine y_aload_n (i := 0) (n := 274) ⟨dX12_reads_273, rfl⟩ rfl ?_
    refine y_bipush (n := 276) (v := 60) ⟨dX12_reads_274, rfl⟩ kb_60 ?_
    obtain ⟨v29, hv30, hf⟩ := b_s hf
    refine c_mo_isSign 60 M (n := 279) ⟨dX12_reads_276, rfl⟩ klX12_363 hv30 (by decide) (Nat.le_of_ble_eq_true rfl) rfl rfl ?_
    refine y_if_eq (t := 287) (n := 282) ⟨dX12_reads_279, rfl, rfl⟩ (fun h0 => ?_) (fun h0 => ?_)
    · have hc := bI_0 h0
      replace hf := i_f hc hf
      refine y_bipush (n := 289) (v := 25) ⟨dX12_reads_287, rfl⟩ kb_25 ?_
      exact y_wk ⟨Or.inr rfl, Or.inr rfl, Or.inl rfl, Or.inr rfl, Or.inr rfl, Or.inr rfl, trivial⟩ (w_b_mo_reads_11_289 x1 25 M hf hk)
    · have hc := bI_1 h0
      replace hf := i_t hc hf
      refine y_bipush (n := 284) (v := 24) ⟨dX12_reads_282, rfl⟩ kb_24 ?_
      refine y_goto (t := 289) ⟨dX12_reads_284, rfl, rfl⟩ ?_
      exact y_wk ⟨Or.inr rfl, Or.inr rfl, Or.inl rfl, Or.inr rfl, Or.inr rfl, Or.inr rfl, trivial⟩ (w_b_mo_reads_11_289 x1 24 M hf hk)
theorem w_b_mo_reads_11_172 (x1 : Int32) (x2 : Int32) (M : dM) {Q : mz_P} {o : ((Int32 × Int32 × dM) ⊕ ((Int32 × dM) ⊕ (Bool × dM)))} (hf : b_mo_reads_11_172 x1 x2 M = some o) (hk : K_mo_reads_11 Q  M o) : mW mX12_reads 3 Q 172 [some (.ref 66), some (.int x1), some (.int x2), none, none, none] [] M := by
  unfold b_mo_reads_11_172 at hf
  refine y_aload_n (i := 0) (n := 173) ⟨dX12_reads_172, rfl⟩ rfl ?_
  obtain ⟨q42, hv43, hf⟩ := b_s hf
  refine c_mo_nextToken M (n := 176) ⟨dX12_reads_173, rfl⟩ klX12_373 hv43 (by decide) (Nat.le_of_ble_eq_true rfl) rfl rfl ?_
  refine y_goto (t := 11) ⟨dX12_reads_176, rfl, rfl⟩ ?_
  cases hf
  exact y_wk ⟨Or.inr rfl, Or.inr rfl, Or.inr rfl, Or.inr rfl, Or.inr rfl, Or.inr rfl, trivial⟩ hk
theorem w_b_mo_reads_11_120 (x1 : Int32) (x2 : Int32) (y1 : Int32) (y2 : Int32) (M : dM) {Q : mz_P} {o : ((Int32 × Int32 × dM) ⊕ ((Int32 × dM) ⊕ (Bool × dM)))} (hf : b_mo_reads_11_120 x1 x2 y1 y2 M = some o) (hk : K_mo_reads_11 Q  M o) : mW mX12_reads 3 Q 120 [some (.ref 66), some (.int x1), some (.int x2), none, none, none] [.ref 89, .int y1, .int y2] M := by
  unfold b_mo_reads_11_120 at hf
  obtain ⟨hg40, hf⟩ := g_s hf
  refine y_iastore (n := 121) ⟨dX12_reads_120, rfl⟩ l_89 hg40 ?_
  refine y_aload_n (i := 0) (n := 122) ⟨dX12_reads_121, rfl⟩ rfl ?_
  refine y_getR (n := 125) ⟨dX12_reads_122, rfl⟩ kfX12_80 l_66 rfl r_66_40 ?_
  refine y_iload_n (i := 1) (n := 126) ⟨dX12_reads_125, rfl⟩ rfl ?_
  refine y_iconst (n := 127) (v := 0) ⟨dX12_reads_126, rfl⟩ ki_0 ?_
  obtain ⟨hg41, hf⟩ := g_s hf
  refine y_bastore (x' := 0) (n := 128) ⟨dX12_reads_127, rfl⟩ l_90 hg41 rfl ?_
  refine y_goto (t := 172) ⟨dX12_reads_128, rfl, rfl⟩ ?_
  exact y_wk ⟨Or.inr rfl, Or.inr rfl, Or.inr rfl, Or.inr rfl, Or.inr rfl, Or.inr rfl, trivial⟩ (w_b_mo_reads_11_172 x1 x2 (sI (sI M 89 y1.toNatClampNeg y2) 90 x1.toNatClampNeg 0) hf hk)
theorem w_b_mo_reads_11_99 (x1 : Int32) (x2 : Int32) (x4 : Int32) (y1 : Int32) (M : dM) {Q : mz_P} {o : ((Int32 × Int32 × dM) ⊕ ((Int32 × dM) ⊕ (Bool × dM)))} (hf : b_mo_reads_11_99 x1 x2 x4 y1 M = some o) (hk : K_mo_reads_11 Q  M o) : mW mX12_reads 3 Q 99 [some (.ref 66), some (.int x1), some (.int x2), none, some (.int x4), none] [.ref 66, .int y1] M := by
  unfold b_mo_reads_11_99 at hf
  obtain ⟨q38, hv39, hf⟩ := b_s hf
  refine c_mo_puts y1 M (n := 102) ⟨dX12_reads_99, rfl⟩ klX12_369 hv39 (by decide) (Nat.le_of_ble_eq_true rfl) rfl rfl ?_
  refine y_iinc (i := 1) (n := 105) (b := (x1 + 1)) (L2 := [some (.ref 66), some (.int (x1 + 1)), some (.int x2), none, some (.int x4), none]) ⟨dX12_reads_102, rfl⟩ rfl (by rw [ki_1]) (by decide) rfl rfl ?_
  refine y_aload_n (i := 0) (n := 106) ⟨dX12_reads_105, rfl⟩ rfl ?_
  refine y_getR (n := 109) ⟨dX12_reads_106, rfl⟩ kfX12_77 l_66 rfl r_66_39 ?_
  refine y_iload_n (i := 1) (n := 110) ⟨dX12_reads_109, rfl⟩ rfl ?_
  refine y_iload (i := 4) (n := 112) ⟨dX12_reads_110, rfl⟩ rfl ?_
  refine y_if_eq (t := 119) (n := 115) ⟨dX12_reads_112, rfl, rfl⟩ (fun (hc : x4 = 0) => ?_) (fun (hc : ¬ (x4 = 0)) => ?_)
  · replace hf := i_t hc hf
    refine y_iconst (n := 120) (v := 2) ⟨dX12_reads_119, rfl⟩ ki_2 ?_
    exact y_wk ⟨Or.inr rfl, Or.inr rfl, Or.inr rfl, Or.inr rfl, Or.inl rfl, Or.inr rfl, trivial⟩ (w_b_mo_reads_11_120 (x1 + 1) x2 (x1 + 1) 2 q38 hf hk)
  · replace hf := i_f hc hf
    refine y_iconst (n := 116) (v := 1) ⟨dX12_reads_115, rfl⟩ ki_1 ?_
    refine y_goto (t := 120) ⟨dX12_reads_116, rfl, rfl⟩ ?_
    exact y_wk ⟨Or.inr rfl, Or.inr rfl, Or.inr rfl, Or.inr rfl, Or.inl rfl, Or.inr rfl, trivial⟩ (w_b_mo_reads_11_120 (x1 + 1) x2 (x1 + 1) 1 q38 hf hk)
theorem w_b_mo_reads_11_86 (x1 : Int32) (x2 : Int32) (x4 : Int32) (M : dM) {Q : mz_P} {o : ((Int32 × Int32 × dM) ⊕ ((Int32 × dM) ⊕ (Bool × dM)))} (hf : b_mo_reads_11_86 x1 x2 x4 M = some o) (hk : K_mo_reads_11 Q  M o) : mW mX12_reads 3 Q 86 [some (.ref 66), some (.int x1), some (.int x2), none, some (.int x4), none] [] M := by
  unfold b_mo_reads_11_86 at hf
  refine y_aload_n (i := 0) (n := 87) ⟨dX12_reads_86, rfl⟩ rfl ?_
  refine y_iload (i := 4) (n := 89) ⟨dX12_reads_87, rfl⟩ rfl ?_
  refine y_if_eq (t := 97) (n := 92) ⟨dX12_reads_89, rfl, rfl⟩ (fun (hc : x4 = 0) => ?_) (fun (hc : ¬ (x4 = 0)) => ?_)
  · replace hf := i_t hc hf
    refine y_bipush (n := 99) (v := 28) ⟨dX12_reads_97, rfl⟩ kb_28 ?_
    exact y_wk ⟨Or.inr rfl, Or.inr rfl, Or.inr rfl, Or.inr rfl, Or.inr rfl, Or.inr rfl, trivial⟩ (w_b_mo_reads_11_99 x1 x2 x4 28 M hf hk)
  · replace hf := i_f hc hf
    refine y_bipush (n := 94) (v := 30) ⟨dX12_reads_92, rfl⟩ kb_30 ?_
    refine y_goto (t := 99) ⟨dX12_reads_94, rfl, rfl⟩ ?_
    exact y_wk ⟨Or.inr rfl, Or.inr rfl, Or.inr rfl, Or.inr rfl, Or.inr rfl, Or.inr rfl, trivial⟩ (w_b_mo_reads_11_99 x1 x2 x4 30 M hf hk)
theorem w_b_mo_reads_152_152 (x1 : Int32) (x2 : Int32) (M : dM) {Q : mz_P} {o : (Int32 ⊕ Int32)} (hf : b_mo_reads_152_152 x1 x2 M = some o) (hk : K_mo_reads_152 Q x2 M o) : mW mX12_reads 3 Q 152 [some (.ref 66), some (.int x1), some (.int x2), none, none, none] [] M := by
  unfold b_mo_reads_152_152 at hf
  refine y_iload_n (i := 1) (n := 153) ⟨dX12_reads_152, rfl⟩ rfl ?_
  refine y_if_le (t := 172) (n := 156) ⟨dX12_reads_153, rfl, rfl⟩ (fun (hc : x1 ≤ 0) => ?_) (fun (hc : ¬ (x1 ≤ 0)) => ?_)
  · replace hf := i_t hc hf
    cases hf
    exact y_wk ⟨Or.inr rfl, Or.inr rfl, Or.inr rfl, Or.inr rfl, Or.inr rfl, Or.inr rfl, trivial⟩ hk
  · replace hf := i_f hc hf
    refine y_aload_n (i := 0) (n := 157) ⟨dX12_reads_156, rfl⟩ rfl ?_
    refine y_getR (n := 160) ⟨dX12_reads_157, rfl⟩ kfX12_77 l_66 rfl r_66_39 ?_
    refine y_iload_n (i := 1) (n := 161) ⟨dX12_reads_160, rfl⟩ rfl ?_
    obtain ⟨hg46, hf⟩ := g_s hf
    refine y_iaload (n := 162) ⟨dX12_reads_161, rfl⟩ l_89 hg46 ?_
    refine y_iconst (n := 163) (v := 1) ⟨dX12_reads_162, rfl⟩ ki_1 ?_
    refine y_icmp_ne (t := 172) (n := 166) ⟨dX12_reads_163, rfl, rfl⟩ (fun (hc : ¬ ((gI M 89 x1.toNatClampNeg) = 1)) => ?_) (fun (hc : (gI M 89 x1.toNatClampNeg) = 1) => ?_)
    · replace hf := i_f hc hf
      cases hf
      exact y_wk ⟨Or.inr rfl, Or.inr rfl, Or.inr rfl, Or.inr rfl, Or.inr rfl, Or.inr rfl, trivial⟩ hk
    · replace hf := i_t hc hf
      refine y_iinc (i := 1) (n := 169) (b := (x1 + (-1))) (L2 := [some (.ref 66), some (.int (x1 + (-1))), some (.int x2), none, none, none]) ⟨dX12_reads_166, rfl⟩ rfl (by rw [ki_m1]) (by decide) rfl rfl ?_
      refine y_goto (t := 152) ⟨dX12_reads_169, rfl, rfl⟩ ?_
      cases hf
      exact y_wk ⟨Or.inr rfl, Or.inr rfl, Or.inr rfl, Or.inr rfl, Or.inr rfl, Or.inr rfl, trivial⟩ hk
theorem wl_mo_reads_152 (x1 : Int32) (x2 : Int32) (M : dM) {Q : mz_P} {x : Int32} (hf : l_mo_reads_152 x1 x2 M = some x) (hk : K_mo_reads_152 Q x2 M (.inr x)) : mW mX12_reads 3 Q 152 [some (.ref 66), some (.int x1), some (.int x2), none, none, none] [] M :=
  lpc_wp (Wh := fun s => mW mX12_reads 3 Q 152 [some (.ref 66), some (.int s), some (.int x2), none, none, none] [] M) (K := K_mo_reads_152 Q x2 M) (fun _ h => h) (fun s o hb hk => w_b_mo_reads_152_152 s x2 M hb hk) hf hk
theorem w_b_mo_reads_11_147 (x1 : Int32) (y1 : Int32) (M : dM) {Q : mz_P} {o : ((Int32 × Int32 × dM) ⊕ ((Int32 × dM) ⊕ (Bool × dM)))} (hf : b_mo_reads_11_147 x1 y1 M = some o) (hk : K_mo_reads_11 Q  M o) : mW mX12_reads 3 Q 147 [some (.ref 66), some (.int x1), none, none, none, none] [.ref 66, .int y1] M := by
  unfold b_mo_reads_11_147 at hf
  obtain ⟨q44, hv45, hf⟩ := b_s hf
  refine c_mo_puts y1 M (n := 150) ⟨dX12_reads_147, rfl⟩ klX12_369 hv45 (by decide) (Nat.le_of_ble_eq_true rfl) rfl rfl ?_
  refine y_iconst (n := 151) (v := 0) ⟨dX12_reads_150, rfl⟩ ki_0 ?_
  refine y_istore_n (i := 2) (n := 152) (L2 := [some (.ref 66), some (.int x1), some (.int 0), none, none, none]) ⟨dX12_reads_151, rfl⟩ (by decide) rfl rfl ?_
  obtain ⟨t47, hl48, hf⟩ := b_s hf
  refine y_wk ⟨Or.inr rfl, Or.inr rfl, Or.inr rfl, Or.inr rfl, Or.inr rfl, Or.inr rfl, trivial⟩ (wl_mo_reads_152 x1 0 q44 hl48 ?_)
  show mW mX12_reads 3 Q 172 [some (.ref 66), some (.int t47), some (.int 0), none, none, none] [] q44
  exact y_wk ⟨Or.inr rfl, Or.inr rfl, Or.inr rfl, Or.inr rfl, Or.inr rfl, Or.inr rfl, trivial⟩ (w_b_mo_reads_11_172 t47 0 q44 hf hk)
theorem w_b_mo_reads_11_65 (x1 : Int32) (x2 : Int32) (x3 : Int32) (x4 : Int32) (x5 : Int32) (M : dM) {Q : mz_P} {o : ((Int32 × Int32 × dM) ⊕ ((Int32 × dM) ⊕ (Bool × dM)))} (hf : b_mo_reads_11_65 x1 x2 x3 x4 x5 M = some o) (hk : K_mo_reads_11 Q  M o) : mW mX12_reads 3 Q 65 [some (.ref 66), some (.int x1), some (.int x2), some (.int x3), some (.int x4), some (.int x5)] [] M := by
  unfold b_mo_reads_11_65 at hf
  refine y_iload_n (i := 1) (n := 66) ⟨dX12_reads_65, rfl⟩ rfl ?_
  refine y_iconst (n := 67) (v := 5) ⟨dX12_reads_66, rfl⟩ ki_5 ?_
  refine y_icmp_ne (t := 76) (n := 70) ⟨dX12_reads_67, rfl, rfl⟩ (fun (hc : ¬ (x1 = 5)) => ?_) (fun (hc : x1 = 5) => ?_)
  · replace hf := i_f hc hf
    refine y_iload (i := 4) (n := 78) ⟨dX12_reads_76, rfl⟩ rfl ?_
    refine y_if_ne (t := 86) (n := 81) ⟨dX12_reads_78, rfl, rfl⟩ (fun (hc : ¬ (x4 = 0)) => ?_) (fun (hc : x4 = 0) => ?_)
    · replace hf := i_f hc hf
      exact y_wk ⟨Or.inr rfl, Or.inr rfl, Or.inr rfl, Or.inl rfl, Or.inr rfl, Or.inl rfl, trivial⟩ (w_b_mo_reads_11_86 x1 x2 x4 M hf hk)
    · replace hf := i_t hc hf
      refine y_iload (i := 5) (n := 83) ⟨dX12_reads_81, rfl⟩ rfl ?_
      refine y_if_eq (t := 131) (n := 86) ⟨dX12_reads_83, rfl, rfl⟩ (fun (hc : x5 = 0) => ?_) (fun (hc : ¬ (x5 = 0)) => ?_)
      · replace hf := i_t hc hf
        refine y_aload_n (i := 0) (n := 132) ⟨dX12_reads_131, rfl⟩ rfl ?_
        refine y_iload_n (i := 3) (n := 133) ⟨dX12_reads_132, rfl⟩ rfl ?_
        refine y_if_le (t := 140) (n := 136) ⟨dX12_reads_133, rfl, rfl⟩ (fun (hc : x3 ≤ 0) => ?_) (fun (hc : ¬ (x3 ≤ 0)) => ?_)
        · replace hf := i_t hc hf
          refine y_bipush (n := 142) (v := 100) ⟨dX12_reads_140, rfl⟩ kb_100 ?_
          refine y_aload_n (i := 0) (n := 143) ⟨dX12_reads_142, rfl⟩ rfl ?_
          refine y_getI (n := 146) ⟨dX12_reads_143, rfl⟩ kfX12_274 l_66 rfl ?_
          refine y_iadd (n := 147) ⟨dX12_reads_146, rfl⟩ ?_
          exact y_wk ⟨Or.inr rfl, Or.inr rfl, Or.inl rfl, Or.inl rfl, Or.inl rfl, Or.inl rfl, trivial⟩ (w_b_mo_reads_11_147 x1 (100 + (gI M 66 24)) M hf hk)
        · replace hf := i_f hc hf
          refine y_iload_n (i := 3) (n := 137) ⟨dX12_reads_136, rfl⟩ rfl ?_
          refine y_goto (t := 147) ⟨dX12_reads_137, rfl, rfl⟩ ?_
          exact y_wk ⟨Or.inr rfl, Or.inr rfl, Or.inl rfl, Or.inl rfl, Or.inl rfl, Or.inl rfl, trivial⟩ (w_b_mo_reads_11_147 x1 x3 M hf hk)
      · replace hf := i_f hc hf
        exact y_wk ⟨Or.inr rfl, Or.inr rfl, Or.inr rfl, Or.inl rfl, Or.inr rfl, Or.inl rfl, trivial⟩ (w_b_mo_reads_11_86 x1 x2 x4 M hf hk)
  · replace hf := i_t hc hf
    refine y_aload_n (i := 0) (n := 71) ⟨dX12_reads_70, rfl⟩ rfl ?_
    refine y_iconst (n := 72) (v := 5) ⟨dX12_reads_71, rfl⟩ ki_5 ?_
    refine c_mo_fails 5 M (n := 75) ⟨dX12_reads_72, rfl⟩ klX12_366 rfl (by decide) (Nat.le_of_ble_eq_true rfl) rfl rfl ?_
    cases hf
    exact y_ireturn (n := 76) ⟨dX12_reads_75, rfl⟩ rfl (bI_n _) hk
theorem w_b_mo_reads_11_11 (x1 : Int32) (x2 : Int32) (M : dM) {Q : mz_P} {o : ((Int32 × Int32 × dM) ⊕ ((Int32 × dM) ⊕ (Bool × dM)))} (hf : b_mo_reads_11_11 x1 x2 M = some o) (hk : K_mo_reads_11 Q  M o) : mW mX12_reads 3 Q 11 [some (.ref 66), some (.int x1), some (.int x2), none, none, none] [] M := by
  unfold b_mo_reads_11_11 at hf
  refine y_iload_n (i := 2) (n := 12) ⟨dX12_reads_11, rfl⟩ rfl ?_
  refine y_if_eq (t := 179) (n := 15) ⟨dX12_reads_12, rfl, rfl⟩ (fun (hc : x2 = 0) => ?_) (fun (hc : ¬ (x2 = 0)) => ?_)
  · replace hf := i_t hc hf
    refine y_aload_n (i := 0) (n := 180) ⟨dX12_reads_179, rfl⟩ rfl ?_
    refine y_bipush (n := 182) (v := 43) ⟨dX12_reads_180, rfl⟩ kb_43 ?_
    obtain ⟨v1, hv2, hf⟩ := b_s hf
    refine c_mo_isSign 43 M (n := 185) ⟨dX12_reads_182, rfl⟩ klX12_363 hv2 (by decide) (Nat.le_of_ble_eq_true rfl) rfl rfl ?_
    refine y_if_ne (t := 206) (n := 188) ⟨dX12_reads_185, rfl, rfl⟩ (fun h0 => ?_) (fun h0 => ?_)
    · have hc := bI_1 h0
      replace hf := i_t hc hf
      exact y_wk ⟨Or.inr rfl, Or.inr rfl, Or.inl rfl, Or.inr rfl, Or.inr rfl, Or.inr rfl, trivial⟩ (w_b_mo_reads_11_206 x1 M hf hk)
    · have hc := bI_0 h0
      replace hf := i_f hc hf
      refine y_aload_n (i := 0) (n := 189) ⟨dX12_reads_188, rfl⟩ rfl ?_
      refine y_bipush (n := 191) (v := 45) ⟨dX12_reads_189, rfl⟩ kb_45 ?_
      obtain ⟨v11, hv12, hf⟩ := b_s hf
      refine c_mo_isSign 45 M (n := 194) ⟨dX12_reads_191, rfl⟩ klX12_363 hv12 (by decide) (Nat.le_of_ble_eq_true rfl) rfl rfl ?_
      refine y_if_ne (t := 206) (n := 197) ⟨dX12_reads_194, rfl, rfl⟩ (fun h0 => ?_) (fun h0 => ?_)
      · have hc := bI_1 h0
        replace hf := i_t hc hf
        exact y_wk ⟨Or.inr rfl, Or.inr rfl, Or.inl rfl, Or.inr rfl, Or.inr rfl, Or.inr rfl, trivial⟩ (w_b_mo_reads_11_206 x1 M hf hk)
      · have hc := bI_0 h0
        replace hf := i_f hc hf
        refine y_aload_n (i := 0) (n := 198) ⟨dX12_reads_197, rfl⟩ rfl ?_
        refine y_bipush (n := 200) (v := 42) ⟨dX12_reads_198, rfl⟩ kb_42 ?_
        obtain ⟨v13, hv14, hf⟩ := b_s hf
        refine c_mo_isSign 42 M (n := 203) ⟨dX12_reads_200, rfl⟩ klX12_363 hv14 (by decide) (Nat.le_of_ble_eq_true rfl) rfl rfl ?_
        refine y_if_eq (t := 245) (n := 206) ⟨dX12_reads_203, rfl, rfl⟩ (fun h0 => ?_) (fun h0 => ?_)
        · have hc := bI_0 h0
          replace hf := i_f hc hf
          refine y_aload_n (i := 0) (n := 246) ⟨dX12_reads_245, rfl⟩ rfl ?_
          refine y_bipush (n := 248) (v := 60) ⟨dX12_reads_246, rfl⟩ kb_60 ?_
          obtain ⟨v15, hv16, hf⟩ := b_s hf
          refine c_mo_isSign 60 M (n := 251) ⟨dX12_reads_248, rfl⟩ klX12_363 hv16 (by decide) (Nat.le_of_ble_eq_true rfl) rfl rfl ?_
          refine y_if_ne (t := 263) (n := 254) ⟨dX12_reads_251, rfl, rfl⟩ (fun h0 => ?_) (fun h0 => ?_)
          · have hc := bI_1 h0
            replace hf := i_t hc hf
            exact y_wk ⟨Or.inr rfl, Or.inr rfl, Or.inr rfl, Or.inr rfl, Or.inr rfl, Or.inr rfl, trivial⟩ (w_b_mo_reads_11_263 x1 x2 M hf hk)
          · have hc := bI_0 h0
            replace hf := i_f hc hf
            refine y_aload_n (i := 0) (n := 255) ⟨dX12_reads_254, rfl⟩ rfl ?_
            refine y_bipush (n := 257) (v := 61) ⟨dX12_reads_255, rfl⟩ kb_61 ?_
            obtain ⟨v34, hv35, hf⟩ := b_s hf
            refine c_mo_isSign 61 M (n := 260) ⟨dX12_reads_257, rfl⟩ klX12_363 hv35 (by decide) (Nat.le_of_ble_eq_true rfl) rfl rfl ?_
            refine y_if_eq (t := 304) (n := 263) ⟨dX12_reads_260, rfl, rfl⟩ (fun h0 => ?_) (fun h0 => ?_)
            · have hc := bI_0 h0
              replace hf := i_f hc hf
              exact y_wk ⟨Or.inr rfl, Or.inr rfl, Or.inr rfl, Or.inr rfl, Or.inr rfl, Or.inr rfl, trivial⟩ (w_b_mo_reads_11_304 x1 x2 M hf hk)
            · have hc := bI_1 h0
              replace hf := i_t hc hf
              exact y_wk ⟨Or.inr rfl, Or.inr rfl, Or.inr rfl, Or.inr rfl, Or.inr rfl, Or.inr rfl, trivial⟩ (w_b_mo_reads_11_263 x1 x2 M hf hk)
        · have hc := bI_1 h0
          replace hf := i_t hc hf
          exact y_wk ⟨Or.inr rfl, Or.inr rfl, Or.inl rfl, Or.inr rfl, Or.inr rfl, Or.inr rfl, trivial⟩ (w_b_mo_reads_11_206 x1 M hf hk)
  · replace hf := i_f hc hf
    refine y_aload_n (i := 0) (n := 16) ⟨dX12_reads_15, rfl⟩ rfl ?_
    refine c_mo_fact0 M (n := 19) ⟨dX12_reads_16, rfl⟩ klX12_354 rfl (by decide) (Nat.le_of_ble_eq_true rfl) rfl rfl ?_
    refine y_istore_n (i := 3) (n := 20) (L2 := [some (.ref 66), some (.int x1), some (.int x2), some (.int (f_mo_fact0 M)), none, none]) ⟨dX12_reads_19, rfl⟩ (by decide) rfl rfl ?_
    refine y_aload_n (i := 0) (n := 21) ⟨dX12_reads_20, rfl⟩ rfl ?_
    refine y_ldc2 (n := 24) ⟨dX12_reads_21, rfl⟩ kcX12_357 ?_
    refine c_mo_isWord 10631 M (n := 27) ⟨dX12_reads_24, rfl⟩ klX12_359 rfl (by decide) (Nat.le_of_ble_eq_true rfl) rfl rfl ?_
    refine y_istore (i := 4) (n := 29) (L2 := [some (.ref 66), some (.int x1), some (.int x2), some (.int (f_mo_fact0 M)), some (.int (bI (f_mo_isWord 10631 M))), none]) ⟨dX12_reads_27, rfl⟩ (by decide) rfl rfl ?_
    refine y_aload_n (i := 0) (n := 30) ⟨dX12_reads_29, rfl⟩ rfl ?_
    refine y_bipush (n := 32) (v := 40) ⟨dX12_reads_30, rfl⟩ kb_40 ?_
    obtain ⟨v36, hv37, hf⟩ := b_s hf
    refine c_mo_isSign 40 M (n := 35) ⟨dX12_reads_32, rfl⟩ klX12_363 hv37 (by decide) (Nat.le_of_ble_eq_true rfl) rfl rfl ?_
    refine y_istore (i := 5) (n := 37) (L2 := [some (.ref 66), some (.int x1), some (.int x2), some (.int (f_mo_fact0 M)), some (.int (bI (f_mo_isWord 10631 M))), some (.int (bI v36))]) ⟨dX12_reads_35, rfl⟩ (by decide) rfl rfl ?_
    refine y_iload_n (i := 3) (n := 38) ⟨dX12_reads_37, rfl⟩ rfl ?_
    refine y_if_ne (t := 65) (n := 41) ⟨dX12_reads_38, rfl, rfl⟩ (fun (hc : ¬ ((f_mo_fact0 M) = 0)) => ?_) (fun (hc : (f_mo_fact0 M) = 0) => ?_)
    · replace hf := i_f hc hf
      exact y_wk ⟨Or.inr rfl, Or.inr rfl, Or.inr rfl, Or.inr rfl, Or.inr rfl, Or.inr rfl, trivial⟩ (w_b_mo_reads_11_65 x1 x2 (f_mo_fact0 M) (bI (f_mo_isWord 10631 M)) (bI v36) M hf hk)
    · replace hf := i_t hc hf
      refine y_iload (i := 4) (n := 43) ⟨dX12_reads_41, rfl⟩ rfl ?_
      refine y_if_ne (t := 65) (n := 46) ⟨dX12_reads_43, rfl, rfl⟩ (fun h0 => ?_) (fun h0 => ?_)
      · have hc := bI_1 h0
        replace hf := i_t hc hf
        exact y_wk ⟨Or.inr rfl, Or.inr rfl, Or.inr rfl, Or.inr rfl, Or.inr rfl, Or.inr rfl, trivial⟩ (w_b_mo_reads_11_65 x1 x2 (f_mo_fact0 M) (bI (f_mo_isWord 10631 M)) (bI v36) M hf hk)
      · have hc := bI_0 h0
        replace hf := i_f hc hf
        refine y_iload (i := 5) (n := 48) ⟨dX12_reads_46, rfl⟩ rfl ?_
        refine y_if_ne (t := 65) (n := 51) ⟨dX12_reads_48, rfl, rfl⟩ (fun h0 => ?_) (fun h0 => ?_)
        · have hc := bI_1 h0
          replace hf := i_t hc hf
          exact y_wk ⟨Or.inr rfl, Or.inr rfl, Or.inr rfl, Or.inr rfl, Or.inr rfl, Or.inr rfl, trivial⟩ (w_b_mo_reads_11_65 x1 x2 (f_mo_fact0 M) (bI (f_mo_isWord 10631 M)) (bI v36) M hf hk)
        · have hc := bI_0 h0
          replace hf := i_f hc hf
          refine y_aload_n (i := 0) (n := 52) ⟨dX12_reads_51, rfl⟩ rfl ?_
          refine y_getI (n := 55) ⟨dX12_reads_52, rfl⟩ kfX12_277 l_66 rfl ?_
          refine y_iconst (n := 56) (v := 2) ⟨dX12_reads_55, rfl⟩ ki_2 ?_
          refine y_icmp_eq (t := 65) (n := 59) ⟨dX12_reads_56, rfl, rfl⟩ (fun (hc : (gI M 66 22) = 2) => ?_) (fun (hc : ¬ ((gI M 66 22) = 2)) => ?_)
          · replace hf := i_t hc hf
            exact y_wk ⟨Or.inr rfl, Or.inr rfl, Or.inr rfl, Or.inr rfl, Or.inr rfl, Or.inr rfl, trivial⟩ (w_b_mo_reads_11_65 x1 x2 (f_mo_fact0 M) (bI (f_mo_isWord 10631 M)) (bI v36) M hf hk)
          · replace hf := i_f hc hf
            refine y_aload_n (i := 0) (n := 60) ⟨dX12_reads_59, rfl⟩ rfl ?_
            refine y_iconst (n := 61) (v := 1) ⟨dX12_reads_60, rfl⟩ ki_1 ?_
            refine c_mo_fails 1 M (n := 64) ⟨dX12_reads_61, rfl⟩ klX12_366 rfl (by decide) (Nat.le_of_ble_eq_true rfl) rfl rfl ?_
            cases hf
            exact y_ireturn (n := 65) ⟨dX12_reads_64, rfl⟩ rfl (bI_n _) hk
theorem wl_mo_reads_11 (x1 : Int32) (x2 : Int32) (M : dM) {Q : mz_P} {x : ((Int32 × dM) ⊕ (Bool × dM))} (hf : l_mo_reads_11 x1 x2 M = some x) (hk : K_mo_reads_11 Q  M (.inr x)) : mW mX12_reads 3 Q 11 [some (.ref 66), some (.int x1), some (.int x2), none, none, none] [] M :=
  lpc_wp (Wh := fun s => mW mX12_reads 3 Q 11 [some (.ref 66), some (.int s.1), some (.int s.2.1), none, none, none] [] s.2.2) (K := K_mo_reads_11 Q  M) (fun _ h => h) (fun s o hb hk => w_b_mo_reads_11_11 s.1 s.2.1 s.2.2 hb hk) hf hk
theorem w_t_mo_reads_418  (M : dM) {Q : mz_P} {o : (Bool × dM)} (hf : t_mo_reads_418 M = some o) (hk : mR Q (some (.int (bI o.1))) o.2) : mW mX12_reads 3 Q 418 [some (.ref 66), none, none, none, none, none] [] M := by
  unfold t_mo_reads_418 at hf
  refine y_aload_n (i := 0) (n := 419) ⟨dX12_reads_418, rfl⟩ rfl ?_
  refine y_iconst (n := 420) (v := 1) ⟨dX12_reads_419, rfl⟩ ki_1 ?_
  refine c_mo_fails 1 M (n := 423) ⟨dX12_reads_420, rfl⟩ klX12_366 rfl (by decide) (Nat.le_of_ble_eq_true rfl) rfl rfl ?_
  cases hf
  exact y_ireturn (n := 424) ⟨dX12_reads_423, rfl⟩ rfl (bI_n _) hk
theorem w_t_mo_reads_399 (x1 : Int32) (M : dM) {Q : mz_P} {o : (Bool × dM)} (hf : t_mo_reads_399 x1 M = some o) (hk : mR Q (some (.int (bI o.1))) o.2) : mW mX12_reads 3 Q 399 [some (.ref 66), some (.int x1), none, none, none, none] [] M := by
  unfold t_mo_reads_399 at hf
  refine y_iload_n (i := 1) (n := 400) ⟨dX12_reads_399, rfl⟩ rfl ?_
  refine y_if_ne (t := 418) (n := 403) ⟨dX12_reads_400, rfl, rfl⟩ (fun (hc : ¬ (x1 = 0)) => ?_) (fun (hc : x1 = 0) => ?_)
  · replace hf := i_f hc hf
    exact y_wk ⟨Or.inr rfl, Or.inl rfl, Or.inr rfl, Or.inr rfl, Or.inr rfl, Or.inr rfl, trivial⟩ (w_t_mo_reads_418 M hf hk)
  · replace hf := i_t hc hf
    refine y_aload_n (i := 0) (n := 404) ⟨dX12_reads_403, rfl⟩ rfl ?_
    refine y_bipush (n := 406) (v := 59) ⟨dX12_reads_404, rfl⟩ kb_59 ?_
    obtain ⟨v56, hv57, hf⟩ := b_s hf
    refine c_mo_isSign 59 M (n := 409) ⟨dX12_reads_406, rfl⟩ klX12_363 hv57 (by decide) (Nat.le_of_ble_eq_true rfl) rfl rfl ?_
    refine y_if_eq (t := 418) (n := 412) ⟨dX12_reads_409, rfl, rfl⟩ (fun h0 => ?_) (fun h0 => ?_)
    · have hc := bI_0 h0
      replace hf := i_f hc hf
      exact y_wk ⟨Or.inr rfl, Or.inl rfl, Or.inr rfl, Or.inr rfl, Or.inr rfl, Or.inr rfl, trivial⟩ (w_t_mo_reads_418 M hf hk)
    · have hc := bI_1 h0
      replace hf := i_t hc hf
      refine y_aload_n (i := 0) (n := 413) ⟨dX12_reads_412, rfl⟩ rfl ?_
      obtain ⟨q58, hv59, hf⟩ := b_s hf
      refine c_mo_nextToken M (n := 416) ⟨dX12_reads_413, rfl⟩ klX12_373 hv59 (by decide) (Nat.le_of_ble_eq_true rfl) rfl rfl ?_
      refine y_iconst (n := 417) (v := 1) ⟨dX12_reads_416, rfl⟩ ki_1 ?_
      cases hf
      exact y_ireturn (n := 418) ⟨dX12_reads_417, rfl⟩ rfl rfl hk
theorem ok_mo_reads  (M : dM) {o : (Bool × dM)} (hf : f_mo_reads M = some o) : mO mX12_reads 3 [.ref 66] M (some (.int (bI o.1))) o.2 := by
  refine y_ok (by decide +kernel) (by decide) (L0 := [some (.ref 66), none, none, none, none, none]) rfl ?_
  have hk := mR_mQ (some (.int (bI o.1))) o.2
  generalize mQ _ _ = Q at hk ⊢
  unfold f_mo_reads at hf
  refine y_iconst (n := 1) (v := 0) ⟨dX12_reads_0, rfl⟩ ki_0 ?_
  refine y_istore_n (i := 1) (n := 2) (L2 := [some (.ref 66), some (.int 0), none, none, none, none]) ⟨dX12_reads_1, rfl⟩ (by decide) rfl rfl ?_
  refine y_iconst (n := 3) (v := 1) ⟨dX12_reads_2, rfl⟩ ki_1 ?_
  refine y_istore_n (i := 2) (n := 4) (L2 := [some (.ref 66), some (.int 0), some (.int 1), none, none, none]) ⟨dX12_reads_3, rfl⟩ (by decide) rfl rfl ?_
  refine y_aload_n (i := 0) (n := 5) ⟨dX12_reads_4, rfl⟩ rfl ?_
  refine y_getR (n := 8) ⟨dX12_reads_5, rfl⟩ kfX12_80 l_66 rfl r_66_40 ?_
  refine y_iconst (n := 9) (v := 0) ⟨dX12_reads_8, rfl⟩ ki_0 ?_
  refine y_iconst (n := 10) (v := 0) ⟨dX12_reads_9, rfl⟩ ki_0 ?_
  refine y_bastore (x' := 0) (n := 11) ⟨dX12_reads_10, rfl⟩ l_90 (by unfold vp_in; decide) rfl ?_
  obtain ⟨z60, hl53, hf⟩ := b_s hf
  refine y_wk ⟨Or.inr rfl, Or.inr rfl, Or.inr rfl, Or.inr rfl, Or.inr rfl, Or.inr rfl, trivial⟩ (wl_mo_reads_11 0 1 (sI M 90 0 0) hl53 ?_)
  rcases z60 with t52 | r54
  · show mW mX12_reads 3 Q 399 [some (.ref 66), some (.int t52.1), none, none, none, none] [] t52.2
    exact y_wk ⟨Or.inr rfl, Or.inr rfl, Or.inr rfl, Or.inr rfl, Or.inr rfl, Or.inr rfl, trivial⟩ (w_t_mo_reads_399 t52.1 t52.2 hf hk)
  · cases hf
    exact hk
theorem c_mo_reads  (M : dM) {o : (Bool × dM)} {y : mz_M} {d : Nat} {Q : mz_P} {pc n i : Nat} {L : List (Option Value)} {st : List Value} (h : mz_d y.2.1 pc n 3 (.invokevirtual i)) (hl : mz_ml y.1.cls i yX12_reads) (hf : f_mo_reads M = some o) (hd : 3 + 1 ≤ d) (hsm : (st.map (fun v => v.category)).sum ≤ 8) (hLr : mz_rL 133 L = true) (hSr : mz_rS 133 st = true) (kk : mW y d Q n L (.int (bI o.1) :: st) o.2) : mW y d Q pc L (.ref 66 :: st) M :=
  y_callV kmX12_reads kvX12_reads l_66 (by decide +kernel) (by decide +kernel) h hl (ok_mo_reads  M hf) (vs := []) rfl rfl hd hsm hLr hSr kk
noncomputable def t_mo_readsE_12 (x1 : Int32) (y1 : Int32) (M : dM) : Option (Bool × dM) :=
  gd (y1 = 0 ∨ y1 = 1) <|
  gd (vp_in x1 21) <|
  (f_mo_reads (sI (sI M 66 38 y1) 86 x1.toNatClampNeg (gI (sI M 66 38 y1) 66 37))).bind fun q3 =>
  if q3.1 = true then
    some (true, (sI (sI q3.2 87 x1.toNatClampNeg (gI q3.2 66 37)) 85 x1.toNatClampNeg 1))
  else
    some (false, q3.2)
noncomputable def f_mo_readsE (a1 : Int32) (M : dM) : Option (Bool × dM) :=
  if a1 = 20 then
    t_mo_readsE_12 a1 1 M
  else
    t_mo_readsE_12 a1 0 M
theorem w_t_mo_readsE_12 (x1 : Int32) (y1 : Int32) (M : dM) {Q : mz_P} {o : (Bool × dM)} (hf : t_mo_readsE_12 x1 y1 M = some o) (hk : mR Q (some (.int (bI o.1))) o.2) : mW mX12_readsE 4 Q 12 [some (.ref 66), some (.int x1)] [.ref 66, .int y1] M := by
  unfold t_mo_readsE_12 at hf
  obtain ⟨hg1, hf⟩ := g_s hf
  refine y_putZ (n := 15) ⟨dX12_readsE_12, rfl⟩ kfX12_343 l_66 (by decide +kernel) rfl hg1 ?_
  refine y_aload_n (i := 0) (n := 16) ⟨dX12_readsE_15, rfl⟩ rfl ?_
  refine y_getR (n := 19) ⟨dX12_readsE_16, rfl⟩ kfX12_68 l_66 rfl r_66_30 ?_
  refine y_iload_n (i := 1) (n := 20) ⟨dX12_readsE_19, rfl⟩ rfl ?_
  refine y_aload_n (i := 0) (n := 21) ⟨dX12_readsE_20, rfl⟩ rfl ?_
  refine y_getI (n := 24) ⟨dX12_readsE_21, rfl⟩ kfX12_290 l_66 rfl ?_
  obtain ⟨hg2, hf⟩ := g_s hf
  refine y_iastore (n := 25) ⟨dX12_readsE_24, rfl⟩ l_86 hg2 ?_
  refine y_aload_n (i := 0) (n := 26) ⟨dX12_readsE_25, rfl⟩ rfl ?_
  obtain ⟨q3, hv4, hf⟩ := b_s hf
  refine c_mo_reads (sI (sI M 66 38 y1) 86 x1.toNatClampNeg (gI (sI M 66 38 y1) 66 37)) (n := 29) ⟨dX12_readsE_26, rfl⟩ klX12_380 hv4 (by decide) (Nat.le_of_ble_eq_true rfl) rfl rfl ?_
  refine y_if_ne (t := 34) (n := 32) ⟨dX12_readsE_29, rfl, rfl⟩ (fun h0 => ?_) (fun h0 => ?_)
  · have hc := bI_1 h0
    replace hf := i_t hc hf
    refine y_aload_n (i := 0) (n := 35) ⟨dX12_readsE_34, rfl⟩ rfl ?_
    refine y_getR (n := 38) ⟨dX12_readsE_35, rfl⟩ kfX12_71 l_66 rfl r_66_31 ?_
    refine y_iload_n (i := 1) (n := 39) ⟨dX12_readsE_38, rfl⟩ rfl ?_
    refine y_aload_n (i := 0) (n := 40) ⟨dX12_readsE_39, rfl⟩ rfl ?_
    refine y_getI (n := 43) ⟨dX12_readsE_40, rfl⟩ kfX12_290 l_66 rfl ?_
    refine y_iastore (n := 44) ⟨dX12_readsE_43, rfl⟩ l_87 hg2 ?_
    refine y_aload_n (i := 0) (n := 45) ⟨dX12_readsE_44, rfl⟩ rfl ?_
    refine y_getR (n := 48) ⟨dX12_readsE_45, rfl⟩ kfX12_65 l_66 rfl r_66_29 ?_
    refine y_iload_n (i := 1) (n := 49) ⟨dX12_readsE_48, rfl⟩ rfl ?_
    refine y_iconst (n := 50) (v := 1) ⟨dX12_readsE_49, rfl⟩ ki_1 ?_
    refine y_bastore (x' := 1) (n := 51) ⟨dX12_readsE_50, rfl⟩ l_85 hg2 rfl ?_
    refine y_iconst (n := 52) (v := 1) ⟨dX12_readsE_51, rfl⟩ ki_1 ?_
    cases hf
    exact y_ireturn (n := 53) ⟨dX12_readsE_52, rfl⟩ rfl rfl hk
  · have hc := bI_0 h0
    replace hf := i_f hc hf
    refine y_iconst (n := 33) (v := 0) ⟨dX12_readsE_32, rfl⟩ ki_0 ?_
    cases hf
    exact y_ireturn (n := 34) ⟨dX12_readsE_33, rfl⟩ rfl rfl hk
theorem ok_mo_readsE (a1 : Int32) (M : dM) {o : (Bool × dM)} (hf : f_mo_readsE a1 M = some o) : mO mX12_readsE 4 [.ref 66, .int a1] M (some (.int (bI o.1))) o.2 := by
  refine y_ok (by decide +kernel) (by decide) (L0 := [some (.ref 66), some (.int a1)]) rfl ?_
  have hk := mR_mQ (some (.int (bI o.1))) o.2
  generalize mQ _ _ = Q at hk ⊢
  unfold f_mo_readsE at hf
  refine y_aload_n (i := 0) (n := 1) ⟨dX12_readsE_0, rfl⟩ rfl ?_
  refine y_iload_n (i := 1) (n := 2) ⟨dX12_readsE_1, rfl⟩ rfl ?_
  refine y_bipush (n := 4) (v := 20) ⟨dX12_readsE_2, rfl⟩ kb_20 ?_
  refine y_icmp_ne (t := 11) (n := 7) ⟨dX12_readsE_4, rfl, rfl⟩ (fun (hc : ¬ (a1 = 20)) => ?_) (fun (hc : a1 = 20) => ?_)
  · replace hf := i_f hc hf
    refine y_iconst (n := 12) (v := 0) ⟨dX12_readsE_11, rfl⟩ ki_0 ?_
    exact y_wk ⟨Or.inr rfl, Or.inr rfl, trivial⟩ (w_t_mo_readsE_12 a1 0 M hf hk)
  · replace hf := i_t hc hf
    refine y_iconst (n := 8) (v := 1) ⟨dX12_readsE_7, rfl⟩ ki_1 ?_
    refine y_goto (t := 12) ⟨dX12_readsE_8, rfl, rfl⟩ ?_
    exact y_wk ⟨Or.inr rfl, Or.inr rfl, trivial⟩ (w_t_mo_readsE_12 a1 1 M hf hk)
theorem c_mo_readsE (a1 : Int32) (M : dM) {o : (Bool × dM)} {y : mz_M} {d : Nat} {Q : mz_P} {pc n i : Nat} {L : List (Option Value)} {st : List Value} (h : mz_d y.2.1 pc n 3 (.invokevirtual i)) (hl : mz_ml y.1.cls i yX12_readsE) (hf : f_mo_readsE a1 M = some o) (hd : 4 + 1 ≤ d) (hsm : (st.map (fun v => v.category)).sum ≤ 8) (hLr : mz_rL 133 L = true) (hSr : mz_rS 133 st = true) (kk : mW y d Q n L (.int (bI o.1) :: st) o.2) : mW y d Q pc L (.int a1 :: .ref 66 :: st) M :=
  y_callV kmX12_readsE kvX12_readsE l_66 (by decide +kernel) (by decide +kernel) h hl (ok_mo_readsE a1 M hf) (vs := [.int a1]) rfl rfl hd hsm hLr hSr kk
noncomputable def f_mo_readsRule (M : dM) : Option (Bool × dM) :=
  if (gI M 66 22) = 2 then
    if (gI M 66 24) ≤ 7 then
      gd (vp_in (12 + (gI M 66 24)) 21) <|
      if (gI M 85 (12 + (gI M 66 24)).toNatClampNeg) = 0 then
        (f_mo_nextToken M).bind fun q2 =>
        if (f_mo_isWord 10502425 q2) = true then
          (f_mo_nextToken q2).bind fun q4 =>
          (f_mo_readsE (12 + (gI M 66 24)) q4).bind fun q6 =>
          some (q6.1, q6.2)
        else
          some (((f_mo_fails 1 q2).1), (f_mo_fails 1 q2).2)
      else
        some (((f_mo_fails 3 M).1), (f_mo_fails 3 M).2)
    else
      some (((f_mo_fails 4 M).1), (f_mo_fails 4 M).2)
  else
    some (((f_mo_fails 1 M).1), (f_mo_fails 1 M).2)
theorem ok_mo_readsRule  (M : dM) {o : (Bool × dM)} (hf : f_mo_readsRule M = some o) : mO mX12_readsRule 5 [.ref 66] M (some (.int (bI o.1))) o.2 := by
  refine y_ok (by decide +kernel) (by decide) (L0 := [some (.ref 66), none]) rfl ?_
  have hk := mR_mQ (some (.int (bI o.1))) o.2
  generalize mQ _ _ = Q at hk ⊢
  unfold f_mo_readsRule at hf
  refine y_aload_n (i := 0) (n := 1) ⟨dX12_readsRule_0, rfl⟩ rfl ?_
  refine y_getI (n := 4) ⟨dX12_readsRule_1, rfl⟩ kfX12_277 l_66 rfl ?_
  refine y_iconst (n := 5) (v := 2) ⟨dX12_readsRule_4, rfl⟩ ki_2 ?_
  refine y_icmp_eq (t := 14) (n := 8) ⟨dX12_readsRule_5, rfl, rfl⟩ (fun (hc : (gI M 66 22) = 2) => ?_) (fun (hc : ¬ ((gI M 66 22) = 2)) => ?_)
  · replace hf := i_t hc hf
    refine y_aload_n (i := 0) (n := 15) ⟨dX12_readsRule_14, rfl⟩ rfl ?_
    refine y_getI (n := 18) ⟨dX12_readsRule_15, rfl⟩ kfX12_274 l_66 rfl ?_
    refine y_bipush (n := 20) (v := 7) ⟨dX12_readsRule_18, rfl⟩ kb_7 ?_
    refine y_icmp_le (t := 29) (n := 23) ⟨dX12_readsRule_20, rfl, rfl⟩ (fun (hc : (gI M 66 24) ≤ 7) => ?_) (fun (hc : ¬ ((gI M 66 24) ≤ 7)) => ?_)
    · replace hf := i_t hc hf
      refine y_aload_n (i := 0) (n := 30) ⟨dX12_readsRule_29, rfl⟩ rfl ?_
      refine y_getR (n := 33) ⟨dX12_readsRule_30, rfl⟩ kfX12_65 l_66 rfl r_66_29 ?_
      refine y_bipush (n := 35) (v := 12) ⟨dX12_readsRule_33, rfl⟩ kb_12 ?_
      refine y_aload_n (i := 0) (n := 36) ⟨dX12_readsRule_35, rfl⟩ rfl ?_
      refine y_getI (n := 39) ⟨dX12_readsRule_36, rfl⟩ kfX12_274 l_66 rfl ?_
      refine y_iadd (n := 40) ⟨dX12_readsRule_39, rfl⟩ ?_
      obtain ⟨hg1, hf⟩ := g_s hf
      refine y_baload (n := 41) ⟨dX12_readsRule_40, rfl⟩ l_85 hg1 ?_
      refine y_if_eq (t := 50) (n := 44) ⟨dX12_readsRule_41, rfl, rfl⟩ (fun (hc : (gI M 85 (12 + (gI M 66 24)).toNatClampNeg) = 0) => ?_) (fun (hc : ¬ ((gI M 85 (12 + (gI M 66 24)).toNatClampNeg) = 0)) => ?_)
      · replace hf := i_t hc hf
        refine y_bipush (n := 52) (v := 12) ⟨dX12_readsRule_50, rfl⟩ kb_12 ?_
        refine y_aload_n (i := 0) (n := 53) ⟨dX12_readsRule_52, rfl⟩ rfl ?_
        refine y_getI (n := 56) ⟨dX12_readsRule_53, rfl⟩ kfX12_274 l_66 rfl ?_
        refine y_iadd (n := 57) ⟨dX12_readsRule_56, rfl⟩ ?_
        refine y_istore_n (i := 1) (n := 58) (L2 := [some (.ref 66), some (.int (12 + (gI M 66 24)))]) ⟨dX12_readsRule_57, rfl⟩ (by decide) rfl rfl ?_
        refine y_aload_n (i := 0) (n := 59) ⟨dX12_readsRule_58, rfl⟩ rfl ?_
        obtain ⟨q2, hv3, hf⟩ := b_s hf
        refine c_mo_nextToken M (n := 62) ⟨dX12_readsRule_59, rfl⟩ klX12_373 hv3 (by decide) (Nat.le_of_ble_eq_true rfl) rfl rfl ?_
        refine y_aload_n (i := 0) (n := 63) ⟨dX12_readsRule_62, rfl⟩ rfl ?_
        refine y_ldc2 (n := 66) ⟨dX12_readsRule_63, rfl⟩ kcX12_389 ?_
        refine c_mo_isWord 10502425 q2 (n := 69) ⟨dX12_readsRule_66, rfl⟩ klX12_359 rfl (by decide) (Nat.le_of_ble_eq_true rfl) rfl rfl ?_
        refine y_if_ne (t := 78) (n := 72) ⟨dX12_readsRule_69, rfl, rfl⟩ (fun h0 => ?_) (fun h0 => ?_)
        · have hc := bI_1 h0
          replace hf := i_t hc hf
          refine y_aload_n (i := 0) (n := 79) ⟨dX12_readsRule_78, rfl⟩ rfl ?_
          obtain ⟨q4, hv5, hf⟩ := b_s hf
          refine c_mo_nextToken q2 (n := 82) ⟨dX12_readsRule_79, rfl⟩ klX12_373 hv5 (by decide) (Nat.le_of_ble_eq_true rfl) rfl rfl ?_
          refine y_aload_n (i := 0) (n := 83) ⟨dX12_readsRule_82, rfl⟩ rfl ?_
          refine y_iload_n (i := 1) (n := 84) ⟨dX12_readsRule_83, rfl⟩ rfl ?_
          obtain ⟨q6, hv7, hf⟩ := b_s hf
          refine c_mo_readsE (12 + (gI M 66 24)) q4 (n := 87) ⟨dX12_readsRule_84, rfl⟩ klX12_386 hv7 (by decide) (Nat.le_of_ble_eq_true rfl) rfl rfl ?_
          cases hf
          exact y_ireturn (n := 88) ⟨dX12_readsRule_87, rfl⟩ rfl (bI_n _) hk
        · have hc := bI_0 h0
          replace hf := i_f hc hf
          refine y_aload_n (i := 0) (n := 73) ⟨dX12_readsRule_72, rfl⟩ rfl ?_
          refine y_iconst (n := 74) (v := 1) ⟨dX12_readsRule_73, rfl⟩ ki_1 ?_
          refine c_mo_fails 1 q2 (n := 77) ⟨dX12_readsRule_74, rfl⟩ klX12_366 rfl (by decide) (Nat.le_of_ble_eq_true rfl) rfl rfl ?_
          cases hf
          exact y_ireturn (n := 78) ⟨dX12_readsRule_77, rfl⟩ rfl (bI_n _) hk
      · replace hf := i_f hc hf
        refine y_aload_n (i := 0) (n := 45) ⟨dX12_readsRule_44, rfl⟩ rfl ?_
        refine y_iconst (n := 46) (v := 3) ⟨dX12_readsRule_45, rfl⟩ ki_3 ?_
        refine c_mo_fails 3 M (n := 49) ⟨dX12_readsRule_46, rfl⟩ klX12_366 rfl (by decide) (Nat.le_of_ble_eq_true rfl) rfl rfl ?_
        cases hf
        exact y_ireturn (n := 50) ⟨dX12_readsRule_49, rfl⟩ rfl (bI_n _) hk
    · replace hf := i_f hc hf
      refine y_aload_n (i := 0) (n := 24) ⟨dX12_readsRule_23, rfl⟩ rfl ?_
      refine y_iconst (n := 25) (v := 4) ⟨dX12_readsRule_24, rfl⟩ ki_4 ?_
      refine c_mo_fails 4 M (n := 28) ⟨dX12_readsRule_25, rfl⟩ klX12_366 rfl (by decide) (Nat.le_of_ble_eq_true rfl) rfl rfl ?_
      cases hf
      exact y_ireturn (n := 29) ⟨dX12_readsRule_28, rfl⟩ rfl (bI_n _) hk
  · replace hf := i_f hc hf
    refine y_aload_n (i := 0) (n := 9) ⟨dX12_readsRule_8, rfl⟩ rfl ?_
    refine y_iconst (n := 10) (v := 1) ⟨dX12_readsRule_9, rfl⟩ ki_1 ?_
    refine c_mo_fails 1 M (n := 13) ⟨dX12_readsRule_10, rfl⟩ klX12_366 rfl (by decide) (Nat.le_of_ble_eq_true rfl) rfl rfl ?_
    cases hf
    exact y_ireturn (n := 14) ⟨dX12_readsRule_13, rfl⟩ rfl (bI_n _) hk
theorem c_mo_readsRule  (M : dM) {o : (Bool × dM)} {y : mz_M} {d : Nat} {Q : mz_P} {pc n i : Nat} {L : List (Option Value)} {st : List Value} (h : mz_d y.2.1 pc n 3 (.invokevirtual i)) (hl : mz_ml y.1.cls i yX12_readsRule) (hf : f_mo_readsRule M = some o) (hd : 5 + 1 ≤ d) (hsm : (st.map (fun v => v.category)).sum ≤ 8) (hLr : mz_rL 133 L = true) (hSr : mz_rS 133 st = true) (kk : mW y d Q n L (.int (bI o.1) :: st) o.2) : mW y d Q pc L (.ref 66 :: st) M :=
  y_callV kmX12_readsRule kvX12_readsRule l_66 (by decide +kernel) (by decide +kernel) h hl (ok_mo_readsRule  M hf) (vs := []) rfl rfl hd hsm hLr hSr kk
noncomputable def t_mo_readsNumber_62 (M : dM) : Option (Bool × dM) :=
  (f_mo_nextToken M).bind fun q1 =>
  (f_mo_isSign 59 q1).bind fun v3 =>
  if v3 = true then
    (f_mo_nextToken q1).bind fun q5 =>
    some (true, q5)
  else
    some (((f_mo_fails 1 q1).1), (f_mo_fails 1 q1).2)
noncomputable def t_mo_readsNumber_30 (x1 : Int32) (y0 : Int32) (y1 : Int32) (M : dM) : Option (Bool × dM) :=
  if y0 ≤ y1 then
    if x1 = 0 then
      t_mo_readsNumber_62 (sI M 66 35 (gI M 66 24))
    else
      t_mo_readsNumber_62 (sI M 66 34 (gI M 66 24))
  else
    some (((f_mo_fails 4 M).1), (f_mo_fails 4 M).2)
noncomputable def f_mo_readsNumber (a1 : Int32) (M : dM) : Option (Bool × dM) :=
  if (gI M 66 22) = 2 then
    if a1 = 0 then
      t_mo_readsNumber_30 a1 (gI M 66 24) 999 M
    else
      t_mo_readsNumber_30 a1 (gI M 66 24) 9 M
  else
    some (((f_mo_fails 1 M).1), (f_mo_fails 1 M).2)
theorem w_t_mo_readsNumber_62  (M : dM) {Q : mz_P} {o : (Bool × dM)} (hf : t_mo_readsNumber_62 M = some o) (hk : mR Q (some (.int (bI o.1))) o.2) : mW mX12_readsNumber 3 Q 62 [some (.ref 66), none] [] M := by
  unfold t_mo_readsNumber_62 at hf
  refine y_aload_n (i := 0) (n := 63) ⟨dX12_readsNumber_62, rfl⟩ rfl ?_
  obtain ⟨q1, hv2, hf⟩ := b_s hf
  refine c_mo_nextToken M (n := 66) ⟨dX12_readsNumber_63, rfl⟩ klX12_373 hv2 (by decide) (Nat.le_of_ble_eq_true rfl) rfl rfl ?_
  refine y_aload_n (i := 0) (n := 67) ⟨dX12_readsNumber_66, rfl⟩ rfl ?_
  refine y_bipush (n := 69) (v := 59) ⟨dX12_readsNumber_67, rfl⟩ kb_59 ?_
  obtain ⟨v3, hv4, hf⟩ := b_s hf
  refine c_mo_isSign 59 q1 (n := 72) ⟨dX12_readsNumber_69, rfl⟩ klX12_363 hv4 (by decide) (Nat.le_of_ble_eq_true rfl) rfl rfl ?_
  refine y_if_ne (t := 81) (n := 75) ⟨dX12_readsNumber_72, rfl, rfl⟩ (fun h0 => ?_) (fun h0 => ?_)
  · have hc := bI_1 h0
    replace hf := i_t hc hf
    refine y_aload_n (i := 0) (n := 82) ⟨dX12_readsNumber_81, rfl⟩ rfl ?_
    obtain ⟨q5, hv6, hf⟩ := b_s hf
    refine c_mo_nextToken q1 (n := 85) ⟨dX12_readsNumber_82, rfl⟩ klX12_373 hv6 (by decide) (Nat.le_of_ble_eq_true rfl) rfl rfl ?_
    refine y_iconst (n := 86) (v := 1) ⟨dX12_readsNumber_85, rfl⟩ ki_1 ?_
    cases hf
    exact y_ireturn (n := 87) ⟨dX12_readsNumber_86, rfl⟩ rfl rfl hk
  · have hc := bI_0 h0
    replace hf := i_f hc hf
    refine y_aload_n (i := 0) (n := 76) ⟨dX12_readsNumber_75, rfl⟩ rfl ?_
    refine y_iconst (n := 77) (v := 1) ⟨dX12_readsNumber_76, rfl⟩ ki_1 ?_
    refine c_mo_fails 1 q1 (n := 80) ⟨dX12_readsNumber_77, rfl⟩ klX12_366 rfl (by decide) (Nat.le_of_ble_eq_true rfl) rfl rfl ?_
    cases hf
    exact y_ireturn (n := 81) ⟨dX12_readsNumber_80, rfl⟩ rfl (bI_n _) hk
theorem w_t_mo_readsNumber_30 (x1 : Int32) (y0 : Int32) (y1 : Int32) (M : dM) {Q : mz_P} {o : (Bool × dM)} (hf : t_mo_readsNumber_30 x1 y0 y1 M = some o) (hk : mR Q (some (.int (bI o.1))) o.2) : mW mX12_readsNumber 3 Q 30 [some (.ref 66), some (.int x1)] [.int y0, .int y1] M := by
  unfold t_mo_readsNumber_30 at hf
  refine y_icmp_le (t := 39) (n := 33) ⟨dX12_readsNumber_30, rfl, rfl⟩ (fun (hc : y0 ≤ y1) => ?_) (fun (hc : ¬ (y0 ≤ y1)) => ?_)
  · replace hf := i_t hc hf
    refine y_iload_n (i := 1) (n := 40) ⟨dX12_readsNumber_39, rfl⟩ rfl ?_
    refine y_if_eq (t := 54) (n := 43) ⟨dX12_readsNumber_40, rfl, rfl⟩ (fun (hc : x1 = 0) => ?_) (fun (hc : ¬ (x1 = 0)) => ?_)
    · replace hf := i_t hc hf
      refine y_aload_n (i := 0) (n := 55) ⟨dX12_readsNumber_54, rfl⟩ rfl ?_
      refine y_aload_n (i := 0) (n := 56) ⟨dX12_readsNumber_55, rfl⟩ rfl ?_
      refine y_getI (n := 59) ⟨dX12_readsNumber_56, rfl⟩ kfX12_274 l_66 rfl ?_
      refine y_putI (n := 62) ⟨dX12_readsNumber_59, rfl⟩ kfX12_394 l_66 (by decide +kernel) rfl ?_
      exact y_wk ⟨Or.inr rfl, Or.inl rfl, trivial⟩ (w_t_mo_readsNumber_62 (sI M 66 35 (gI M 66 24)) hf hk)
    · replace hf := i_f hc hf
      refine y_aload_n (i := 0) (n := 44) ⟨dX12_readsNumber_43, rfl⟩ rfl ?_
      refine y_aload_n (i := 0) (n := 45) ⟨dX12_readsNumber_44, rfl⟩ rfl ?_
      refine y_getI (n := 48) ⟨dX12_readsNumber_45, rfl⟩ kfX12_274 l_66 rfl ?_
      refine y_putI (n := 51) ⟨dX12_readsNumber_48, rfl⟩ kfX12_391 l_66 (by decide +kernel) rfl ?_
      refine y_goto (t := 62) ⟨dX12_readsNumber_51, rfl, rfl⟩ ?_
      exact y_wk ⟨Or.inr rfl, Or.inl rfl, trivial⟩ (w_t_mo_readsNumber_62 (sI M 66 34 (gI M 66 24)) hf hk)
  · replace hf := i_f hc hf
    refine y_aload_n (i := 0) (n := 34) ⟨dX12_readsNumber_33, rfl⟩ rfl ?_
    refine y_iconst (n := 35) (v := 4) ⟨dX12_readsNumber_34, rfl⟩ ki_4 ?_
    refine c_mo_fails 4 M (n := 38) ⟨dX12_readsNumber_35, rfl⟩ klX12_366 rfl (by decide) (Nat.le_of_ble_eq_true rfl) rfl rfl ?_
    cases hf
    exact y_ireturn (n := 39) ⟨dX12_readsNumber_38, rfl⟩ rfl (bI_n _) hk
theorem ok_mo_readsNumber (a1 : Int32) (M : dM) {o : (Bool × dM)} (hf : f_mo_readsNumber a1 M = some o) : mO mX12_readsNumber 3 [.ref 66, .int a1] M (some (.int (bI o.1))) o.2 := by
  refine y_ok (by decide +kernel) (by decide) (L0 := [some (.ref 66), some (.int a1)]) rfl ?_
  have hk := mR_mQ (some (.int (bI o.1))) o.2
  generalize mQ _ _ = Q at hk ⊢
  unfold f_mo_readsNumber at hf
  refine y_aload_n (i := 0) (n := 1) ⟨dX12_readsNumber_0, rfl⟩ rfl ?_
  refine y_getI (n := 4) ⟨dX12_readsNumber_1, rfl⟩ kfX12_277 l_66 rfl ?_
  refine y_iconst (n := 5) (v := 2) ⟨dX12_readsNumber_4, rfl⟩ ki_2 ?_
  refine y_icmp_eq (t := 14) (n := 8) ⟨dX12_readsNumber_5, rfl, rfl⟩ (fun (hc : (gI M 66 22) = 2) => ?_) (fun (hc : ¬ ((gI M 66 22) = 2)) => ?_)
  · replace hf := i_t hc hf
    refine y_aload_n (i := 0) (n := 15) ⟨dX12_readsNumber_14, rfl⟩ rfl ?_
    refine y_getI (n := 18) ⟨dX12_readsNumber_15, rfl⟩ kfX12_274 l_66 rfl ?_
    refine y_iload_n (i := 1) (n := 19) ⟨dX12_readsNumber_18, rfl⟩ rfl ?_
    refine y_if_eq (t := 27) (n := 22) ⟨dX12_readsNumber_19, rfl, rfl⟩ (fun (hc : a1 = 0) => ?_) (fun (hc : ¬ (a1 = 0)) => ?_)
    · replace hf := i_t hc hf
      refine y_sipush (n := 30) (v := 999) ⟨dX12_readsNumber_27, rfl⟩ ks_999 ?_
      exact y_wk ⟨Or.inr rfl, Or.inr rfl, trivial⟩ (w_t_mo_readsNumber_30 a1 (gI M 66 24) 999 M hf hk)
    · replace hf := i_f hc hf
      refine y_bipush (n := 24) (v := 9) ⟨dX12_readsNumber_22, rfl⟩ kb_9 ?_
      refine y_goto (t := 30) ⟨dX12_readsNumber_24, rfl, rfl⟩ ?_
      exact y_wk ⟨Or.inr rfl, Or.inr rfl, trivial⟩ (w_t_mo_readsNumber_30 a1 (gI M 66 24) 9 M hf hk)
  · replace hf := i_f hc hf
    refine y_aload_n (i := 0) (n := 9) ⟨dX12_readsNumber_8, rfl⟩ rfl ?_
    refine y_iconst (n := 10) (v := 1) ⟨dX12_readsNumber_9, rfl⟩ ki_1 ?_
    refine c_mo_fails 1 M (n := 13) ⟨dX12_readsNumber_10, rfl⟩ klX12_366 rfl (by decide) (Nat.le_of_ble_eq_true rfl) rfl rfl ?_
    cases hf
    exact y_ireturn (n := 14) ⟨dX12_readsNumber_13, rfl⟩ rfl (bI_n _) hk
theorem c_mo_readsNumber (a1 : Int32) (M : dM) {o : (Bool × dM)} {y : mz_M} {d : Nat} {Q : mz_P} {pc n i : Nat} {L : List (Option Value)} {st : List Value} (h : mz_d y.2.1 pc n 3 (.invokevirtual i)) (hl : mz_ml y.1.cls i yX12_readsNumber) (hf : f_mo_readsNumber a1 M = some o) (hd : 3 + 1 ≤ d) (hsm : (st.map (fun v => v.category)).sum ≤ 8) (hLr : mz_rL 133 L = true) (hSr : mz_rS 133 st = true) (kk : mW y d Q n L (.int (bI o.1) :: st) o.2) : mW y d Q pc L (.int a1 :: .ref 66 :: st) M :=
  y_callV kmX12_readsNumber kvX12_readsNumber l_66 (by decide +kernel) (by decide +kernel) h hl (ok_mo_readsNumber a1 M hf) (vs := [.int a1]) rfl rfl hd hsm hLr hSr kk
noncomputable def f_mo_readsWhen (a1 : Int32) (M : dM) : Option (Bool × dM) :=
  if (f_mo_isWord 458690 M) = true then
    (f_mo_nextToken M).bind fun q1 =>
    (f_mo_readsE a1 q1).bind fun q3 =>
    some (q3.1, q3.2)
  else
    some (((f_mo_fails 1 M).1), (f_mo_fails 1 M).2)
theorem ok_mo_readsWhen (a1 : Int32) (M : dM) {o : (Bool × dM)} (hf : f_mo_readsWhen a1 M = some o) : mO mX12_readsWhen 5 [.ref 66, .int a1] M (some (.int (bI o.1))) o.2 := by
  refine y_ok (by decide +kernel) (by decide) (L0 := [some (.ref 66), some (.int a1)]) rfl ?_
  have hk := mR_mQ (some (.int (bI o.1))) o.2
  generalize mQ _ _ = Q at hk ⊢
  unfold f_mo_readsWhen at hf
  refine y_aload_n (i := 0) (n := 1) ⟨dX12_readsWhen_0, rfl⟩ rfl ?_
  refine y_ldc2 (n := 4) ⟨dX12_readsWhen_1, rfl⟩ kcX12_384 ?_
  refine c_mo_isWord 458690 M (n := 7) ⟨dX12_readsWhen_4, rfl⟩ klX12_359 rfl (by decide) (Nat.le_of_ble_eq_true rfl) rfl rfl ?_
  refine y_if_ne (t := 16) (n := 10) ⟨dX12_readsWhen_7, rfl, rfl⟩ (fun h0 => ?_) (fun h0 => ?_)
  · have hc := bI_1 h0
    replace hf := i_t hc hf
    refine y_aload_n (i := 0) (n := 17) ⟨dX12_readsWhen_16, rfl⟩ rfl ?_
    obtain ⟨q1, hv2, hf⟩ := b_s hf
    refine c_mo_nextToken M (n := 20) ⟨dX12_readsWhen_17, rfl⟩ klX12_373 hv2 (by decide) (Nat.le_of_ble_eq_true rfl) rfl rfl ?_
    refine y_aload_n (i := 0) (n := 21) ⟨dX12_readsWhen_20, rfl⟩ rfl ?_
    refine y_iload_n (i := 1) (n := 22) ⟨dX12_readsWhen_21, rfl⟩ rfl ?_
    obtain ⟨q3, hv4, hf⟩ := b_s hf
    refine c_mo_readsE a1 q1 (n := 25) ⟨dX12_readsWhen_22, rfl⟩ klX12_386 hv4 (by decide) (Nat.le_of_ble_eq_true rfl) rfl rfl ?_
    cases hf
    exact y_ireturn (n := 26) ⟨dX12_readsWhen_25, rfl⟩ rfl (bI_n _) hk
  · have hc := bI_0 h0
    replace hf := i_f hc hf
    refine y_aload_n (i := 0) (n := 11) ⟨dX12_readsWhen_10, rfl⟩ rfl ?_
    refine y_iconst (n := 12) (v := 1) ⟨dX12_readsWhen_11, rfl⟩ ki_1 ?_
    refine c_mo_fails 1 M (n := 15) ⟨dX12_readsWhen_12, rfl⟩ klX12_366 rfl (by decide) (Nat.le_of_ble_eq_true rfl) rfl rfl ?_
    cases hf
    exact y_ireturn (n := 16) ⟨dX12_readsWhen_15, rfl⟩ rfl (bI_n _) hk
theorem c_mo_readsWhen (a1 : Int32) (M : dM) {o : (Bool × dM)} {y : mz_M} {d : Nat} {Q : mz_P} {pc n i : Nat} {L : List (Option Value)} {st : List Value} (h : mz_d y.2.1 pc n 3 (.invokevirtual i)) (hl : mz_ml y.1.cls i yX12_readsWhen) (hf : f_mo_readsWhen a1 M = some o) (hd : 5 + 1 ≤ d) (hsm : (st.map (fun v => v.category)).sum ≤ 8) (hLr : mz_rL 133 L = true) (hSr : mz_rS 133 st = true) (kk : mW y d Q n L (.int (bI o.1) :: st) o.2) : mW y d Q pc L (.int a1 :: .ref 66 :: st) M :=
  y_callV kmX12_readsWhen kvX12_readsWhen l_66 (by decide +kernel) (by decide +kernel) h hl (ok_mo_readsWhen a1 M hf) (vs := [.int a1]) rfl rfl hd hsm hLr hSr kk
def K_mo_readsAll_23 (Q : mz_P) (x1 : Int32) (x2 : Int32) (x3 : Int32) (x4 : Int32) (M : dM) : ((Int32 × dM) ⊕ dM) → Prop
  | .inl s => mW mX12_readsAll 6 Q 23 [some (.ref 66), some (.int x1), some (.int x2), some (.int x3), some (.int x4), some (.int s.1), none, none, none, none, none, none] [] s.2
  | .inr t => mW mX12_readsAll 6 Q 44 [some (.ref 66), some (.int x1), some (.int x2), some (.int x3), some (.int x4), none, none, none, none, none, none, none] [] t
noncomputable def b_mo_readsAll_23_23 (x1 : Int32) (x2 : Int32) (x3 : Int32) (x4 : Int32) (x5 : Int32) (M : dM) : Option ((Int32 × dM) ⊕ dM) :=
  if 21 ≤ x5 then
    some (.inr M)
  else
    gd (vp_in x5 21) <|
    some (.inl ((x5 + 1), (sI M 85 x5.toNatClampNeg 0)))
noncomputable def l_mo_readsAll_23 (x1 : Int32) (x2 : Int32) (x3 : Int32) (x4 : Int32) (x5 : Int32) (M : dM) : Option dM := lpc (fun s => b_mo_readsAll_23_23 x1 x2 x3 x4 s.1 s.2) (x5, M)
def K_mo_readsAll_73 (Q : mz_P)  (M : dM) : ((Int32 × Int32 × Int32 × Int32 × dM) ⊕ (Bool × dM)) → Prop
  | .inl s => mW mX12_readsAll 6 Q 73 [some (.ref 66), some (.int s.1), some (.int s.2.1), some (.int s.2.2.1), some (.int s.2.2.2.1), none, none, none, none, none, none, none] [] s.2.2.2.2
  | .inr r => mR Q (some (.int (bI r.1))) r.2
noncomputable def b_mo_readsAll_73_352 (x2 : Int32) (x3 : Int32) (x4 : Int32) (x6 : Int32) (y0 : Int32) (y1 : Int32) (M : dM) : Option ((Int32 × Int32 × Int32 × Int32 × dM) ⊕ (Bool × dM)) :=
  if x6 = 0 then
    some (.inl ((y0 + y1), (x2 + 0), x3, x4, M))
  else
    some (.inl ((y0 + y1), (x2 + 1), x3, x4, M))
noncomputable def b_mo_readsAll_73_332 (x1 : Int32) (x2 : Int32) (x3 : Int32) (x4 : Int32) (x5 : Int32) (x6 : Int32) (y0 : Int32) (M : dM) : Option ((Int32 × Int32 × Int32 × Int32 × dM) ⊕ (Bool × dM)) :=
  if y0 = 0 then
    some (.inr (false, M))
  else
    if x5 = 0 then
      b_mo_readsAll_73_352 x2 x3 x4 x6 x1 0 M
    else
      b_mo_readsAll_73_352 x2 x3 x4 x6 x1 1 M
noncomputable def b_mo_readsAll_73_296 (x1 : Int32) (x2 : Int32) (x3 : Int32) (x4 : Int32) (x5 : Int32) (x6 : Int32) (x8 : Int32) (M : dM) : Option ((Int32 × Int32 × Int32 × Int32 × dM) ⊕ (Bool × dM)) :=
  (f_mo_readsNumber x8 M).bind fun q9 =>
  b_mo_readsAll_73_332 x1 x2 x3 x4 x5 x6 (bI q9.1) q9.2
noncomputable def b_mo_readsAll_73_329 (x1 : Int32) (x2 : Int32) (x3 : Int32) (x4 : Int32) (x5 : Int32) (x6 : Int32) (y1 : Int32) (M : dM) : Option ((Int32 × Int32 × Int32 × Int32 × dM) ⊕ (Bool × dM)) :=
  (f_mo_readsWhen y1 M).bind fun q11 =>
  b_mo_readsAll_73_332 x1 x2 x3 x4 x5 x6 (bI q11.1) q11.2
noncomputable def b_mo_readsAll_73_272 (x1 : Int32) (x2 : Int32) (x3 : Int32) (x5 : Int32) (x6 : Int32) (x7 : Int32) (x8 : Int32) (x9 : Int32) (y0 : Int32) (M : dM) : Option ((Int32 × Int32 × Int32 × Int32 × dM) ⊕ (Bool × dM)) :=
  if x7 = 0 then
    if x8 = 0 then
      if x9 = 0 then
        if x5 = 0 then
          if x6 = 0 then
            b_mo_readsAll_73_329 x1 x2 x3 y0 x5 x6 20 M
          else
            b_mo_readsAll_73_329 x1 x2 x3 y0 x5 x6 (6 + x2) M
        else
          b_mo_readsAll_73_329 x1 x2 x3 y0 x5 x6 x1 M
      else
        b_mo_readsAll_73_296 x1 x2 x3 y0 x5 x6 x8 M
    else
      b_mo_readsAll_73_296 x1 x2 x3 y0 x5 x6 x8 M
  else
    (f_mo_readsRule M).bind fun q13 =>
    b_mo_readsAll_73_332 x1 x2 x3 y0 x5 x6 (bI q13.1) q13.2
noncomputable def b_mo_readsAll_73_267 (x1 : Int32) (x2 : Int32) (x3 : Int32) (x5 : Int32) (x6 : Int32) (x7 : Int32) (x8 : Int32) (x9 : Int32) (M : dM) : Option ((Int32 × Int32 × Int32 × Int32 × dM) ⊕ (Bool × dM)) :=
  b_mo_readsAll_73_272 x1 x2 x3 x5 x6 x7 x8 x9 1 M
noncomputable def b_mo_readsAll_73_256 (x1 : Int32) (x2 : Int32) (x4 : Int32) (x5 : Int32) (x6 : Int32) (x7 : Int32) (x8 : Int32) (x9 : Int32) (y0 : Int32) (M : dM) : Option ((Int32 × Int32 × Int32 × Int32 × dM) ⊕ (Bool × dM)) :=
  if x4 = 0 then
    if x9 = 0 then
      b_mo_readsAll_73_272 x1 x2 y0 x5 x6 x7 x8 x9 0 M
    else
      b_mo_readsAll_73_267 x1 x2 y0 x5 x6 x7 x8 x9 M
  else
    b_mo_readsAll_73_267 x1 x2 y0 x5 x6 x7 x8 x9 M
noncomputable def b_mo_readsAll_73_251 (x1 : Int32) (x2 : Int32) (x4 : Int32) (x5 : Int32) (x6 : Int32) (x7 : Int32) (x8 : Int32) (x9 : Int32) (M : dM) : Option ((Int32 × Int32 × Int32 × Int32 × dM) ⊕ (Bool × dM)) :=
  b_mo_readsAll_73_256 x1 x2 x4 x5 x6 x7 x8 x9 1 M
noncomputable def b_mo_readsAll_73_238 (x1 : Int32) (x2 : Int32) (x3 : Int32) (x4 : Int32) (x5 : Int32) (x6 : Int32) (x7 : Int32) (x8 : Int32) (x9 : Int32) (M : dM) : Option ((Int32 × Int32 × Int32 × Int32 × dM) ⊕ (Bool × dM)) :=
  (f_mo_nextToken M).bind fun q7 =>
  if x3 = 0 then
    if x8 = 0 then
      b_mo_readsAll_73_256 x1 x2 x4 x5 x6 x7 x8 x9 0 q7
    else
      b_mo_readsAll_73_251 x1 x2 x4 x5 x6 x7 x8 x9 q7
  else
    b_mo_readsAll_73_251 x1 x2 x4 x5 x6 x7 x8 x9 q7
noncomputable def b_mo_readsAll_73_232 (M : dM) : Option ((Int32 × Int32 × Int32 × Int32 × dM) ⊕ (Bool × dM)) :=
  some (.inr (((f_mo_fails 5 M).1), (f_mo_fails 5 M).2))
noncomputable def b_mo_readsAll_73_221 (x1 : Int32) (x2 : Int32) (x3 : Int32) (x4 : Int32) (x5 : Int32) (x6 : Int32) (x7 : Int32) (x8 : Int32) (x9 : Int32) (M : dM) : Option ((Int32 × Int32 × Int32 × Int32 × dM) ⊕ (Bool × dM)) :=
  if x6 = 0 then
    b_mo_readsAll_73_238 x1 x2 x3 x4 x5 x6 x7 x8 x9 M
  else
    if x2 = 6 then
      b_mo_readsAll_73_232 M
    else
      b_mo_readsAll_73_238 x1 x2 x3 x4 x5 x6 x7 x8 x9 M
noncomputable def b_mo_readsAll_73_210 (x1 : Int32) (x2 : Int32) (x3 : Int32) (x4 : Int32) (x5 : Int32) (x6 : Int32) (x7 : Int32) (x8 : Int32) (x9 : Int32) (M : dM) : Option ((Int32 × Int32 × Int32 × Int32 × dM) ⊕ (Bool × dM)) :=
  if x5 = 0 then
    b_mo_readsAll_73_221 x1 x2 x3 x4 x5 x6 x7 x8 x9 M
  else
    if x1 = 6 then
      b_mo_readsAll_73_232 M
    else
      b_mo_readsAll_73_221 x1 x2 x3 x4 x5 x6 x7 x8 x9 M
noncomputable def b_mo_readsAll_73_204 (M : dM) : Option ((Int32 × Int32 × Int32 × Int32 × dM) ⊕ (Bool × dM)) :=
  some (.inr (((f_mo_fails 3 M).1), (f_mo_fails 3 M).2))
noncomputable def b_mo_readsAll_73_189 (x1 : Int32) (x2 : Int32) (x3 : Int32) (x4 : Int32) (x5 : Int32) (x6 : Int32) (x7 : Int32) (x8 : Int32) (x9 : Int32) (x10 : Int32) (M : dM) : Option ((Int32 × Int32 × Int32 × Int32 × dM) ⊕ (Bool × dM)) :=
  if x10 = 0 then
    b_mo_readsAll_73_210 x1 x2 x3 x4 x5 x6 x7 x8 x9 M
  else
    if (gI M 85 20) = 0 then
      b_mo_readsAll_73_210 x1 x2 x3 x4 x5 x6 x7 x8 x9 M
    else
      b_mo_readsAll_73_204 M
noncomputable def b_mo_readsAll_73_179 (x1 : Int32) (x2 : Int32) (x3 : Int32) (x4 : Int32) (x5 : Int32) (x6 : Int32) (x7 : Int32) (x8 : Int32) (x9 : Int32) (x10 : Int32) (M : dM) : Option ((Int32 × Int32 × Int32 × Int32 × dM) ⊕ (Bool × dM)) :=
  if x9 = 0 then
    b_mo_readsAll_73_189 x1 x2 x3 x4 x5 x6 x7 x8 x9 x10 M
  else
    if x4 = 0 then
      b_mo_readsAll_73_189 x1 x2 x3 x4 x5 x6 x7 x8 x9 x10 M
    else
      b_mo_readsAll_73_204 M
noncomputable def b_mo_readsAll_73_170 (x1 : Int32) (x2 : Int32) (x3 : Int32) (x4 : Int32) (x5 : Int32) (x6 : Int32) (x7 : Int32) (x8 : Int32) (x9 : Int32) (x10 : Int32) (M : dM) : Option ((Int32 × Int32 × Int32 × Int32 × dM) ⊕ (Bool × dM)) :=
  if x8 = 0 then
    b_mo_readsAll_73_179 x1 x2 x3 x4 x5 x6 x7 x8 x9 x10 M
  else
    if x3 = 0 then
      b_mo_readsAll_73_179 x1 x2 x3 x4 x5 x6 x7 x8 x9 x10 M
    else
      b_mo_readsAll_73_204 M
noncomputable def b_mo_readsAll_73_73 (x1 : Int32) (x2 : Int32) (x3 : Int32) (x4 : Int32) (M : dM) : Option ((Int32 × Int32 × Int32 × Int32 × dM) ⊕ (Bool × dM)) :=
  if (gI M 66 22) = 0 then
    some (.inr (true, M))
  else
    if (f_mo_isWord 1503 M) = true then
      b_mo_readsAll_73_170 x1 x2 x3 x4 (bI (f_mo_isWord 1503 M)) (bI (f_mo_isWord 11047 M)) (bI (f_mo_isWord 369932 M)) (bI (f_mo_isWord 10284818 M)) (bI (f_mo_isWord 4419 M)) (bI (f_mo_isWord 79495460 M)) M
    else
      if (f_mo_isWord 11047 M) = true then
        b_mo_readsAll_73_170 x1 x2 x3 x4 (bI (f_mo_isWord 1503 M)) (bI (f_mo_isWord 11047 M)) (bI (f_mo_isWord 369932 M)) (bI (f_mo_isWord 10284818 M)) (bI (f_mo_isWord 4419 M)) (bI (f_mo_isWord 79495460 M)) M
      else
        if (f_mo_isWord 369932 M) = true then
          b_mo_readsAll_73_170 x1 x2 x3 x4 (bI (f_mo_isWord 1503 M)) (bI (f_mo_isWord 11047 M)) (bI (f_mo_isWord 369932 M)) (bI (f_mo_isWord 10284818 M)) (bI (f_mo_isWord 4419 M)) (bI (f_mo_isWord 79495460 M)) M
        else
          if (f_mo_isWord 10284818 M) = true then
            b_mo_readsAll_73_170 x1 x2 x3 x4 (bI (f_mo_isWord 1503 M)) (bI (f_mo_isWord 11047 M)) (bI (f_mo_isWord 369932 M)) (bI (f_mo_isWord 10284818 M)) (bI (f_mo_isWord 4419 M)) (bI (f_mo_isWord 79495460 M)) M
          else
            if (f_mo_isWord 4419 M) = true then
              b_mo_readsAll_73_170 x1 x2 x3 x4 (bI (f_mo_isWord 1503 M)) (bI (f_mo_isWord 11047 M)) (bI (f_mo_isWord 369932 M)) (bI (f_mo_isWord 10284818 M)) (bI (f_mo_isWord 4419 M)) (bI (f_mo_isWord 79495460 M)) M
            else
              if (f_mo_isWord 79495460 M) = true then
                b_mo_readsAll_73_170 x1 x2 x3 x4 (bI (f_mo_isWord 1503 M)) (bI (f_mo_isWord 11047 M)) (bI (f_mo_isWord 369932 M)) (bI (f_mo_isWord 10284818 M)) (bI (f_mo_isWord 4419 M)) (bI (f_mo_isWord 79495460 M)) M
              else
                some (.inr (((f_mo_fails 1 M).1), (f_mo_fails 1 M).2))
noncomputable def l_mo_readsAll_73 (x1 : Int32) (x2 : Int32) (x3 : Int32) (x4 : Int32) (M : dM) : Option (Bool × dM) := lpc (fun s => b_mo_readsAll_73_73 s.1 s.2.1 s.2.2.1 s.2.2.2.1 s.2.2.2.2) (x1, x2, x3, x4, M)
noncomputable def f_mo_readsAll (M : dM) : Option (Bool × dM) :=
  (l_mo_readsAll_23 0 0 0 0 0 (sI (sI M 66 34 3) 66 35 100)).bind fun t2 =>
    (f_mo_nextToken (sI (sI (sI (sI t2 66 37 1000) 66 19 (gI (sI t2 66 37 1000) 66 17)) 66 17 0) 66 20 0)).bind fun q5 =>
    (l_mo_readsAll_73 0 0 0 0 q5).bind fun r20 => some r20
theorem w_b_mo_readsAll_23_23 (x1 : Int32) (x2 : Int32) (x3 : Int32) (x4 : Int32) (x5 : Int32) (M : dM) {Q : mz_P} {o : ((Int32 × dM) ⊕ dM)} (hf : b_mo_readsAll_23_23 x1 x2 x3 x4 x5 M = some o) (hk : K_mo_readsAll_23 Q x1 x2 x3 x4 M o) : mW mX12_readsAll 6 Q 23 [some (.ref 66), some (.int x1), some (.int x2), some (.int x3), some (.int x4), some (.int x5), none, none, none, none, none, none] [] M := by
  unfold b_mo_readsAll_23_23 at hf
  refine y_iload (i := 5) (n := 25) ⟨dX12_readsAll_23, rfl⟩ rfl ?_
  refine y_bipush (n := 27) (v := 21) ⟨dX12_readsAll_25, rfl⟩ kb_21 ?_
  refine y_icmp_ge (t := 44) (n := 30) ⟨dX12_readsAll_27, rfl, rfl⟩ (fun (hc : 21 ≤ x5) => ?_) (fun (hc : ¬ (21 ≤ x5)) => ?_)
  · replace hf := i_t hc hf
    cases hf
    exact y_wk ⟨Or.inr rfl, Or.inr rfl, Or.inr rfl, Or.inr rfl, Or.inr rfl, Or.inl rfl, Or.inr rfl, Or.inr rfl, Or.inr rfl, Or.inr rfl, Or.inr rfl, Or.inr rfl, trivial⟩ hk
  · replace hf := i_f hc hf
    refine y_aload_n (i := 0) (n := 31) ⟨dX12_readsAll_30, rfl⟩ rfl ?_
    refine y_getR (n := 34) ⟨dX12_readsAll_31, rfl⟩ kfX12_65 l_66 rfl r_66_29 ?_
    refine y_iload (i := 5) (n := 36) ⟨dX12_readsAll_34, rfl⟩ rfl ?_
    refine y_iconst (n := 37) (v := 0) ⟨dX12_readsAll_36, rfl⟩ ki_0 ?_
    obtain ⟨hg1, hf⟩ := g_s hf
    refine y_bastore (x' := 0) (n := 38) ⟨dX12_readsAll_37, rfl⟩ l_85 hg1 rfl ?_
    refine y_iinc (i := 5) (n := 41) (b := (x5 + 1)) (L2 := [some (.ref 66), some (.int x1), some (.int x2), some (.int x3), some (.int x4), some (.int (x5 + 1)), none, none, none, none, none, none]) ⟨dX12_readsAll_38, rfl⟩ rfl (by rw [ki_1]) (by decide) rfl rfl ?_
    refine y_goto (t := 23) ⟨dX12_readsAll_41, rfl, rfl⟩ ?_
    cases hf
    exact y_wk ⟨Or.inr rfl, Or.inr rfl, Or.inr rfl, Or.inr rfl, Or.inr rfl, Or.inr rfl, Or.inr rfl, Or.inr rfl, Or.inr rfl, Or.inr rfl, Or.inr rfl, Or.inr rfl, trivial⟩ hk
theorem wl_mo_readsAll_23 (x1 : Int32) (x2 : Int32) (x3 : Int32) (x4 : Int32) (x5 : Int32) (M : dM) {Q : mz_P} {x : dM} (hf : l_mo_readsAll_23 x1 x2 x3 x4 x5 M = some x) (hk : K_mo_readsAll_23 Q x1 x2 x3 x4 M (.inr x)) : mW mX12_readsAll 6 Q 23 [some (.ref 66), some (.int x1), some (.int x2), some (.int x3), some (.int x4), some (.int x5), none, none, none, none, none, none] [] M :=
  lpc_wp (Wh := fun s => mW mX12_readsAll 6 Q 23 [some (.ref 66), some (.int x1), some (.int x2), some (.int x3), some (.int x4), some (.int s.1), none, none, none, none, none, none] [] s.2) (K := K_mo_readsAll_23 Q x1 x2 x3 x4 M) (fun _ h => h) (fun s o hb hk => w_b_mo_readsAll_23_23 x1 x2 x3 x4 s.1 s.2 hb hk) hf hk
theorem w_b_mo_readsAll_73_352 (x2 : Int32) (x3 : Int32) (x4 : Int32) (x6 : Int32) (y0 : Int32) (y1 : Int32) (M : dM) {Q : mz_P} {o : ((Int32 × Int32 × Int32 × Int32 × dM) ⊕ (Bool × dM))} (hf : b_mo_readsAll_73_352 x2 x3 x4 x6 y0 y1 M = some o) (hk : K_mo_readsAll_73 Q  M o) : mW mX12_readsAll 6 Q 352 [some (.ref 66), none, some (.int x2), some (.int x3), some (.int x4), none, some (.int x6), none, none, none, none, none] [.int y0, .int y1] M := by
  unfold b_mo_readsAll_73_352 at hf
  refine y_iadd (n := 353) ⟨dX12_readsAll_352, rfl⟩ ?_
  refine y_istore_n (i := 1) (n := 354) (L2 := [some (.ref 66), some (.int (y0 + y1)), some (.int x2), some (.int x3), some (.int x4), none, some (.int x6), none, none, none, none, none]) ⟨dX12_readsAll_353, rfl⟩ (by decide) rfl rfl ?_
  refine y_iload_n (i := 2) (n := 355) ⟨dX12_readsAll_354, rfl⟩ rfl ?_
  refine y_iload (i := 6) (n := 357) ⟨dX12_readsAll_355, rfl⟩ rfl ?_
  refine y_if_eq (t := 364) (n := 360) ⟨dX12_readsAll_357, rfl, rfl⟩ (fun (hc : x6 = 0) => ?_) (fun (hc : ¬ (x6 = 0)) => ?_)
  · replace hf := i_t hc hf
    refine y_iconst (n := 365) (v := 0) ⟨dX12_readsAll_364, rfl⟩ ki_0 ?_
    refine y_iadd (n := 366) ⟨dX12_readsAll_365, rfl⟩ ?_
    refine y_istore_n (i := 2) (n := 367) (L2 := [some (.ref 66), some (.int (y0 + y1)), some (.int (x2 + 0)), some (.int x3), some (.int x4), none, some (.int x6), none, none, none, none, none]) ⟨dX12_readsAll_366, rfl⟩ (by decide) rfl rfl ?_
    refine y_goto (t := 73) ⟨dX12_readsAll_367, rfl, rfl⟩ ?_
    cases hf
    exact y_wk ⟨Or.inr rfl, Or.inr rfl, Or.inr rfl, Or.inr rfl, Or.inr rfl, Or.inr rfl, Or.inl rfl, Or.inr rfl, Or.inr rfl, Or.inr rfl, Or.inr rfl, Or.inr rfl, trivial⟩ hk
  · replace hf := i_f hc hf
    refine y_iconst (n := 361) (v := 1) ⟨dX12_readsAll_360, rfl⟩ ki_1 ?_
    refine y_goto (t := 365) ⟨dX12_readsAll_361, rfl, rfl⟩ ?_
    refine y_iadd (n := 366) ⟨dX12_readsAll_365, rfl⟩ ?_
    refine y_istore_n (i := 2) (n := 367) (L2 := [some (.ref 66), some (.int (y0 + y1)), some (.int (x2 + 1)), some (.int x3), some (.int x4), none, some (.int x6), none, none, none, none, none]) ⟨dX12_readsAll_366, rfl⟩ (by decide) rfl rfl ?_
    refine y_goto (t := 73) ⟨dX12_readsAll_367, rfl, rfl⟩ ?_
    cases hf
    exact y_wk ⟨Or.inr rfl, Or.inr rfl, Or.inr rfl, Or.inr rfl, Or.inr rfl, Or.inr rfl, Or.inl rfl, Or.inr rfl, Or.inr rfl, Or.inr rfl, Or.inr rfl, Or.inr rfl, trivial⟩ hk
theorem w_b_mo_readsAll_73_332 (x1 : Int32) (x2 : Int32) (x3 : Int32) (x4 : Int32) (x5 : Int32) (x6 : Int32) (y0 : Int32) (M : dM) {Q : mz_P} {o : ((Int32 × Int32 × Int32 × Int32 × dM) ⊕ (Bool × dM))} (hf : b_mo_readsAll_73_332 x1 x2 x3 x4 x5 x6 y0 M = some o) (hk : K_mo_readsAll_73 Q  M o) : mW mX12_readsAll 6 Q 332 [some (.ref 66), some (.int x1), some (.int x2), some (.int x3), some (.int x4), some (.int x5), some (.int x6), none, none, none, none, none] [.int y0] M := by
  unfold b_mo_readsAll_73_332 at hf
  refine y_istore (i := 11) (n := 334) (L2 := [some (.ref 66), some (.int x1), some (.int x2), some (.int x3), some (.int x4), some (.int x5), some (.int x6), none, none, none, none, some (.int y0)]) ⟨dX12_readsAll_332, rfl⟩ (by decide) rfl rfl ?_
  refine y_iload (i := 11) (n := 336) ⟨dX12_readsAll_334, rfl⟩ rfl ?_
  refine y_if_ne (t := 341) (n := 339) ⟨dX12_readsAll_336, rfl, rfl⟩ (fun (hc : ¬ (y0 = 0)) => ?_) (fun (hc : y0 = 0) => ?_)
  · replace hf := i_f hc hf
    refine y_iload_n (i := 1) (n := 342) ⟨dX12_readsAll_341, rfl⟩ rfl ?_
    refine y_iload (i := 5) (n := 344) ⟨dX12_readsAll_342, rfl⟩ rfl ?_
    refine y_if_eq (t := 351) (n := 347) ⟨dX12_readsAll_344, rfl, rfl⟩ (fun (hc : x5 = 0) => ?_) (fun (hc : ¬ (x5 = 0)) => ?_)
    · replace hf := i_t hc hf
      refine y_iconst (n := 352) (v := 0) ⟨dX12_readsAll_351, rfl⟩ ki_0 ?_
      exact y_wk ⟨Or.inr rfl, Or.inl rfl, Or.inr rfl, Or.inr rfl, Or.inr rfl, Or.inl rfl, Or.inr rfl, Or.inr rfl, Or.inr rfl, Or.inr rfl, Or.inr rfl, Or.inl rfl, trivial⟩ (w_b_mo_readsAll_73_352 x2 x3 x4 x6 x1 0 M hf hk)
    · replace hf := i_f hc hf
      refine y_iconst (n := 348) (v := 1) ⟨dX12_readsAll_347, rfl⟩ ki_1 ?_
      refine y_goto (t := 352) ⟨dX12_readsAll_348, rfl, rfl⟩ ?_
      exact y_wk ⟨Or.inr rfl, Or.inl rfl, Or.inr rfl, Or.inr rfl, Or.inr rfl, Or.inl rfl, Or.inr rfl, Or.inr rfl, Or.inr rfl, Or.inr rfl, Or.inr rfl, Or.inl rfl, trivial⟩ (w_b_mo_readsAll_73_352 x2 x3 x4 x6 x1 1 M hf hk)
  · replace hf := i_t hc hf
    refine y_iconst (n := 340) (v := 0) ⟨dX12_readsAll_339, rfl⟩ ki_0 ?_
    cases hf
    exact y_ireturn (n := 341) ⟨dX12_readsAll_340, rfl⟩ rfl rfl hk
theorem w_b_mo_readsAll_73_296 (x1 : Int32) (x2 : Int32) (x3 : Int32) (x4 : Int32) (x5 : Int32) (x6 : Int32) (x8 : Int32) (M : dM) {Q : mz_P} {o : ((Int32 × Int32 × Int32 × Int32 × dM) ⊕ (Bool × dM))} (hf : b_mo_readsAll_73_296 x1 x2 x3 x4 x5 x6 x8 M = some o) (hk : K_mo_readsAll_73 Q  M o) : mW mX12_readsAll 6 Q 296 [some (.ref 66), some (.int x1), some (.int x2), some (.int x3), some (.int x4), some (.int x5), some (.int x6), none, some (.int x8), none, none, none] [] M := by
  unfold b_mo_readsAll_73_296 at hf
  refine y_aload_n (i := 0) (n := 297) ⟨dX12_readsAll_296, rfl⟩ rfl ?_
  refine y_iload (i := 8) (n := 299) ⟨dX12_readsAll_297, rfl⟩ rfl ?_
  obtain ⟨q9, hv10, hf⟩ := b_s hf
  refine c_mo_readsNumber x8 M (n := 302) ⟨dX12_readsAll_299, rfl⟩ klX12_410 hv10 (by decide) (Nat.le_of_ble_eq_true rfl) rfl rfl ?_
  refine y_goto (t := 332) ⟨dX12_readsAll_302, rfl, rfl⟩ ?_
  exact y_wk ⟨Or.inr rfl, Or.inr rfl, Or.inr rfl, Or.inr rfl, Or.inr rfl, Or.inr rfl, Or.inr rfl, Or.inr rfl, Or.inl rfl, Or.inr rfl, Or.inr rfl, Or.inr rfl, trivial⟩ (w_b_mo_readsAll_73_332 x1 x2 x3 x4 x5 x6 (bI q9.1) q9.2 hf hk)
theorem w_b_mo_readsAll_73_329 (x1 : Int32) (x2 : Int32) (x3 : Int32) (x4 : Int32) (x5 : Int32) (x6 : Int32) (y1 : Int32) (M : dM) {Q : mz_P} {o : ((Int32 × Int32 × Int32 × Int32 × dM) ⊕ (Bool × dM))} (hf : b_mo_readsAll_73_329 x1 x2 x3 x4 x5 x6 y1 M = some o) (hk : K_mo_readsAll_73 Q  M o) : mW mX12_readsAll 6 Q 329 [some (.ref 66), some (.int x1), some (.int x2), some (.int x3), some (.int x4), some (.int x5), some (.int x6), none, none, none, none, none] [.ref 66, .int y1] M := by
  unfold b_mo_readsAll_73_329 at hf
  obtain ⟨q11, hv12, hf⟩ := b_s hf
  refine c_mo_readsWhen y1 M (n := 332) ⟨dX12_readsAll_329, rfl⟩ klX12_414 hv12 (by decide) (Nat.le_of_ble_eq_true rfl) rfl rfl ?_
  exact y_wk ⟨Or.inr rfl, Or.inr rfl, Or.inr rfl, Or.inr rfl, Or.inr rfl, Or.inr rfl, Or.inr rfl, Or.inr rfl, Or.inr rfl, Or.inr rfl, Or.inr rfl, Or.inr rfl, trivial⟩ (w_b_mo_readsAll_73_332 x1 x2 x3 x4 x5 x6 (bI q11.1) q11.2 hf hk)
theorem w_b_mo_readsAll_73_272 (x1 : Int32) (x2 : Int32) (x3 : Int32) (x5 : Int32) (x6 : Int32) (x7 : Int32) (x8 : Int32) (x9 : Int32) (y0 : Int32) (M : dM) {Q : mz_P} {o : ((Int32 × Int32 × Int32 × Int32 × dM) ⊕ (Bool × dM))} (hf : b_mo_readsAll_73_272 x1 x2 x3 x5 x6 x7 x8 x9 y0 M = some o) (hk : K_mo_readsAll_73 Q  M o) : mW mX12_readsAll 6 Q 272 [some (.ref 66), some (.int x1), some (.int x2), some (.int x3), none, some (.int x5), some (.int x6), some (.int x7), some (.int x8), some (.int x9), none, none] [.int y0] M := by
  unfold b_mo_readsAll_73_272 at hf
  refine y_istore (i := 4) (n := 274) (L2 := [some (.ref 66), some (.int x1), some (.int x2), some (.int x3), some (.int y0), some (.int x5), some (.int x6), some (.int x7), some (.int x8), some (.int x9), none, none]) ⟨dX12_readsAll_272, rfl⟩ (by decide) rfl rfl ?_
  refine y_iload (i := 7) (n := 276) ⟨dX12_readsAll_274, rfl⟩ rfl ?_
  refine y_if_eq (t := 286) (n := 279) ⟨dX12_readsAll_276, rfl, rfl⟩ (fun (hc : x7 = 0) => ?_) (fun (hc : ¬ (x7 = 0)) => ?_)
  · replace hf := i_t hc hf
    refine y_iload (i := 8) (n := 288) ⟨dX12_readsAll_286, rfl⟩ rfl ?_
    refine y_if_ne (t := 296) (n := 291) ⟨dX12_readsAll_288, rfl, rfl⟩ (fun (hc : ¬ (x8 = 0)) => ?_) (fun (hc : x8 = 0) => ?_)
    · replace hf := i_f hc hf
      exact y_wk ⟨Or.inr rfl, Or.inr rfl, Or.inr rfl, Or.inr rfl, Or.inr rfl, Or.inr rfl, Or.inr rfl, Or.inl rfl, Or.inr rfl, Or.inl rfl, Or.inr rfl, Or.inr rfl, trivial⟩ (w_b_mo_readsAll_73_296 x1 x2 x3 y0 x5 x6 x8 M hf hk)
    · replace hf := i_t hc hf
      refine y_iload (i := 9) (n := 293) ⟨dX12_readsAll_291, rfl⟩ rfl ?_
      refine y_if_eq (t := 305) (n := 296) ⟨dX12_readsAll_293, rfl, rfl⟩ (fun (hc : x9 = 0) => ?_) (fun (hc : ¬ (x9 = 0)) => ?_)
      · replace hf := i_t hc hf
        refine y_aload_n (i := 0) (n := 306) ⟨dX12_readsAll_305, rfl⟩ rfl ?_
        refine y_iload (i := 5) (n := 308) ⟨dX12_readsAll_306, rfl⟩ rfl ?_
        refine y_if_eq (t := 315) (n := 311) ⟨dX12_readsAll_308, rfl, rfl⟩ (fun (hc : x5 = 0) => ?_) (fun (hc : ¬ (x5 = 0)) => ?_)
        · replace hf := i_t hc hf
          refine y_iload (i := 6) (n := 317) ⟨dX12_readsAll_315, rfl⟩ rfl ?_
          refine y_if_eq (t := 327) (n := 320) ⟨dX12_readsAll_317, rfl, rfl⟩ (fun (hc : x6 = 0) => ?_) (fun (hc : ¬ (x6 = 0)) => ?_)
          · replace hf := i_t hc hf
            refine y_bipush (n := 329) (v := 20) ⟨dX12_readsAll_327, rfl⟩ kb_20 ?_
            exact y_wk ⟨Or.inr rfl, Or.inr rfl, Or.inr rfl, Or.inr rfl, Or.inr rfl, Or.inr rfl, Or.inr rfl, Or.inl rfl, Or.inl rfl, Or.inl rfl, Or.inr rfl, Or.inr rfl, trivial⟩ (w_b_mo_readsAll_73_329 x1 x2 x3 y0 x5 x6 20 M hf hk)
          · replace hf := i_f hc hf
            refine y_bipush (n := 322) (v := 6) ⟨dX12_readsAll_320, rfl⟩ kb_6 ?_
            refine y_iload_n (i := 2) (n := 323) ⟨dX12_readsAll_322, rfl⟩ rfl ?_
            refine y_iadd (n := 324) ⟨dX12_readsAll_323, rfl⟩ ?_
            refine y_goto (t := 329) ⟨dX12_readsAll_324, rfl, rfl⟩ ?_
            exact y_wk ⟨Or.inr rfl, Or.inr rfl, Or.inr rfl, Or.inr rfl, Or.inr rfl, Or.inr rfl, Or.inr rfl, Or.inl rfl, Or.inl rfl, Or.inl rfl, Or.inr rfl, Or.inr rfl, trivial⟩ (w_b_mo_readsAll_73_329 x1 x2 x3 y0 x5 x6 (6 + x2) M hf hk)
        · replace hf := i_f hc hf
          refine y_iload_n (i := 1) (n := 312) ⟨dX12_readsAll_311, rfl⟩ rfl ?_
          refine y_goto (t := 329) ⟨dX12_readsAll_312, rfl, rfl⟩ ?_
          exact y_wk ⟨Or.inr rfl, Or.inr rfl, Or.inr rfl, Or.inr rfl, Or.inr rfl, Or.inr rfl, Or.inr rfl, Or.inl rfl, Or.inl rfl, Or.inl rfl, Or.inr rfl, Or.inr rfl, trivial⟩ (w_b_mo_readsAll_73_329 x1 x2 x3 y0 x5 x6 x1 M hf hk)
      · replace hf := i_f hc hf
        exact y_wk ⟨Or.inr rfl, Or.inr rfl, Or.inr rfl, Or.inr rfl, Or.inr rfl, Or.inr rfl, Or.inr rfl, Or.inl rfl, Or.inr rfl, Or.inl rfl, Or.inr rfl, Or.inr rfl, trivial⟩ (w_b_mo_readsAll_73_296 x1 x2 x3 y0 x5 x6 x8 M hf hk)
  · replace hf := i_f hc hf
    refine y_aload_n (i := 0) (n := 280) ⟨dX12_readsAll_279, rfl⟩ rfl ?_
    obtain ⟨q13, hv14, hf⟩ := b_s hf
    refine c_mo_readsRule M (n := 283) ⟨dX12_readsAll_280, rfl⟩ klX12_407 hv14 (by decide) (Nat.le_of_ble_eq_true rfl) rfl rfl ?_
    refine y_goto (t := 332) ⟨dX12_readsAll_283, rfl, rfl⟩ ?_
    exact y_wk ⟨Or.inr rfl, Or.inr rfl, Or.inr rfl, Or.inr rfl, Or.inr rfl, Or.inr rfl, Or.inr rfl, Or.inl rfl, Or.inl rfl, Or.inl rfl, Or.inr rfl, Or.inr rfl, trivial⟩ (w_b_mo_readsAll_73_332 x1 x2 x3 y0 x5 x6 (bI q13.1) q13.2 hf hk)
theorem w_b_mo_readsAll_73_267 (x1 : Int32) (x2 : Int32) (x3 : Int32) (x5 : Int32) (x6 : Int32) (x7 : Int32) (x8 : Int32) (x9 : Int32) (M : dM) {Q : mz_P} {o : ((Int32 × Int32 × Int32 × Int32 × dM) ⊕ (Bool × dM))} (hf : b_mo_readsAll_73_267 x1 x2 x3 x5 x6 x7 x8 x9 M = some o) (hk : K_mo_readsAll_73 Q  M o) : mW mX12_readsAll 6 Q 267 [some (.ref 66), some (.int x1), some (.int x2), some (.int x3), none, some (.int x5), some (.int x6), some (.int x7), some (.int x8), some (.int x9), none, none] [] M := by
  unfold b_mo_readsAll_73_267 at hf
  refine y_iconst (n := 268) (v := 1) ⟨dX12_readsAll_267, rfl⟩ ki_1 ?_
  refine y_goto (t := 272) ⟨dX12_readsAll_268, rfl, rfl⟩ ?_
  exact y_wk ⟨Or.inr rfl, Or.inr rfl, Or.inr rfl, Or.inr rfl, Or.inr rfl, Or.inr rfl, Or.inr rfl, Or.inr rfl, Or.inr rfl, Or.inr rfl, Or.inr rfl, Or.inr rfl, trivial⟩ (w_b_mo_readsAll_73_272 x1 x2 x3 x5 x6 x7 x8 x9 1 M hf hk)
theorem w_b_mo_readsAll_73_256 (x1 : Int32) (x2 : Int32) (x4 : Int32) (x5 : Int32) (x6 : Int32) (x7 : Int32) (x8 : Int32) (x9 : Int32) (y0 : Int32) (M : dM) {Q : mz_P} {o : ((Int32 × Int32 × Int32 × Int32 × dM) ⊕ (Bool × dM))} (hf : b_mo_readsAll_73_256 x1 x2 x4 x5 x6 x7 x8 x9 y0 M = some o) (hk : K_mo_readsAll_73 Q  M o) : mW mX12_readsAll 6 Q 256 [some (.ref 66), some (.int x1), some (.int x2), none, some (.int x4), some (.int x5), some (.int x6), some (.int x7), some (.int x8), some (.int x9), none, none] [.int y0] M := by
  unfold b_mo_readsAll_73_256 at hf
  refine y_istore_n (i := 3) (n := 257) (L2 := [some (.ref 66), some (.int x1), some (.int x2), some (.int y0), some (.int x4), some (.int x5), some (.int x6), some (.int x7), some (.int x8), some (.int x9), none, none]) ⟨dX12_readsAll_256, rfl⟩ (by decide) rfl rfl ?_
  refine y_iload (i := 4) (n := 259) ⟨dX12_readsAll_257, rfl⟩ rfl ?_
  refine y_if_ne (t := 267) (n := 262) ⟨dX12_readsAll_259, rfl, rfl⟩ (fun (hc : ¬ (x4 = 0)) => ?_) (fun (hc : x4 = 0) => ?_)
  · replace hf := i_f hc hf
    exact y_wk ⟨Or.inr rfl, Or.inr rfl, Or.inr rfl, Or.inr rfl, Or.inl rfl, Or.inr rfl, Or.inr rfl, Or.inr rfl, Or.inr rfl, Or.inr rfl, Or.inr rfl, Or.inr rfl, trivial⟩ (w_b_mo_readsAll_73_267 x1 x2 y0 x5 x6 x7 x8 x9 M hf hk)
  · replace hf := i_t hc hf
    refine y_iload (i := 9) (n := 264) ⟨dX12_readsAll_262, rfl⟩ rfl ?_
    refine y_if_eq (t := 271) (n := 267) ⟨dX12_readsAll_264, rfl, rfl⟩ (fun (hc : x9 = 0) => ?_) (fun (hc : ¬ (x9 = 0)) => ?_)
    · replace hf := i_t hc hf
      refine y_iconst (n := 272) (v := 0) ⟨dX12_readsAll_271, rfl⟩ ki_0 ?_
      exact y_wk ⟨Or.inr rfl, Or.inr rfl, Or.inr rfl, Or.inr rfl, Or.inl rfl, Or.inr rfl, Or.inr rfl, Or.inr rfl, Or.inr rfl, Or.inr rfl, Or.inr rfl, Or.inr rfl, trivial⟩ (w_b_mo_readsAll_73_272 x1 x2 y0 x5 x6 x7 x8 x9 0 M hf hk)
    · replace hf := i_f hc hf
      exact y_wk ⟨Or.inr rfl, Or.inr rfl, Or.inr rfl, Or.inr rfl, Or.inl rfl, Or.inr rfl, Or.inr rfl, Or.inr rfl, Or.inr rfl, Or.inr rfl, Or.inr rfl, Or.inr rfl, trivial⟩ (w_b_mo_readsAll_73_267 x1 x2 y0 x5 x6 x7 x8 x9 M hf hk)
theorem w_b_mo_readsAll_73_251 (x1 : Int32) (x2 : Int32) (x4 : Int32) (x5 : Int32) (x6 : Int32) (x7 : Int32) (x8 : Int32) (x9 : Int32) (M : dM) {Q : mz_P} {o : ((Int32 × Int32 × Int32 × Int32 × dM) ⊕ (Bool × dM))} (hf : b_mo_readsAll_73_251 x1 x2 x4 x5 x6 x7 x8 x9 M = some o) (hk : K_mo_readsAll_73 Q  M o) : mW mX12_readsAll 6 Q 251 [some (.ref 66), some (.int x1), some (.int x2), none, some (.int x4), some (.int x5), some (.int x6), some (.int x7), some (.int x8), some (.int x9), none, none] [] M := by
  unfold b_mo_readsAll_73_251 at hf
  refine y_iconst (n := 252) (v := 1) ⟨dX12_readsAll_251, rfl⟩ ki_1 ?_
  refine y_goto (t := 256) ⟨dX12_readsAll_252, rfl, rfl⟩ ?_
  exact y_wk ⟨Or.inr rfl, Or.inr rfl, Or.inr rfl, Or.inr rfl, Or.inr rfl, Or.inr rfl, Or.inr rfl, Or.inr rfl, Or.inr rfl, Or.inr rfl, Or.inr rfl, Or.inr rfl, trivial⟩ (w_b_mo_readsAll_73_256 x1 x2 x4 x5 x6 x7 x8 x9 1 M hf hk)
theorem w_b_mo_readsAll_73_238 (x1 : Int32) (x2 : Int32) (x3 : Int32) (x4 : Int32) (x5 : Int32) (x6 : Int32) (x7 : Int32) (x8 : Int32) (x9 : Int32) (M : dM) {Q : mz_P} {o : ((Int32 × Int32 × Int32 × Int32 × dM) ⊕ (Bool × dM))} (hf : b_mo_readsAll_73_238 x1 x2 x3 x4 x5 x6 x7 x8 x9 M = some o) (hk : K_mo_readsAll_73 Q  M o) : mW mX12_readsAll 6 Q 238 [some (.ref 66), some (.int x1), some (.int x2), some (.int x3), some (.int x4), some (.int x5), some (.int x6), some (.int x7), some (.int x8), some (.int x9), none, none] [] M := by
  unfold b_mo_readsAll_73_238 at hf
  refine y_aload_n (i := 0) (n := 239) ⟨dX12_readsAll_238, rfl⟩ rfl ?_
  obtain ⟨q7, hv8, hf⟩ := b_s hf
  refine c_mo_nextToken M (n := 242) ⟨dX12_readsAll_239, rfl⟩ klX12_373 hv8 (by decide) (Nat.le_of_ble_eq_true rfl) rfl rfl ?_
  refine y_iload_n (i := 3) (n := 243) ⟨dX12_readsAll_242, rfl⟩ rfl ?_
  refine y_if_ne (t := 251) (n := 246) ⟨dX12_readsAll_243, rfl, rfl⟩ (fun (hc : ¬ (x3 = 0)) => ?_) (fun (hc : x3 = 0) => ?_)
  · replace hf := i_f hc hf
    exact y_wk ⟨Or.inr rfl, Or.inr rfl, Or.inr rfl, Or.inl rfl, Or.inr rfl, Or.inr rfl, Or.inr rfl, Or.inr rfl, Or.inr rfl, Or.inr rfl, Or.inr rfl, Or.inr rfl, trivial⟩ (w_b_mo_readsAll_73_251 x1 x2 x4 x5 x6 x7 x8 x9 q7 hf hk)
  · replace hf := i_t hc hf
    refine y_iload (i := 8) (n := 248) ⟨dX12_readsAll_246, rfl⟩ rfl ?_
    refine y_if_eq (t := 255) (n := 251) ⟨dX12_readsAll_248, rfl, rfl⟩ (fun (hc : x8 = 0) => ?_) (fun (hc : ¬ (x8 = 0)) => ?_)
    · replace hf := i_t hc hf
      refine y_iconst (n := 256) (v := 0) ⟨dX12_readsAll_255, rfl⟩ ki_0 ?_
      exact y_wk ⟨Or.inr rfl, Or.inr rfl, Or.inr rfl, Or.inl rfl, Or.inr rfl, Or.inr rfl, Or.inr rfl, Or.inr rfl, Or.inr rfl, Or.inr rfl, Or.inr rfl, Or.inr rfl, trivial⟩ (w_b_mo_readsAll_73_256 x1 x2 x4 x5 x6 x7 x8 x9 0 q7 hf hk)
    · replace hf := i_f hc hf
      exact y_wk ⟨Or.inr rfl, Or.inr rfl, Or.inr rfl, Or.inl rfl, Or.inr rfl, Or.inr rfl, Or.inr rfl, Or.inr rfl, Or.inr rfl, Or.inr rfl, Or.inr rfl, Or.inr rfl, trivial⟩ (w_b_mo_readsAll_73_251 x1 x2 x4 x5 x6 x7 x8 x9 q7 hf hk)
theorem w_b_mo_readsAll_73_232  (M : dM) {Q : mz_P} {o : ((Int32 × Int32 × Int32 × Int32 × dM) ⊕ (Bool × dM))} (hf : b_mo_readsAll_73_232 M = some o) (hk : K_mo_readsAll_73 Q  M o) : mW mX12_readsAll 6 Q 232 [some (.ref 66), none, none, none, none, none, none, none, none, none, none, none] [] M := by
  unfold b_mo_readsAll_73_232 at hf
  refine y_aload_n (i := 0) (n := 233) ⟨dX12_readsAll_232, rfl⟩ rfl ?_
  refine y_iconst (n := 234) (v := 5) ⟨dX12_readsAll_233, rfl⟩ ki_5 ?_
  refine c_mo_fails 5 M (n := 237) ⟨dX12_readsAll_234, rfl⟩ klX12_366 rfl (by decide) (Nat.le_of_ble_eq_true rfl) rfl rfl ?_
  cases hf
  exact y_ireturn (n := 238) ⟨dX12_readsAll_237, rfl⟩ rfl (bI_n _) hk
theorem w_b_mo_readsAll_73_221 (x1 : Int32) (x2 : Int32) (x3 : Int32) (x4 : Int32) (x5 : Int32) (x6 : Int32) (x7 : Int32) (x8 : Int32) (x9 : Int32) (M : dM) {Q : mz_P} {o : ((Int32 × Int32 × Int32 × Int32 × dM) ⊕ (Bool × dM))} (hf : b_mo_readsAll_73_221 x1 x2 x3 x4 x5 x6 x7 x8 x9 M = some o) (hk : K_mo_readsAll_73 Q  M o) : mW mX12_readsAll 6 Q 221 [some (.ref 66), some (.int x1), some (.int x2), some (.int x3), some (.int x4), some (.int x5), some (.int x6), some (.int x7), some (.int x8), some (.int x9), none, none] [] M := by
  unfold b_mo_readsAll_73_221 at hf
  refine y_iload (i := 6) (n := 223) ⟨dX12_readsAll_221, rfl⟩ rfl ?_
  refine y_if_eq (t := 238) (n := 226) ⟨dX12_readsAll_223, rfl, rfl⟩ (fun (hc : x6 = 0) => ?_) (fun (hc : ¬ (x6 = 0)) => ?_)
  · replace hf := i_t hc hf
    exact y_wk ⟨Or.inr rfl, Or.inr rfl, Or.inr rfl, Or.inr rfl, Or.inr rfl, Or.inr rfl, Or.inr rfl, Or.inr rfl, Or.inr rfl, Or.inr rfl, Or.inr rfl, Or.inr rfl, trivial⟩ (w_b_mo_readsAll_73_238 x1 x2 x3 x4 x5 x6 x7 x8 x9 M hf hk)
  · replace hf := i_f hc hf
    refine y_iload_n (i := 2) (n := 227) ⟨dX12_readsAll_226, rfl⟩ rfl ?_
    refine y_bipush (n := 229) (v := 6) ⟨dX12_readsAll_227, rfl⟩ kb_6 ?_
    refine y_icmp_ne (t := 238) (n := 232) ⟨dX12_readsAll_229, rfl, rfl⟩ (fun (hc : ¬ (x2 = 6)) => ?_) (fun (hc : x2 = 6) => ?_)
    · replace hf := i_f hc hf
      exact y_wk ⟨Or.inr rfl, Or.inr rfl, Or.inr rfl, Or.inr rfl, Or.inr rfl, Or.inr rfl, Or.inr rfl, Or.inr rfl, Or.inr rfl, Or.inr rfl, Or.inr rfl, Or.inr rfl, trivial⟩ (w_b_mo_readsAll_73_238 x1 x2 x3 x4 x5 x6 x7 x8 x9 M hf hk)
    · replace hf := i_t hc hf
      exact y_wk ⟨Or.inr rfl, Or.inl rfl, Or.inl rfl, Or.inl rfl, Or.inl rfl, Or.inl rfl, Or.inl rfl, Or.inl rfl, Or.inl rfl, Or.inl rfl, Or.inr rfl, Or.inr rfl, trivial⟩ (w_b_mo_readsAll_73_232 M hf hk)
theorem w_b_mo_readsAll_73_210 (x1 : Int32) (x2 : Int32) (x3 : Int32) (x4 : Int32) (x5 : Int32) (x6 : Int32) (x7 : Int32) (x8 : Int32) (x9 : Int32) (M : dM) {Q : mz_P} {o : ((Int32 × Int32 × Int32 × Int32 × dM) ⊕ (Bool × dM))} (hf : b_mo_readsAll_73_210 x1 x2 x3 x4 x5 x6 x7 x8 x9 M = some o) (hk : K_mo_readsAll_73 Q  M o) : mW mX12_readsAll 6 Q 210 [some (.ref 66), some (.int x1), some (.int x2), some (.int x3), some (.int x4), some (.int x5), some (.int x6), some (.int x7), some (.int x8), some (.int x9), none, none] [] M := by
  unfold b_mo_readsAll_73_210 at hf
  refine y_iload (i := 5) (n := 212) ⟨dX12_readsAll_210, rfl⟩ rfl ?_
  refine y_if_eq (t := 221) (n := 215) ⟨dX12_readsAll_212, rfl, rfl⟩ (fun (hc : x5 = 0) => ?_) (fun (hc : ¬ (x5 = 0)) => ?_)
  · replace hf := i_t hc hf
    exact y_wk ⟨Or.inr rfl, Or.inr rfl, Or.inr rfl, Or.inr rfl, Or.inr rfl, Or.inr rfl, Or.inr rfl, Or.inr rfl, Or.inr rfl, Or.inr rfl, Or.inr rfl, Or.inr rfl, trivial⟩ (w_b_mo_readsAll_73_221 x1 x2 x3 x4 x5 x6 x7 x8 x9 M hf hk)
  · replace hf := i_f hc hf
    refine y_iload_n (i := 1) (n := 216) ⟨dX12_readsAll_215, rfl⟩ rfl ?_
    refine y_bipush (n := 218) (v := 6) ⟨dX12_readsAll_216, rfl⟩ kb_6 ?_
    refine y_icmp_eq (t := 232) (n := 221) ⟨dX12_readsAll_218, rfl, rfl⟩ (fun (hc : x1 = 6) => ?_) (fun (hc : ¬ (x1 = 6)) => ?_)
    · replace hf := i_t hc hf
      exact y_wk ⟨Or.inr rfl, Or.inl rfl, Or.inl rfl, Or.inl rfl, Or.inl rfl, Or.inl rfl, Or.inl rfl, Or.inl rfl, Or.inl rfl, Or.inl rfl, Or.inr rfl, Or.inr rfl, trivial⟩ (w_b_mo_readsAll_73_232 M hf hk)
    · replace hf := i_f hc hf
      exact y_wk ⟨Or.inr rfl, Or.inr rfl, Or.inr rfl, Or.inr rfl, Or.inr rfl, Or.inr rfl, Or.inr rfl, Or.inr rfl, Or.inr rfl, Or.inr rfl, Or.inr rfl, Or.inr rfl, trivial⟩ (w_b_mo_readsAll_73_221 x1 x2 x3 x4 x5 x6 x7 x8 x9 M hf hk)
theorem w_b_mo_readsAll_73_204  (M : dM) {Q : mz_P} {o : ((Int32 × Int32 × Int32 × Int32 × dM) ⊕ (Bool × dM))} (hf : b_mo_readsAll_73_204 M = some o) (hk : K_mo_readsAll_73 Q  M o) : mW mX12_readsAll 6 Q 204 [some (.ref 66), none, none, none, none, none, none, none, none, none, none, none] [] M := by
  unfold b_mo_readsAll_73_204 at hf
  refine y_aload_n (i := 0) (n := 205) ⟨dX12_readsAll_204, rfl⟩ rfl ?_
  refine y_iconst (n := 206) (v := 3) ⟨dX12_readsAll_205, rfl⟩ ki_3 ?_
  refine c_mo_fails 3 M (n := 209) ⟨dX12_readsAll_206, rfl⟩ klX12_366 rfl (by decide) (Nat.le_of_ble_eq_true rfl) rfl rfl ?_
  cases hf
  exact y_ireturn (n := 210) ⟨dX12_readsAll_209, rfl⟩ rfl (bI_n _) hk
theorem w_b_mo_readsAll_73_189 (x1 : Int32) (x2 : Int32) (x3 : Int32) (x4 : Int32) (x5 : Int32) (x6 : Int32) (x7 : Int32) (x8 : Int32) (x9 : Int32) (x10 : Int32) (M : dM) {Q : mz_P} {o : ((Int32 × Int32 × Int32 × Int32 × dM) ⊕ (Bool × dM))} (hf : b_mo_readsAll_73_189 x1 x2 x3 x4 x5 x6 x7 x8 x9 x10 M = some o) (hk : K_mo_readsAll_73 Q  M o) : mW mX12_readsAll 6 Q 189 [some (.ref 66), some (.int x1), some (.int x2), some (.int x3), some (.int x4), some (.int x5), some (.int x6), some (.int x7), some (.int x8), some (.int x9), some (.int x10), none] [] M := by
  unfold b_mo_readsAll_73_189 at hf
  refine y_iload (i := 10) (n := 191) ⟨dX12_readsAll_189, rfl⟩ rfl ?_
  refine y_if_eq (t := 210) (n := 194) ⟨dX12_readsAll_191, rfl, rfl⟩ (fun (hc : x10 = 0) => ?_) (fun (hc : ¬ (x10 = 0)) => ?_)
  · replace hf := i_t hc hf
    exact y_wk ⟨Or.inr rfl, Or.inr rfl, Or.inr rfl, Or.inr rfl, Or.inr rfl, Or.inr rfl, Or.inr rfl, Or.inr rfl, Or.inr rfl, Or.inr rfl, Or.inl rfl, Or.inr rfl, trivial⟩ (w_b_mo_readsAll_73_210 x1 x2 x3 x4 x5 x6 x7 x8 x9 M hf hk)
  · replace hf := i_f hc hf
    refine y_aload_n (i := 0) (n := 195) ⟨dX12_readsAll_194, rfl⟩ rfl ?_
    refine y_getR (n := 198) ⟨dX12_readsAll_195, rfl⟩ kfX12_65 l_66 rfl r_66_29 ?_
    refine y_bipush (n := 200) (v := 20) ⟨dX12_readsAll_198, rfl⟩ kb_20 ?_
    refine y_baload (n := 201) ⟨dX12_readsAll_200, rfl⟩ l_85 (by unfold vp_in; decide) ?_
    refine y_if_eq (t := 210) (n := 204) ⟨dX12_readsAll_201, rfl, rfl⟩ (fun (hc : (gI M 85 20) = 0) => ?_) (fun (hc : ¬ ((gI M 85 20) = 0)) => ?_)
    · replace hf := i_t hc hf
      exact y_wk ⟨Or.inr rfl, Or.inr rfl, Or.inr rfl, Or.inr rfl, Or.inr rfl, Or.inr rfl, Or.inr rfl, Or.inr rfl, Or.inr rfl, Or.inr rfl, Or.inl rfl, Or.inr rfl, trivial⟩ (w_b_mo_readsAll_73_210 x1 x2 x3 x4 x5 x6 x7 x8 x9 M hf hk)
    · replace hf := i_f hc hf
      exact y_wk ⟨Or.inr rfl, Or.inl rfl, Or.inl rfl, Or.inl rfl, Or.inl rfl, Or.inl rfl, Or.inl rfl, Or.inl rfl, Or.inl rfl, Or.inl rfl, Or.inl rfl, Or.inr rfl, trivial⟩ (w_b_mo_readsAll_73_204 M hf hk)
theorem w_b_mo_readsAll_73_179 (x1 : Int32) (x2 : Int32) (x3 : Int32) (x4 : Int32) (x5 : Int32) (x6 : Int32) (x7 : Int32) (x8 : Int32) (x9 : Int32) (x10 : Int32) (M : dM) {Q : mz_P} {o : ((Int32 × Int32 × Int32 × Int32 × dM) ⊕ (Bool × dM))} (hf : b_mo_readsAll_73_179 x1 x2 x3 x4 x5 x6 x7 x8 x9 x10 M = some o) (hk : K_mo_readsAll_73 Q  M o) : mW mX12_readsAll 6 Q 179 [some (.ref 66), some (.int x1), some (.int x2), some (.int x3), some (.int x4), some (.int x5), some (.int x6), some (.int x7), some (.int x8), some (.int x9), some (.int x10), none] [] M := by
  unfold b_mo_readsAll_73_179 at hf
  refine y_iload (i := 9) (n := 181) ⟨dX12_readsAll_179, rfl⟩ rfl ?_
  refine y_if_eq (t := 189) (n := 184) ⟨dX12_readsAll_181, rfl, rfl⟩ (fun (hc : x9 = 0) => ?_) (fun (hc : ¬ (x9 = 0)) => ?_)
  · replace hf := i_t hc hf
    exact y_wk ⟨Or.inr rfl, Or.inr rfl, Or.inr rfl, Or.inr rfl, Or.inr rfl, Or.inr rfl, Or.inr rfl, Or.inr rfl, Or.inr rfl, Or.inr rfl, Or.inr rfl, Or.inr rfl, trivial⟩ (w_b_mo_readsAll_73_189 x1 x2 x3 x4 x5 x6 x7 x8 x9 x10 M hf hk)
  · replace hf := i_f hc hf
    refine y_iload (i := 4) (n := 186) ⟨dX12_readsAll_184, rfl⟩ rfl ?_
    refine y_if_ne (t := 204) (n := 189) ⟨dX12_readsAll_186, rfl, rfl⟩ (fun (hc : ¬ (x4 = 0)) => ?_) (fun (hc : x4 = 0) => ?_)
    · replace hf := i_f hc hf
      exact y_wk ⟨Or.inr rfl, Or.inl rfl, Or.inl rfl, Or.inl rfl, Or.inl rfl, Or.inl rfl, Or.inl rfl, Or.inl rfl, Or.inl rfl, Or.inl rfl, Or.inl rfl, Or.inr rfl, trivial⟩ (w_b_mo_readsAll_73_204 M hf hk)
    · replace hf := i_t hc hf
      exact y_wk ⟨Or.inr rfl, Or.inr rfl, Or.inr rfl, Or.inr rfl, Or.inr rfl, Or.inr rfl, Or.inr rfl, Or.inr rfl, Or.inr rfl, Or.inr rfl, Or.inr rfl, Or.inr rfl, trivial⟩ (w_b_mo_readsAll_73_189 x1 x2 x3 x4 x5 x6 x7 x8 x9 x10 M hf hk)
theorem w_b_mo_readsAll_73_170 (x1 : Int32) (x2 : Int32) (x3 : Int32) (x4 : Int32) (x5 : Int32) (x6 : Int32) (x7 : Int32) (x8 : Int32) (x9 : Int32) (x10 : Int32) (M : dM) {Q : mz_P} {o : ((Int32 × Int32 × Int32 × Int32 × dM) ⊕ (Bool × dM))} (hf : b_mo_readsAll_73_170 x1 x2 x3 x4 x5 x6 x7 x8 x9 x10 M = some o) (hk : K_mo_readsAll_73 Q  M o) : mW mX12_readsAll 6 Q 170 [some (.ref 66), some (.int x1), some (.int x2), some (.int x3), some (.int x4), some (.int x5), some (.int x6), some (.int x7), some (.int x8), some (.int x9), some (.int x10), none] [] M := by
  unfold b_mo_readsAll_73_170 at hf
  refine y_iload (i := 8) (n := 172) ⟨dX12_readsAll_170, rfl⟩ rfl ?_
  refine y_if_eq (t := 179) (n := 175) ⟨dX12_readsAll_172, rfl, rfl⟩ (fun (hc : x8 = 0) => ?_) (fun (hc : ¬ (x8 = 0)) => ?_)
  · replace hf := i_t hc hf
    exact y_wk ⟨Or.inr rfl, Or.inr rfl, Or.inr rfl, Or.inr rfl, Or.inr rfl, Or.inr rfl, Or.inr rfl, Or.inr rfl, Or.inr rfl, Or.inr rfl, Or.inr rfl, Or.inr rfl, trivial⟩ (w_b_mo_readsAll_73_179 x1 x2 x3 x4 x5 x6 x7 x8 x9 x10 M hf hk)
  · replace hf := i_f hc hf
    refine y_iload_n (i := 3) (n := 176) ⟨dX12_readsAll_175, rfl⟩ rfl ?_
    refine y_if_ne (t := 204) (n := 179) ⟨dX12_readsAll_176, rfl, rfl⟩ (fun (hc : ¬ (x3 = 0)) => ?_) (fun (hc : x3 = 0) => ?_)
    · replace hf := i_f hc hf
      exact y_wk ⟨Or.inr rfl, Or.inl rfl, Or.inl rfl, Or.inl rfl, Or.inl rfl, Or.inl rfl, Or.inl rfl, Or.inl rfl, Or.inl rfl, Or.inl rfl, Or.inl rfl, Or.inr rfl, trivial⟩ (w_b_mo_readsAll_73_204 M hf hk)
    · replace hf := i_t hc hf
      exact y_wk ⟨Or.inr rfl, Or.inr rfl, Or.inr rfl, Or.inr rfl, Or.inr rfl, Or.inr rfl, Or.inr rfl, Or.inr rfl, Or.inr rfl, Or.inr rfl, Or.inr rfl, Or.inr rfl, trivial⟩ (w_b_mo_readsAll_73_179 x1 x2 x3 x4 x5 x6 x7 x8 x9 x10 M hf hk)
theorem w_b_mo_readsAll_73_73 (x1 : Int32) (x2 : Int32) (x3 : Int32) (x4 : Int32) (M : dM) {Q : mz_P} {o : ((Int32 × Int32 × Int32 × Int32 × dM) ⊕ (Bool × dM))} (hf : b_mo_readsAll_73_73 x1 x2 x3 x4 M = some o) (hk : K_mo_readsAll_73 Q  M o) : mW mX12_readsAll 6 Q 73 [some (.ref 66), some (.int x1), some (.int x2), some (.int x3), some (.int x4), none, none, none, none, none, none, none] [] M := by
  unfold b_mo_readsAll_73_73 at hf
  refine y_aload_n (i := 0) (n := 74) ⟨dX12_readsAll_73, rfl⟩ rfl ?_
  refine y_getI (n := 77) ⟨dX12_readsAll_74, rfl⟩ kfX12_277 l_66 rfl ?_
  refine y_if_eq (t := 370) (n := 80) ⟨dX12_readsAll_77, rfl, rfl⟩ (fun (hc : (gI M 66 22) = 0) => ?_) (fun (hc : ¬ ((gI M 66 22) = 0)) => ?_)
  · replace hf := i_t hc hf
    refine y_iconst (n := 371) (v := 1) ⟨dX12_readsAll_370, rfl⟩ ki_1 ?_
    cases hf
    exact y_ireturn (n := 372) ⟨dX12_readsAll_371, rfl⟩ rfl rfl hk
  · replace hf := i_f hc hf
    refine y_aload_n (i := 0) (n := 81) ⟨dX12_readsAll_80, rfl⟩ rfl ?_
    refine y_ldc2 (n := 84) ⟨dX12_readsAll_81, rfl⟩ kcX12_397 ?_
    refine c_mo_isWord 1503 M (n := 87) ⟨dX12_readsAll_84, rfl⟩ klX12_359 rfl (by decide) (Nat.le_of_ble_eq_true rfl) rfl rfl ?_
    refine y_istore (i := 5) (n := 89) (L2 := [some (.ref 66), some (.int x1), some (.int x2), some (.int x3), some (.int x4), some (.int (bI (f_mo_isWord 1503 M))), none, none, none, none, none, none]) ⟨dX12_readsAll_87, rfl⟩ (by decide) rfl rfl ?_
    refine y_aload_n (i := 0) (n := 90) ⟨dX12_readsAll_89, rfl⟩ rfl ?_
    refine y_ldc2 (n := 93) ⟨dX12_readsAll_90, rfl⟩ kcX12_299 ?_
    refine c_mo_isWord 11047 M (n := 96) ⟨dX12_readsAll_93, rfl⟩ klX12_359 rfl (by decide) (Nat.le_of_ble_eq_true rfl) rfl rfl ?_
    refine y_istore (i := 6) (n := 98) (L2 := [some (.ref 66), some (.int x1), some (.int x2), some (.int x3), some (.int x4), some (.int (bI (f_mo_isWord 1503 M))), some (.int (bI (f_mo_isWord 11047 M))), none, none, none, none, none]) ⟨dX12_readsAll_96, rfl⟩ (by decide) rfl rfl ?_
    refine y_aload_n (i := 0) (n := 99) ⟨dX12_readsAll_98, rfl⟩ rfl ?_
    refine y_ldc2 (n := 102) ⟨dX12_readsAll_99, rfl⟩ kcX12_399 ?_
    refine c_mo_isWord 369932 M (n := 105) ⟨dX12_readsAll_102, rfl⟩ klX12_359 rfl (by decide) (Nat.le_of_ble_eq_true rfl) rfl rfl ?_
    refine y_istore (i := 7) (n := 107) (L2 := [some (.ref 66), some (.int x1), some (.int x2), some (.int x3), some (.int x4), some (.int (bI (f_mo_isWord 1503 M))), some (.int (bI (f_mo_isWord 11047 M))), some (.int (bI (f_mo_isWord 369932 M))), none, none, none, none]) ⟨dX12_readsAll_105, rfl⟩ (by decide) rfl rfl ?_
    refine y_aload_n (i := 0) (n := 108) ⟨dX12_readsAll_107, rfl⟩ rfl ?_
    refine y_ldc2 (n := 111) ⟨dX12_readsAll_108, rfl⟩ kcX12_401 ?_
    refine c_mo_isWord 10284818 M (n := 114) ⟨dX12_readsAll_111, rfl⟩ klX12_359 rfl (by decide) (Nat.le_of_ble_eq_true rfl) rfl rfl ?_
    refine y_istore (i := 8) (n := 116) (L2 := [some (.ref 66), some (.int x1), some (.int x2), some (.int x3), some (.int x4), some (.int (bI (f_mo_isWord 1503 M))), some (.int (bI (f_mo_isWord 11047 M))), some (.int (bI (f_mo_isWord 369932 M))), some (.int (bI (f_mo_isWord 10284818 M))), none, none, none]) ⟨dX12_readsAll_114, rfl⟩ (by decide) rfl rfl ?_
    refine y_aload_n (i := 0) (n := 117) ⟨dX12_readsAll_116, rfl⟩ rfl ?_
    refine y_ldc2 (n := 120) ⟨dX12_readsAll_117, rfl⟩ kcX12_403 ?_
    refine c_mo_isWord 4419 M (n := 123) ⟨dX12_readsAll_120, rfl⟩ klX12_359 rfl (by decide) (Nat.le_of_ble_eq_true rfl) rfl rfl ?_
    refine y_istore (i := 9) (n := 125) (L2 := [some (.ref 66), some (.int x1), some (.int x2), some (.int x3), some (.int x4), some (.int (bI (f_mo_isWord 1503 M))), some (.int (bI (f_mo_isWord 11047 M))), some (.int (bI (f_mo_isWord 369932 M))), some (.int (bI (f_mo_isWord 10284818 M))), some (.int (bI (f_mo_isWord 4419 M))), none, none]) ⟨dX12_readsAll_123, rfl⟩ (by decide) rfl rfl ?_
    refine y_aload_n (i := 0) (n := 126) ⟨dX12_readsAll_125, rfl⟩ rfl ?_
    refine y_ldc2 (n := 129) ⟨dX12_readsAll_126, rfl⟩ kcX12_405 ?_
    refine c_mo_isWord 79495460 M (n := 132) ⟨dX12_readsAll_129, rfl⟩ klX12_359 rfl (by decide) (Nat.le_of_ble_eq_true rfl) rfl rfl ?_
    refine y_istore (i := 10) (n := 134) (L2 := [some (.ref 66), some (.int x1), some (.int x2), some (.int x3), some (.int x4), some (.int (bI (f_mo_isWord 1503 M))), some (.int (bI (f_mo_isWord 11047 M))), some (.int (bI (f_mo_isWord 369932 M))), some (.int (bI (f_mo_isWord 10284818 M))), some (.int (bI (f_mo_isWord 4419 M))), some (.int (bI (f_mo_isWord 79495460 M))), none]) ⟨dX12_readsAll_132, rfl⟩ (by decide) rfl rfl ?_
    refine y_iload (i := 5) (n := 136) ⟨dX12_readsAll_134, rfl⟩ rfl ?_
    refine y_if_ne (t := 170) (n := 139) ⟨dX12_readsAll_136, rfl, rfl⟩ (fun h0 => ?_) (fun h0 => ?_)
    · have hc := bI_1 h0
      replace hf := i_t hc hf
      exact y_wk ⟨Or.inr rfl, Or.inr rfl, Or.inr rfl, Or.inr rfl, Or.inr rfl, Or.inr rfl, Or.inr rfl, Or.inr rfl, Or.inr rfl, Or.inr rfl, Or.inr rfl, Or.inr rfl, trivial⟩ (w_b_mo_readsAll_73_170 x1 x2 x3 x4 (bI (f_mo_isWord 1503 M)) (bI (f_mo_isWord 11047 M)) (bI (f_mo_isWord 369932 M)) (bI (f_mo_isWord 10284818 M)) (bI (f_mo_isWord 4419 M)) (bI (f_mo_isWord 79495460 M)) M hf hk)
    · have hc := bI_0 h0
      replace hf := i_f hc hf
      refine y_iload (i := 6) (n := 141) ⟨dX12_readsAll_139, rfl⟩ rfl ?_
      refine y_if_ne (t := 170) (n := 144) ⟨dX12_readsAll_141, rfl, rfl⟩ (fun h0 => ?_) (fun h0 => ?_)
      · have hc := bI_1 h0
        replace hf := i_t hc hf
        exact y_wk ⟨Or.inr rfl, Or.inr rfl, Or.inr rfl, Or.inr rfl, Or.inr rfl, Or.inr rfl, Or.inr rfl, Or.inr rfl, Or.inr rfl, Or.inr rfl, Or.inr rfl, Or.inr rfl, trivial⟩ (w_b_mo_readsAll_73_170 x1 x2 x3 x4 (bI (f_mo_isWord 1503 M)) (bI (f_mo_isWord 11047 M)) (bI (f_mo_isWord 369932 M)) (bI (f_mo_isWord 10284818 M)) (bI (f_mo_isWord 4419 M)) (bI (f_mo_isWord 79495460 M)) M hf hk)
      · have hc := bI_0 h0
        replace hf := i_f hc hf
        refine y_iload (i := 7) (n := 146) ⟨dX12_readsAll_144, rfl⟩ rfl ?_
        refine y_if_ne (t := 170) (n := 149) ⟨dX12_readsAll_146, rfl, rfl⟩ (fun h0 => ?_) (fun h0 => ?_)
        · have hc := bI_1 h0
          replace hf := i_t hc hf
          exact y_wk ⟨Or.inr rfl, Or.inr rfl, Or.inr rfl, Or.inr rfl, Or.inr rfl, Or.inr rfl, Or.inr rfl, Or.inr rfl, Or.inr rfl, Or.inr rfl, Or.inr rfl, Or.inr rfl, trivial⟩ (w_b_mo_readsAll_73_170 x1 x2 x3 x4 (bI (f_mo_isWord 1503 M)) (bI (f_mo_isWord 11047 M)) (bI (f_mo_isWord 369932 M)) (bI (f_mo_isWord 10284818 M)) (bI (f_mo_isWord 4419 M)) (bI (f_mo_isWord 79495460 M)) M hf hk)
        · have hc := bI_0 h0
          replace hf := i_f hc hf
          refine y_iload (i := 8) (n := 151) ⟨dX12_readsAll_149, rfl⟩ rfl ?_
          refine y_if_ne (t := 170) (n := 154) ⟨dX12_readsAll_151, rfl, rfl⟩ (fun h0 => ?_) (fun h0 => ?_)
          · have hc := bI_1 h0
            replace hf := i_t hc hf
            exact y_wk ⟨Or.inr rfl, Or.inr rfl, Or.inr rfl, Or.inr rfl, Or.inr rfl, Or.inr rfl, Or.inr rfl, Or.inr rfl, Or.inr rfl, Or.inr rfl, Or.inr rfl, Or.inr rfl, trivial⟩ (w_b_mo_readsAll_73_170 x1 x2 x3 x4 (bI (f_mo_isWord 1503 M)) (bI (f_mo_isWord 11047 M)) (bI (f_mo_isWord 369932 M)) (bI (f_mo_isWord 10284818 M)) (bI (f_mo_isWord 4419 M)) (bI (f_mo_isWord 79495460 M)) M hf hk)
          · have hc := bI_0 h0
            replace hf := i_f hc hf
            refine y_iload (i := 9) (n := 156) ⟨dX12_readsAll_154, rfl⟩ rfl ?_
            refine y_if_ne (t := 170) (n := 159) ⟨dX12_readsAll_156, rfl, rfl⟩ (fun h0 => ?_) (fun h0 => ?_)
            · have hc := bI_1 h0
              replace hf := i_t hc hf
              exact y_wk ⟨Or.inr rfl, Or.inr rfl, Or.inr rfl, Or.inr rfl, Or.inr rfl, Or.inr rfl, Or.inr rfl, Or.inr rfl, Or.inr rfl, Or.inr rfl, Or.inr rfl, Or.inr rfl, trivial⟩ (w_b_mo_readsAll_73_170 x1 x2 x3 x4 (bI (f_mo_isWord 1503 M)) (bI (f_mo_isWord 11047 M)) (bI (f_mo_isWord 369932 M)) (bI (f_mo_isWord 10284818 M)) (bI (f_mo_isWord 4419 M)) (bI (f_mo_isWord 79495460 M)) M hf hk)
            · have hc := bI_0 h0
              replace hf := i_f hc hf
              refine y_iload (i := 10) (n := 161) ⟨dX12_readsAll_159, rfl⟩ rfl ?_
              refine y_if_ne (t := 170) (n := 164) ⟨dX12_readsAll_161, rfl, rfl⟩ (fun h0 => ?_) (fun h0 => ?_)
              · have hc := bI_1 h0
                replace hf := i_t hc hf
                exact y_wk ⟨Or.inr rfl, Or.inr rfl, Or.inr rfl, Or.inr rfl, Or.inr rfl, Or.inr rfl, Or.inr rfl, Or.inr rfl, Or.inr rfl, Or.inr rfl, Or.inr rfl, Or.inr rfl, trivial⟩ (w_b_mo_readsAll_73_170 x1 x2 x3 x4 (bI (f_mo_isWord 1503 M)) (bI (f_mo_isWord 11047 M)) (bI (f_mo_isWord 369932 M)) (bI (f_mo_isWord 10284818 M)) (bI (f_mo_isWord 4419 M)) (bI (f_mo_isWord 79495460 M)) M hf hk)
              · have hc := bI_0 h0
                replace hf := i_f hc hf
                refine y_aload_n (i := 0) (n := 165) ⟨dX12_readsAll_164, rfl⟩ rfl ?_
                refine y_iconst (n := 166) (v := 1) ⟨dX12_readsAll_165, rfl⟩ ki_1 ?_
                refine c_mo_fails 1 M (n := 169) ⟨dX12_readsAll_166, rfl⟩ klX12_366 rfl (by decide) (Nat.le_of_ble_eq_true rfl) rfl rfl ?_
                cases hf
                exact y_ireturn (n := 170) ⟨dX12_readsAll_169, rfl⟩ rfl (bI_n _) hk
theorem wl_mo_readsAll_73 (x1 : Int32) (x2 : Int32) (x3 : Int32) (x4 : Int32) (M : dM) {Q : mz_P} {x : (Bool × dM)} (hf : l_mo_readsAll_73 x1 x2 x3 x4 M = some x) (hk : K_mo_readsAll_73 Q  M (.inr x)) : mW mX12_readsAll 6 Q 73 [some (.ref 66), some (.int x1), some (.int x2), some (.int x3), some (.int x4), none, none, none, none, none, none, none] [] M :=
  lpc_wp (Wh := fun s => mW mX12_readsAll 6 Q 73 [some (.ref 66), some (.int s.1), some (.int s.2.1), some (.int s.2.2.1), some (.int s.2.2.2.1), none, none, none, none, none, none, none] [] s.2.2.2.2) (K := K_mo_readsAll_73 Q  M) (fun _ h => h) (fun s o hb hk => w_b_mo_readsAll_73_73 s.1 s.2.1 s.2.2.1 s.2.2.2.1 s.2.2.2.2 hb hk) hf hk
theorem ok_mo_readsAll  (M : dM) {o : (Bool × dM)} (hf : f_mo_readsAll M = some o) : mO mX12_readsAll 6 [.ref 66] M (some (.int (bI o.1))) o.2 := by
  refine y_ok (by decide +kernel) (by decide) (L0 := [some (.ref 66), none, none, none, none, none, none, none, none, none, none, none]) rfl ?_
  have hk := mR_mQ (some (.int (bI o.1))) o.2
  generalize mQ _ _ = Q at hk ⊢
  unfold f_mo_readsAll at hf
  refine y_iconst (n := 1) (v := 0) ⟨dX12_readsAll_0, rfl⟩ ki_0 ?_
  refine y_istore_n (i := 1) (n := 2) (L2 := [some (.ref 66), some (.int 0), none, none, none, none, none, none, none, none, none, none]) ⟨dX12_readsAll_1, rfl⟩ (by decide) rfl rfl ?_
  refine y_iconst (n := 3) (v := 0) ⟨dX12_readsAll_2, rfl⟩ ki_0 ?_
  refine y_istore_n (i := 2) (n := 4) (L2 := [some (.ref 66), some (.int 0), some (.int 0), none, none, none, none, none, none, none, none, none]) ⟨dX12_readsAll_3, rfl⟩ (by decide) rfl rfl ?_
  refine y_iconst (n := 5) (v := 0) ⟨dX12_readsAll_4, rfl⟩ ki_0 ?_
  refine y_istore_n (i := 3) (n := 6) (L2 := [some (.ref 66), some (.int 0), some (.int 0), some (.int 0), none, none, none, none, none, none, none, none]) ⟨dX12_readsAll_5, rfl⟩ (by decide) rfl rfl ?_
  refine y_iconst (n := 7) (v := 0) ⟨dX12_readsAll_6, rfl⟩ ki_0 ?_
  refine y_istore (i := 4) (n := 9) (L2 := [some (.ref 66), some (.int 0), some (.int 0), some (.int 0), some (.int 0), none, none, none, none, none, none, none]) ⟨dX12_readsAll_7, rfl⟩ (by decide) rfl rfl ?_
  refine y_aload_n (i := 0) (n := 10) ⟨dX12_readsAll_9, rfl⟩ rfl ?_
  refine y_iconst (n := 11) (v := 3) ⟨dX12_readsAll_10, rfl⟩ ki_3 ?_
  refine y_putI (n := 14) ⟨dX12_readsAll_11, rfl⟩ kfX12_391 l_66 (by decide +kernel) rfl ?_
  refine y_aload_n (i := 0) (n := 15) ⟨dX12_readsAll_14, rfl⟩ rfl ?_
  refine y_bipush (n := 17) (v := 100) ⟨dX12_readsAll_15, rfl⟩ kb_100 ?_
  refine y_putI (n := 20) ⟨dX12_readsAll_17, rfl⟩ kfX12_394 l_66 (by decide +kernel) rfl ?_
  refine y_iconst (n := 21) (v := 0) ⟨dX12_readsAll_20, rfl⟩ ki_0 ?_
  refine y_istore (i := 5) (n := 23) (L2 := [some (.ref 66), some (.int 0), some (.int 0), some (.int 0), some (.int 0), some (.int 0), none, none, none, none, none, none]) ⟨dX12_readsAll_21, rfl⟩ (by decide) rfl rfl ?_
  obtain ⟨t2, hl3, hf⟩ := b_s hf
  refine y_wk ⟨Or.inr rfl, Or.inr rfl, Or.inr rfl, Or.inr rfl, Or.inr rfl, Or.inr rfl, Or.inr rfl, Or.inr rfl, Or.inr rfl, Or.inr rfl, Or.inr rfl, Or.inr rfl, trivial⟩ (wl_mo_readsAll_23 0 0 0 0 0 (sI (sI M 66 34 3) 66 35 100) hl3 ?_)
  show mW mX12_readsAll 6 Q 44 [some (.ref 66), some (.int 0), some (.int 0), some (.int 0), some (.int 0), none, none, none, none, none, none, none] [] t2
  refine y_aload_n (i := 0) (n := 45) ⟨dX12_readsAll_44, rfl⟩ rfl ?_
  refine y_sipush (n := 48) (v := 1000) ⟨dX12_readsAll_45, rfl⟩ ks_1000 ?_
  refine y_putI (n := 51) ⟨dX12_readsAll_48, rfl⟩ kfX12_290 l_66 (by decide +kernel) rfl ?_
  refine y_aload_n (i := 0) (n := 52) ⟨dX12_readsAll_51, rfl⟩ rfl ?_
  refine y_aload_n (i := 0) (n := 53) ⟨dX12_readsAll_52, rfl⟩ rfl ?_
  refine y_getI (n := 56) ⟨dX12_readsAll_53, rfl⟩ kfX12_258 l_66 rfl ?_
  refine y_putI (n := 59) ⟨dX12_readsAll_56, rfl⟩ kfX12_261 l_66 (by decide +kernel) rfl ?_
  refine y_aload_n (i := 0) (n := 60) ⟨dX12_readsAll_59, rfl⟩ rfl ?_
  refine y_iconst (n := 61) (v := 0) ⟨dX12_readsAll_60, rfl⟩ ki_0 ?_
  refine y_putI (n := 64) ⟨dX12_readsAll_61, rfl⟩ kfX12_258 l_66 (by decide +kernel) rfl ?_
  refine y_aload_n (i := 0) (n := 65) ⟨dX12_readsAll_64, rfl⟩ rfl ?_
  refine y_iconst (n := 66) (v := 0) ⟨dX12_readsAll_65, rfl⟩ ki_0 ?_
  refine y_putI (n := 69) ⟨dX12_readsAll_66, rfl⟩ kfX12_264 l_66 (by decide +kernel) rfl ?_
  refine y_aload_n (i := 0) (n := 70) ⟨dX12_readsAll_69, rfl⟩ rfl ?_
  obtain ⟨q5, hv6, hf⟩ := b_s hf
  refine c_mo_nextToken (sI (sI (sI (sI t2 66 37 1000) 66 19 (gI (sI t2 66 37 1000) 66 17)) 66 17 0) 66 20 0) (n := 73) ⟨dX12_readsAll_70, rfl⟩ klX12_373 hv6 (by decide) (Nat.le_of_ble_eq_true rfl) rfl rfl ?_
  obtain ⟨r20, hl19, hf⟩ := b_s hf
  cases hf
  exact y_wk ⟨Or.inr rfl, Or.inr rfl, Or.inr rfl, Or.inr rfl, Or.inr rfl, Or.inr rfl, Or.inr rfl, Or.inr rfl, Or.inr rfl, Or.inr rfl, Or.inr rfl, Or.inr rfl, trivial⟩ (wl_mo_readsAll_73 0 0 0 0 q5 hl19 hk)
theorem c_mo_readsAll  (M : dM) {o : (Bool × dM)} {y : mz_M} {d : Nat} {Q : mz_P} {pc n i : Nat} {L : List (Option Value)} {st : List Value} (h : mz_d y.2.1 pc n 3 (.invokevirtual i)) (hl : mz_ml y.1.cls i yX12_readsAll) (hf : f_mo_readsAll M = some o) (hd : 6 + 1 ≤ d) (hsm : (st.map (fun v => v.category)).sum ≤ 8) (hLr : mz_rL 133 L = true) (hSr : mz_rS 133 st = true) (kk : mW y d Q n L (.int (bI o.1) :: st) o.2) : mW y d Q pc L (.ref 66 :: st) M :=
  y_callV kmX12_readsAll kvX12_readsAll l_66 (by decide +kernel) (by decide +kernel) h hl (ok_mo_readsAll  M hf) (vs := []) rfl rfl hd hsm hLr hSr kk
def K_mo_law_19 (Q : mz_P)  (M : dM) : ((Int32 × dM) ⊕ dM) → Prop
  | .inl s => mW mX12_law 7 Q 19 [some (.ref 66), some (.int s.1)] [] s.2
  | .inr t => mW mX12_law 7 Q 75 [some (.ref 66), none] [] t
noncomputable def b_mo_law_19_19 (x1 : Int32) (M : dM) : Option ((Int32 × dM) ⊕ dM) :=
  if 21 ≤ x1 then
    some (.inr M)
  else
    gd (vp_in x1 21) <|
    some (.inl ((x1 + 1), (sI (sI (sI M 82 x1.toNatClampNeg (vp_nar .boolean (gI M 85 x1.toNatClampNeg))) 83 x1.toNatClampNeg ((gI (sI M 82 x1.toNatClampNeg (vp_nar .boolean (gI M 85 x1.toNatClampNeg))) 86 x1.toNatClampNeg) - 1000)) 84 x1.toNatClampNeg ((gI (sI (sI M 82 x1.toNatClampNeg (vp_nar .boolean (gI M 85 x1.toNatClampNeg))) 83 x1.toNatClampNeg ((gI (sI M 82 x1.toNatClampNeg (vp_nar .boolean (gI M 85 x1.toNatClampNeg))) 86 x1.toNatClampNeg) - 1000)) 87 x1.toNatClampNeg) - 1000))))
noncomputable def l_mo_law_19 (x1 : Int32) (M : dM) : Option dM := lpc (fun s => b_mo_law_19_19 s.1 s.2) (x1, M)
def K_mo_law_77 (Q : mz_P)  (M : dM) : ((Int32 × dM) ⊕ (Int32 × dM)) → Prop
  | .inl s => mW mX12_law 7 Q 77 [some (.ref 66), some (.int s.1)] [] s.2
  | .inr r => mR Q (some (.int r.1)) r.2
noncomputable def b_mo_law_77_77 (x1 : Int32) (M : dM) : Option ((Int32 × dM) ⊕ (Int32 × dM)) :=
  if 1000 ≤ x1 then
    some (.inr (0, (sI (sI M 66 32 (gI M 66 34)) 66 33 (gI (sI M 66 32 (gI M 66 34)) 66 35))))
  else
    gd (vp_in (1000 + x1) 2000) <|
    gd (vp_in x1 2000) <|
    some (.inl ((x1 + 1), (sI M 88 x1.toNatClampNeg (gI M 88 (1000 + x1).toNatClampNeg))))
noncomputable def l_mo_law_77 (x1 : Int32) (M : dM) : Option (Int32 × dM) := lpc (fun s => b_mo_law_77_77 s.1 s.2) (x1, M)
noncomputable def f_mo_law (M : dM) : Option (Int32 × dM) :=
  (f_mo_readsAll (sI M 66 0 0)).bind fun q1 =>
  if q1.1 = true then
    (l_mo_law_19 0 q1.2).bind fun t4 =>
      (l_mo_law_77 0 t4).bind fun r11 => some r11
  else
    some ((gI q1.2 66 25), q1.2)
theorem w_b_mo_law_19_19 (x1 : Int32) (M : dM) {Q : mz_P} {o : ((Int32 × dM) ⊕ dM)} (hf : b_mo_law_19_19 x1 M = some o) (hk : K_mo_law_19 Q  M o) : mW mX12_law 7 Q 19 [some (.ref 66), some (.int x1)] [] M := by
  unfold b_mo_law_19_19 at hf
  refine y_iload_n (i := 1) (n := 20) ⟨dX12_law_19, rfl⟩ rfl ?_
  refine y_bipush (n := 22) (v := 21) ⟨dX12_law_20, rfl⟩ kb_21 ?_
  refine y_icmp_ge (t := 75) (n := 25) ⟨dX12_law_22, rfl, rfl⟩ (fun (hc : 21 ≤ x1) => ?_) (fun (hc : ¬ (21 ≤ x1)) => ?_)
  · replace hf := i_t hc hf
    cases hf
    exact y_wk ⟨Or.inr rfl, Or.inl rfl, trivial⟩ hk
  · replace hf := i_f hc hf
    refine y_aload_n (i := 0) (n := 26) ⟨dX12_law_25, rfl⟩ rfl ?_
    refine y_getR (n := 29) ⟨dX12_law_26, rfl⟩ kfX12_55 l_66 rfl r_66_26 ?_
    refine y_iload_n (i := 1) (n := 30) ⟨dX12_law_29, rfl⟩ rfl ?_
    refine y_aload_n (i := 0) (n := 31) ⟨dX12_law_30, rfl⟩ rfl ?_
    refine y_getR (n := 34) ⟨dX12_law_31, rfl⟩ kfX12_65 l_66 rfl r_66_29 ?_
    refine y_iload_n (i := 1) (n := 35) ⟨dX12_law_34, rfl⟩ rfl ?_
    obtain ⟨hg3, hf⟩ := g_s hf
    refine y_baload (n := 36) ⟨dX12_law_35, rfl⟩ l_85 hg3 ?_
    refine y_bastore (x' := vp_nar .boolean (gI M 85 x1.toNatClampNeg)) (n := 37) ⟨dX12_law_36, rfl⟩ l_82 hg3 rfl ?_
    refine y_aload_n (i := 0) (n := 38) ⟨dX12_law_37, rfl⟩ rfl ?_
    refine y_getR (n := 41) ⟨dX12_law_38, rfl⟩ kfX12_59 l_66 rfl r_66_27 ?_
    refine y_iload_n (i := 1) (n := 42) ⟨dX12_law_41, rfl⟩ rfl ?_
    refine y_aload_n (i := 0) (n := 43) ⟨dX12_law_42, rfl⟩ rfl ?_
    refine y_getR (n := 46) ⟨dX12_law_43, rfl⟩ kfX12_68 l_66 rfl r_66_30 ?_
    refine y_iload_n (i := 1) (n := 47) ⟨dX12_law_46, rfl⟩ rfl ?_
    refine y_iaload (n := 48) ⟨dX12_law_47, rfl⟩ l_86 hg3 ?_
    refine y_sipush (n := 51) (v := 1000) ⟨dX12_law_48, rfl⟩ ks_1000 ?_
    refine y_isub (n := 52) ⟨dX12_law_51, rfl⟩ ?_
    refine y_iastore (n := 53) ⟨dX12_law_52, rfl⟩ l_83 hg3 ?_
    refine y_aload_n (i := 0) (n := 54) ⟨dX12_law_53, rfl⟩ rfl ?_
    refine y_getR (n := 57) ⟨dX12_law_54, rfl⟩ kfX12_62 l_66 rfl r_66_28 ?_
    refine y_iload_n (i := 1) (n := 58) ⟨dX12_law_57, rfl⟩ rfl ?_
    refine y_aload_n (i := 0) (n := 59) ⟨dX12_law_58, rfl⟩ rfl ?_
    refine y_getR (n := 62) ⟨dX12_law_59, rfl⟩ kfX12_71 l_66 rfl r_66_31 ?_
    refine y_iload_n (i := 1) (n := 63) ⟨dX12_law_62, rfl⟩ rfl ?_
    refine y_iaload (n := 64) ⟨dX12_law_63, rfl⟩ l_87 hg3 ?_
    refine y_sipush (n := 67) (v := 1000) ⟨dX12_law_64, rfl⟩ ks_1000 ?_
    refine y_isub (n := 68) ⟨dX12_law_67, rfl⟩ ?_
    refine y_iastore (n := 69) ⟨dX12_law_68, rfl⟩ l_84 hg3 ?_
    refine y_iinc (i := 1) (n := 72) (b := (x1 + 1)) (L2 := [some (.ref 66), some (.int (x1 + 1))]) ⟨dX12_law_69, rfl⟩ rfl (by rw [ki_1]) (by decide) rfl rfl ?_
    refine y_goto (t := 19) ⟨dX12_law_72, rfl, rfl⟩ ?_
    cases hf
    exact y_wk ⟨Or.inr rfl, Or.inr rfl, trivial⟩ hk
theorem wl_mo_law_19 (x1 : Int32) (M : dM) {Q : mz_P} {x : dM} (hf : l_mo_law_19 x1 M = some x) (hk : K_mo_law_19 Q  M (.inr x)) : mW mX12_law 7 Q 19 [some (.ref 66), some (.int x1)] [] M :=
  lpc_wp (Wh := fun s => mW mX12_law 7 Q 19 [some (.ref 66), some (.int s.1)] [] s.2) (K := K_mo_law_19 Q  M) (fun _ h => h) (fun s o hb hk => w_b_mo_law_19_19 s.1 s.2 hb hk) hf hk
theorem w_b_mo_law_77_77 (x1 : Int32) (M : dM) {Q : mz_P} {o : ((Int32 × dM) ⊕ (Int32 × dM))} (hf : b_mo_law_77_77 x1 M = some o) (hk : K_mo_law_77 Q  M o) : mW mX12_law 7 Q 77 [some (.ref 66), some (.int x1)] [] M := by
  unfold b_mo_law_77_77 at hf
  refine y_iload_n (i := 1) (n := 78) ⟨dX12_law_77, rfl⟩ rfl ?_
  refine y_sipush (n := 81) (v := 1000) ⟨dX12_law_78, rfl⟩ ks_1000 ?_
  refine y_icmp_ge (t := 106) (n := 84) ⟨dX12_law_81, rfl, rfl⟩ (fun (hc : 1000 ≤ x1) => ?_) (fun (hc : ¬ (1000 ≤ x1)) => ?_)
  · replace hf := i_t hc hf
    refine y_aload_n (i := 0) (n := 107) ⟨dX12_law_106, rfl⟩ rfl ?_
    refine y_aload_n (i := 0) (n := 108) ⟨dX12_law_107, rfl⟩ rfl ?_
    refine y_getI (n := 111) ⟨dX12_law_108, rfl⟩ kfX12_391 l_66 rfl ?_
    refine y_putI (n := 114) ⟨dX12_law_111, rfl⟩ kfX12_207 l_66 (by decide +kernel) rfl ?_
    refine y_aload_n (i := 0) (n := 115) ⟨dX12_law_114, rfl⟩ rfl ?_
    refine y_aload_n (i := 0) (n := 116) ⟨dX12_law_115, rfl⟩ rfl ?_
    refine y_getI (n := 119) ⟨dX12_law_116, rfl⟩ kfX12_394 l_66 rfl ?_
    refine y_putI (n := 122) ⟨dX12_law_119, rfl⟩ kfX12_211 l_66 (by decide +kernel) rfl ?_
    refine y_iconst (n := 123) (v := 0) ⟨dX12_law_122, rfl⟩ ki_0 ?_
    cases hf
    exact y_ireturn (n := 124) ⟨dX12_law_123, rfl⟩ rfl rfl hk
  · replace hf := i_f hc hf
    refine y_aload_n (i := 0) (n := 85) ⟨dX12_law_84, rfl⟩ rfl ?_
    refine y_getR (n := 88) ⟨dX12_law_85, rfl⟩ kfX12_74 l_66 rfl r_66_36 ?_
    refine y_iload_n (i := 1) (n := 89) ⟨dX12_law_88, rfl⟩ rfl ?_
    refine y_aload_n (i := 0) (n := 90) ⟨dX12_law_89, rfl⟩ rfl ?_
    refine y_getR (n := 93) ⟨dX12_law_90, rfl⟩ kfX12_74 l_66 rfl r_66_36 ?_
    refine y_sipush (n := 96) (v := 1000) ⟨dX12_law_93, rfl⟩ ks_1000 ?_
    refine y_iload_n (i := 1) (n := 97) ⟨dX12_law_96, rfl⟩ rfl ?_
    refine y_iadd (n := 98) ⟨dX12_law_97, rfl⟩ ?_
    obtain ⟨hg7, hf⟩ := g_s hf
    refine y_iaload (n := 99) ⟨dX12_law_98, rfl⟩ l_88 hg7 ?_
    obtain ⟨hg8, hf⟩ := g_s hf
    refine y_iastore (n := 100) ⟨dX12_law_99, rfl⟩ l_88 hg8 ?_
    refine y_iinc (i := 1) (n := 103) (b := (x1 + 1)) (L2 := [some (.ref 66), some (.int (x1 + 1))]) ⟨dX12_law_100, rfl⟩ rfl (by rw [ki_1]) (by decide) rfl rfl ?_
    refine y_goto (t := 77) ⟨dX12_law_103, rfl, rfl⟩ ?_
    cases hf
    exact y_wk ⟨Or.inr rfl, Or.inr rfl, trivial⟩ hk
theorem wl_mo_law_77 (x1 : Int32) (M : dM) {Q : mz_P} {x : (Int32 × dM)} (hf : l_mo_law_77 x1 M = some x) (hk : K_mo_law_77 Q  M (.inr x)) : mW mX12_law 7 Q 77 [some (.ref 66), some (.int x1)] [] M :=
  lpc_wp (Wh := fun s => mW mX12_law 7 Q 77 [some (.ref 66), some (.int s.1)] [] s.2) (K := K_mo_law_77 Q  M) (fun _ h => h) (fun s o hb hk => w_b_mo_law_77_77 s.1 s.2 hb hk) hf hk
theorem ok_mo_law  (M : dM) {o : (Int32 × dM)} (hf : f_mo_law M = some o) : mO mX12_law 7 [.ref 66] M (some (.int o.1)) o.2 := by
  refine y_ok (by decide +kernel) (by decide) (L0 := [some (.ref 66), none]) rfl ?_
  have hk := mR_mQ (some (.int o.1)) o.2
  generalize mQ _ _ = Q at hk ⊢
  unfold f_mo_law at hf
  refine y_aload_n (i := 0) (n := 1) ⟨dX12_law_0, rfl⟩ rfl ?_
  refine y_iconst (n := 2) (v := 0) ⟨dX12_law_1, rfl⟩ ki_0 ?_
  refine y_putI (n := 5) ⟨dX12_law_2, rfl⟩ kfX12_214 l_66 (by decide +kernel) rfl ?_
  refine y_aload_n (i := 0) (n := 6) ⟨dX12_law_5, rfl⟩ rfl ?_
  obtain ⟨q1, hv2, hf⟩ := b_s hf
  refine c_mo_readsAll (sI M 66 0 0) (n := 9) ⟨dX12_law_6, rfl⟩ klX12_417 hv2 (by decide) (Nat.le_of_ble_eq_true rfl) rfl rfl ?_
  refine y_if_ne (t := 17) (n := 12) ⟨dX12_law_9, rfl, rfl⟩ (fun h0 => ?_) (fun h0 => ?_)
  · have hc := bI_1 h0
    replace hf := i_t hc hf
    refine y_iconst (n := 18) (v := 0) ⟨dX12_law_17, rfl⟩ ki_0 ?_
    refine y_istore_n (i := 1) (n := 19) (L2 := [some (.ref 66), some (.int 0)]) ⟨dX12_law_18, rfl⟩ (by decide) rfl rfl ?_
    obtain ⟨t4, hl5, hf⟩ := b_s hf
    refine y_wk ⟨Or.inr rfl, Or.inr rfl, trivial⟩ (wl_mo_law_19 0 q1.2 hl5 ?_)
    show mW mX12_law 7 Q 75 [some (.ref 66), none] [] t4
    refine y_iconst (n := 76) (v := 0) ⟨dX12_law_75, rfl⟩ ki_0 ?_
    refine y_istore_n (i := 1) (n := 77) (L2 := [some (.ref 66), some (.int 0)]) ⟨dX12_law_76, rfl⟩ (by decide) rfl rfl ?_
    obtain ⟨r11, hl10, hf⟩ := b_s hf
    cases hf
    exact y_wk ⟨Or.inr rfl, Or.inr rfl, trivial⟩ (wl_mo_law_77 0 t4 hl10 hk)
  · have hc := bI_0 h0
    replace hf := i_f hc hf
    refine y_aload_n (i := 0) (n := 13) ⟨dX12_law_12, rfl⟩ rfl ?_
    refine y_getI (n := 16) ⟨dX12_law_13, rfl⟩ kfX12_287 l_66 rfl ?_
    cases hf
    exact y_ireturn (n := 17) ⟨dX12_law_16, rfl⟩ rfl rfl hk
theorem c_mo_law  (M : dM) {o : (Int32 × dM)} {y : mz_M} {d : Nat} {Q : mz_P} {pc n i : Nat} {L : List (Option Value)} {st : List Value} (h : mz_d y.2.1 pc n 3 (.invokevirtual i)) (hl : mz_ml y.1.cls i yX12_law) (hf : f_mo_law M = some o) (hd : 7 + 1 ≤ d) (hsm : (st.map (fun v => v.category)).sum ≤ 8) (hLr : mz_rL 133 L = true) (hSr : mz_rS 133 st = true) (kk : mW y d Q n L (.int o.1 :: st) o.2) : mW y d Q pc L (.ref 66 :: st) M :=
  y_callV kmX12_law kvX12_law l_66 (by decide +kernel) (by decide +kernel) h hl (ok_mo_law  M hf) (vs := []) rfl rfl hd hsm hLr hSr kk
def K_mo_lays_2 (Q : mz_P) (x1 : Int32) (M : dM) : ((Int32 × dM) ⊕ dM) → Prop
  | .inl s => mW mX12_lays 3 Q 2 [some (.ref 66), some (.int x1), some (.int s.1)] [] s.2
  | .inr r => mR Q none r
noncomputable def b_mo_lays_2_2 (x1 : Int32) (x2 : Int32) (M : dM) : Option ((Int32 × dM) ⊕ dM) :=
  if 17 ≤ x2 then
    some (.inr M)
  else
    (f_mo_factOf x1 x2 M).bind fun v1 =>
    gd (vp_in (1 + x2) 20) <|
    some (.inl ((x2 + 1), (sI M 100 (1 + x2).toNatClampNeg v1)))
noncomputable def l_mo_lays_2 (x1 : Int32) (x2 : Int32) (M : dM) : Option dM := lpc (fun s => b_mo_lays_2_2 x1 s.1 s.2) (x2, M)
noncomputable def f_mo_lays (a1 : Int32) (M : dM) : Option dM :=
  (l_mo_lays_2 a1 0 M).bind fun r6 => some r6
theorem w_b_mo_lays_2_2 (x1 : Int32) (x2 : Int32) (M : dM) {Q : mz_P} {o : ((Int32 × dM) ⊕ dM)} (hf : b_mo_lays_2_2 x1 x2 M = some o) (hk : K_mo_lays_2 Q x1 M o) : mW mX12_lays 3 Q 2 [some (.ref 66), some (.int x1), some (.int x2)] [] M := by
  unfold b_mo_lays_2_2 at hf
  refine y_iload_n (i := 2) (n := 3) ⟨dX12_lays_2, rfl⟩ rfl ?_
  refine y_bipush (n := 5) (v := 17) ⟨dX12_lays_3, rfl⟩ kb_17 ?_
  refine y_icmp_ge (t := 28) (n := 8) ⟨dX12_lays_5, rfl, rfl⟩ (fun (hc : 17 ≤ x2) => ?_) (fun (hc : ¬ (17 ≤ x2)) => ?_)
  · replace hf := i_t hc hf
    cases hf
    exact y_return (n := 29) ⟨dX12_lays_28, rfl⟩ rfl hk
  · replace hf := i_f hc hf
    refine y_aload_n (i := 0) (n := 9) ⟨dX12_lays_8, rfl⟩ rfl ?_
    refine y_getR (n := 12) ⟨dX12_lays_9, rfl⟩ kfX12_110 l_66 rfl r_66_50 ?_
    refine y_iconst (n := 13) (v := 1) ⟨dX12_lays_12, rfl⟩ ki_1 ?_
    refine y_iload_n (i := 2) (n := 14) ⟨dX12_lays_13, rfl⟩ rfl ?_
    refine y_iadd (n := 15) ⟨dX12_lays_14, rfl⟩ ?_
    refine y_aload_n (i := 0) (n := 16) ⟨dX12_lays_15, rfl⟩ rfl ?_
    refine y_iload_n (i := 1) (n := 17) ⟨dX12_lays_16, rfl⟩ rfl ?_
    refine y_iload_n (i := 2) (n := 18) ⟨dX12_lays_17, rfl⟩ rfl ?_
    obtain ⟨v1, hv2, hf⟩ := b_s hf
    refine c_mo_factOf x1 x2 M (n := 21) ⟨dX12_lays_18, rfl⟩ klX12_252 hv2 (by decide) (Nat.le_of_ble_eq_true rfl) rfl rfl ?_
    obtain ⟨hg3, hf⟩ := g_s hf
    refine y_iastore (n := 22) ⟨dX12_lays_21, rfl⟩ l_100 hg3 ?_
    refine y_iinc (i := 2) (n := 25) (b := (x2 + 1)) (L2 := [some (.ref 66), some (.int x1), some (.int (x2 + 1))]) ⟨dX12_lays_22, rfl⟩ rfl (by rw [ki_1]) (by decide) rfl rfl ?_
    refine y_goto (t := 2) ⟨dX12_lays_25, rfl, rfl⟩ ?_
    cases hf
    exact y_wk ⟨Or.inr rfl, Or.inr rfl, Or.inr rfl, trivial⟩ hk
theorem wl_mo_lays_2 (x1 : Int32) (x2 : Int32) (M : dM) {Q : mz_P} {x : dM} (hf : l_mo_lays_2 x1 x2 M = some x) (hk : K_mo_lays_2 Q x1 M (.inr x)) : mW mX12_lays 3 Q 2 [some (.ref 66), some (.int x1), some (.int x2)] [] M :=
  lpc_wp (Wh := fun s => mW mX12_lays 3 Q 2 [some (.ref 66), some (.int x1), some (.int s.1)] [] s.2) (K := K_mo_lays_2 Q x1 M) (fun _ h => h) (fun s o hb hk => w_b_mo_lays_2_2 x1 s.1 s.2 hb hk) hf hk
theorem ok_mo_lays (a1 : Int32) (M : dM) {o : dM} (hf : f_mo_lays a1 M = some o) : mO mX12_lays 3 [.ref 66, .int a1] M none o := by
  refine y_ok (by decide +kernel) (by decide) (L0 := [some (.ref 66), some (.int a1), none]) rfl ?_
  have hk := mR_mQ none o
  generalize mQ _ _ = Q at hk ⊢
  unfold f_mo_lays at hf
  refine y_iconst (n := 1) (v := 0) ⟨dX12_lays_0, rfl⟩ ki_0 ?_
  refine y_istore_n (i := 2) (n := 2) (L2 := [some (.ref 66), some (.int a1), some (.int 0)]) ⟨dX12_lays_1, rfl⟩ (by decide) rfl rfl ?_
  obtain ⟨r6, hl5, hf⟩ := b_s hf
  cases hf
  exact y_wk ⟨Or.inr rfl, Or.inr rfl, Or.inr rfl, trivial⟩ (wl_mo_lays_2 a1 0 M hl5 hk)
theorem c_mo_lays (a1 : Int32) (M : dM) {o : dM} {y : mz_M} {d : Nat} {Q : mz_P} {pc n i : Nat} {L : List (Option Value)} {st : List Value} (h : mz_d y.2.1 pc n 3 (.invokevirtual i)) (hl : mz_ml y.1.cls i yX12_lays) (hf : f_mo_lays a1 M = some o) (hd : 3 + 1 ≤ d) (hsm : (st.map (fun v => v.category)).sum ≤ 8) (hLr : mz_rL 133 L = true) (hSr : mz_rS 133 st = true) (kk : mW y d Q n L st o) : mW y d Q pc L (.int a1 :: .ref 66 :: st) M :=
  y_callV kmX12_lays kvX12_lays l_66 (by decide +kernel) (by decide +kernel) h hl (ok_mo_lays a1 M hf) (vs := [.int a1]) rfl rfl hd hsm hLr hSr kk
noncomputable def f_mo_opens (a1 : Int32) (M : dM) : Option dM :=
  gd (vp_in a1 7) <|
  some (sI (sI (sI (sI (sI M 92 a1.toNatClampNeg 0) 94 a1.toNatClampNeg 0) 95 a1.toNatClampNeg 0) 96 a1.toNatClampNeg 20) 98 a1.toNatClampNeg 0)
theorem ok_mo_opens (a1 : Int32) (M : dM) {o : dM} (hf : f_mo_opens a1 M = some o) : mO mX12_opens 1 [.ref 66, .int a1] M none o := by
  refine y_ok (by decide +kernel) (by decide) (L0 := [some (.ref 66), some (.int a1)]) rfl ?_
  have hk := mR_mQ none o
  generalize mQ _ _ = Q at hk ⊢
  unfold f_mo_opens at hf
  refine y_aload_n (i := 0) (n := 1) ⟨dX12_opens_0, rfl⟩ rfl ?_
  refine y_getR (n := 4) ⟨dX12_opens_1, rfl⟩ kfX12_86 l_66 rfl r_66_42 ?_
  refine y_iload_n (i := 1) (n := 5) ⟨dX12_opens_4, rfl⟩ rfl ?_
  refine y_iconst (n := 6) (v := 0) ⟨dX12_opens_5, rfl⟩ ki_0 ?_
  obtain ⟨hg1, hf⟩ := g_s hf
  refine y_iastore (n := 7) ⟨dX12_opens_6, rfl⟩ l_92 hg1 ?_
  refine y_aload_n (i := 0) (n := 8) ⟨dX12_opens_7, rfl⟩ rfl ?_
  refine y_getR (n := 11) ⟨dX12_opens_8, rfl⟩ kfX12_92 l_66 rfl r_66_44 ?_
  refine y_iload_n (i := 1) (n := 12) ⟨dX12_opens_11, rfl⟩ rfl ?_
  refine y_iconst (n := 13) (v := 0) ⟨dX12_opens_12, rfl⟩ ki_0 ?_
  refine y_iastore (n := 14) ⟨dX12_opens_13, rfl⟩ l_94 hg1 ?_
  refine y_aload_n (i := 0) (n := 15) ⟨dX12_opens_14, rfl⟩ rfl ?_
  refine y_getR (n := 18) ⟨dX12_opens_15, rfl⟩ kfX12_95 l_66 rfl r_66_45 ?_
  refine y_iload_n (i := 1) (n := 19) ⟨dX12_opens_18, rfl⟩ rfl ?_
  refine y_iconst (n := 20) (v := 0) ⟨dX12_opens_19, rfl⟩ ki_0 ?_
  refine y_iastore (n := 21) ⟨dX12_opens_20, rfl⟩ l_95 hg1 ?_
  refine y_aload_n (i := 0) (n := 22) ⟨dX12_opens_21, rfl⟩ rfl ?_
  refine y_getR (n := 25) ⟨dX12_opens_22, rfl⟩ kfX12_98 l_66 rfl r_66_46 ?_
  refine y_iload_n (i := 1) (n := 26) ⟨dX12_opens_25, rfl⟩ rfl ?_
  refine y_bipush (n := 28) (v := 20) ⟨dX12_opens_26, rfl⟩ kb_20 ?_
  refine y_iastore (n := 29) ⟨dX12_opens_28, rfl⟩ l_96 hg1 ?_
  refine y_aload_n (i := 0) (n := 30) ⟨dX12_opens_29, rfl⟩ rfl ?_
  refine y_getR (n := 33) ⟨dX12_opens_30, rfl⟩ kfX12_104 l_66 rfl r_66_48 ?_
  refine y_iload_n (i := 1) (n := 34) ⟨dX12_opens_33, rfl⟩ rfl ?_
  refine y_iconst (n := 35) (v := 0) ⟨dX12_opens_34, rfl⟩ ki_0 ?_
  refine y_iastore (n := 36) ⟨dX12_opens_35, rfl⟩ l_98 hg1 ?_
  cases hf
  exact y_return (n := 37) ⟨dX12_opens_36, rfl⟩ rfl hk
theorem c_mo_opens (a1 : Int32) (M : dM) {o : dM} {y : mz_M} {d : Nat} {Q : mz_P} {pc n i : Nat} {L : List (Option Value)} {st : List Value} (h : mz_d y.2.1 pc n 3 (.invokevirtual i)) (hl : mz_ml y.1.cls i yX12_opens) (hf : f_mo_opens a1 M = some o) (hd : 1 + 1 ≤ d) (hsm : (st.map (fun v => v.category)).sum ≤ 8) (hLr : mz_rL 133 L = true) (hSr : mz_rS 133 st = true) (kk : mW y d Q n L st o) : mW y d Q pc L (.int a1 :: .ref 66 :: st) M :=
  y_callV kmX12_opens kvX12_opens l_66 (by decide +kernel) (by decide +kernel) h hl (ok_mo_opens a1 M hf) (vs := [.int a1]) rfl rfl hd hsm hLr hSr kk
noncomputable def t_mo_sums_45 (x1 : Int32) (y1 : Int32) (y2 : Int32) (M : dM) : Option dM :=
  gd (vp_in y1 7) <|
  gd (vp_in x1 7) <|
  some (sI (sI M 95 y1.toNatClampNeg y2) 98 x1.toNatClampNeg 0)
noncomputable def f_mo_sums (a1 : Int32) (M : dM) : Option dM :=
  gd (vp_in a1 7) <|
  if (gI M 96 a1.toNatClampNeg) = 21 then
    t_mo_sums_45 a1 a1 ((gI M 95 a1.toNatClampNeg) - (gI M 97 a1.toNatClampNeg)) M
  else
    t_mo_sums_45 a1 a1 ((gI M 95 a1.toNatClampNeg) + (gI M 97 a1.toNatClampNeg)) M
theorem w_t_mo_sums_45 (x1 : Int32) (y1 : Int32) (y2 : Int32) (M : dM) {Q : mz_P} {o : dM} (hf : t_mo_sums_45 x1 y1 y2 M = some o) (hk : mR Q none o) : mW mX12_sums 1 Q 45 [some (.ref 66), some (.int x1)] [.ref 95, .int y1, .int y2] M := by
  unfold t_mo_sums_45 at hf
  obtain ⟨hg2, hf⟩ := g_s hf
  refine y_iastore (n := 46) ⟨dX12_sums_45, rfl⟩ l_95 hg2 ?_
  refine y_aload_n (i := 0) (n := 47) ⟨dX12_sums_46, rfl⟩ rfl ?_
  refine y_getR (n := 50) ⟨dX12_sums_47, rfl⟩ kfX12_104 l_66 rfl r_66_48 ?_
  refine y_iload_n (i := 1) (n := 51) ⟨dX12_sums_50, rfl⟩ rfl ?_
  refine y_iconst (n := 52) (v := 0) ⟨dX12_sums_51, rfl⟩ ki_0 ?_
  obtain ⟨hg3, hf⟩ := g_s hf
  refine y_iastore (n := 53) ⟨dX12_sums_52, rfl⟩ l_98 hg3 ?_
  cases hf
  exact y_return (n := 54) ⟨dX12_sums_53, rfl⟩ rfl hk
theorem ok_mo_sums (a1 : Int32) (M : dM) {o : dM} (hf : f_mo_sums a1 M = some o) : mO mX12_sums 1 [.ref 66, .int a1] M none o := by
  refine y_ok (by decide +kernel) (by decide) (L0 := [some (.ref 66), some (.int a1)]) rfl ?_
  have hk := mR_mQ none o
  generalize mQ _ _ = Q at hk ⊢
  unfold f_mo_sums at hf
  refine y_aload_n (i := 0) (n := 1) ⟨dX12_sums_0, rfl⟩ rfl ?_
  refine y_getR (n := 4) ⟨dX12_sums_1, rfl⟩ kfX12_95 l_66 rfl r_66_45 ?_
  refine y_iload_n (i := 1) (n := 5) ⟨dX12_sums_4, rfl⟩ rfl ?_
  refine y_aload_n (i := 0) (n := 6) ⟨dX12_sums_5, rfl⟩ rfl ?_
  refine y_getR (n := 9) ⟨dX12_sums_6, rfl⟩ kfX12_98 l_66 rfl r_66_46 ?_
  refine y_iload_n (i := 1) (n := 10) ⟨dX12_sums_9, rfl⟩ rfl ?_
  obtain ⟨hg1, hf⟩ := g_s hf
  refine y_iaload (n := 11) ⟨dX12_sums_10, rfl⟩ l_96 hg1 ?_
  refine y_bipush (n := 13) (v := 21) ⟨dX12_sums_11, rfl⟩ kb_21 ?_
  refine y_icmp_ne (t := 32) (n := 16) ⟨dX12_sums_13, rfl, rfl⟩ (fun (hc : ¬ ((gI M 96 a1.toNatClampNeg) = 21)) => ?_) (fun (hc : (gI M 96 a1.toNatClampNeg) = 21) => ?_)
  · replace hf := i_f hc hf
    refine y_aload_n (i := 0) (n := 33) ⟨dX12_sums_32, rfl⟩ rfl ?_
    refine y_getR (n := 36) ⟨dX12_sums_33, rfl⟩ kfX12_95 l_66 rfl r_66_45 ?_
    refine y_iload_n (i := 1) (n := 37) ⟨dX12_sums_36, rfl⟩ rfl ?_
    refine y_iaload (n := 38) ⟨dX12_sums_37, rfl⟩ l_95 hg1 ?_
    refine y_aload_n (i := 0) (n := 39) ⟨dX12_sums_38, rfl⟩ rfl ?_
    refine y_getR (n := 42) ⟨dX12_sums_39, rfl⟩ kfX12_101 l_66 rfl r_66_47 ?_
    refine y_iload_n (i := 1) (n := 43) ⟨dX12_sums_42, rfl⟩ rfl ?_
    refine y_iaload (n := 44) ⟨dX12_sums_43, rfl⟩ l_97 hg1 ?_
    refine y_iadd (n := 45) ⟨dX12_sums_44, rfl⟩ ?_
    exact y_wk ⟨Or.inr rfl, Or.inr rfl, trivial⟩ (w_t_mo_sums_45 a1 a1 ((gI M 95 a1.toNatClampNeg) + (gI M 97 a1.toNatClampNeg)) M hf hk)
  · replace hf := i_t hc hf
    refine y_aload_n (i := 0) (n := 17) ⟨dX12_sums_16, rfl⟩ rfl ?_
    refine y_getR (n := 20) ⟨dX12_sums_17, rfl⟩ kfX12_95 l_66 rfl r_66_45 ?_
    refine y_iload_n (i := 1) (n := 21) ⟨dX12_sums_20, rfl⟩ rfl ?_
    refine y_iaload (n := 22) ⟨dX12_sums_21, rfl⟩ l_95 hg1 ?_
    refine y_aload_n (i := 0) (n := 23) ⟨dX12_sums_22, rfl⟩ rfl ?_
    refine y_getR (n := 26) ⟨dX12_sums_23, rfl⟩ kfX12_101 l_66 rfl r_66_47 ?_
    refine y_iload_n (i := 1) (n := 27) ⟨dX12_sums_26, rfl⟩ rfl ?_
    refine y_iaload (n := 28) ⟨dX12_sums_27, rfl⟩ l_97 hg1 ?_
    refine y_isub (n := 29) ⟨dX12_sums_28, rfl⟩ ?_
    refine y_goto (t := 45) ⟨dX12_sums_29, rfl, rfl⟩ ?_
    exact y_wk ⟨Or.inr rfl, Or.inr rfl, trivial⟩ (w_t_mo_sums_45 a1 a1 ((gI M 95 a1.toNatClampNeg) - (gI M 97 a1.toNatClampNeg)) M hf hk)
theorem c_mo_sums (a1 : Int32) (M : dM) {o : dM} {y : mz_M} {d : Nat} {Q : mz_P} {pc n i : Nat} {L : List (Option Value)} {st : List Value} (h : mz_d y.2.1 pc n 3 (.invokevirtual i)) (hl : mz_ml y.1.cls i yX12_sums) (hf : f_mo_sums a1 M = some o) (hd : 1 + 1 ≤ d) (hsm : (st.map (fun v => v.category)).sum ≤ 8) (hLr : mz_rL 133 L = true) (hSr : mz_rS 133 st = true) (kk : mW y d Q n L st o) : mW y d Q pc L (.int a1 :: .ref 66 :: st) M :=
  y_callV kmX12_sums kvX12_sums l_66 (by decide +kernel) (by decide +kernel) h hl (ok_mo_sums a1 M hf) (vs := [.int a1]) rfl rfl hd hsm hLr hSr kk
noncomputable def t_mo_tests_136 (x1 : Int32) (x2 : Int32) (M : dM) : Option dM :=
  gd (vp_in x1 7) <|
  some (sI (sI (sI (sI M 91 x1.toNatClampNeg x2) 94 x1.toNatClampNeg 0) 95 x1.toNatClampNeg 0) 96 x1.toNatClampNeg 20)
noncomputable def t_mo_tests_135 (x1 : Int32) (y0 : Int32) (M : dM) : Option dM :=
  t_mo_tests_136 x1 y0 M
noncomputable def t_mo_tests_130 (x1 : Int32) (M : dM) : Option dM :=
  t_mo_tests_135 x1 1 M
noncomputable def t_mo_tests_106 (x1 : Int32) (x2 : Int32) (M : dM) : Option dM :=
  gd (vp_in x1 7) <|
  if (gI M 92 x1.toNatClampNeg) = 27 then
    if (gI M 91 x1.toNatClampNeg) = 0 then
      if x2 = 0 then
        t_mo_tests_135 x1 0 M
      else
        t_mo_tests_130 x1 M
    else
      t_mo_tests_130 x1 M
  else
    t_mo_tests_136 x1 x2 M
noncomputable def t_mo_tests_105 (x1 : Int32) (y0 : Int32) (M : dM) : Option dM :=
  t_mo_tests_106 x1 y0 M
noncomputable def t_mo_tests_104 (x1 : Int32) (M : dM) : Option dM :=
  t_mo_tests_105 x1 0 M
noncomputable def t_mo_tests_76 (x1 : Int32) (x2 : Int32) (M : dM) : Option dM :=
  gd (vp_in x1 7) <|
  if (gI M 92 x1.toNatClampNeg) = 26 then
    if (gI M 91 x1.toNatClampNeg) = 0 then
      t_mo_tests_104 x1 M
    else
      if x2 = 0 then
        t_mo_tests_104 x1 M
      else
        t_mo_tests_105 x1 1 M
  else
    t_mo_tests_106 x1 x2 M
noncomputable def t_mo_tests_75 (x1 : Int32) (y0 : Int32) (M : dM) : Option dM :=
  t_mo_tests_76 x1 y0 M
noncomputable def t_mo_tests_44 (x1 : Int32) (x2 : Int32) (M : dM) : Option dM :=
  gd (vp_in x1 7) <|
  if (gI M 94 x1.toNatClampNeg) = 25 then
    if (gI M 93 x1.toNatClampNeg) = (gI M 95 x1.toNatClampNeg) then
      t_mo_tests_75 x1 1 M
    else
      t_mo_tests_75 x1 0 M
  else
    t_mo_tests_76 x1 x2 M
noncomputable def t_mo_tests_43 (x1 : Int32) (y0 : Int32) (M : dM) : Option dM :=
  t_mo_tests_44 x1 y0 M
noncomputable def f_mo_tests (a1 : Int32) (M : dM) : Option dM :=
  (f_mo_sums a1 M).bind fun q1 =>
  gd (vp_in a1 7) <|
  if (gI q1 94 a1.toNatClampNeg) = 24 then
    if (gI q1 95 a1.toNatClampNeg) ≤ (gI q1 93 a1.toNatClampNeg) then
      t_mo_tests_43 a1 0 q1
    else
      t_mo_tests_43 a1 1 q1
  else
    t_mo_tests_44 a1 (gI q1 95 a1.toNatClampNeg) q1
theorem w_t_mo_tests_136 (x1 : Int32) (x2 : Int32) (M : dM) {Q : mz_P} {o : dM} (hf : t_mo_tests_136 x1 x2 M = some o) (hk : mR Q none o) : mW mX12_tests 2 Q 136 [some (.ref 66), some (.int x1), some (.int x2)] [] M := by
  unfold t_mo_tests_136 at hf
  refine y_aload_n (i := 0) (n := 137) ⟨dX12_tests_136, rfl⟩ rfl ?_
  refine y_getR (n := 140) ⟨dX12_tests_137, rfl⟩ kfX12_83 l_66 rfl r_66_41 ?_
  refine y_iload_n (i := 1) (n := 141) ⟨dX12_tests_140, rfl⟩ rfl ?_
  refine y_iload_n (i := 2) (n := 142) ⟨dX12_tests_141, rfl⟩ rfl ?_
  obtain ⟨hg7, hf⟩ := g_s hf
  refine y_iastore (n := 143) ⟨dX12_tests_142, rfl⟩ l_91 hg7 ?_
  refine y_aload_n (i := 0) (n := 144) ⟨dX12_tests_143, rfl⟩ rfl ?_
  refine y_getR (n := 147) ⟨dX12_tests_144, rfl⟩ kfX12_92 l_66 rfl r_66_44 ?_
  refine y_iload_n (i := 1) (n := 148) ⟨dX12_tests_147, rfl⟩ rfl ?_
  refine y_iconst (n := 149) (v := 0) ⟨dX12_tests_148, rfl⟩ ki_0 ?_
  refine y_iastore (n := 150) ⟨dX12_tests_149, rfl⟩ l_94 hg7 ?_
  refine y_aload_n (i := 0) (n := 151) ⟨dX12_tests_150, rfl⟩ rfl ?_
  refine y_getR (n := 154) ⟨dX12_tests_151, rfl⟩ kfX12_95 l_66 rfl r_66_45 ?_
  refine y_iload_n (i := 1) (n := 155) ⟨dX12_tests_154, rfl⟩ rfl ?_
  refine y_iconst (n := 156) (v := 0) ⟨dX12_tests_155, rfl⟩ ki_0 ?_
  refine y_iastore (n := 157) ⟨dX12_tests_156, rfl⟩ l_95 hg7 ?_
  refine y_aload_n (i := 0) (n := 158) ⟨dX12_tests_157, rfl⟩ rfl ?_
  refine y_getR (n := 161) ⟨dX12_tests_158, rfl⟩ kfX12_98 l_66 rfl r_66_46 ?_
  refine y_iload_n (i := 1) (n := 162) ⟨dX12_tests_161, rfl⟩ rfl ?_
  refine y_bipush (n := 164) (v := 20) ⟨dX12_tests_162, rfl⟩ kb_20 ?_
  refine y_iastore (n := 165) ⟨dX12_tests_164, rfl⟩ l_96 hg7 ?_
  cases hf
  exact y_return (n := 166) ⟨dX12_tests_165, rfl⟩ rfl hk
theorem w_t_mo_tests_135 (x1 : Int32) (y0 : Int32) (M : dM) {Q : mz_P} {o : dM} (hf : t_mo_tests_135 x1 y0 M = some o) (hk : mR Q none o) : mW mX12_tests 2 Q 135 [some (.ref 66), some (.int x1), none] [.int y0] M := by
  unfold t_mo_tests_135 at hf
  refine y_istore_n (i := 2) (n := 136) (L2 := [some (.ref 66), some (.int x1), some (.int y0)]) ⟨dX12_tests_135, rfl⟩ (by decide) rfl rfl ?_
  exact y_wk ⟨Or.inr rfl, Or.inr rfl, Or.inr rfl, trivial⟩ (w_t_mo_tests_136 x1 y0 M hf hk)
theorem w_t_mo_tests_130 (x1 : Int32) (M : dM) {Q : mz_P} {o : dM} (hf : t_mo_tests_130 x1 M = some o) (hk : mR Q none o) : mW mX12_tests 2 Q 130 [some (.ref 66), some (.int x1), none] [] M := by
  unfold t_mo_tests_130 at hf
  refine y_iconst (n := 131) (v := 1) ⟨dX12_tests_130, rfl⟩ ki_1 ?_
  refine y_goto (t := 135) ⟨dX12_tests_131, rfl, rfl⟩ ?_
  exact y_wk ⟨Or.inr rfl, Or.inr rfl, Or.inr rfl, trivial⟩ (w_t_mo_tests_135 x1 1 M hf hk)
theorem w_t_mo_tests_106 (x1 : Int32) (x2 : Int32) (M : dM) {Q : mz_P} {o : dM} (hf : t_mo_tests_106 x1 x2 M = some o) (hk : mR Q none o) : mW mX12_tests 2 Q 106 [some (.ref 66), some (.int x1), some (.int x2)] [] M := by
  unfold t_mo_tests_106 at hf
  refine y_aload_n (i := 0) (n := 107) ⟨dX12_tests_106, rfl⟩ rfl ?_
  refine y_getR (n := 110) ⟨dX12_tests_107, rfl⟩ kfX12_86 l_66 rfl r_66_42 ?_
  refine y_iload_n (i := 1) (n := 111) ⟨dX12_tests_110, rfl⟩ rfl ?_
  obtain ⟨hg6, hf⟩ := g_s hf
  refine y_iaload (n := 112) ⟨dX12_tests_111, rfl⟩ l_92 hg6 ?_
  refine y_bipush (n := 114) (v := 27) ⟨dX12_tests_112, rfl⟩ kb_27 ?_
  refine y_icmp_ne (t := 136) (n := 117) ⟨dX12_tests_114, rfl, rfl⟩ (fun (hc : ¬ ((gI M 92 x1.toNatClampNeg) = 27)) => ?_) (fun (hc : (gI M 92 x1.toNatClampNeg) = 27) => ?_)
  · replace hf := i_f hc hf
    exact y_wk ⟨Or.inr rfl, Or.inr rfl, Or.inr rfl, trivial⟩ (w_t_mo_tests_136 x1 x2 M hf hk)
  · replace hf := i_t hc hf
    refine y_aload_n (i := 0) (n := 118) ⟨dX12_tests_117, rfl⟩ rfl ?_
    refine y_getR (n := 121) ⟨dX12_tests_118, rfl⟩ kfX12_83 l_66 rfl r_66_41 ?_
    refine y_iload_n (i := 1) (n := 122) ⟨dX12_tests_121, rfl⟩ rfl ?_
    refine y_iaload (n := 123) ⟨dX12_tests_122, rfl⟩ l_91 hg6 ?_
    refine y_if_ne (t := 130) (n := 126) ⟨dX12_tests_123, rfl, rfl⟩ (fun (hc : ¬ ((gI M 91 x1.toNatClampNeg) = 0)) => ?_) (fun (hc : (gI M 91 x1.toNatClampNeg) = 0) => ?_)
    · replace hf := i_f hc hf
      exact y_wk ⟨Or.inr rfl, Or.inr rfl, Or.inl rfl, trivial⟩ (w_t_mo_tests_130 x1 M hf hk)
    · replace hf := i_t hc hf
      refine y_iload_n (i := 2) (n := 127) ⟨dX12_tests_126, rfl⟩ rfl ?_
      refine y_if_eq (t := 134) (n := 130) ⟨dX12_tests_127, rfl, rfl⟩ (fun (hc : x2 = 0) => ?_) (fun (hc : ¬ (x2 = 0)) => ?_)
      · replace hf := i_t hc hf
        refine y_iconst (n := 135) (v := 0) ⟨dX12_tests_134, rfl⟩ ki_0 ?_
        exact y_wk ⟨Or.inr rfl, Or.inr rfl, Or.inl rfl, trivial⟩ (w_t_mo_tests_135 x1 0 M hf hk)
      · replace hf := i_f hc hf
        exact y_wk ⟨Or.inr rfl, Or.inr rfl, Or.inl rfl, trivial⟩ (w_t_mo_tests_130 x1 M hf hk)
theorem w_t_mo_tests_105 (x1 : Int32) (y0 : Int32) (M : dM) {Q : mz_P} {o : dM} (hf : t_mo_tests_105 x1 y0 M = some o) (hk : mR Q none o) : mW mX12_tests 2 Q 105 [some (.ref 66), some (.int x1), none] [.int y0] M := by
  unfold t_mo_tests_105 at hf
  refine y_istore_n (i := 2) (n := 106) (L2 := [some (.ref 66), some (.int x1), some (.int y0)]) ⟨dX12_tests_105, rfl⟩ (by decide) rfl rfl ?_
  exact y_wk ⟨Or.inr rfl, Or.inr rfl, Or.inr rfl, trivial⟩ (w_t_mo_tests_106 x1 y0 M hf hk)
theorem w_t_mo_tests_104 (x1 : Int32) (M : dM) {Q : mz_P} {o : dM} (hf : t_mo_tests_104 x1 M = some o) (hk : mR Q none o) : mW mX12_tests 2 Q 104 [some (.ref 66), some (.int x1), none] [] M := by
  unfold t_mo_tests_104 at hf
  refine y_iconst (n := 105) (v := 0) ⟨dX12_tests_104, rfl⟩ ki_0 ?_
  exact y_wk ⟨Or.inr rfl, Or.inr rfl, Or.inr rfl, trivial⟩ (w_t_mo_tests_105 x1 0 M hf hk)
theorem w_t_mo_tests_76 (x1 : Int32) (x2 : Int32) (M : dM) {Q : mz_P} {o : dM} (hf : t_mo_tests_76 x1 x2 M = some o) (hk : mR Q none o) : mW mX12_tests 2 Q 76 [some (.ref 66), some (.int x1), some (.int x2)] [] M := by
  unfold t_mo_tests_76 at hf
  refine y_aload_n (i := 0) (n := 77) ⟨dX12_tests_76, rfl⟩ rfl ?_
  refine y_getR (n := 80) ⟨dX12_tests_77, rfl⟩ kfX12_86 l_66 rfl r_66_42 ?_
  refine y_iload_n (i := 1) (n := 81) ⟨dX12_tests_80, rfl⟩ rfl ?_
  obtain ⟨hg5, hf⟩ := g_s hf
  refine y_iaload (n := 82) ⟨dX12_tests_81, rfl⟩ l_92 hg5 ?_
  refine y_bipush (n := 84) (v := 26) ⟨dX12_tests_82, rfl⟩ kb_26 ?_
  refine y_icmp_ne (t := 106) (n := 87) ⟨dX12_tests_84, rfl, rfl⟩ (fun (hc : ¬ ((gI M 92 x1.toNatClampNeg) = 26)) => ?_) (fun (hc : (gI M 92 x1.toNatClampNeg) = 26) => ?_)
  · replace hf := i_f hc hf
    exact y_wk ⟨Or.inr rfl, Or.inr rfl, Or.inr rfl, trivial⟩ (w_t_mo_tests_106 x1 x2 M hf hk)
  · replace hf := i_t hc hf
    refine y_aload_n (i := 0) (n := 88) ⟨dX12_tests_87, rfl⟩ rfl ?_
    refine y_getR (n := 91) ⟨dX12_tests_88, rfl⟩ kfX12_83 l_66 rfl r_66_41 ?_
    refine y_iload_n (i := 1) (n := 92) ⟨dX12_tests_91, rfl⟩ rfl ?_
    refine y_iaload (n := 93) ⟨dX12_tests_92, rfl⟩ l_91 hg5 ?_
    refine y_if_eq (t := 104) (n := 96) ⟨dX12_tests_93, rfl, rfl⟩ (fun (hc : (gI M 91 x1.toNatClampNeg) = 0) => ?_) (fun (hc : ¬ ((gI M 91 x1.toNatClampNeg) = 0)) => ?_)
    · replace hf := i_t hc hf
      exact y_wk ⟨Or.inr rfl, Or.inr rfl, Or.inl rfl, trivial⟩ (w_t_mo_tests_104 x1 M hf hk)
    · replace hf := i_f hc hf
      refine y_iload_n (i := 2) (n := 97) ⟨dX12_tests_96, rfl⟩ rfl ?_
      refine y_if_eq (t := 104) (n := 100) ⟨dX12_tests_97, rfl, rfl⟩ (fun (hc : x2 = 0) => ?_) (fun (hc : ¬ (x2 = 0)) => ?_)
      · replace hf := i_t hc hf
        exact y_wk ⟨Or.inr rfl, Or.inr rfl, Or.inl rfl, trivial⟩ (w_t_mo_tests_104 x1 M hf hk)
      · replace hf := i_f hc hf
        refine y_iconst (n := 101) (v := 1) ⟨dX12_tests_100, rfl⟩ ki_1 ?_
        refine y_goto (t := 105) ⟨dX12_tests_101, rfl, rfl⟩ ?_
        exact y_wk ⟨Or.inr rfl, Or.inr rfl, Or.inl rfl, trivial⟩ (w_t_mo_tests_105 x1 1 M hf hk)
theorem w_t_mo_tests_75 (x1 : Int32) (y0 : Int32) (M : dM) {Q : mz_P} {o : dM} (hf : t_mo_tests_75 x1 y0 M = some o) (hk : mR Q none o) : mW mX12_tests 2 Q 75 [some (.ref 66), some (.int x1), none] [.int y0] M := by
  unfold t_mo_tests_75 at hf
  refine y_istore_n (i := 2) (n := 76) (L2 := [some (.ref 66), some (.int x1), some (.int y0)]) ⟨dX12_tests_75, rfl⟩ (by decide) rfl rfl ?_
  exact y_wk ⟨Or.inr rfl, Or.inr rfl, Or.inr rfl, trivial⟩ (w_t_mo_tests_76 x1 y0 M hf hk)
theorem w_t_mo_tests_44 (x1 : Int32) (x2 : Int32) (M : dM) {Q : mz_P} {o : dM} (hf : t_mo_tests_44 x1 x2 M = some o) (hk : mR Q none o) : mW mX12_tests 2 Q 44 [some (.ref 66), some (.int x1), some (.int x2)] [] M := by
  unfold t_mo_tests_44 at hf
  refine y_aload_n (i := 0) (n := 45) ⟨dX12_tests_44, rfl⟩ rfl ?_
  refine y_getR (n := 48) ⟨dX12_tests_45, rfl⟩ kfX12_92 l_66 rfl r_66_44 ?_
  refine y_iload_n (i := 1) (n := 49) ⟨dX12_tests_48, rfl⟩ rfl ?_
  obtain ⟨hg4, hf⟩ := g_s hf
  refine y_iaload (n := 50) ⟨dX12_tests_49, rfl⟩ l_94 hg4 ?_
  refine y_bipush (n := 52) (v := 25) ⟨dX12_tests_50, rfl⟩ kb_25 ?_
  refine y_icmp_ne (t := 76) (n := 55) ⟨dX12_tests_52, rfl, rfl⟩ (fun (hc : ¬ ((gI M 94 x1.toNatClampNeg) = 25)) => ?_) (fun (hc : (gI M 94 x1.toNatClampNeg) = 25) => ?_)
  · replace hf := i_f hc hf
    exact y_wk ⟨Or.inr rfl, Or.inr rfl, Or.inr rfl, trivial⟩ (w_t_mo_tests_76 x1 x2 M hf hk)
  · replace hf := i_t hc hf
    refine y_aload_n (i := 0) (n := 56) ⟨dX12_tests_55, rfl⟩ rfl ?_
    refine y_getR (n := 59) ⟨dX12_tests_56, rfl⟩ kfX12_89 l_66 rfl r_66_43 ?_
    refine y_iload_n (i := 1) (n := 60) ⟨dX12_tests_59, rfl⟩ rfl ?_
    refine y_iaload (n := 61) ⟨dX12_tests_60, rfl⟩ l_93 hg4 ?_
    refine y_aload_n (i := 0) (n := 62) ⟨dX12_tests_61, rfl⟩ rfl ?_
    refine y_getR (n := 65) ⟨dX12_tests_62, rfl⟩ kfX12_95 l_66 rfl r_66_45 ?_
    refine y_iload_n (i := 1) (n := 66) ⟨dX12_tests_65, rfl⟩ rfl ?_
    refine y_iaload (n := 67) ⟨dX12_tests_66, rfl⟩ l_95 hg4 ?_
    refine y_icmp_ne (t := 74) (n := 70) ⟨dX12_tests_67, rfl, rfl⟩ (fun (hc : ¬ ((gI M 93 x1.toNatClampNeg) = (gI M 95 x1.toNatClampNeg))) => ?_) (fun (hc : (gI M 93 x1.toNatClampNeg) = (gI M 95 x1.toNatClampNeg)) => ?_)
    · replace hf := i_f hc hf
      refine y_iconst (n := 75) (v := 0) ⟨dX12_tests_74, rfl⟩ ki_0 ?_
      exact y_wk ⟨Or.inr rfl, Or.inr rfl, Or.inl rfl, trivial⟩ (w_t_mo_tests_75 x1 0 M hf hk)
    · replace hf := i_t hc hf
      refine y_iconst (n := 71) (v := 1) ⟨dX12_tests_70, rfl⟩ ki_1 ?_
      refine y_goto (t := 75) ⟨dX12_tests_71, rfl, rfl⟩ ?_
      exact y_wk ⟨Or.inr rfl, Or.inr rfl, Or.inl rfl, trivial⟩ (w_t_mo_tests_75 x1 1 M hf hk)
theorem w_t_mo_tests_43 (x1 : Int32) (y0 : Int32) (M : dM) {Q : mz_P} {o : dM} (hf : t_mo_tests_43 x1 y0 M = some o) (hk : mR Q none o) : mW mX12_tests 2 Q 43 [some (.ref 66), some (.int x1), none] [.int y0] M := by
  unfold t_mo_tests_43 at hf
  refine y_istore_n (i := 2) (n := 44) (L2 := [some (.ref 66), some (.int x1), some (.int y0)]) ⟨dX12_tests_43, rfl⟩ (by decide) rfl rfl ?_
  exact y_wk ⟨Or.inr rfl, Or.inr rfl, Or.inr rfl, trivial⟩ (w_t_mo_tests_44 x1 y0 M hf hk)
theorem ok_mo_tests (a1 : Int32) (M : dM) {o : dM} (hf : f_mo_tests a1 M = some o) : mO mX12_tests 2 [.ref 66, .int a1] M none o := by
  refine y_ok (by decide +kernel) (by decide) (L0 := [some (.ref 66), some (.int a1), none]) rfl ?_
  have hk := mR_mQ none o
  generalize mQ _ _ = Q at hk ⊢
  unfold f_mo_tests at hf
  refine y_aload_n (i := 0) (n := 1) ⟨dX12_tests_0, rfl⟩ rfl ?_
  refine y_iload_n (i := 1) (n := 2) ⟨dX12_tests_1, rfl⟩ rfl ?_
  obtain ⟨q1, hv2, hf⟩ := b_s hf
  refine c_mo_sums a1 M (n := 5) ⟨dX12_tests_2, rfl⟩ klX12_420 hv2 (by decide) (Nat.le_of_ble_eq_true rfl) rfl rfl ?_
  refine y_aload_n (i := 0) (n := 6) ⟨dX12_tests_5, rfl⟩ rfl ?_
  refine y_getR (n := 9) ⟨dX12_tests_6, rfl⟩ kfX12_95 l_66 rfl r_66_45 ?_
  refine y_iload_n (i := 1) (n := 10) ⟨dX12_tests_9, rfl⟩ rfl ?_
  obtain ⟨hg3, hf⟩ := g_s hf
  refine y_iaload (n := 11) ⟨dX12_tests_10, rfl⟩ l_95 hg3 ?_
  refine y_istore_n (i := 2) (n := 12) (L2 := [some (.ref 66), some (.int a1), some (.int (gI q1 95 a1.toNatClampNeg))]) ⟨dX12_tests_11, rfl⟩ (by decide) rfl rfl ?_
  refine y_aload_n (i := 0) (n := 13) ⟨dX12_tests_12, rfl⟩ rfl ?_
  refine y_getR (n := 16) ⟨dX12_tests_13, rfl⟩ kfX12_92 l_66 rfl r_66_44 ?_
  refine y_iload_n (i := 1) (n := 17) ⟨dX12_tests_16, rfl⟩ rfl ?_
  refine y_iaload (n := 18) ⟨dX12_tests_17, rfl⟩ l_94 hg3 ?_
  refine y_bipush (n := 20) (v := 24) ⟨dX12_tests_18, rfl⟩ kb_24 ?_
  refine y_icmp_ne (t := 44) (n := 23) ⟨dX12_tests_20, rfl, rfl⟩ (fun (hc : ¬ ((gI q1 94 a1.toNatClampNeg) = 24)) => ?_) (fun (hc : (gI q1 94 a1.toNatClampNeg) = 24) => ?_)
  · replace hf := i_f hc hf
    exact y_wk ⟨Or.inr rfl, Or.inr rfl, Or.inr rfl, trivial⟩ (w_t_mo_tests_44 a1 (gI q1 95 a1.toNatClampNeg) q1 hf hk)
  · replace hf := i_t hc hf
    refine y_aload_n (i := 0) (n := 24) ⟨dX12_tests_23, rfl⟩ rfl ?_
    refine y_getR (n := 27) ⟨dX12_tests_24, rfl⟩ kfX12_89 l_66 rfl r_66_43 ?_
    refine y_iload_n (i := 1) (n := 28) ⟨dX12_tests_27, rfl⟩ rfl ?_
    refine y_iaload (n := 29) ⟨dX12_tests_28, rfl⟩ l_93 hg3 ?_
    refine y_aload_n (i := 0) (n := 30) ⟨dX12_tests_29, rfl⟩ rfl ?_
    refine y_getR (n := 33) ⟨dX12_tests_30, rfl⟩ kfX12_95 l_66 rfl r_66_45 ?_
    refine y_iload_n (i := 1) (n := 34) ⟨dX12_tests_33, rfl⟩ rfl ?_
    refine y_iaload (n := 35) ⟨dX12_tests_34, rfl⟩ l_95 hg3 ?_
    refine y_icmp_ge (t := 42) (n := 38) ⟨dX12_tests_35, rfl, rfl⟩ (fun (hc : (gI q1 95 a1.toNatClampNeg) ≤ (gI q1 93 a1.toNatClampNeg)) => ?_) (fun (hc : ¬ ((gI q1 95 a1.toNatClampNeg) ≤ (gI q1 93 a1.toNatClampNeg))) => ?_)
    · replace hf := i_t hc hf
      refine y_iconst (n := 43) (v := 0) ⟨dX12_tests_42, rfl⟩ ki_0 ?_
      exact y_wk ⟨Or.inr rfl, Or.inr rfl, Or.inl rfl, trivial⟩ (w_t_mo_tests_43 a1 0 q1 hf hk)
    · replace hf := i_f hc hf
      refine y_iconst (n := 39) (v := 1) ⟨dX12_tests_38, rfl⟩ ki_1 ?_
      refine y_goto (t := 43) ⟨dX12_tests_39, rfl, rfl⟩ ?_
      exact y_wk ⟨Or.inr rfl, Or.inr rfl, Or.inl rfl, trivial⟩ (w_t_mo_tests_43 a1 1 q1 hf hk)
theorem c_mo_tests (a1 : Int32) (M : dM) {o : dM} {y : mz_M} {d : Nat} {Q : mz_P} {pc n i : Nat} {L : List (Option Value)} {st : List Value} (h : mz_d y.2.1 pc n 3 (.invokevirtual i)) (hl : mz_ml y.1.cls i yX12_tests) (hf : f_mo_tests a1 M = some o) (hd : 2 + 1 ≤ d) (hsm : (st.map (fun v => v.category)).sum ≤ 8) (hLr : mz_rL 133 L = true) (hSr : mz_rS 133 st = true) (kk : mW y d Q n L st o) : mW y d Q pc L (.int a1 :: .ref 66 :: st) M :=
  y_callV kmX12_tests kvX12_tests l_66 (by decide +kernel) (by decide +kernel) h hl (ok_mo_tests a1 M hf) (vs := [.int a1]) rfl rfl hd hsm hLr hSr kk
def K_mo_worth_14 (Q : mz_P) (x1 : Int32) (M : dM) : ((Int32 × Int32 × dM) ⊕ (Int32 × dM)) → Prop
  | .inl s => mW mX12_worth 3 Q 14 [some (.ref 66), some (.int x1), some (.int s.1), some (.int s.2.1), none, none] [] s.2.2
  | .inr r => mR Q (some (.int r.1)) r.2
noncomputable def b_mo_worth_14_66 (x1 : Int32) (x2 : Int32) (x3 : Int32) (y1 : Int32) (y2 : Int32) (M : dM) : Option ((Int32 × Int32 × dM) ⊕ (Int32 × dM)) :=
  gd (vp_in y1 7) <|
  (f_mo_opens x2 (sI M 99 y1.toNatClampNeg y2)).bind fun q9 =>
  some (.inl (x2, (x3 + 1), q9))
noncomputable def b_mo_worth_14_46 (x1 : Int32) (x2 : Int32) (x3 : Int32) (x4 : Int32) (M : dM) : Option ((Int32 × Int32 × dM) ⊕ (Int32 × dM)) :=
  if x4 = 30 then
    b_mo_worth_14_66 x1 (x2 + 1) x3 (x2 + 1) 1 M
  else
    b_mo_worth_14_66 x1 (x2 + 1) x3 (x2 + 1) 0 M
noncomputable def b_mo_worth_14_89 (x1 : Int32) (x2 : Int32) (x3 : Int32) (x4 : Int32) (M : dM) : Option ((Int32 × Int32 × dM) ⊕ (Int32 × dM)) :=
  (f_mo_sums x2 M).bind fun q11 =>
  gd (vp_in x2 7) <|
  some (.inl (x2, (x3 + 1), (sI q11 96 x2.toNatClampNeg x4)))
noncomputable def b_mo_worth_14_137 (x1 : Int32) (x2 : Int32) (x3 : Int32) (x4 : Int32) (M : dM) : Option ((Int32 × Int32 × dM) ⊕ (Int32 × dM)) :=
  (f_mo_sums x2 M).bind fun q14 =>
  gd (vp_in x2 7) <|
  some (.inl (x2, (x3 + 1), (sI (sI (sI (sI q14 93 x2.toNatClampNeg (gI q14 95 x2.toNatClampNeg)) 94 x2.toNatClampNeg x4) 95 x2.toNatClampNeg 0) 96 x2.toNatClampNeg 20)))
noncomputable def b_mo_worth_14_194 (x1 : Int32) (x2 : Int32) (x3 : Int32) (x4 : Int32) (M : dM) : Option ((Int32 × Int32 × dM) ⊕ (Int32 × dM)) :=
  (f_mo_tests x2 M).bind fun q17 =>
  gd (vp_in x2 7) <|
  some (.inl (x2, (x3 + 1), (sI q17 92 x2.toNatClampNeg x4)))
def K_mo_worth_268 (Q : mz_P) (x1 : Int32) (x3 : Int32) (M : dM) : ((Int32 × Int32) ⊕ (Int32 × Int32)) → Prop
  | .inl s => mW mX12_worth 3 Q 268 [some (.ref 66), some (.int x1), some (.int s.1), some (.int x3), none, some (.int s.2)] [] M
  | .inr t => mW mX12_worth 3 Q 300 [some (.ref 66), some (.int x1), some (.int t.1), some (.int x3), none, some (.int t.2)] [] M
noncomputable def b_mo_worth_268_268 (x1 : Int32) (x2 : Int32) (x3 : Int32) (x5 : Int32) (M : dM) : Option ((Int32 × Int32) ⊕ (Int32 × Int32)) :=
  if x2 ≤ 0 then
    some (.inr (x2, x5))
  else
    gd (vp_in x2 7) <|
    if (gI M 99 x2.toNatClampNeg) = 1 then
      if x5 = 0 then
        some (.inl ((x2 + (-1)), 1))
      else
        some (.inl ((x2 + (-1)), 0))
    else
      some (.inr (x2, x5))
noncomputable def l_mo_worth_268 (x1 : Int32) (x2 : Int32) (x3 : Int32) (x5 : Int32) (M : dM) : Option (Int32 × Int32) := lpc (fun s => b_mo_worth_268_268 x1 s.1 x3 s.2 M) (x2, x5)
noncomputable def b_mo_worth_14_328 (x1 : Int32) (x2 : Int32) (x3 : Int32) (y1 : Int32) (y2 : Int32) (M : dM) : Option ((Int32 × Int32 × dM) ⊕ (Int32 × dM)) :=
  gd (vp_in y1 7) <|
  some (.inl (x2, (x3 + 1), (sI M 97 y1.toNatClampNeg y2)))
noncomputable def b_mo_worth_14_300 (x1 : Int32) (x2 : Int32) (x3 : Int32) (x5 : Int32) (M : dM) : Option ((Int32 × Int32 × dM) ⊕ (Int32 × dM)) :=
  gd (vp_in x2 7) <|
  if (gI M 98 x2.toNatClampNeg) = 0 then
    b_mo_worth_14_328 x1 x2 x3 x2 x5 M
  else
    b_mo_worth_14_328 x1 x2 x3 x2 ((gI M 97 x2.toNatClampNeg) * x5) M
noncomputable def b_mo_worth_14_243 (x1 : Int32) (x2 : Int32) (x3 : Int32) (x4 : Int32) (y0 : Int32) (M : dM) : Option ((Int32 × Int32 × dM) ⊕ (Int32 × dM)) :=
  if x4 = 29 then
    (f_mo_tests x2 M).bind fun q26 =>
    gd (vp_in x2 7) <|
    (l_mo_worth_268 x1 (x2 + (-1)) x3 (gI q26 91 x2.toNatClampNeg) q26).bind fun t29 =>
      b_mo_worth_14_300 x1 t29.1 x3 t29.2 q26
  else
    (l_mo_worth_268 x1 x2 x3 y0 M).bind fun t21 =>
      b_mo_worth_14_300 x1 t21.1 x3 t21.2 M
noncomputable def b_mo_worth_14_14 (x1 : Int32) (x2 : Int32) (x3 : Int32) (M : dM) : Option ((Int32 × Int32 × dM) ⊕ (Int32 × dM)) :=
  gd (vp_in x1 21) <|
  if (gI M 84 x1.toNatClampNeg) ≤ x3 then
    (f_mo_tests 0 M).bind fun q5 =>
    some (.inr ((gI q5 91 0), q5))
  else
    gd (vp_in x3 2000) <|
    if (gI M 88 x3.toNatClampNeg) = 28 then
      b_mo_worth_14_46 x1 x2 x3 (gI M 88 x3.toNatClampNeg) M
    else
      if (gI M 88 x3.toNatClampNeg) = 30 then
        b_mo_worth_14_46 x1 x2 x3 (gI M 88 x3.toNatClampNeg) M
      else
        if (gI M 88 x3.toNatClampNeg) = 20 then
          b_mo_worth_14_89 x1 x2 x3 (gI M 88 x3.toNatClampNeg) M
        else
          if (gI M 88 x3.toNatClampNeg) = 21 then
            b_mo_worth_14_89 x1 x2 x3 (gI M 88 x3.toNatClampNeg) M
          else
            if (gI M 88 x3.toNatClampNeg) = 22 then
              gd (vp_in x2 7) <|
              some (.inl (x2, (x3 + 1), (sI M 98 x2.toNatClampNeg (gI M 88 x3.toNatClampNeg))))
            else
              if (gI M 88 x3.toNatClampNeg) = 24 then
                b_mo_worth_14_137 x1 x2 x3 (gI M 88 x3.toNatClampNeg) M
              else
                if (gI M 88 x3.toNatClampNeg) = 25 then
                  b_mo_worth_14_137 x1 x2 x3 (gI M 88 x3.toNatClampNeg) M
                else
                  if (gI M 88 x3.toNatClampNeg) = 26 then
                    b_mo_worth_14_194 x1 x2 x3 (gI M 88 x3.toNatClampNeg) M
                  else
                    if (gI M 88 x3.toNatClampNeg) = 27 then
                      b_mo_worth_14_194 x1 x2 x3 (gI M 88 x3.toNatClampNeg) M
                    else
                      if (gI M 88 x3.toNatClampNeg) < 100 then
                        if 20 ≤ (gI M 88 x3.toNatClampNeg) then
                          b_mo_worth_14_243 x1 x2 x3 (gI M 88 x3.toNatClampNeg) 0 M
                        else
                          gd (vp_in (gI M 88 x3.toNatClampNeg) 20) <|
                          b_mo_worth_14_243 x1 x2 x3 (gI M 88 x3.toNatClampNeg) (gI M 100 (gI M 88 x3.toNatClampNeg).toNatClampNeg) M
                      else
                        b_mo_worth_14_243 x1 x2 x3 (gI M 88 x3.toNatClampNeg) ((gI M 88 x3.toNatClampNeg) - 100) M
noncomputable def l_mo_worth_14 (x1 : Int32) (x2 : Int32) (x3 : Int32) (M : dM) : Option (Int32 × dM) := lpc (fun s => b_mo_worth_14_14 x1 s.1 s.2.1 s.2.2) (x2, x3, M)
noncomputable def f_mo_worth (a1 : Int32) (M : dM) : Option (Int32 × dM) :=
  (f_mo_opens 0 M).bind fun q1 =>
  gd (vp_in a1 21) <|
  (l_mo_worth_14 a1 0 (gI q1 83 a1.toNatClampNeg) q1).bind fun r36 => some r36
theorem w_b_mo_worth_14_66 (x1 : Int32) (x2 : Int32) (x3 : Int32) (y1 : Int32) (y2 : Int32) (M : dM) {Q : mz_P} {o : ((Int32 × Int32 × dM) ⊕ (Int32 × dM))} (hf : b_mo_worth_14_66 x1 x2 x3 y1 y2 M = some o) (hk : K_mo_worth_14 Q x1 M o) : mW mX12_worth 3 Q 66 [some (.ref 66), some (.int x1), some (.int x2), some (.int x3), none, none] [.ref 99, .int y1, .int y2] M := by
  unfold b_mo_worth_14_66 at hf
  obtain ⟨hg8, hf⟩ := g_s hf
  refine y_iastore (n := 67) ⟨dX12_worth_66, rfl⟩ l_99 hg8 ?_
  refine y_aload_n (i := 0) (n := 68) ⟨dX12_worth_67, rfl⟩ rfl ?_
  refine y_iload_n (i := 2) (n := 69) ⟨dX12_worth_68, rfl⟩ rfl ?_
  obtain ⟨q9, hv10, hf⟩ := b_s hf
  refine c_mo_opens x2 (sI M 99 y1.toNatClampNeg y2) (n := 72) ⟨dX12_worth_69, rfl⟩ klX12_423 hv10 (by decide) (Nat.le_of_ble_eq_true rfl) rfl rfl ?_
  refine y_goto (t := 329) ⟨dX12_worth_72, rfl, rfl⟩ ?_
  refine y_iinc (i := 3) (n := 332) (b := (x3 + 1)) (L2 := [some (.ref 66), some (.int x1), some (.int x2), some (.int (x3 + 1)), none, none]) ⟨dX12_worth_329, rfl⟩ rfl (by rw [ki_1]) (by decide) rfl rfl ?_
  refine y_goto (t := 14) ⟨dX12_worth_332, rfl, rfl⟩ ?_
  cases hf
  exact y_wk ⟨Or.inr rfl, Or.inr rfl, Or.inr rfl, Or.inr rfl, Or.inr rfl, Or.inr rfl, trivial⟩ hk
theorem w_b_mo_worth_14_46 (x1 : Int32) (x2 : Int32) (x3 : Int32) (x4 : Int32) (M : dM) {Q : mz_P} {o : ((Int32 × Int32 × dM) ⊕ (Int32 × dM))} (hf : b_mo_worth_14_46 x1 x2 x3 x4 M = some o) (hk : K_mo_worth_14 Q x1 M o) : mW mX12_worth 3 Q 46 [some (.ref 66), some (.int x1), some (.int x2), some (.int x3), some (.int x4), none] [] M := by
  unfold b_mo_worth_14_46 at hf
  refine y_iinc (i := 2) (n := 49) (b := (x2 + 1)) (L2 := [some (.ref 66), some (.int x1), some (.int (x2 + 1)), some (.int x3), some (.int x4), none]) ⟨dX12_worth_46, rfl⟩ rfl (by rw [ki_1]) (by decide) rfl rfl ?_
  refine y_aload_n (i := 0) (n := 50) ⟨dX12_worth_49, rfl⟩ rfl ?_
  refine y_getR (n := 53) ⟨dX12_worth_50, rfl⟩ kfX12_107 l_66 rfl r_66_49 ?_
  refine y_iload_n (i := 2) (n := 54) ⟨dX12_worth_53, rfl⟩ rfl ?_
  refine y_iload (i := 4) (n := 56) ⟨dX12_worth_54, rfl⟩ rfl ?_
  refine y_bipush (n := 58) (v := 30) ⟨dX12_worth_56, rfl⟩ kb_30 ?_
  refine y_icmp_ne (t := 65) (n := 61) ⟨dX12_worth_58, rfl, rfl⟩ (fun (hc : ¬ (x4 = 30)) => ?_) (fun (hc : x4 = 30) => ?_)
  · replace hf := i_f hc hf
    refine y_iconst (n := 66) (v := 0) ⟨dX12_worth_65, rfl⟩ ki_0 ?_
    exact y_wk ⟨Or.inr rfl, Or.inr rfl, Or.inr rfl, Or.inr rfl, Or.inl rfl, Or.inr rfl, trivial⟩ (w_b_mo_worth_14_66 x1 (x2 + 1) x3 (x2 + 1) 0 M hf hk)
  · replace hf := i_t hc hf
    refine y_iconst (n := 62) (v := 1) ⟨dX12_worth_61, rfl⟩ ki_1 ?_
    refine y_goto (t := 66) ⟨dX12_worth_62, rfl, rfl⟩ ?_
    exact y_wk ⟨Or.inr rfl, Or.inr rfl, Or.inr rfl, Or.inr rfl, Or.inl rfl, Or.inr rfl, trivial⟩ (w_b_mo_worth_14_66 x1 (x2 + 1) x3 (x2 + 1) 1 M hf hk)
theorem w_b_mo_worth_14_89 (x1 : Int32) (x2 : Int32) (x3 : Int32) (x4 : Int32) (M : dM) {Q : mz_P} {o : ((Int32 × Int32 × dM) ⊕ (Int32 × dM))} (hf : b_mo_worth_14_89 x1 x2 x3 x4 M = some o) (hk : K_mo_worth_14 Q x1 M o) : mW mX12_worth 3 Q 89 [some (.ref 66), some (.int x1), some (.int x2), some (.int x3), some (.int x4), none] [] M := by
  unfold b_mo_worth_14_89 at hf
  refine y_aload_n (i := 0) (n := 90) ⟨dX12_worth_89, rfl⟩ rfl ?_
  refine y_iload_n (i := 2) (n := 91) ⟨dX12_worth_90, rfl⟩ rfl ?_
  obtain ⟨q11, hv12, hf⟩ := b_s hf
  refine c_mo_sums x2 M (n := 94) ⟨dX12_worth_91, rfl⟩ klX12_420 hv12 (by decide) (Nat.le_of_ble_eq_true rfl) rfl rfl ?_
  refine y_aload_n (i := 0) (n := 95) ⟨dX12_worth_94, rfl⟩ rfl ?_
  refine y_getR (n := 98) ⟨dX12_worth_95, rfl⟩ kfX12_98 l_66 rfl r_66_46 ?_
  refine y_iload_n (i := 2) (n := 99) ⟨dX12_worth_98, rfl⟩ rfl ?_
  refine y_iload (i := 4) (n := 101) ⟨dX12_worth_99, rfl⟩ rfl ?_
  obtain ⟨hg13, hf⟩ := g_s hf
  refine y_iastore (n := 102) ⟨dX12_worth_101, rfl⟩ l_96 hg13 ?_
  refine y_goto (t := 329) ⟨dX12_worth_102, rfl, rfl⟩ ?_
  refine y_iinc (i := 3) (n := 332) (b := (x3 + 1)) (L2 := [some (.ref 66), some (.int x1), some (.int x2), some (.int (x3 + 1)), some (.int x4), none]) ⟨dX12_worth_329, rfl⟩ rfl (by rw [ki_1]) (by decide) rfl rfl ?_
  refine y_goto (t := 14) ⟨dX12_worth_332, rfl, rfl⟩ ?_
  cases hf
  exact y_wk ⟨Or.inr rfl, Or.inr rfl, Or.inr rfl, Or.inr rfl, Or.inl rfl, Or.inr rfl, trivial⟩ hk
theorem w_b_mo_worth_14_137 (x1 : Int32) (x2 : Int32) (x3 : Int32) (x4 : Int32) (M : dM) {Q : mz_P} {o : ((Int32 × Int32 × dM) ⊕ (Int32 × dM))} (hf : b_mo_worth_14_137 x1 x2 x3 x4 M = some o) (hk : K_mo_worth_14 Q x1 M o) : mW mX12_worth 3 Q 137 [some (.ref 66), some (.int x1), some (.int x2), some (.int x3), some (.int x4), none] [] M := by
  unfold b_mo_worth_14_137 at hf
  refine y_aload_n (i := 0) (n := 138) ⟨dX12_worth_137, rfl⟩ rfl ?_
  refine y_iload_n (i := 2) (n := 139) ⟨dX12_worth_138, rfl⟩ rfl ?_
  obtain ⟨q14, hv15, hf⟩ := b_s hf
  refine c_mo_sums x2 M (n := 142) ⟨dX12_worth_139, rfl⟩ klX12_420 hv15 (by decide) (Nat.le_of_ble_eq_true rfl) rfl rfl ?_
  refine y_aload_n (i := 0) (n := 143) ⟨dX12_worth_142, rfl⟩ rfl ?_
  refine y_getR (n := 146) ⟨dX12_worth_143, rfl⟩ kfX12_89 l_66 rfl r_66_43 ?_
  refine y_iload_n (i := 2) (n := 147) ⟨dX12_worth_146, rfl⟩ rfl ?_
  refine y_aload_n (i := 0) (n := 148) ⟨dX12_worth_147, rfl⟩ rfl ?_
  refine y_getR (n := 151) ⟨dX12_worth_148, rfl⟩ kfX12_95 l_66 rfl r_66_45 ?_
  refine y_iload_n (i := 2) (n := 152) ⟨dX12_worth_151, rfl⟩ rfl ?_
  obtain ⟨hg16, hf⟩ := g_s hf
  refine y_iaload (n := 153) ⟨dX12_worth_152, rfl⟩ l_95 hg16 ?_
  refine y_iastore (n := 154) ⟨dX12_worth_153, rfl⟩ l_93 hg16 ?_
  refine y_aload_n (i := 0) (n := 155) ⟨dX12_worth_154, rfl⟩ rfl ?_
  refine y_getR (n := 158) ⟨dX12_worth_155, rfl⟩ kfX12_92 l_66 rfl r_66_44 ?_
  refine y_iload_n (i := 2) (n := 159) ⟨dX12_worth_158, rfl⟩ rfl ?_
  refine y_iload (i := 4) (n := 161) ⟨dX12_worth_159, rfl⟩ rfl ?_
  refine y_iastore (n := 162) ⟨dX12_worth_161, rfl⟩ l_94 hg16 ?_
  refine y_aload_n (i := 0) (n := 163) ⟨dX12_worth_162, rfl⟩ rfl ?_
  refine y_getR (n := 166) ⟨dX12_worth_163, rfl⟩ kfX12_95 l_66 rfl r_66_45 ?_
  refine y_iload_n (i := 2) (n := 167) ⟨dX12_worth_166, rfl⟩ rfl ?_
  refine y_iconst (n := 168) (v := 0) ⟨dX12_worth_167, rfl⟩ ki_0 ?_
  refine y_iastore (n := 169) ⟨dX12_worth_168, rfl⟩ l_95 hg16 ?_
  refine y_aload_n (i := 0) (n := 170) ⟨dX12_worth_169, rfl⟩ rfl ?_
  refine y_getR (n := 173) ⟨dX12_worth_170, rfl⟩ kfX12_98 l_66 rfl r_66_46 ?_
  refine y_iload_n (i := 2) (n := 174) ⟨dX12_worth_173, rfl⟩ rfl ?_
  refine y_bipush (n := 176) (v := 20) ⟨dX12_worth_174, rfl⟩ kb_20 ?_
  refine y_iastore (n := 177) ⟨dX12_worth_176, rfl⟩ l_96 hg16 ?_
  refine y_goto (t := 329) ⟨dX12_worth_177, rfl, rfl⟩ ?_
  refine y_iinc (i := 3) (n := 332) (b := (x3 + 1)) (L2 := [some (.ref 66), some (.int x1), some (.int x2), some (.int (x3 + 1)), some (.int x4), none]) ⟨dX12_worth_329, rfl⟩ rfl (by rw [ki_1]) (by decide) rfl rfl ?_
  refine y_goto (t := 14) ⟨dX12_worth_332, rfl, rfl⟩ ?_
  cases hf
  exact y_wk ⟨Or.inr rfl, Or.inr rfl, Or.inr rfl, Or.inr rfl, Or.inl rfl, Or.inr rfl, trivial⟩ hk
theorem w_b_mo_worth_14_194 (x1 : Int32) (x2 : Int32) (x3 : Int32) (x4 : Int32) (M : dM) {Q : mz_P} {o : ((Int32 × Int32 × dM) ⊕ (Int32 × dM))} (hf : b_mo_worth_14_194 x1 x2 x3 x4 M = some o) (hk : K_mo_worth_14 Q x1 M o) : mW mX12_worth 3 Q 194 [some (.ref 66), some (.int x1), some (.int x2), some (.int x3), some (.int x4), none] [] M := by
  unfold b_mo_worth_14_194 at hf
  refine y_aload_n (i := 0) (n := 195) ⟨dX12_worth_194, rfl⟩ rfl ?_
  refine y_iload_n (i := 2) (n := 196) ⟨dX12_worth_195, rfl⟩ rfl ?_
  obtain ⟨q17, hv18, hf⟩ := b_s hf
  refine c_mo_tests x2 M (n := 199) ⟨dX12_worth_196, rfl⟩ klX12_426 hv18 (by decide) (Nat.le_of_ble_eq_true rfl) rfl rfl ?_
  refine y_aload_n (i := 0) (n := 200) ⟨dX12_worth_199, rfl⟩ rfl ?_
  refine y_getR (n := 203) ⟨dX12_worth_200, rfl⟩ kfX12_86 l_66 rfl r_66_42 ?_
  refine y_iload_n (i := 2) (n := 204) ⟨dX12_worth_203, rfl⟩ rfl ?_
  refine y_iload (i := 4) (n := 206) ⟨dX12_worth_204, rfl⟩ rfl ?_
  obtain ⟨hg19, hf⟩ := g_s hf
  refine y_iastore (n := 207) ⟨dX12_worth_206, rfl⟩ l_92 hg19 ?_
  refine y_goto (t := 329) ⟨dX12_worth_207, rfl, rfl⟩ ?_
  refine y_iinc (i := 3) (n := 332) (b := (x3 + 1)) (L2 := [some (.ref 66), some (.int x1), some (.int x2), some (.int (x3 + 1)), some (.int x4), none]) ⟨dX12_worth_329, rfl⟩ rfl (by rw [ki_1]) (by decide) rfl rfl ?_
  refine y_goto (t := 14) ⟨dX12_worth_332, rfl, rfl⟩ ?_
  cases hf
  exact y_wk ⟨Or.inr rfl, Or.inr rfl, Or.inr rfl, Or.inr rfl, Or.inl rfl, Or.inr rfl, trivial⟩ hk
theorem w_b_mo_worth_268_268 (x1 : Int32) (x2 : Int32) (x3 : Int32) (x5 : Int32) (M : dM) {Q : mz_P} {o : ((Int32 × Int32) ⊕ (Int32 × Int32))} (hf : b_mo_worth_268_268 x1 x2 x3 x5 M = some o) (hk : K_mo_worth_268 Q x1 x3 M o) : mW mX12_worth 3 Q 268 [some (.ref 66), some (.int x1), some (.int x2), some (.int x3), none, some (.int x5)] [] M := by
  unfold b_mo_worth_268_268 at hf
  refine y_iload_n (i := 2) (n := 269) ⟨dX12_worth_268, rfl⟩ rfl ?_
  refine y_if_le (t := 300) (n := 272) ⟨dX12_worth_269, rfl, rfl⟩ (fun (hc : x2 ≤ 0) => ?_) (fun (hc : ¬ (x2 ≤ 0)) => ?_)
  · replace hf := i_t hc hf
    cases hf
    exact y_wk ⟨Or.inr rfl, Or.inr rfl, Or.inr rfl, Or.inr rfl, Or.inr rfl, Or.inr rfl, trivial⟩ hk
  · replace hf := i_f hc hf
    refine y_aload_n (i := 0) (n := 273) ⟨dX12_worth_272, rfl⟩ rfl ?_
    refine y_getR (n := 276) ⟨dX12_worth_273, rfl⟩ kfX12_107 l_66 rfl r_66_49 ?_
    refine y_iload_n (i := 2) (n := 277) ⟨dX12_worth_276, rfl⟩ rfl ?_
    obtain ⟨hg20, hf⟩ := g_s hf
    refine y_iaload (n := 278) ⟨dX12_worth_277, rfl⟩ l_99 hg20 ?_
    refine y_iconst (n := 279) (v := 1) ⟨dX12_worth_278, rfl⟩ ki_1 ?_
    refine y_icmp_ne (t := 300) (n := 282) ⟨dX12_worth_279, rfl, rfl⟩ (fun (hc : ¬ ((gI M 99 x2.toNatClampNeg) = 1)) => ?_) (fun (hc : (gI M 99 x2.toNatClampNeg) = 1) => ?_)
    · replace hf := i_f hc hf
      cases hf
      exact y_wk ⟨Or.inr rfl, Or.inr rfl, Or.inr rfl, Or.inr rfl, Or.inr rfl, Or.inr rfl, trivial⟩ hk
    · replace hf := i_t hc hf
      refine y_iload (i := 5) (n := 284) ⟨dX12_worth_282, rfl⟩ rfl ?_
      refine y_if_ne (t := 291) (n := 287) ⟨dX12_worth_284, rfl, rfl⟩ (fun (hc : ¬ (x5 = 0)) => ?_) (fun (hc : x5 = 0) => ?_)
      · replace hf := i_f hc hf
        refine y_iconst (n := 292) (v := 0) ⟨dX12_worth_291, rfl⟩ ki_0 ?_
        refine y_istore (i := 5) (n := 294) (L2 := [some (.ref 66), some (.int x1), some (.int x2), some (.int x3), none, some (.int 0)]) ⟨dX12_worth_292, rfl⟩ (by decide) rfl rfl ?_
        refine y_iinc (i := 2) (n := 297) (b := (x2 + (-1))) (L2 := [some (.ref 66), some (.int x1), some (.int (x2 + (-1))), some (.int x3), none, some (.int 0)]) ⟨dX12_worth_294, rfl⟩ rfl (by rw [ki_m1]) (by decide) rfl rfl ?_
        refine y_goto (t := 268) ⟨dX12_worth_297, rfl, rfl⟩ ?_
        cases hf
        exact y_wk ⟨Or.inr rfl, Or.inr rfl, Or.inr rfl, Or.inr rfl, Or.inr rfl, Or.inr rfl, trivial⟩ hk
      · replace hf := i_t hc hf
        refine y_iconst (n := 288) (v := 1) ⟨dX12_worth_287, rfl⟩ ki_1 ?_
        refine y_goto (t := 292) ⟨dX12_worth_288, rfl, rfl⟩ ?_
        refine y_istore (i := 5) (n := 294) (L2 := [some (.ref 66), some (.int x1), some (.int x2), some (.int x3), none, some (.int 1)]) ⟨dX12_worth_292, rfl⟩ (by decide) rfl rfl ?_
        refine y_iinc (i := 2) (n := 297) (b := (x2 + (-1))) (L2 := [some (.ref 66), some (.int x1), some (.int (x2 + (-1))), some (.int x3), none, some (.int 1)]) ⟨dX12_worth_294, rfl⟩ rfl (by rw [ki_m1]) (by decide) rfl rfl ?_
        refine y_goto (t := 268) ⟨dX12_worth_297, rfl, rfl⟩ ?_
        cases hf
        exact y_wk ⟨Or.inr rfl, Or.inr rfl, Or.inr rfl, Or.inr rfl, Or.inr rfl, Or.inr rfl, trivial⟩ hk
theorem wl_mo_worth_268 (x1 : Int32) (x2 : Int32) (x3 : Int32) (x5 : Int32) (M : dM) {Q : mz_P} {x : (Int32 × Int32)} (hf : l_mo_worth_268 x1 x2 x3 x5 M = some x) (hk : K_mo_worth_268 Q x1 x3 M (.inr x)) : mW mX12_worth 3 Q 268 [some (.ref 66), some (.int x1), some (.int x2), some (.int x3), none, some (.int x5)] [] M :=
  lpc_wp (Wh := fun s => mW mX12_worth 3 Q 268 [some (.ref 66), some (.int x1), some (.int s.1), some (.int x3), none, some (.int s.2)] [] M) (K := K_mo_worth_268 Q x1 x3 M) (fun _ h => h) (fun s o hb hk => w_b_mo_worth_268_268 x1 s.1 x3 s.2 M hb hk) hf hk
theorem w_b_mo_worth_14_328 (x1 : Int32) (x2 : Int32) (x3 : Int32) (y1 : Int32) (y2 : Int32) (M : dM) {Q : mz_P} {o : ((Int32 × Int32 × dM) ⊕ (Int32 × dM))} (hf : b_mo_worth_14_328 x1 x2 x3 y1 y2 M = some o) (hk : K_mo_worth_14 Q x1 M o) : mW mX12_worth 3 Q 328 [some (.ref 66), some (.int x1), some (.int x2), some (.int x3), none, none] [.ref 97, .int y1, .int y2] M := by
  unfold b_mo_worth_14_328 at hf
  obtain ⟨hg25, hf⟩ := g_s hf
  refine y_iastore (n := 329) ⟨dX12_worth_328, rfl⟩ l_97 hg25 ?_
  refine y_iinc (i := 3) (n := 332) (b := (x3 + 1)) (L2 := [some (.ref 66), some (.int x1), some (.int x2), some (.int (x3 + 1)), none, none]) ⟨dX12_worth_329, rfl⟩ rfl (by rw [ki_1]) (by decide) rfl rfl ?_
  refine y_goto (t := 14) ⟨dX12_worth_332, rfl, rfl⟩ ?_
  cases hf
  exact y_wk ⟨Or.inr rfl, Or.inr rfl, Or.inr rfl, Or.inr rfl, Or.inr rfl, Or.inr rfl, trivial⟩ hk
theorem w_b_mo_worth_14_300 (x1 : Int32) (x2 : Int32) (x3 : Int32) (x5 : Int32) (M : dM) {Q : mz_P} {o : ((Int32 × Int32 × dM) ⊕ (Int32 × dM))} (hf : b_mo_worth_14_300 x1 x2 x3 x5 M = some o) (hk : K_mo_worth_14 Q x1 M o) : mW mX12_worth 3 Q 300 [some (.ref 66), some (.int x1), some (.int x2), some (.int x3), none, some (.int x5)] [] M := by
  unfold b_mo_worth_14_300 at hf
  refine y_aload_n (i := 0) (n := 301) ⟨dX12_worth_300, rfl⟩ rfl ?_
  refine y_getR (n := 304) ⟨dX12_worth_301, rfl⟩ kfX12_101 l_66 rfl r_66_47 ?_
  refine y_iload_n (i := 2) (n := 305) ⟨dX12_worth_304, rfl⟩ rfl ?_
  refine y_aload_n (i := 0) (n := 306) ⟨dX12_worth_305, rfl⟩ rfl ?_
  refine y_getR (n := 309) ⟨dX12_worth_306, rfl⟩ kfX12_104 l_66 rfl r_66_48 ?_
  refine y_iload_n (i := 2) (n := 310) ⟨dX12_worth_309, rfl⟩ rfl ?_
  obtain ⟨hg24, hf⟩ := g_s hf
  refine y_iaload (n := 311) ⟨dX12_worth_310, rfl⟩ l_98 hg24 ?_
  refine y_if_ne (t := 319) (n := 314) ⟨dX12_worth_311, rfl, rfl⟩ (fun (hc : ¬ ((gI M 98 x2.toNatClampNeg) = 0)) => ?_) (fun (hc : (gI M 98 x2.toNatClampNeg) = 0) => ?_)
  · replace hf := i_f hc hf
    refine y_aload_n (i := 0) (n := 320) ⟨dX12_worth_319, rfl⟩ rfl ?_
    refine y_getR (n := 323) ⟨dX12_worth_320, rfl⟩ kfX12_101 l_66 rfl r_66_47 ?_
    refine y_iload_n (i := 2) (n := 324) ⟨dX12_worth_323, rfl⟩ rfl ?_
    refine y_iaload (n := 325) ⟨dX12_worth_324, rfl⟩ l_97 hg24 ?_
    refine y_iload (i := 5) (n := 327) ⟨dX12_worth_325, rfl⟩ rfl ?_
    refine y_imul (n := 328) ⟨dX12_worth_327, rfl⟩ ?_
    exact y_wk ⟨Or.inr rfl, Or.inr rfl, Or.inr rfl, Or.inr rfl, Or.inr rfl, Or.inl rfl, trivial⟩ (w_b_mo_worth_14_328 x1 x2 x3 x2 ((gI M 97 x2.toNatClampNeg) * x5) M hf hk)
  · replace hf := i_t hc hf
    refine y_iload (i := 5) (n := 316) ⟨dX12_worth_314, rfl⟩ rfl ?_
    refine y_goto (t := 328) ⟨dX12_worth_316, rfl, rfl⟩ ?_
    exact y_wk ⟨Or.inr rfl, Or.inr rfl, Or.inr rfl, Or.inr rfl, Or.inr rfl, Or.inl rfl, trivial⟩ (w_b_mo_worth_14_328 x1 x2 x3 x2 x5 M hf hk)
theorem w_b_mo_worth_14_243 (x1 : Int32) (x2 : Int32) (x3 : Int32) (x4 : Int32) (y0 : Int32) (M : dM) {Q : mz_P} {o : ((Int32 × Int32 × dM) ⊕ (Int32 × dM))} (hf : b_mo_worth_14_243 x1 x2 x3 x4 y0 M = some o) (hk : K_mo_worth_14 Q x1 M o) : mW mX12_worth 3 Q 243 [some (.ref 66), some (.int x1), some (.int x2), some (.int x3), some (.int x4), none] [.int y0] M := by
  unfold b_mo_worth_14_243 at hf
  refine y_istore (i := 5) (n := 245) (L2 := [some (.ref 66), some (.int x1), some (.int x2), some (.int x3), some (.int x4), some (.int y0)]) ⟨dX12_worth_243, rfl⟩ (by decide) rfl rfl ?_
  refine y_iload (i := 4) (n := 247) ⟨dX12_worth_245, rfl⟩ rfl ?_
  refine y_bipush (n := 249) (v := 29) ⟨dX12_worth_247, rfl⟩ kb_29 ?_
  refine y_icmp_ne (t := 268) (n := 252) ⟨dX12_worth_249, rfl, rfl⟩ (fun (hc : ¬ (x4 = 29)) => ?_) (fun (hc : x4 = 29) => ?_)
  · replace hf := i_f hc hf
    obtain ⟨t21, hl22, hf⟩ := b_s hf
    refine y_wk ⟨Or.inr rfl, Or.inr rfl, Or.inr rfl, Or.inr rfl, Or.inl rfl, Or.inr rfl, trivial⟩ (wl_mo_worth_268 x1 x2 x3 y0 M hl22 ?_)
    show mW mX12_worth 3 Q 300 [some (.ref 66), some (.int x1), some (.int t21.1), some (.int x3), none, some (.int t21.2)] [] M
    exact y_wk ⟨Or.inr rfl, Or.inr rfl, Or.inr rfl, Or.inr rfl, Or.inl rfl, Or.inr rfl, trivial⟩ (w_b_mo_worth_14_300 x1 t21.1 x3 t21.2 M hf hk)
  · replace hf := i_t hc hf
    refine y_aload_n (i := 0) (n := 253) ⟨dX12_worth_252, rfl⟩ rfl ?_
    refine y_iload_n (i := 2) (n := 254) ⟨dX12_worth_253, rfl⟩ rfl ?_
    obtain ⟨q26, hv27, hf⟩ := b_s hf
    refine c_mo_tests x2 M (n := 257) ⟨dX12_worth_254, rfl⟩ klX12_426 hv27 (by decide) (Nat.le_of_ble_eq_true rfl) rfl rfl ?_
    refine y_aload_n (i := 0) (n := 258) ⟨dX12_worth_257, rfl⟩ rfl ?_
    refine y_getR (n := 261) ⟨dX12_worth_258, rfl⟩ kfX12_83 l_66 rfl r_66_41 ?_
    refine y_iload_n (i := 2) (n := 262) ⟨dX12_worth_261, rfl⟩ rfl ?_
    obtain ⟨hg28, hf⟩ := g_s hf
    refine y_iaload (n := 263) ⟨dX12_worth_262, rfl⟩ l_91 hg28 ?_
    refine y_istore (i := 5) (n := 265) (L2 := [some (.ref 66), some (.int x1), some (.int x2), some (.int x3), some (.int x4), some (.int (gI q26 91 x2.toNatClampNeg))]) ⟨dX12_worth_263, rfl⟩ (by decide) rfl rfl ?_
    refine y_iinc (i := 2) (n := 268) (b := (x2 + (-1))) (L2 := [some (.ref 66), some (.int x1), some (.int (x2 + (-1))), some (.int x3), some (.int x4), some (.int (gI q26 91 x2.toNatClampNeg))]) ⟨dX12_worth_265, rfl⟩ rfl (by rw [ki_m1]) (by decide) rfl rfl ?_
    obtain ⟨t29, hl30, hf⟩ := b_s hf
    refine y_wk ⟨Or.inr rfl, Or.inr rfl, Or.inr rfl, Or.inr rfl, Or.inl rfl, Or.inr rfl, trivial⟩ (wl_mo_worth_268 x1 (x2 + (-1)) x3 (gI q26 91 x2.toNatClampNeg) q26 hl30 ?_)
    show mW mX12_worth 3 Q 300 [some (.ref 66), some (.int x1), some (.int t29.1), some (.int x3), none, some (.int t29.2)] [] q26
    exact y_wk ⟨Or.inr rfl, Or.inr rfl, Or.inr rfl, Or.inr rfl, Or.inl rfl, Or.inr rfl, trivial⟩ (w_b_mo_worth_14_300 x1 t29.1 x3 t29.2 q26 hf hk)
theorem w_b_mo_worth_14_14 (x1 : Int32) (x2 : Int32) (x3 : Int32) (M : dM) {Q : mz_P} {o : ((Int32 × Int32 × dM) ⊕ (Int32 × dM))} (hf : b_mo_worth_14_14 x1 x2 x3 M = some o) (hk : K_mo_worth_14 Q x1 M o) : mW mX12_worth 3 Q 14 [some (.ref 66), some (.int x1), some (.int x2), some (.int x3), none, none] [] M := by
  unfold b_mo_worth_14_14 at hf
  refine y_iload_n (i := 3) (n := 15) ⟨dX12_worth_14, rfl⟩ rfl ?_
  refine y_aload_n (i := 0) (n := 16) ⟨dX12_worth_15, rfl⟩ rfl ?_
  refine y_getR (n := 19) ⟨dX12_worth_16, rfl⟩ kfX12_62 l_66 rfl r_66_28 ?_
  refine y_iload_n (i := 1) (n := 20) ⟨dX12_worth_19, rfl⟩ rfl ?_
  obtain ⟨hg4, hf⟩ := g_s hf
  refine y_iaload (n := 21) ⟨dX12_worth_20, rfl⟩ l_84 hg4 ?_
  refine y_icmp_ge (t := 335) (n := 24) ⟨dX12_worth_21, rfl, rfl⟩ (fun (hc : (gI M 84 x1.toNatClampNeg) ≤ x3) => ?_) (fun (hc : ¬ ((gI M 84 x1.toNatClampNeg) ≤ x3)) => ?_)
  · replace hf := i_t hc hf
    refine y_aload_n (i := 0) (n := 336) ⟨dX12_worth_335, rfl⟩ rfl ?_
    refine y_iconst (n := 337) (v := 0) ⟨dX12_worth_336, rfl⟩ ki_0 ?_
    obtain ⟨q5, hv6, hf⟩ := b_s hf
    refine c_mo_tests 0 M (n := 340) ⟨dX12_worth_337, rfl⟩ klX12_426 hv6 (by decide) (Nat.le_of_ble_eq_true rfl) rfl rfl ?_
    refine y_aload_n (i := 0) (n := 341) ⟨dX12_worth_340, rfl⟩ rfl ?_
    refine y_getR (n := 344) ⟨dX12_worth_341, rfl⟩ kfX12_83 l_66 rfl r_66_41 ?_
    refine y_iconst (n := 345) (v := 0) ⟨dX12_worth_344, rfl⟩ ki_0 ?_
    refine y_iaload (n := 346) ⟨dX12_worth_345, rfl⟩ l_91 (by unfold vp_in; decide) ?_
    cases hf
    exact y_ireturn (n := 347) ⟨dX12_worth_346, rfl⟩ rfl rfl hk
  · replace hf := i_f hc hf
    refine y_aload_n (i := 0) (n := 25) ⟨dX12_worth_24, rfl⟩ rfl ?_
    refine y_getR (n := 28) ⟨dX12_worth_25, rfl⟩ kfX12_74 l_66 rfl r_66_36 ?_
    refine y_iload_n (i := 3) (n := 29) ⟨dX12_worth_28, rfl⟩ rfl ?_
    obtain ⟨hg7, hf⟩ := g_s hf
    refine y_iaload (n := 30) ⟨dX12_worth_29, rfl⟩ l_88 hg7 ?_
    refine y_istore (i := 4) (n := 32) (L2 := [some (.ref 66), some (.int x1), some (.int x2), some (.int x3), some (.int (gI M 88 x3.toNatClampNeg)), none]) ⟨dX12_worth_30, rfl⟩ (by decide) rfl rfl ?_
    refine y_iload (i := 4) (n := 34) ⟨dX12_worth_32, rfl⟩ rfl ?_
    refine y_bipush (n := 36) (v := 28) ⟨dX12_worth_34, rfl⟩ kb_28 ?_
    refine y_icmp_eq (t := 46) (n := 39) ⟨dX12_worth_36, rfl, rfl⟩ (fun (hc : (gI M 88 x3.toNatClampNeg) = 28) => ?_) (fun (hc : ¬ ((gI M 88 x3.toNatClampNeg) = 28)) => ?_)
    · replace hf := i_t hc hf
      exact y_wk ⟨Or.inr rfl, Or.inr rfl, Or.inr rfl, Or.inr rfl, Or.inr rfl, Or.inr rfl, trivial⟩ (w_b_mo_worth_14_46 x1 x2 x3 (gI M 88 x3.toNatClampNeg) M hf hk)
    · replace hf := i_f hc hf
      refine y_iload (i := 4) (n := 41) ⟨dX12_worth_39, rfl⟩ rfl ?_
      refine y_bipush (n := 43) (v := 30) ⟨dX12_worth_41, rfl⟩ kb_30 ?_
      refine y_icmp_ne (t := 75) (n := 46) ⟨dX12_worth_43, rfl, rfl⟩ (fun (hc : ¬ ((gI M 88 x3.toNatClampNeg) = 30)) => ?_) (fun (hc : (gI M 88 x3.toNatClampNeg) = 30) => ?_)
      · replace hf := i_f hc hf
        refine y_iload (i := 4) (n := 77) ⟨dX12_worth_75, rfl⟩ rfl ?_
        refine y_bipush (n := 79) (v := 20) ⟨dX12_worth_77, rfl⟩ kb_20 ?_
        refine y_icmp_eq (t := 89) (n := 82) ⟨dX12_worth_79, rfl, rfl⟩ (fun (hc : (gI M 88 x3.toNatClampNeg) = 20) => ?_) (fun (hc : ¬ ((gI M 88 x3.toNatClampNeg) = 20)) => ?_)
        · replace hf := i_t hc hf
          exact y_wk ⟨Or.inr rfl, Or.inr rfl, Or.inr rfl, Or.inr rfl, Or.inr rfl, Or.inr rfl, trivial⟩ (w_b_mo_worth_14_89 x1 x2 x3 (gI M 88 x3.toNatClampNeg) M hf hk)
        · replace hf := i_f hc hf
          refine y_iload (i := 4) (n := 84) ⟨dX12_worth_82, rfl⟩ rfl ?_
          refine y_bipush (n := 86) (v := 21) ⟨dX12_worth_84, rfl⟩ kb_21 ?_
          refine y_icmp_ne (t := 105) (n := 89) ⟨dX12_worth_86, rfl, rfl⟩ (fun (hc : ¬ ((gI M 88 x3.toNatClampNeg) = 21)) => ?_) (fun (hc : (gI M 88 x3.toNatClampNeg) = 21) => ?_)
          · replace hf := i_f hc hf
            refine y_iload (i := 4) (n := 107) ⟨dX12_worth_105, rfl⟩ rfl ?_
            refine y_bipush (n := 109) (v := 22) ⟨dX12_worth_107, rfl⟩ kb_22 ?_
            refine y_icmp_ne (t := 123) (n := 112) ⟨dX12_worth_109, rfl, rfl⟩ (fun (hc : ¬ ((gI M 88 x3.toNatClampNeg) = 22)) => ?_) (fun (hc : (gI M 88 x3.toNatClampNeg) = 22) => ?_)
            · replace hf := i_f hc hf
              refine y_iload (i := 4) (n := 125) ⟨dX12_worth_123, rfl⟩ rfl ?_
              refine y_bipush (n := 127) (v := 24) ⟨dX12_worth_125, rfl⟩ kb_24 ?_
              refine y_icmp_eq (t := 137) (n := 130) ⟨dX12_worth_127, rfl, rfl⟩ (fun (hc : (gI M 88 x3.toNatClampNeg) = 24) => ?_) (fun (hc : ¬ ((gI M 88 x3.toNatClampNeg) = 24)) => ?_)
              · replace hf := i_t hc hf
                exact y_wk ⟨Or.inr rfl, Or.inr rfl, Or.inr rfl, Or.inr rfl, Or.inr rfl, Or.inr rfl, trivial⟩ (w_b_mo_worth_14_137 x1 x2 x3 (gI M 88 x3.toNatClampNeg) M hf hk)
              · replace hf := i_f hc hf
                refine y_iload (i := 4) (n := 132) ⟨dX12_worth_130, rfl⟩ rfl ?_
                refine y_bipush (n := 134) (v := 25) ⟨dX12_worth_132, rfl⟩ kb_25 ?_
                refine y_icmp_ne (t := 180) (n := 137) ⟨dX12_worth_134, rfl, rfl⟩ (fun (hc : ¬ ((gI M 88 x3.toNatClampNeg) = 25)) => ?_) (fun (hc : (gI M 88 x3.toNatClampNeg) = 25) => ?_)
                · replace hf := i_f hc hf
                  refine y_iload (i := 4) (n := 182) ⟨dX12_worth_180, rfl⟩ rfl ?_
                  refine y_bipush (n := 184) (v := 26) ⟨dX12_worth_182, rfl⟩ kb_26 ?_
                  refine y_icmp_eq (t := 194) (n := 187) ⟨dX12_worth_184, rfl, rfl⟩ (fun (hc : (gI M 88 x3.toNatClampNeg) = 26) => ?_) (fun (hc : ¬ ((gI M 88 x3.toNatClampNeg) = 26)) => ?_)
                  · replace hf := i_t hc hf
                    exact y_wk ⟨Or.inr rfl, Or.inr rfl, Or.inr rfl, Or.inr rfl, Or.inr rfl, Or.inr rfl, trivial⟩ (w_b_mo_worth_14_194 x1 x2 x3 (gI M 88 x3.toNatClampNeg) M hf hk)
                  · replace hf := i_f hc hf
                    refine y_iload (i := 4) (n := 189) ⟨dX12_worth_187, rfl⟩ rfl ?_
                    refine y_bipush (n := 191) (v := 27) ⟨dX12_worth_189, rfl⟩ kb_27 ?_
                    refine y_icmp_ne (t := 210) (n := 194) ⟨dX12_worth_191, rfl, rfl⟩ (fun (hc : ¬ ((gI M 88 x3.toNatClampNeg) = 27)) => ?_) (fun (hc : (gI M 88 x3.toNatClampNeg) = 27) => ?_)
                    · replace hf := i_f hc hf
                      refine y_iload (i := 4) (n := 212) ⟨dX12_worth_210, rfl⟩ rfl ?_
                      refine y_bipush (n := 214) (v := 100) ⟨dX12_worth_212, rfl⟩ kb_100 ?_
                      refine y_icmp_lt (t := 225) (n := 217) ⟨dX12_worth_214, rfl, rfl⟩ (fun (hc : (gI M 88 x3.toNatClampNeg) < 100) => ?_) (fun (hc : ¬ ((gI M 88 x3.toNatClampNeg) < 100)) => ?_)
                      · replace hf := i_t hc hf
                        refine y_iload (i := 4) (n := 227) ⟨dX12_worth_225, rfl⟩ rfl ?_
                        refine y_bipush (n := 229) (v := 20) ⟨dX12_worth_227, rfl⟩ kb_20 ?_
                        refine y_icmp_ge (t := 242) (n := 232) ⟨dX12_worth_229, rfl, rfl⟩ (fun (hc : 20 ≤ (gI M 88 x3.toNatClampNeg)) => ?_) (fun (hc : ¬ (20 ≤ (gI M 88 x3.toNatClampNeg))) => ?_)
                        · replace hf := i_t hc hf
                          refine y_iconst (n := 243) (v := 0) ⟨dX12_worth_242, rfl⟩ ki_0 ?_
                          exact y_wk ⟨Or.inr rfl, Or.inr rfl, Or.inr rfl, Or.inr rfl, Or.inr rfl, Or.inr rfl, trivial⟩ (w_b_mo_worth_14_243 x1 x2 x3 (gI M 88 x3.toNatClampNeg) 0 M hf hk)
                        · replace hf := i_f hc hf
                          refine y_aload_n (i := 0) (n := 233) ⟨dX12_worth_232, rfl⟩ rfl ?_
                          refine y_getR (n := 236) ⟨dX12_worth_233, rfl⟩ kfX12_110 l_66 rfl r_66_50 ?_
                          refine y_iload (i := 4) (n := 238) ⟨dX12_worth_236, rfl⟩ rfl ?_
                          obtain ⟨hg32, hf⟩ := g_s hf
                          refine y_iaload (n := 239) ⟨dX12_worth_238, rfl⟩ l_100 hg32 ?_
                          refine y_goto (t := 243) ⟨dX12_worth_239, rfl, rfl⟩ ?_
                          exact y_wk ⟨Or.inr rfl, Or.inr rfl, Or.inr rfl, Or.inr rfl, Or.inr rfl, Or.inr rfl, trivial⟩ (w_b_mo_worth_14_243 x1 x2 x3 (gI M 88 x3.toNatClampNeg) (gI M 100 (gI M 88 x3.toNatClampNeg).toNatClampNeg) M hf hk)
                      · replace hf := i_f hc hf
                        refine y_iload (i := 4) (n := 219) ⟨dX12_worth_217, rfl⟩ rfl ?_
                        refine y_bipush (n := 221) (v := 100) ⟨dX12_worth_219, rfl⟩ kb_100 ?_
                        refine y_isub (n := 222) ⟨dX12_worth_221, rfl⟩ ?_
                        refine y_goto (t := 243) ⟨dX12_worth_222, rfl, rfl⟩ ?_
                        exact y_wk ⟨Or.inr rfl, Or.inr rfl, Or.inr rfl, Or.inr rfl, Or.inr rfl, Or.inr rfl, trivial⟩ (w_b_mo_worth_14_243 x1 x2 x3 (gI M 88 x3.toNatClampNeg) ((gI M 88 x3.toNatClampNeg) - 100) M hf hk)
                    · replace hf := i_t hc hf
                      exact y_wk ⟨Or.inr rfl, Or.inr rfl, Or.inr rfl, Or.inr rfl, Or.inr rfl, Or.inr rfl, trivial⟩ (w_b_mo_worth_14_194 x1 x2 x3 (gI M 88 x3.toNatClampNeg) M hf hk)
                · replace hf := i_t hc hf
                  exact y_wk ⟨Or.inr rfl, Or.inr rfl, Or.inr rfl, Or.inr rfl, Or.inr rfl, Or.inr rfl, trivial⟩ (w_b_mo_worth_14_137 x1 x2 x3 (gI M 88 x3.toNatClampNeg) M hf hk)
            · replace hf := i_t hc hf
              refine y_aload_n (i := 0) (n := 113) ⟨dX12_worth_112, rfl⟩ rfl ?_
              refine y_getR (n := 116) ⟨dX12_worth_113, rfl⟩ kfX12_104 l_66 rfl r_66_48 ?_
              refine y_iload_n (i := 2) (n := 117) ⟨dX12_worth_116, rfl⟩ rfl ?_
              refine y_iload (i := 4) (n := 119) ⟨dX12_worth_117, rfl⟩ rfl ?_
              obtain ⟨hg33, hf⟩ := g_s hf
              refine y_iastore (n := 120) ⟨dX12_worth_119, rfl⟩ l_98 hg33 ?_
              refine y_goto (t := 329) ⟨dX12_worth_120, rfl, rfl⟩ ?_
              refine y_iinc (i := 3) (n := 332) (b := (x3 + 1)) (L2 := [some (.ref 66), some (.int x1), some (.int x2), some (.int (x3 + 1)), some (.int (gI M 88 x3.toNatClampNeg)), none]) ⟨dX12_worth_329, rfl⟩ rfl (by rw [ki_1]) (by decide) rfl rfl ?_
              refine y_goto (t := 14) ⟨dX12_worth_332, rfl, rfl⟩ ?_
              cases hf
              exact y_wk ⟨Or.inr rfl, Or.inr rfl, Or.inr rfl, Or.inr rfl, Or.inl rfl, Or.inr rfl, trivial⟩ hk
          · replace hf := i_t hc hf
            exact y_wk ⟨Or.inr rfl, Or.inr rfl, Or.inr rfl, Or.inr rfl, Or.inr rfl, Or.inr rfl, trivial⟩ (w_b_mo_worth_14_89 x1 x2 x3 (gI M 88 x3.toNatClampNeg) M hf hk)
      · replace hf := i_t hc hf
        exact y_wk ⟨Or.inr rfl, Or.inr rfl, Or.inr rfl, Or.inr rfl, Or.inr rfl, Or.inr rfl, trivial⟩ (w_b_mo_worth_14_46 x1 x2 x3 (gI M 88 x3.toNatClampNeg) M hf hk)
theorem wl_mo_worth_14 (x1 : Int32) (x2 : Int32) (x3 : Int32) (M : dM) {Q : mz_P} {x : (Int32 × dM)} (hf : l_mo_worth_14 x1 x2 x3 M = some x) (hk : K_mo_worth_14 Q x1 M (.inr x)) : mW mX12_worth 3 Q 14 [some (.ref 66), some (.int x1), some (.int x2), some (.int x3), none, none] [] M :=
  lpc_wp (Wh := fun s => mW mX12_worth 3 Q 14 [some (.ref 66), some (.int x1), some (.int s.1), some (.int s.2.1), none, none] [] s.2.2) (K := K_mo_worth_14 Q x1 M) (fun _ h => h) (fun s o hb hk => w_b_mo_worth_14_14 x1 s.1 s.2.1 s.2.2 hb hk) hf hk
theorem ok_mo_worth (a1 : Int32) (M : dM) {o : (Int32 × dM)} (hf : f_mo_worth a1 M = some o) : mO mX12_worth 3 [.ref 66, .int a1] M (some (.int o.1)) o.2 := by
  refine y_ok (by decide +kernel) (by decide) (L0 := [some (.ref 66), some (.int a1), none, none, none, none]) rfl ?_
  have hk := mR_mQ (some (.int o.1)) o.2
  generalize mQ _ _ = Q at hk ⊢
  unfold f_mo_worth at hf
  refine y_iconst (n := 1) (v := 0) ⟨dX12_worth_0, rfl⟩ ki_0 ?_
  refine y_istore_n (i := 2) (n := 2) (L2 := [some (.ref 66), some (.int a1), some (.int 0), none, none, none]) ⟨dX12_worth_1, rfl⟩ (by decide) rfl rfl ?_
  refine y_aload_n (i := 0) (n := 3) ⟨dX12_worth_2, rfl⟩ rfl ?_
  refine y_iconst (n := 4) (v := 0) ⟨dX12_worth_3, rfl⟩ ki_0 ?_
  obtain ⟨q1, hv2, hf⟩ := b_s hf
  refine c_mo_opens 0 M (n := 7) ⟨dX12_worth_4, rfl⟩ klX12_423 hv2 (by decide) (Nat.le_of_ble_eq_true rfl) rfl rfl ?_
  refine y_aload_n (i := 0) (n := 8) ⟨dX12_worth_7, rfl⟩ rfl ?_
  refine y_getR (n := 11) ⟨dX12_worth_8, rfl⟩ kfX12_59 l_66 rfl r_66_27 ?_
  refine y_iload_n (i := 1) (n := 12) ⟨dX12_worth_11, rfl⟩ rfl ?_
  obtain ⟨hg3, hf⟩ := g_s hf
  refine y_iaload (n := 13) ⟨dX12_worth_12, rfl⟩ l_83 hg3 ?_
  refine y_istore_n (i := 3) (n := 14) (L2 := [some (.ref 66), some (.int a1), some (.int 0), some (.int (gI q1 83 a1.toNatClampNeg)), none, none]) ⟨dX12_worth_13, rfl⟩ (by decide) rfl rfl ?_
  obtain ⟨r36, hl35, hf⟩ := b_s hf
  cases hf
  exact y_wk ⟨Or.inr rfl, Or.inr rfl, Or.inr rfl, Or.inr rfl, Or.inr rfl, Or.inr rfl, trivial⟩ (wl_mo_worth_14 a1 0 (gI q1 83 a1.toNatClampNeg) q1 hl35 hk)
theorem c_mo_worth (a1 : Int32) (M : dM) {o : (Int32 × dM)} {y : mz_M} {d : Nat} {Q : mz_P} {pc n i : Nat} {L : List (Option Value)} {st : List Value} (h : mz_d y.2.1 pc n 3 (.invokevirtual i)) (hl : mz_ml y.1.cls i yX12_worth) (hf : f_mo_worth a1 M = some o) (hd : 3 + 1 ≤ d) (hsm : (st.map (fun v => v.category)).sum ≤ 8) (hLr : mz_rL 133 L = true) (hSr : mz_rS 133 st = true) (kk : mW y d Q n L (.int o.1 :: st) o.2) : mW y d Q pc L (.int a1 :: .ref 66 :: st) M :=
  y_callV kmX12_worth kvX12_worth l_66 (by decide +kernel) (by decide +kernel) h hl (ok_mo_worth a1 M hf) (vs := [.int a1]) rfl rfl hd hsm hLr hSr kk
def K_mo_judged_2 (Q : mz_P)  (M : dM) : ((Int32 × dM) ⊕ (dM ⊕ (Int32 × dM))) → Prop
  | .inl s => mW mX12_judged 4 Q 2 [some (.ref 66), some (.int s.1)] [] s.2
  | .inr (.inl t) => mW mX12_judged 4 Q 33 [some (.ref 66), none] [] t
  | .inr (.inr r) => mR Q (some (.int r.1)) r.2
noncomputable def b_mo_judged_2_2 (x1 : Int32) (M : dM) : Option ((Int32 × dM) ⊕ (dM ⊕ (Int32 × dM))) :=
  if 6 ≤ x1 then
    some (.inr (.inl M))
  else
    gd (vp_in x1 21) <|
    if (gI M 82 x1.toNatClampNeg) = 0 then
      some (.inl ((x1 + 1), M))
    else
      (f_mo_worth x1 M).bind fun q2 =>
      if q2.1 = 0 then
        some (.inl ((x1 + 1), q2.2))
      else
        some (.inr (.inr (2, q2.2)))
noncomputable def l_mo_judged_2 (x1 : Int32) (M : dM) : Option (dM ⊕ (Int32 × dM)) := lpc (fun s => b_mo_judged_2_2 s.1 s.2) (x1, M)
def K_mo_judged_36 (Q : mz_P)  (M : dM) : ((Int32 × dM) ⊕ (Int32 × dM)) → Prop
  | .inl s => mW mX12_judged 4 Q 36 [some (.ref 66), some (.int s.1)] [] s.2
  | .inr r => mR Q (some (.int r.1)) r.2
noncomputable def b_mo_judged_36_36 (x1 : Int32) (M : dM) : Option ((Int32 × dM) ⊕ (Int32 × dM)) :=
  if 12 ≤ x1 then
    some (.inr (0, M))
  else
    gd (vp_in x1 21) <|
    if (gI M 82 x1.toNatClampNeg) = 0 then
      some (.inl ((x1 + 1), M))
    else
      (f_mo_worth x1 M).bind fun q8 =>
      if q8.1 = 0 then
        some (.inl ((x1 + 1), q8.2))
      else
        some (.inr (1, q8.2))
noncomputable def l_mo_judged_36 (x1 : Int32) (M : dM) : Option (Int32 × dM) := lpc (fun s => b_mo_judged_36_36 s.1 s.2) (x1, M)
noncomputable def f_mo_judged (M : dM) : Option (Int32 × dM) :=
  (l_mo_judged_2 0 M).bind (Sum.elim (fun t4 =>
      (l_mo_judged_36 6 t4).bind fun r12 => some r12
    ) (fun r6 => some r6))
theorem w_b_mo_judged_2_2 (x1 : Int32) (M : dM) {Q : mz_P} {o : ((Int32 × dM) ⊕ (dM ⊕ (Int32 × dM)))} (hf : b_mo_judged_2_2 x1 M = some o) (hk : K_mo_judged_2 Q  M o) : mW mX12_judged 4 Q 2 [some (.ref 66), some (.int x1)] [] M := by
  unfold b_mo_judged_2_2 at hf
  refine y_iload_n (i := 1) (n := 3) ⟨dX12_judged_2, rfl⟩ rfl ?_
  refine y_bipush (n := 5) (v := 6) ⟨dX12_judged_3, rfl⟩ kb_6 ?_
  refine y_icmp_ge (t := 33) (n := 8) ⟨dX12_judged_5, rfl, rfl⟩ (fun (hc : 6 ≤ x1) => ?_) (fun (hc : ¬ (6 ≤ x1)) => ?_)
  · replace hf := i_t hc hf
    cases hf
    exact y_wk ⟨Or.inr rfl, Or.inl rfl, trivial⟩ hk
  · replace hf := i_f hc hf
    refine y_aload_n (i := 0) (n := 9) ⟨dX12_judged_8, rfl⟩ rfl ?_
    refine y_getR (n := 12) ⟨dX12_judged_9, rfl⟩ kfX12_55 l_66 rfl r_66_26 ?_
    refine y_iload_n (i := 1) (n := 13) ⟨dX12_judged_12, rfl⟩ rfl ?_
    obtain ⟨hg1, hf⟩ := g_s hf
    refine y_baload (n := 14) ⟨dX12_judged_13, rfl⟩ l_82 hg1 ?_
    refine y_if_eq (t := 27) (n := 17) ⟨dX12_judged_14, rfl, rfl⟩ (fun (hc : (gI M 82 x1.toNatClampNeg) = 0) => ?_) (fun (hc : ¬ ((gI M 82 x1.toNatClampNeg) = 0)) => ?_)
    · replace hf := i_t hc hf
      refine y_iinc (i := 1) (n := 30) (b := (x1 + 1)) (L2 := [some (.ref 66), some (.int (x1 + 1))]) ⟨dX12_judged_27, rfl⟩ rfl (by rw [ki_1]) (by decide) rfl rfl ?_
      refine y_goto (t := 2) ⟨dX12_judged_30, rfl, rfl⟩ ?_
      cases hf
      exact y_wk ⟨Or.inr rfl, Or.inr rfl, trivial⟩ hk
    · replace hf := i_f hc hf
      refine y_aload_n (i := 0) (n := 18) ⟨dX12_judged_17, rfl⟩ rfl ?_
      refine y_iload_n (i := 1) (n := 19) ⟨dX12_judged_18, rfl⟩ rfl ?_
      obtain ⟨q2, hv3, hf⟩ := b_s hf
      refine c_mo_worth x1 M (n := 22) ⟨dX12_judged_19, rfl⟩ klX12_435 hv3 (by decide) (Nat.le_of_ble_eq_true rfl) rfl rfl ?_
      refine y_if_eq (t := 27) (n := 25) ⟨dX12_judged_22, rfl, rfl⟩ (fun (hc : q2.1 = 0) => ?_) (fun (hc : ¬ (q2.1 = 0)) => ?_)
      · replace hf := i_t hc hf
        refine y_iinc (i := 1) (n := 30) (b := (x1 + 1)) (L2 := [some (.ref 66), some (.int (x1 + 1))]) ⟨dX12_judged_27, rfl⟩ rfl (by rw [ki_1]) (by decide) rfl rfl ?_
        refine y_goto (t := 2) ⟨dX12_judged_30, rfl, rfl⟩ ?_
        cases hf
        exact y_wk ⟨Or.inr rfl, Or.inr rfl, trivial⟩ hk
      · replace hf := i_f hc hf
        refine y_iconst (n := 26) (v := 2) ⟨dX12_judged_25, rfl⟩ ki_2 ?_
        cases hf
        exact y_ireturn (n := 27) ⟨dX12_judged_26, rfl⟩ rfl rfl hk
theorem wl_mo_judged_2 (x1 : Int32) (M : dM) {Q : mz_P} {x : (dM ⊕ (Int32 × dM))} (hf : l_mo_judged_2 x1 M = some x) (hk : K_mo_judged_2 Q  M (.inr x)) : mW mX12_judged 4 Q 2 [some (.ref 66), some (.int x1)] [] M :=
  lpc_wp (Wh := fun s => mW mX12_judged 4 Q 2 [some (.ref 66), some (.int s.1)] [] s.2) (K := K_mo_judged_2 Q  M) (fun _ h => h) (fun s o hb hk => w_b_mo_judged_2_2 s.1 s.2 hb hk) hf hk
theorem w_b_mo_judged_36_36 (x1 : Int32) (M : dM) {Q : mz_P} {o : ((Int32 × dM) ⊕ (Int32 × dM))} (hf : b_mo_judged_36_36 x1 M = some o) (hk : K_mo_judged_36 Q  M o) : mW mX12_judged 4 Q 36 [some (.ref 66), some (.int x1)] [] M := by
  unfold b_mo_judged_36_36 at hf
  refine y_iload_n (i := 1) (n := 37) ⟨dX12_judged_36, rfl⟩ rfl ?_
  refine y_bipush (n := 39) (v := 12) ⟨dX12_judged_37, rfl⟩ kb_12 ?_
  refine y_icmp_ge (t := 67) (n := 42) ⟨dX12_judged_39, rfl, rfl⟩ (fun (hc : 12 ≤ x1) => ?_) (fun (hc : ¬ (12 ≤ x1)) => ?_)
  · replace hf := i_t hc hf
    refine y_iconst (n := 68) (v := 0) ⟨dX12_judged_67, rfl⟩ ki_0 ?_
    cases hf
    exact y_ireturn (n := 69) ⟨dX12_judged_68, rfl⟩ rfl rfl hk
  · replace hf := i_f hc hf
    refine y_aload_n (i := 0) (n := 43) ⟨dX12_judged_42, rfl⟩ rfl ?_
    refine y_getR (n := 46) ⟨dX12_judged_43, rfl⟩ kfX12_55 l_66 rfl r_66_26 ?_
    refine y_iload_n (i := 1) (n := 47) ⟨dX12_judged_46, rfl⟩ rfl ?_
    obtain ⟨hg7, hf⟩ := g_s hf
    refine y_baload (n := 48) ⟨dX12_judged_47, rfl⟩ l_82 hg7 ?_
    refine y_if_eq (t := 61) (n := 51) ⟨dX12_judged_48, rfl, rfl⟩ (fun (hc : (gI M 82 x1.toNatClampNeg) = 0) => ?_) (fun (hc : ¬ ((gI M 82 x1.toNatClampNeg) = 0)) => ?_)
    · replace hf := i_t hc hf
      refine y_iinc (i := 1) (n := 64) (b := (x1 + 1)) (L2 := [some (.ref 66), some (.int (x1 + 1))]) ⟨dX12_judged_61, rfl⟩ rfl (by rw [ki_1]) (by decide) rfl rfl ?_
      refine y_goto (t := 36) ⟨dX12_judged_64, rfl, rfl⟩ ?_
      cases hf
      exact y_wk ⟨Or.inr rfl, Or.inr rfl, trivial⟩ hk
    · replace hf := i_f hc hf
      refine y_aload_n (i := 0) (n := 52) ⟨dX12_judged_51, rfl⟩ rfl ?_
      refine y_iload_n (i := 1) (n := 53) ⟨dX12_judged_52, rfl⟩ rfl ?_
      obtain ⟨q8, hv9, hf⟩ := b_s hf
      refine c_mo_worth x1 M (n := 56) ⟨dX12_judged_53, rfl⟩ klX12_435 hv9 (by decide) (Nat.le_of_ble_eq_true rfl) rfl rfl ?_
      refine y_if_eq (t := 61) (n := 59) ⟨dX12_judged_56, rfl, rfl⟩ (fun (hc : q8.1 = 0) => ?_) (fun (hc : ¬ (q8.1 = 0)) => ?_)
      · replace hf := i_t hc hf
        refine y_iinc (i := 1) (n := 64) (b := (x1 + 1)) (L2 := [some (.ref 66), some (.int (x1 + 1))]) ⟨dX12_judged_61, rfl⟩ rfl (by rw [ki_1]) (by decide) rfl rfl ?_
        refine y_goto (t := 36) ⟨dX12_judged_64, rfl, rfl⟩ ?_
        cases hf
        exact y_wk ⟨Or.inr rfl, Or.inr rfl, trivial⟩ hk
      · replace hf := i_f hc hf
        refine y_iconst (n := 60) (v := 1) ⟨dX12_judged_59, rfl⟩ ki_1 ?_
        cases hf
        exact y_ireturn (n := 61) ⟨dX12_judged_60, rfl⟩ rfl rfl hk
theorem wl_mo_judged_36 (x1 : Int32) (M : dM) {Q : mz_P} {x : (Int32 × dM)} (hf : l_mo_judged_36 x1 M = some x) (hk : K_mo_judged_36 Q  M (.inr x)) : mW mX12_judged 4 Q 36 [some (.ref 66), some (.int x1)] [] M :=
  lpc_wp (Wh := fun s => mW mX12_judged 4 Q 36 [some (.ref 66), some (.int s.1)] [] s.2) (K := K_mo_judged_36 Q  M) (fun _ h => h) (fun s o hb hk => w_b_mo_judged_36_36 s.1 s.2 hb hk) hf hk
theorem ok_mo_judged  (M : dM) {o : (Int32 × dM)} (hf : f_mo_judged M = some o) : mO mX12_judged 4 [.ref 66] M (some (.int o.1)) o.2 := by
  refine y_ok (by decide +kernel) (by decide) (L0 := [some (.ref 66), none]) rfl ?_
  have hk := mR_mQ (some (.int o.1)) o.2
  generalize mQ _ _ = Q at hk ⊢
  unfold f_mo_judged at hf
  refine y_iconst (n := 1) (v := 0) ⟨dX12_judged_0, rfl⟩ ki_0 ?_
  refine y_istore_n (i := 1) (n := 2) (L2 := [some (.ref 66), some (.int 0)]) ⟨dX12_judged_1, rfl⟩ (by decide) rfl rfl ?_
  obtain ⟨z13, hl5, hf⟩ := b_s hf
  refine y_wk ⟨Or.inr rfl, Or.inr rfl, trivial⟩ (wl_mo_judged_2 0 M hl5 ?_)
  rcases z13 with t4 | r6
  · show mW mX12_judged 4 Q 33 [some (.ref 66), none] [] t4
    refine y_bipush (n := 35) (v := 6) ⟨dX12_judged_33, rfl⟩ kb_6 ?_
    refine y_istore_n (i := 1) (n := 36) (L2 := [some (.ref 66), some (.int 6)]) ⟨dX12_judged_35, rfl⟩ (by decide) rfl rfl ?_
    obtain ⟨r12, hl11, hf⟩ := b_s hf
    cases hf
    exact y_wk ⟨Or.inr rfl, Or.inr rfl, trivial⟩ (wl_mo_judged_36 6 t4 hl11 hk)
  · cases hf
    exact hk
theorem c_mo_judged  (M : dM) {o : (Int32 × dM)} {y : mz_M} {d : Nat} {Q : mz_P} {pc n i : Nat} {L : List (Option Value)} {st : List Value} (h : mz_d y.2.1 pc n 3 (.invokevirtual i)) (hl : mz_ml y.1.cls i yX12_judged) (hf : f_mo_judged M = some o) (hd : 4 + 1 ≤ d) (hsm : (st.map (fun v => v.category)).sum ≤ 8) (hLr : mz_rL 133 L = true) (hSr : mz_rS 133 st = true) (kk : mW y d Q n L (.int o.1 :: st) o.2) : mW y d Q pc L (.ref 66 :: st) M :=
  y_callV kmX12_judged kvX12_judged l_66 (by decide +kernel) (by decide +kernel) h hl (ok_mo_judged  M hf) (vs := []) rfl rfl hd hsm hLr hSr kk
noncomputable def f_mo_eachOf (a1 : Int32) (M : dM) : Option (Int32 × dM) :=
  (f_mo_lays a1 M).bind fun q1 =>
  (f_mo_judged q1).bind fun q3 =>
  some (q3.1, q3.2)
theorem ok_mo_eachOf (a1 : Int32) (M : dM) {o : (Int32 × dM)} (hf : f_mo_eachOf a1 M = some o) : mO mX12_eachOf 5 [.ref 66, .int a1] M (some (.int o.1)) o.2 := by
  refine y_ok (by decide +kernel) (by decide) (L0 := [some (.ref 66), some (.int a1)]) rfl ?_
  have hk := mR_mQ (some (.int o.1)) o.2
  generalize mQ _ _ = Q at hk ⊢
  unfold f_mo_eachOf at hf
  refine y_aload_n (i := 0) (n := 1) ⟨dX12_eachOf_0, rfl⟩ rfl ?_
  refine y_iload_n (i := 1) (n := 2) ⟨dX12_eachOf_1, rfl⟩ rfl ?_
  obtain ⟨q1, hv2, hf⟩ := b_s hf
  refine c_mo_lays a1 M (n := 5) ⟨dX12_eachOf_2, rfl⟩ klX12_429 hv2 (by decide) (Nat.le_of_ble_eq_true rfl) rfl rfl ?_
  refine y_aload_n (i := 0) (n := 6) ⟨dX12_eachOf_5, rfl⟩ rfl ?_
  obtain ⟨q3, hv4, hf⟩ := b_s hf
  refine c_mo_judged q1 (n := 9) ⟨dX12_eachOf_6, rfl⟩ klX12_432 hv4 (by decide) (Nat.le_of_ble_eq_true rfl) rfl rfl ?_
  cases hf
  exact y_ireturn (n := 10) ⟨dX12_eachOf_9, rfl⟩ rfl rfl hk
theorem c_mo_eachOf (a1 : Int32) (M : dM) {o : (Int32 × dM)} {y : mz_M} {d : Nat} {Q : mz_P} {pc n i : Nat} {L : List (Option Value)} {st : List Value} (h : mz_d y.2.1 pc n 3 (.invokevirtual i)) (hl : mz_ml y.1.cls i yX12_eachOf) (hf : f_mo_eachOf a1 M = some o) (hd : 5 + 1 ≤ d) (hsm : (st.map (fun v => v.category)).sum ≤ 8) (hLr : mz_rL 133 L = true) (hSr : mz_rS 133 st = true) (kk : mW y d Q n L (.int o.1 :: st) o.2) : mW y d Q pc L (.int a1 :: .ref 66 :: st) M :=
  y_callV kmX12_eachOf kvX12_eachOf l_66 (by decide +kernel) (by decide +kernel) h hl (ok_mo_eachOf a1 M hf) (vs := [.int a1]) rfl rfl hd hsm hLr hSr kk
noncomputable def f_mo_each (a1 : Int32) (M : dM) : Option (Int32 × dM) :=
  if (f_mo_isFind a1 (sI M 66 0 0)) = true then
    (f_mo_eachOf a1 (sI M 66 0 0)).bind fun q1 =>
    some (q1.1, q1.2)
  else
    some ((-1), (sI M 66 0 0))
theorem ok_mo_each (a1 : Int32) (M : dM) {o : (Int32 × dM)} (hf : f_mo_each a1 M = some o) : mO mX12_each 6 [.ref 66, .int a1] M (some (.int o.1)) o.2 := by
  refine y_ok (by decide +kernel) (by decide) (L0 := [some (.ref 66), some (.int a1)]) rfl ?_
  have hk := mR_mQ (some (.int o.1)) o.2
  generalize mQ _ _ = Q at hk ⊢
  unfold f_mo_each at hf
  refine y_aload_n (i := 0) (n := 1) ⟨dX12_each_0, rfl⟩ rfl ?_
  refine y_iconst (n := 2) (v := 0) ⟨dX12_each_1, rfl⟩ ki_0 ?_
  refine y_putI (n := 5) ⟨dX12_each_2, rfl⟩ kfX12_214 l_66 (by decide +kernel) rfl ?_
  refine y_aload_n (i := 0) (n := 6) ⟨dX12_each_5, rfl⟩ rfl ?_
  refine y_iload_n (i := 1) (n := 7) ⟨dX12_each_6, rfl⟩ rfl ?_
  refine c_mo_isFind a1 (sI M 66 0 0) (n := 10) ⟨dX12_each_7, rfl⟩ klX12_249 rfl (by decide) (Nat.le_of_ble_eq_true rfl) rfl rfl ?_
  refine y_if_eq (t := 21) (n := 13) ⟨dX12_each_10, rfl, rfl⟩ (fun h0 => ?_) (fun h0 => ?_)
  · have hc := bI_0 h0
    replace hf := i_f hc hf
    refine y_iconst (n := 22) (v := (-1)) ⟨dX12_each_21, rfl⟩ ki_m1 ?_
    cases hf
    exact y_ireturn (n := 23) ⟨dX12_each_22, rfl⟩ rfl rfl hk
  · have hc := bI_1 h0
    replace hf := i_t hc hf
    refine y_aload_n (i := 0) (n := 14) ⟨dX12_each_13, rfl⟩ rfl ?_
    refine y_iload_n (i := 1) (n := 15) ⟨dX12_each_14, rfl⟩ rfl ?_
    obtain ⟨q1, hv2, hf⟩ := b_s hf
    refine c_mo_eachOf a1 (sI M 66 0 0) (n := 18) ⟨dX12_each_15, rfl⟩ klX12_438 hv2 (by decide) (Nat.le_of_ble_eq_true rfl) rfl rfl ?_
    refine y_goto (t := 22) ⟨dX12_each_18, rfl, rfl⟩ ?_
    cases hf
    exact y_ireturn (n := 23) ⟨dX12_each_22, rfl⟩ rfl rfl hk
theorem c_mo_each (a1 : Int32) (M : dM) {o : (Int32 × dM)} {y : mz_M} {d : Nat} {Q : mz_P} {pc n i : Nat} {L : List (Option Value)} {st : List Value} (h : mz_d y.2.1 pc n 3 (.invokevirtual i)) (hl : mz_ml y.1.cls i yX12_each) (hf : f_mo_each a1 M = some o) (hd : 6 + 1 ≤ d) (hsm : (st.map (fun v => v.category)).sum ≤ 8) (hLr : mz_rL 133 L = true) (hSr : mz_rS 133 st = true) (kk : mW y d Q n L (.int o.1 :: st) o.2) : mW y d Q pc L (.int a1 :: .ref 66 :: st) M :=
  y_callV kmX12_each kvX12_each l_66 (by decide +kernel) (by decide +kernel) h hl (ok_mo_each a1 M hf) (vs := [.int a1]) rfl rfl hd hsm hLr hSr kk
noncomputable def f_mo_isStopped (a1 : Int32) (a2 : Int32) (M : dM) : Option (Bool × dM) :=
  (f_mo_lays a2 M).bind fun q1 =>
  (f_mo_worth (12 + a1) q1).bind fun q3 =>
  if q3.1 = 0 then
    some (false, q3.2)
  else
    some (true, q3.2)
theorem ok_mo_isStopped (a1 : Int32) (a2 : Int32) (M : dM) {o : (Bool × dM)} (hf : f_mo_isStopped a1 a2 M = some o) : mO mX12_isStopped 4 [.ref 66, .int a1, .int a2] M (some (.int (bI o.1))) o.2 := by
  refine y_ok (by decide +kernel) (by decide) (L0 := [some (.ref 66), some (.int a1), some (.int a2)]) rfl ?_
  have hk := mR_mQ (some (.int (bI o.1))) o.2
  generalize mQ _ _ = Q at hk ⊢
  unfold f_mo_isStopped at hf
  refine y_aload_n (i := 0) (n := 1) ⟨dX12_isStopped_0, rfl⟩ rfl ?_
  refine y_iload_n (i := 2) (n := 2) ⟨dX12_isStopped_1, rfl⟩ rfl ?_
  obtain ⟨q1, hv2, hf⟩ := b_s hf
  refine c_mo_lays a2 M (n := 5) ⟨dX12_isStopped_2, rfl⟩ klX12_429 hv2 (by decide) (Nat.le_of_ble_eq_true rfl) rfl rfl ?_
  refine y_aload_n (i := 0) (n := 6) ⟨dX12_isStopped_5, rfl⟩ rfl ?_
  refine y_bipush (n := 8) (v := 12) ⟨dX12_isStopped_6, rfl⟩ kb_12 ?_
  refine y_iload_n (i := 1) (n := 9) ⟨dX12_isStopped_8, rfl⟩ rfl ?_
  refine y_iadd (n := 10) ⟨dX12_isStopped_9, rfl⟩ ?_
  obtain ⟨q3, hv4, hf⟩ := b_s hf
  refine c_mo_worth (12 + a1) q1 (n := 13) ⟨dX12_isStopped_10, rfl⟩ klX12_435 hv4 (by decide) (Nat.le_of_ble_eq_true rfl) rfl rfl ?_
  refine y_if_eq (t := 20) (n := 16) ⟨dX12_isStopped_13, rfl, rfl⟩ (fun (hc : q3.1 = 0) => ?_) (fun (hc : ¬ (q3.1 = 0)) => ?_)
  · replace hf := i_t hc hf
    refine y_iconst (n := 21) (v := 0) ⟨dX12_isStopped_20, rfl⟩ ki_0 ?_
    cases hf
    exact y_ireturn (n := 22) ⟨dX12_isStopped_21, rfl⟩ rfl rfl hk
  · replace hf := i_f hc hf
    refine y_iconst (n := 17) (v := 1) ⟨dX12_isStopped_16, rfl⟩ ki_1 ?_
    refine y_goto (t := 21) ⟨dX12_isStopped_17, rfl, rfl⟩ ?_
    cases hf
    exact y_ireturn (n := 22) ⟨dX12_isStopped_21, rfl⟩ rfl rfl hk
theorem c_mo_isStopped (a1 : Int32) (a2 : Int32) (M : dM) {o : (Bool × dM)} {y : mz_M} {d : Nat} {Q : mz_P} {pc n i : Nat} {L : List (Option Value)} {st : List Value} (h : mz_d y.2.1 pc n 3 (.invokevirtual i)) (hl : mz_ml y.1.cls i yX12_isStopped) (hf : f_mo_isStopped a1 a2 M = some o) (hd : 4 + 1 ≤ d) (hsm : (st.map (fun v => v.category)).sum ≤ 8) (hLr : mz_rL 133 L = true) (hSr : mz_rS 133 st = true) (kk : mW y d Q n L (.int (bI o.1) :: st) o.2) : mW y d Q pc L (.int a2 :: .int a1 :: .ref 66 :: st) M :=
  y_callV kmX12_isStopped kvX12_isStopped l_66 (by decide +kernel) (by decide +kernel) h hl (ok_mo_isStopped a1 a2 M hf) (vs := [.int a1, .int a2]) rfl rfl hd hsm hLr hSr kk
noncomputable def f_mo_stops (a1 : Int32) (a2 : Int32) (M : dM) : Option (Int32 × dM) :=
  if (f_mo_isFind a2 (sI M 66 0 0)) = true then
    if (f_mo_within a1 0 7) = true then
      gd (vp_in (12 + a1) 21) <|
      if (gI (sI M 66 0 0) 82 (12 + a1).toNatClampNeg) = 0 then
        some ((-1), (sI M 66 0 0))
      else
        (f_mo_isStopped a1 a2 (sI M 66 0 0)).bind fun q2 =>
        if q2.1 = true then
          some (1, q2.2)
        else
          some (0, q2.2)
    else
      some ((-1), (sI M 66 0 0))
  else
    some ((-1), (sI M 66 0 0))
theorem ok_mo_stops (a1 : Int32) (a2 : Int32) (M : dM) {o : (Int32 × dM)} (hf : f_mo_stops a1 a2 M = some o) : mO mX12_stops 5 [.ref 66, .int a1, .int a2] M (some (.int o.1)) o.2 := by
  refine y_ok (by decide +kernel) (by decide) (L0 := [some (.ref 66), some (.int a1), some (.int a2)]) rfl ?_
  have hk := mR_mQ (some (.int o.1)) o.2
  generalize mQ _ _ = Q at hk ⊢
  unfold f_mo_stops at hf
  refine y_aload_n (i := 0) (n := 1) ⟨dX12_stops_0, rfl⟩ rfl ?_
  refine y_iconst (n := 2) (v := 0) ⟨dX12_stops_1, rfl⟩ ki_0 ?_
  refine y_putI (n := 5) ⟨dX12_stops_2, rfl⟩ kfX12_214 l_66 (by decide +kernel) rfl ?_
  refine y_aload_n (i := 0) (n := 6) ⟨dX12_stops_5, rfl⟩ rfl ?_
  refine y_iload_n (i := 2) (n := 7) ⟨dX12_stops_6, rfl⟩ rfl ?_
  refine c_mo_isFind a2 (sI M 66 0 0) (n := 10) ⟨dX12_stops_7, rfl⟩ klX12_249 rfl (by decide) (Nat.le_of_ble_eq_true rfl) rfl rfl ?_
  refine y_if_eq (t := 35) (n := 13) ⟨dX12_stops_10, rfl, rfl⟩ (fun h0 => ?_) (fun h0 => ?_)
  · have hc := bI_0 h0
    replace hf := i_f hc hf
    refine y_iconst (n := 36) (v := (-1)) ⟨dX12_stops_35, rfl⟩ ki_m1 ?_
    cases hf
    exact y_ireturn (n := 37) ⟨dX12_stops_36, rfl⟩ rfl rfl hk
  · have hc := bI_1 h0
    replace hf := i_t hc hf
    refine y_iload_n (i := 1) (n := 14) ⟨dX12_stops_13, rfl⟩ rfl ?_
    refine y_iconst (n := 15) (v := 0) ⟨dX12_stops_14, rfl⟩ ki_0 ?_
    refine y_bipush (n := 17) (v := 7) ⟨dX12_stops_15, rfl⟩ kb_7 ?_
    refine c_mo_within a1 0 7 (sI M 66 0 0) (n := 20) ⟨dX12_stops_17, rfl⟩ klX12_221 rfl (by decide) (Nat.le_of_ble_eq_true rfl) rfl rfl ?_
    refine y_if_eq (t := 35) (n := 23) ⟨dX12_stops_20, rfl, rfl⟩ (fun h0 => ?_) (fun h0 => ?_)
    · have hc := bI_0 h0
      replace hf := i_f hc hf
      refine y_iconst (n := 36) (v := (-1)) ⟨dX12_stops_35, rfl⟩ ki_m1 ?_
      cases hf
      exact y_ireturn (n := 37) ⟨dX12_stops_36, rfl⟩ rfl rfl hk
    · have hc := bI_1 h0
      replace hf := i_t hc hf
      refine y_aload_n (i := 0) (n := 24) ⟨dX12_stops_23, rfl⟩ rfl ?_
      refine y_getR (n := 27) ⟨dX12_stops_24, rfl⟩ kfX12_55 l_66 rfl r_66_26 ?_
      refine y_bipush (n := 29) (v := 12) ⟨dX12_stops_27, rfl⟩ kb_12 ?_
      refine y_iload_n (i := 1) (n := 30) ⟨dX12_stops_29, rfl⟩ rfl ?_
      refine y_iadd (n := 31) ⟨dX12_stops_30, rfl⟩ ?_
      obtain ⟨hg1, hf⟩ := g_s hf
      refine y_baload (n := 32) ⟨dX12_stops_31, rfl⟩ l_82 hg1 ?_
      refine y_if_ne (t := 37) (n := 35) ⟨dX12_stops_32, rfl, rfl⟩ (fun (hc : ¬ ((gI (sI M 66 0 0) 82 (12 + a1).toNatClampNeg) = 0)) => ?_) (fun (hc : (gI (sI M 66 0 0) 82 (12 + a1).toNatClampNeg) = 0) => ?_)
      · replace hf := i_f hc hf
        refine y_aload_n (i := 0) (n := 38) ⟨dX12_stops_37, rfl⟩ rfl ?_
        refine y_iload_n (i := 1) (n := 39) ⟨dX12_stops_38, rfl⟩ rfl ?_
        refine y_iload_n (i := 2) (n := 40) ⟨dX12_stops_39, rfl⟩ rfl ?_
        obtain ⟨q2, hv3, hf⟩ := b_s hf
        refine c_mo_isStopped a1 a2 (sI M 66 0 0) (n := 43) ⟨dX12_stops_40, rfl⟩ klX12_441 hv3 (by decide) (Nat.le_of_ble_eq_true rfl) rfl rfl ?_
        refine y_if_eq (t := 50) (n := 46) ⟨dX12_stops_43, rfl, rfl⟩ (fun h0 => ?_) (fun h0 => ?_)
        · have hc := bI_0 h0
          replace hf := i_f hc hf
          refine y_iconst (n := 51) (v := 0) ⟨dX12_stops_50, rfl⟩ ki_0 ?_
          cases hf
          exact y_ireturn (n := 52) ⟨dX12_stops_51, rfl⟩ rfl rfl hk
        · have hc := bI_1 h0
          replace hf := i_t hc hf
          refine y_iconst (n := 47) (v := 1) ⟨dX12_stops_46, rfl⟩ ki_1 ?_
          refine y_goto (t := 51) ⟨dX12_stops_47, rfl, rfl⟩ ?_
          cases hf
          exact y_ireturn (n := 52) ⟨dX12_stops_51, rfl⟩ rfl rfl hk
      · replace hf := i_t hc hf
        refine y_iconst (n := 36) (v := (-1)) ⟨dX12_stops_35, rfl⟩ ki_m1 ?_
        cases hf
        exact y_ireturn (n := 37) ⟨dX12_stops_36, rfl⟩ rfl rfl hk
theorem c_mo_stops (a1 : Int32) (a2 : Int32) (M : dM) {o : (Int32 × dM)} {y : mz_M} {d : Nat} {Q : mz_P} {pc n i : Nat} {L : List (Option Value)} {st : List Value} (h : mz_d y.2.1 pc n 3 (.invokevirtual i)) (hl : mz_ml y.1.cls i yX12_stops) (hf : f_mo_stops a1 a2 M = some o) (hd : 5 + 1 ≤ d) (hsm : (st.map (fun v => v.category)).sum ≤ 8) (hLr : mz_rL 133 L = true) (hSr : mz_rS 133 st = true) (kk : mW y d Q n L (.int o.1 :: st) o.2) : mW y d Q pc L (.int a2 :: .int a1 :: .ref 66 :: st) M :=
  y_callV kmX12_stops kvX12_stops l_66 (by decide +kernel) (by decide +kernel) h hl (ok_mo_stops a1 a2 M hf) (vs := [.int a1, .int a2]) rfl rfl hd hsm hLr hSr kk
def K_mo_counts_25 (Q : mz_P) (x1 : Int32) (x2 : Int32) (M : dM) : ((Int32 × dM) ⊕ dM) → Prop
  | .inl s => mW mX12_counts 6 Q 25 [some (.ref 66), some (.int x1), some (.int x2), some (.int s.1), none, none] [] s.2
  | .inr r => mR Q none r
noncomputable def b_mo_counts_25_169 (x1 : Int32) (x2 : Int32) (x3 : Int32) (y1 : Int32) (y2 : Int32) (M : dM) : Option ((Int32 × dM) ⊕ dM) :=
  some (.inl ((x3 + 1), (sI M 66 52 (y1 + y2))))
noncomputable def b_mo_counts_25_168 (x1 : Int32) (x2 : Int32) (x3 : Int32) (y1 : Int32) (M : dM) : Option ((Int32 × dM) ⊕ dM) :=
  b_mo_counts_25_169 x1 x2 x3 y1 0 M
noncomputable def b_mo_counts_25_145 (x1 : Int32) (x2 : Int32) (x3 : Int32) (x4 : Int32) (x5 : Int32) (y1 : Int32) (y2 : Int32) (M : dM) : Option ((Int32 × dM) ⊕ dM) :=
  if x5 = 0 then
    b_mo_counts_25_168 x1 x2 x3 (gI (sI M 66 54 (y1 + y2)) 66 52) (sI M 66 54 (y1 + y2))
  else
    if x4 = 0 then
      b_mo_counts_25_168 x1 x2 x3 (gI (sI M 66 54 (y1 + y2)) 66 52) (sI M 66 54 (y1 + y2))
    else
      b_mo_counts_25_169 x1 x2 x3 (gI (sI M 66 54 (y1 + y2)) 66 52) 1 (sI M 66 54 (y1 + y2))
noncomputable def b_mo_counts_25_126 (x1 : Int32) (x2 : Int32) (x3 : Int32) (x4 : Int32) (x5 : Int32) (y1 : Int32) (y2 : Int32) (M : dM) : Option ((Int32 × dM) ⊕ dM) :=
  if x4 = 0 then
    b_mo_counts_25_145 x1 x2 x3 x4 x5 (gI (sI M 66 51 (y1 + y2)) 66 54) 0 (sI M 66 51 (y1 + y2))
  else
    b_mo_counts_25_145 x1 x2 x3 x4 x5 (gI (sI M 66 51 (y1 + y2)) 66 54) 1 (sI M 66 51 (y1 + y2))
noncomputable def b_mo_counts_25_109 (x1 : Int32) (x2 : Int32) (x3 : Int32) (x4 : Int32) (y0 : Int32) (M : dM) : Option ((Int32 × dM) ⊕ dM) :=
  if y0 = 0 then
    b_mo_counts_25_126 x1 x2 x3 x4 y0 (gI M 66 51) 0 M
  else
    b_mo_counts_25_126 x1 x2 x3 x4 y0 (gI M 66 51) 1 M
noncomputable def b_mo_counts_25_92 (x1 : Int32) (x2 : Int32) (x3 : Int32) (y0 : Int32) (M : dM) : Option ((Int32 × dM) ⊕ dM) :=
  gd (vp_in x3 40) <|
  if (gI M 78 x3.toNatClampNeg) = x1 then
    b_mo_counts_25_109 x1 x2 x3 y0 1 M
  else
    b_mo_counts_25_109 x1 x2 x3 y0 0 M
noncomputable def b_mo_counts_25_25 (x1 : Int32) (x2 : Int32) (x3 : Int32) (M : dM) : Option ((Int32 × dM) ⊕ dM) :=
  if (gI M 66 9) ≤ x3 then
    some (.inr M)
  else
    if x2 = 0 then
      (f_mo_factOf x3 14 M).bind fun v6 =>
      if v6 ≤ 0 then
        b_mo_counts_25_92 x1 x2 x3 0 M
      else
        b_mo_counts_25_92 x1 x2 x3 1 M
    else
      if x2 = 1 then
        (f_mo_factOf x3 12 M).bind fun v4 =>
        if v4 = 1 then
          b_mo_counts_25_92 x1 x2 x3 1 M
        else
          b_mo_counts_25_92 x1 x2 x3 0 M
      else
        (f_mo_eachOf x3 M).bind fun q1 =>
        if q1.1 ≤ 0 then
          b_mo_counts_25_92 x1 x2 x3 0 q1.2
        else
          b_mo_counts_25_92 x1 x2 x3 1 q1.2
noncomputable def l_mo_counts_25 (x1 : Int32) (x2 : Int32) (x3 : Int32) (M : dM) : Option dM := lpc (fun s => b_mo_counts_25_25 x1 x2 s.1 s.2) (x3, M)
noncomputable def f_mo_counts (a1 : Int32) (a2 : Int32) (M : dM) : Option dM :=
  (l_mo_counts_25 a1 a2 0 (sI (sI (sI (sI M 66 51 0) 66 52 0) 66 53 (gI (sI (sI M 66 51 0) 66 52 0) 66 9)) 66 54 0)).bind fun r10 => some r10
theorem w_b_mo_counts_25_169 (x1 : Int32) (x2 : Int32) (x3 : Int32) (y1 : Int32) (y2 : Int32) (M : dM) {Q : mz_P} {o : ((Int32 × dM) ⊕ dM)} (hf : b_mo_counts_25_169 x1 x2 x3 y1 y2 M = some o) (hk : K_mo_counts_25 Q x1 x2 M o) : mW mX12_counts 6 Q 169 [some (.ref 66), some (.int x1), some (.int x2), some (.int x3), none, none] [.ref 66, .int y1, .int y2] M := by
  unfold b_mo_counts_25_169 at hf
  refine y_iadd (n := 170) ⟨dX12_counts_169, rfl⟩ ?_
  refine y_putI (n := 173) ⟨dX12_counts_170, rfl⟩ kfX12_447 l_66 (by decide +kernel) rfl ?_
  refine y_iinc (i := 3) (n := 176) (b := (x3 + 1)) (L2 := [some (.ref 66), some (.int x1), some (.int x2), some (.int (x3 + 1)), none, none]) ⟨dX12_counts_173, rfl⟩ rfl (by rw [ki_1]) (by decide) rfl rfl ?_
  refine y_goto (t := 25) ⟨dX12_counts_176, rfl, rfl⟩ ?_
  cases hf
  exact y_wk ⟨Or.inr rfl, Or.inr rfl, Or.inr rfl, Or.inr rfl, Or.inr rfl, Or.inr rfl, trivial⟩ hk
theorem w_b_mo_counts_25_168 (x1 : Int32) (x2 : Int32) (x3 : Int32) (y1 : Int32) (M : dM) {Q : mz_P} {o : ((Int32 × dM) ⊕ dM)} (hf : b_mo_counts_25_168 x1 x2 x3 y1 M = some o) (hk : K_mo_counts_25 Q x1 x2 M o) : mW mX12_counts 6 Q 168 [some (.ref 66), some (.int x1), some (.int x2), some (.int x3), none, none] [.ref 66, .int y1] M := by
  unfold b_mo_counts_25_168 at hf
  refine y_iconst (n := 169) (v := 0) ⟨dX12_counts_168, rfl⟩ ki_0 ?_
  exact y_wk ⟨Or.inr rfl, Or.inr rfl, Or.inr rfl, Or.inr rfl, Or.inr rfl, Or.inr rfl, trivial⟩ (w_b_mo_counts_25_169 x1 x2 x3 y1 0 M hf hk)
theorem w_b_mo_counts_25_145 (x1 : Int32) (x2 : Int32) (x3 : Int32) (x4 : Int32) (x5 : Int32) (y1 : Int32) (y2 : Int32) (M : dM) {Q : mz_P} {o : ((Int32 × dM) ⊕ dM)} (hf : b_mo_counts_25_145 x1 x2 x3 x4 x5 y1 y2 M = some o) (hk : K_mo_counts_25 Q x1 x2 M o) : mW mX12_counts 6 Q 145 [some (.ref 66), some (.int x1), some (.int x2), some (.int x3), some (.int x4), some (.int x5)] [.ref 66, .int y1, .int y2] M := by
  unfold b_mo_counts_25_145 at hf
  refine y_iadd (n := 146) ⟨dX12_counts_145, rfl⟩ ?_
  refine y_putI (n := 149) ⟨dX12_counts_146, rfl⟩ kfX12_453 l_66 (by decide +kernel) rfl ?_
  refine y_aload_n (i := 0) (n := 150) ⟨dX12_counts_149, rfl⟩ rfl ?_
  refine y_dup_r (n := 151) ⟨dX12_counts_150, rfl⟩ ?_
  refine y_getI (n := 154) ⟨dX12_counts_151, rfl⟩ kfX12_447 l_66 rfl ?_
  refine y_iload (i := 5) (n := 156) ⟨dX12_counts_154, rfl⟩ rfl ?_
  refine y_if_eq (t := 168) (n := 159) ⟨dX12_counts_156, rfl, rfl⟩ (fun (hc : x5 = 0) => ?_) (fun (hc : ¬ (x5 = 0)) => ?_)
  · replace hf := i_t hc hf
    exact y_wk ⟨Or.inr rfl, Or.inr rfl, Or.inr rfl, Or.inr rfl, Or.inl rfl, Or.inl rfl, trivial⟩ (w_b_mo_counts_25_168 x1 x2 x3 (gI (sI M 66 54 (y1 + y2)) 66 52) (sI M 66 54 (y1 + y2)) hf hk)
  · replace hf := i_f hc hf
    refine y_iload (i := 4) (n := 161) ⟨dX12_counts_159, rfl⟩ rfl ?_
    refine y_if_eq (t := 168) (n := 164) ⟨dX12_counts_161, rfl, rfl⟩ (fun (hc : x4 = 0) => ?_) (fun (hc : ¬ (x4 = 0)) => ?_)
    · replace hf := i_t hc hf
      exact y_wk ⟨Or.inr rfl, Or.inr rfl, Or.inr rfl, Or.inr rfl, Or.inl rfl, Or.inl rfl, trivial⟩ (w_b_mo_counts_25_168 x1 x2 x3 (gI (sI M 66 54 (y1 + y2)) 66 52) (sI M 66 54 (y1 + y2)) hf hk)
    · replace hf := i_f hc hf
      refine y_iconst (n := 165) (v := 1) ⟨dX12_counts_164, rfl⟩ ki_1 ?_
      refine y_goto (t := 169) ⟨dX12_counts_165, rfl, rfl⟩ ?_
      exact y_wk ⟨Or.inr rfl, Or.inr rfl, Or.inr rfl, Or.inr rfl, Or.inl rfl, Or.inl rfl, trivial⟩ (w_b_mo_counts_25_169 x1 x2 x3 (gI (sI M 66 54 (y1 + y2)) 66 52) 1 (sI M 66 54 (y1 + y2)) hf hk)
theorem w_b_mo_counts_25_126 (x1 : Int32) (x2 : Int32) (x3 : Int32) (x4 : Int32) (x5 : Int32) (y1 : Int32) (y2 : Int32) (M : dM) {Q : mz_P} {o : ((Int32 × dM) ⊕ dM)} (hf : b_mo_counts_25_126 x1 x2 x3 x4 x5 y1 y2 M = some o) (hk : K_mo_counts_25 Q x1 x2 M o) : mW mX12_counts 6 Q 126 [some (.ref 66), some (.int x1), some (.int x2), some (.int x3), some (.int x4), some (.int x5)] [.ref 66, .int y1, .int y2] M := by
  unfold b_mo_counts_25_126 at hf
  refine y_iadd (n := 127) ⟨dX12_counts_126, rfl⟩ ?_
  refine y_putI (n := 130) ⟨dX12_counts_127, rfl⟩ kfX12_444 l_66 (by decide +kernel) rfl ?_
  refine y_aload_n (i := 0) (n := 131) ⟨dX12_counts_130, rfl⟩ rfl ?_
  refine y_dup_r (n := 132) ⟨dX12_counts_131, rfl⟩ ?_
  refine y_getI (n := 135) ⟨dX12_counts_132, rfl⟩ kfX12_453 l_66 rfl ?_
  refine y_iload (i := 4) (n := 137) ⟨dX12_counts_135, rfl⟩ rfl ?_
  refine y_if_eq (t := 144) (n := 140) ⟨dX12_counts_137, rfl, rfl⟩ (fun (hc : x4 = 0) => ?_) (fun (hc : ¬ (x4 = 0)) => ?_)
  · replace hf := i_t hc hf
    refine y_iconst (n := 145) (v := 0) ⟨dX12_counts_144, rfl⟩ ki_0 ?_
    exact y_wk ⟨Or.inr rfl, Or.inr rfl, Or.inr rfl, Or.inr rfl, Or.inr rfl, Or.inr rfl, trivial⟩ (w_b_mo_counts_25_145 x1 x2 x3 x4 x5 (gI (sI M 66 51 (y1 + y2)) 66 54) 0 (sI M 66 51 (y1 + y2)) hf hk)
  · replace hf := i_f hc hf
    refine y_iconst (n := 141) (v := 1) ⟨dX12_counts_140, rfl⟩ ki_1 ?_
    refine y_goto (t := 145) ⟨dX12_counts_141, rfl, rfl⟩ ?_
    exact y_wk ⟨Or.inr rfl, Or.inr rfl, Or.inr rfl, Or.inr rfl, Or.inr rfl, Or.inr rfl, trivial⟩ (w_b_mo_counts_25_145 x1 x2 x3 x4 x5 (gI (sI M 66 51 (y1 + y2)) 66 54) 1 (sI M 66 51 (y1 + y2)) hf hk)
theorem w_b_mo_counts_25_109 (x1 : Int32) (x2 : Int32) (x3 : Int32) (x4 : Int32) (y0 : Int32) (M : dM) {Q : mz_P} {o : ((Int32 × dM) ⊕ dM)} (hf : b_mo_counts_25_109 x1 x2 x3 x4 y0 M = some o) (hk : K_mo_counts_25 Q x1 x2 M o) : mW mX12_counts 6 Q 109 [some (.ref 66), some (.int x1), some (.int x2), some (.int x3), some (.int x4), none] [.int y0] M := by
  unfold b_mo_counts_25_109 at hf
  refine y_istore (i := 5) (n := 111) (L2 := [some (.ref 66), some (.int x1), some (.int x2), some (.int x3), some (.int x4), some (.int y0)]) ⟨dX12_counts_109, rfl⟩ (by decide) rfl rfl ?_
  refine y_aload_n (i := 0) (n := 112) ⟨dX12_counts_111, rfl⟩ rfl ?_
  refine y_dup_r (n := 113) ⟨dX12_counts_112, rfl⟩ ?_
  refine y_getI (n := 116) ⟨dX12_counts_113, rfl⟩ kfX12_444 l_66 rfl ?_
  refine y_iload (i := 5) (n := 118) ⟨dX12_counts_116, rfl⟩ rfl ?_
  refine y_if_eq (t := 125) (n := 121) ⟨dX12_counts_118, rfl, rfl⟩ (fun (hc : y0 = 0) => ?_) (fun (hc : ¬ (y0 = 0)) => ?_)
  · replace hf := i_t hc hf
    refine y_iconst (n := 126) (v := 0) ⟨dX12_counts_125, rfl⟩ ki_0 ?_
    exact y_wk ⟨Or.inr rfl, Or.inr rfl, Or.inr rfl, Or.inr rfl, Or.inr rfl, Or.inr rfl, trivial⟩ (w_b_mo_counts_25_126 x1 x2 x3 x4 y0 (gI M 66 51) 0 M hf hk)
  · replace hf := i_f hc hf
    refine y_iconst (n := 122) (v := 1) ⟨dX12_counts_121, rfl⟩ ki_1 ?_
    refine y_goto (t := 126) ⟨dX12_counts_122, rfl, rfl⟩ ?_
    exact y_wk ⟨Or.inr rfl, Or.inr rfl, Or.inr rfl, Or.inr rfl, Or.inr rfl, Or.inr rfl, trivial⟩ (w_b_mo_counts_25_126 x1 x2 x3 x4 y0 (gI M 66 51) 1 M hf hk)
theorem w_b_mo_counts_25_92 (x1 : Int32) (x2 : Int32) (x3 : Int32) (y0 : Int32) (M : dM) {Q : mz_P} {o : ((Int32 × dM) ⊕ dM)} (hf : b_mo_counts_25_92 x1 x2 x3 y0 M = some o) (hk : K_mo_counts_25 Q x1 x2 M o) : mW mX12_counts 6 Q 92 [some (.ref 66), some (.int x1), some (.int x2), some (.int x3), none, none] [.int y0] M := by
  unfold b_mo_counts_25_92 at hf
  refine y_istore (i := 4) (n := 94) (L2 := [some (.ref 66), some (.int x1), some (.int x2), some (.int x3), some (.int y0), none]) ⟨dX12_counts_92, rfl⟩ (by decide) rfl rfl ?_
  refine y_aload_n (i := 0) (n := 95) ⟨dX12_counts_94, rfl⟩ rfl ?_
  refine y_getR (n := 98) ⟨dX12_counts_95, rfl⟩ kfX12_43 l_66 rfl r_66_14 ?_
  refine y_iload_n (i := 3) (n := 99) ⟨dX12_counts_98, rfl⟩ rfl ?_
  obtain ⟨hg3, hf⟩ := g_s hf
  refine y_iaload (n := 100) ⟨dX12_counts_99, rfl⟩ l_78 hg3 ?_
  refine y_iload_n (i := 1) (n := 101) ⟨dX12_counts_100, rfl⟩ rfl ?_
  refine y_icmp_ne (t := 108) (n := 104) ⟨dX12_counts_101, rfl, rfl⟩ (fun (hc : ¬ ((gI M 78 x3.toNatClampNeg) = x1)) => ?_) (fun (hc : (gI M 78 x3.toNatClampNeg) = x1) => ?_)
  · replace hf := i_f hc hf
    refine y_iconst (n := 109) (v := 0) ⟨dX12_counts_108, rfl⟩ ki_0 ?_
    exact y_wk ⟨Or.inr rfl, Or.inr rfl, Or.inr rfl, Or.inr rfl, Or.inr rfl, Or.inr rfl, trivial⟩ (w_b_mo_counts_25_109 x1 x2 x3 y0 0 M hf hk)
  · replace hf := i_t hc hf
    refine y_iconst (n := 105) (v := 1) ⟨dX12_counts_104, rfl⟩ ki_1 ?_
    refine y_goto (t := 109) ⟨dX12_counts_105, rfl, rfl⟩ ?_
    exact y_wk ⟨Or.inr rfl, Or.inr rfl, Or.inr rfl, Or.inr rfl, Or.inr rfl, Or.inr rfl, trivial⟩ (w_b_mo_counts_25_109 x1 x2 x3 y0 1 M hf hk)
theorem w_b_mo_counts_25_25 (x1 : Int32) (x2 : Int32) (x3 : Int32) (M : dM) {Q : mz_P} {o : ((Int32 × dM) ⊕ dM)} (hf : b_mo_counts_25_25 x1 x2 x3 M = some o) (hk : K_mo_counts_25 Q x1 x2 M o) : mW mX12_counts 6 Q 25 [some (.ref 66), some (.int x1), some (.int x2), some (.int x3), none, none] [] M := by
  unfold b_mo_counts_25_25 at hf
  refine y_iload_n (i := 3) (n := 26) ⟨dX12_counts_25, rfl⟩ rfl ?_
  refine y_aload_n (i := 0) (n := 27) ⟨dX12_counts_26, rfl⟩ rfl ?_
  refine y_getI (n := 30) ⟨dX12_counts_27, rfl⟩ kfX12_235 l_66 rfl ?_
  refine y_icmp_ge (t := 179) (n := 33) ⟨dX12_counts_30, rfl, rfl⟩ (fun (hc : (gI M 66 9) ≤ x3) => ?_) (fun (hc : ¬ ((gI M 66 9) ≤ x3)) => ?_)
  · replace hf := i_t hc hf
    cases hf
    exact y_return (n := 180) ⟨dX12_counts_179, rfl⟩ rfl hk
  · replace hf := i_f hc hf
    refine y_iload_n (i := 2) (n := 34) ⟨dX12_counts_33, rfl⟩ rfl ?_
    refine y_if_ne (t := 55) (n := 37) ⟨dX12_counts_34, rfl, rfl⟩ (fun (hc : ¬ (x2 = 0)) => ?_) (fun (hc : x2 = 0) => ?_)
    · replace hf := i_f hc hf
      refine y_iload_n (i := 2) (n := 56) ⟨dX12_counts_55, rfl⟩ rfl ?_
      refine y_iconst (n := 57) (v := 1) ⟨dX12_counts_56, rfl⟩ ki_1 ?_
      refine y_icmp_ne (t := 79) (n := 60) ⟨dX12_counts_57, rfl, rfl⟩ (fun (hc : ¬ (x2 = 1)) => ?_) (fun (hc : x2 = 1) => ?_)
      · replace hf := i_f hc hf
        refine y_aload_n (i := 0) (n := 80) ⟨dX12_counts_79, rfl⟩ rfl ?_
        refine y_iload_n (i := 3) (n := 81) ⟨dX12_counts_80, rfl⟩ rfl ?_
        obtain ⟨q1, hv2, hf⟩ := b_s hf
        refine c_mo_eachOf x3 M (n := 84) ⟨dX12_counts_81, rfl⟩ klX12_438 hv2 (by decide) (Nat.le_of_ble_eq_true rfl) rfl rfl ?_
        refine y_if_le (t := 91) (n := 87) ⟨dX12_counts_84, rfl, rfl⟩ (fun (hc : q1.1 ≤ 0) => ?_) (fun (hc : ¬ (q1.1 ≤ 0)) => ?_)
        · replace hf := i_t hc hf
          refine y_iconst (n := 92) (v := 0) ⟨dX12_counts_91, rfl⟩ ki_0 ?_
          exact y_wk ⟨Or.inr rfl, Or.inr rfl, Or.inr rfl, Or.inr rfl, Or.inr rfl, Or.inr rfl, trivial⟩ (w_b_mo_counts_25_92 x1 x2 x3 0 q1.2 hf hk)
        · replace hf := i_f hc hf
          refine y_iconst (n := 88) (v := 1) ⟨dX12_counts_87, rfl⟩ ki_1 ?_
          refine y_goto (t := 92) ⟨dX12_counts_88, rfl, rfl⟩ ?_
          exact y_wk ⟨Or.inr rfl, Or.inr rfl, Or.inr rfl, Or.inr rfl, Or.inr rfl, Or.inr rfl, trivial⟩ (w_b_mo_counts_25_92 x1 x2 x3 1 q1.2 hf hk)
      · replace hf := i_t hc hf
        refine y_aload_n (i := 0) (n := 61) ⟨dX12_counts_60, rfl⟩ rfl ?_
        refine y_iload_n (i := 3) (n := 62) ⟨dX12_counts_61, rfl⟩ rfl ?_
        refine y_bipush (n := 64) (v := 12) ⟨dX12_counts_62, rfl⟩ kb_12 ?_
        obtain ⟨v4, hv5, hf⟩ := b_s hf
        refine c_mo_factOf x3 12 M (n := 67) ⟨dX12_counts_64, rfl⟩ klX12_252 hv5 (by decide) (Nat.le_of_ble_eq_true rfl) rfl rfl ?_
        refine y_iconst (n := 68) (v := 1) ⟨dX12_counts_67, rfl⟩ ki_1 ?_
        refine y_icmp_ne (t := 75) (n := 71) ⟨dX12_counts_68, rfl, rfl⟩ (fun (hc : ¬ (v4 = 1)) => ?_) (fun (hc : v4 = 1) => ?_)
        · replace hf := i_f hc hf
          refine y_iconst (n := 76) (v := 0) ⟨dX12_counts_75, rfl⟩ ki_0 ?_
          refine y_goto (t := 92) ⟨dX12_counts_76, rfl, rfl⟩ ?_
          exact y_wk ⟨Or.inr rfl, Or.inr rfl, Or.inr rfl, Or.inr rfl, Or.inr rfl, Or.inr rfl, trivial⟩ (w_b_mo_counts_25_92 x1 x2 x3 0 M hf hk)
        · replace hf := i_t hc hf
          refine y_iconst (n := 72) (v := 1) ⟨dX12_counts_71, rfl⟩ ki_1 ?_
          refine y_goto (t := 92) ⟨dX12_counts_72, rfl, rfl⟩ ?_
          exact y_wk ⟨Or.inr rfl, Or.inr rfl, Or.inr rfl, Or.inr rfl, Or.inr rfl, Or.inr rfl, trivial⟩ (w_b_mo_counts_25_92 x1 x2 x3 1 M hf hk)
    · replace hf := i_t hc hf
      refine y_aload_n (i := 0) (n := 38) ⟨dX12_counts_37, rfl⟩ rfl ?_
      refine y_iload_n (i := 3) (n := 39) ⟨dX12_counts_38, rfl⟩ rfl ?_
      refine y_bipush (n := 41) (v := 14) ⟨dX12_counts_39, rfl⟩ kb_14 ?_
      obtain ⟨v6, hv7, hf⟩ := b_s hf
      refine c_mo_factOf x3 14 M (n := 44) ⟨dX12_counts_41, rfl⟩ klX12_252 hv7 (by decide) (Nat.le_of_ble_eq_true rfl) rfl rfl ?_
      refine y_if_le (t := 51) (n := 47) ⟨dX12_counts_44, rfl, rfl⟩ (fun (hc : v6 ≤ 0) => ?_) (fun (hc : ¬ (v6 ≤ 0)) => ?_)
      · replace hf := i_t hc hf
        refine y_iconst (n := 52) (v := 0) ⟨dX12_counts_51, rfl⟩ ki_0 ?_
        refine y_goto (t := 92) ⟨dX12_counts_52, rfl, rfl⟩ ?_
        exact y_wk ⟨Or.inr rfl, Or.inr rfl, Or.inr rfl, Or.inr rfl, Or.inr rfl, Or.inr rfl, trivial⟩ (w_b_mo_counts_25_92 x1 x2 x3 0 M hf hk)
      · replace hf := i_f hc hf
        refine y_iconst (n := 48) (v := 1) ⟨dX12_counts_47, rfl⟩ ki_1 ?_
        refine y_goto (t := 92) ⟨dX12_counts_48, rfl, rfl⟩ ?_
        exact y_wk ⟨Or.inr rfl, Or.inr rfl, Or.inr rfl, Or.inr rfl, Or.inr rfl, Or.inr rfl, trivial⟩ (w_b_mo_counts_25_92 x1 x2 x3 1 M hf hk)
theorem wl_mo_counts_25 (x1 : Int32) (x2 : Int32) (x3 : Int32) (M : dM) {Q : mz_P} {x : dM} (hf : l_mo_counts_25 x1 x2 x3 M = some x) (hk : K_mo_counts_25 Q x1 x2 M (.inr x)) : mW mX12_counts 6 Q 25 [some (.ref 66), some (.int x1), some (.int x2), some (.int x3), none, none] [] M :=
  lpc_wp (Wh := fun s => mW mX12_counts 6 Q 25 [some (.ref 66), some (.int x1), some (.int x2), some (.int s.1), none, none] [] s.2) (K := K_mo_counts_25 Q x1 x2 M) (fun _ h => h) (fun s o hb hk => w_b_mo_counts_25_25 x1 x2 s.1 s.2 hb hk) hf hk
theorem ok_mo_counts (a1 : Int32) (a2 : Int32) (M : dM) {o : dM} (hf : f_mo_counts a1 a2 M = some o) : mO mX12_counts 6 [.ref 66, .int a1, .int a2] M none o := by
  refine y_ok (by decide +kernel) (by decide) (L0 := [some (.ref 66), some (.int a1), some (.int a2), none, none, none]) rfl ?_
  have hk := mR_mQ none o
  generalize mQ _ _ = Q at hk ⊢
  unfold f_mo_counts at hf
  refine y_aload_n (i := 0) (n := 1) ⟨dX12_counts_0, rfl⟩ rfl ?_
  refine y_iconst (n := 2) (v := 0) ⟨dX12_counts_1, rfl⟩ ki_0 ?_
  refine y_putI (n := 5) ⟨dX12_counts_2, rfl⟩ kfX12_444 l_66 (by decide +kernel) rfl ?_
  refine y_aload_n (i := 0) (n := 6) ⟨dX12_counts_5, rfl⟩ rfl ?_
  refine y_iconst (n := 7) (v := 0) ⟨dX12_counts_6, rfl⟩ ki_0 ?_
  refine y_putI (n := 10) ⟨dX12_counts_7, rfl⟩ kfX12_447 l_66 (by decide +kernel) rfl ?_
  refine y_aload_n (i := 0) (n := 11) ⟨dX12_counts_10, rfl⟩ rfl ?_
  refine y_aload_n (i := 0) (n := 12) ⟨dX12_counts_11, rfl⟩ rfl ?_
  refine y_getI (n := 15) ⟨dX12_counts_12, rfl⟩ kfX12_235 l_66 rfl ?_
  refine y_putI (n := 18) ⟨dX12_counts_15, rfl⟩ kfX12_450 l_66 (by decide +kernel) rfl ?_
  refine y_aload_n (i := 0) (n := 19) ⟨dX12_counts_18, rfl⟩ rfl ?_
  refine y_iconst (n := 20) (v := 0) ⟨dX12_counts_19, rfl⟩ ki_0 ?_
  refine y_putI (n := 23) ⟨dX12_counts_20, rfl⟩ kfX12_453 l_66 (by decide +kernel) rfl ?_
  refine y_iconst (n := 24) (v := 0) ⟨dX12_counts_23, rfl⟩ ki_0 ?_
  refine y_istore_n (i := 3) (n := 25) (L2 := [some (.ref 66), some (.int a1), some (.int a2), some (.int 0), none, none]) ⟨dX12_counts_24, rfl⟩ (by decide) rfl rfl ?_
  obtain ⟨r10, hl9, hf⟩ := b_s hf
  cases hf
  exact y_wk ⟨Or.inr rfl, Or.inr rfl, Or.inr rfl, Or.inr rfl, Or.inr rfl, Or.inr rfl, trivial⟩ (wl_mo_counts_25 a1 a2 0 (sI (sI (sI (sI M 66 51 0) 66 52 0) 66 53 (gI (sI (sI M 66 51 0) 66 52 0) 66 9)) 66 54 0) hl9 hk)
theorem c_mo_counts (a1 : Int32) (a2 : Int32) (M : dM) {o : dM} {y : mz_M} {d : Nat} {Q : mz_P} {pc n i : Nat} {L : List (Option Value)} {st : List Value} (h : mz_d y.2.1 pc n 3 (.invokevirtual i)) (hl : mz_ml y.1.cls i yX12_counts) (hf : f_mo_counts a1 a2 M = some o) (hd : 6 + 1 ≤ d) (hsm : (st.map (fun v => v.category)).sum ≤ 8) (hLr : mz_rL 133 L = true) (hSr : mz_rS 133 st = true) (kk : mW y d Q n L st o) : mW y d Q pc L (.int a2 :: .int a1 :: .ref 66 :: st) M :=
  y_callV kmX12_counts kvX12_counts l_66 (by decide +kernel) (by decide +kernel) h hl (ok_mo_counts a1 a2 M hf) (vs := [.int a1, .int a2]) rfl rfl hd hsm hLr hSr kk
noncomputable def f_mo_row (a1 : Int32) (a2 : Int32) (a3 : Int32) (M : dM) : Option (Int32 × dM) :=
  if (f_mo_isHand a1) = true then
    if (f_mo_within a2 0 2) = true then
      if (f_mo_within a3 0 3) = true then
        (f_mo_counts a1 a2 (sI M 66 0 0)).bind fun q1 =>
        if a3 = 0 then
          some ((gI q1 66 51), q1)
        else
          if a3 = 1 then
            some ((gI q1 66 52), q1)
          else
            if a3 = 2 then
              some ((gI q1 66 53), q1)
            else
              some ((gI q1 66 54), q1)
      else
        some ((-1), (sI M 66 0 0))
    else
      some ((-1), (sI M 66 0 0))
  else
    some ((-1), (sI M 66 0 0))
theorem ok_mo_row (a1 : Int32) (a2 : Int32) (a3 : Int32) (M : dM) {o : (Int32 × dM)} (hf : f_mo_row a1 a2 a3 M = some o) : mO mX12_row 7 [.ref 66, .int a1, .int a2, .int a3] M (some (.int o.1)) o.2 := by
  refine y_ok (by decide +kernel) (by decide) (L0 := [some (.ref 66), some (.int a1), some (.int a2), some (.int a3)]) rfl ?_
  have hk := mR_mQ (some (.int o.1)) o.2
  generalize mQ _ _ = Q at hk ⊢
  unfold f_mo_row at hf
  refine y_aload_n (i := 0) (n := 1) ⟨dX12_row_0, rfl⟩ rfl ?_
  refine y_iconst (n := 2) (v := 0) ⟨dX12_row_1, rfl⟩ ki_0 ?_
  refine y_putI (n := 5) ⟨dX12_row_2, rfl⟩ kfX12_214 l_66 (by decide +kernel) rfl ?_
  refine y_iload_n (i := 1) (n := 6) ⟨dX12_row_5, rfl⟩ rfl ?_
  refine c_mo_isHand a1 (sI M 66 0 0) (n := 9) ⟨dX12_row_6, rfl⟩ klX12_225 rfl (by decide) (Nat.le_of_ble_eq_true rfl) rfl rfl ?_
  refine y_if_eq (t := 30) (n := 12) ⟨dX12_row_9, rfl, rfl⟩ (fun h0 => ?_) (fun h0 => ?_)
  · have hc := bI_0 h0
    replace hf := i_f hc hf
    refine y_iconst (n := 31) (v := (-1)) ⟨dX12_row_30, rfl⟩ ki_m1 ?_
    cases hf
    exact y_ireturn (n := 32) ⟨dX12_row_31, rfl⟩ rfl rfl hk
  · have hc := bI_1 h0
    replace hf := i_t hc hf
    refine y_iload_n (i := 2) (n := 13) ⟨dX12_row_12, rfl⟩ rfl ?_
    refine y_iconst (n := 14) (v := 0) ⟨dX12_row_13, rfl⟩ ki_0 ?_
    refine y_iconst (n := 15) (v := 2) ⟨dX12_row_14, rfl⟩ ki_2 ?_
    refine c_mo_within a2 0 2 (sI M 66 0 0) (n := 18) ⟨dX12_row_15, rfl⟩ klX12_221 rfl (by decide) (Nat.le_of_ble_eq_true rfl) rfl rfl ?_
    refine y_if_eq (t := 30) (n := 21) ⟨dX12_row_18, rfl, rfl⟩ (fun h0 => ?_) (fun h0 => ?_)
    · have hc := bI_0 h0
      replace hf := i_f hc hf
      refine y_iconst (n := 31) (v := (-1)) ⟨dX12_row_30, rfl⟩ ki_m1 ?_
      cases hf
      exact y_ireturn (n := 32) ⟨dX12_row_31, rfl⟩ rfl rfl hk
    · have hc := bI_1 h0
      replace hf := i_t hc hf
      refine y_iload_n (i := 3) (n := 22) ⟨dX12_row_21, rfl⟩ rfl ?_
      refine y_iconst (n := 23) (v := 0) ⟨dX12_row_22, rfl⟩ ki_0 ?_
      refine y_iconst (n := 24) (v := 3) ⟨dX12_row_23, rfl⟩ ki_3 ?_
      refine c_mo_within a3 0 3 (sI M 66 0 0) (n := 27) ⟨dX12_row_24, rfl⟩ klX12_221 rfl (by decide) (Nat.le_of_ble_eq_true rfl) rfl rfl ?_
      refine y_if_ne (t := 32) (n := 30) ⟨dX12_row_27, rfl, rfl⟩ (fun h0 => ?_) (fun h0 => ?_)
      · have hc := bI_1 h0
        replace hf := i_t hc hf
        refine y_aload_n (i := 0) (n := 33) ⟨dX12_row_32, rfl⟩ rfl ?_
        refine y_iload_n (i := 1) (n := 34) ⟨dX12_row_33, rfl⟩ rfl ?_
        refine y_iload_n (i := 2) (n := 35) ⟨dX12_row_34, rfl⟩ rfl ?_
        obtain ⟨q1, hv2, hf⟩ := b_s hf
        refine c_mo_counts a1 a2 (sI M 66 0 0) (n := 38) ⟨dX12_row_35, rfl⟩ klX12_456 hv2 (by decide) (Nat.le_of_ble_eq_true rfl) rfl rfl ?_
        refine y_iload_n (i := 3) (n := 39) ⟨dX12_row_38, rfl⟩ rfl ?_
        refine y_if_ne (t := 49) (n := 42) ⟨dX12_row_39, rfl, rfl⟩ (fun (hc : ¬ (a3 = 0)) => ?_) (fun (hc : a3 = 0) => ?_)
        · replace hf := i_f hc hf
          refine y_iload_n (i := 3) (n := 50) ⟨dX12_row_49, rfl⟩ rfl ?_
          refine y_iconst (n := 51) (v := 1) ⟨dX12_row_50, rfl⟩ ki_1 ?_
          refine y_icmp_ne (t := 61) (n := 54) ⟨dX12_row_51, rfl, rfl⟩ (fun (hc : ¬ (a3 = 1)) => ?_) (fun (hc : a3 = 1) => ?_)
          · replace hf := i_f hc hf
            refine y_iload_n (i := 3) (n := 62) ⟨dX12_row_61, rfl⟩ rfl ?_
            refine y_iconst (n := 63) (v := 2) ⟨dX12_row_62, rfl⟩ ki_2 ?_
            refine y_icmp_ne (t := 73) (n := 66) ⟨dX12_row_63, rfl, rfl⟩ (fun (hc : ¬ (a3 = 2)) => ?_) (fun (hc : a3 = 2) => ?_)
            · replace hf := i_f hc hf
              refine y_aload_n (i := 0) (n := 74) ⟨dX12_row_73, rfl⟩ rfl ?_
              refine y_getI (n := 77) ⟨dX12_row_74, rfl⟩ kfX12_453 l_66 rfl ?_
              cases hf
              exact y_ireturn (n := 78) ⟨dX12_row_77, rfl⟩ rfl rfl hk
            · replace hf := i_t hc hf
              refine y_aload_n (i := 0) (n := 67) ⟨dX12_row_66, rfl⟩ rfl ?_
              refine y_getI (n := 70) ⟨dX12_row_67, rfl⟩ kfX12_450 l_66 rfl ?_
              refine y_goto (t := 77) ⟨dX12_row_70, rfl, rfl⟩ ?_
              cases hf
              exact y_ireturn (n := 78) ⟨dX12_row_77, rfl⟩ rfl rfl hk
          · replace hf := i_t hc hf
            refine y_aload_n (i := 0) (n := 55) ⟨dX12_row_54, rfl⟩ rfl ?_
            refine y_getI (n := 58) ⟨dX12_row_55, rfl⟩ kfX12_447 l_66 rfl ?_
            refine y_goto (t := 77) ⟨dX12_row_58, rfl, rfl⟩ ?_
            cases hf
            exact y_ireturn (n := 78) ⟨dX12_row_77, rfl⟩ rfl rfl hk
        · replace hf := i_t hc hf
          refine y_aload_n (i := 0) (n := 43) ⟨dX12_row_42, rfl⟩ rfl ?_
          refine y_getI (n := 46) ⟨dX12_row_43, rfl⟩ kfX12_444 l_66 rfl ?_
          refine y_goto (t := 77) ⟨dX12_row_46, rfl, rfl⟩ ?_
          cases hf
          exact y_ireturn (n := 78) ⟨dX12_row_77, rfl⟩ rfl rfl hk
      · have hc := bI_0 h0
        replace hf := i_f hc hf
        refine y_iconst (n := 31) (v := (-1)) ⟨dX12_row_30, rfl⟩ ki_m1 ?_
        cases hf
        exact y_ireturn (n := 32) ⟨dX12_row_31, rfl⟩ rfl rfl hk
theorem c_mo_row (a1 : Int32) (a2 : Int32) (a3 : Int32) (M : dM) {o : (Int32 × dM)} {y : mz_M} {d : Nat} {Q : mz_P} {pc n i : Nat} {L : List (Option Value)} {st : List Value} (h : mz_d y.2.1 pc n 3 (.invokevirtual i)) (hl : mz_ml y.1.cls i yX12_row) (hf : f_mo_row a1 a2 a3 M = some o) (hd : 7 + 1 ≤ d) (hsm : (st.map (fun v => v.category)).sum ≤ 8) (hLr : mz_rL 133 L = true) (hSr : mz_rS 133 st = true) (kk : mW y d Q n L (.int o.1 :: st) o.2) : mW y d Q pc L (.int a3 :: .int a2 :: .int a1 :: .ref 66 :: st) M :=
  y_callV kmX12_row kvX12_row l_66 (by decide +kernel) (by decide +kernel) h hl (ok_mo_row a1 a2 a3 M hf) (vs := [.int a1, .int a2, .int a3]) rfl rfl hd hsm hLr hSr kk
