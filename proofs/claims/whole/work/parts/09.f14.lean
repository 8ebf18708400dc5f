noncomputable def t_mo_digsAt_172 (x1 : Int32) (x2 : Int32) (x5 : Int32) (x6 : Int32) (y0 : Int32) (M : dM) : Option dM :=
  if x6 = 0 then
    some M
  else
    if y0 = 0 then
      some M
    else
      (f_mo_takes x1 x2 x5 0 M).bind fun q13 =>
      some q13
noncomputable def t_mo_digsAt_156 (x1 : Int32) (x2 : Int32) (x4 : Int32) (x5 : Int32) (y0 : Int32) (M : dM) : Option dM :=
  (f_mo_draws M).bind fun q11 =>
  if x4 ≤ q11.1 then
    t_mo_digsAt_172 x1 x2 x5 y0 0 q11.2
  else
    t_mo_digsAt_172 x1 x2 x5 y0 1 q11.2
def K_mo_digsAt_63 (Q : mz_P) (x1 : Int32) (x2 : Int32) (x3 : Int32) (x5 : Int32) : ((Int32 × dM) ⊕ dM) → Prop
  | .inl s => mW mX12_digsAt 6 Q 63 [some (.ref 66), some (.int x1), some (.int x2), some (.int x3), none, some (.int x5), some (.int s.1), none] [] s.2
  | .inr r => mR Q none r
noncomputable def b_mo_digsAt_63_63 (x1 : Int32) (x2 : Int32) (x3 : Int32) (x5 : Int32) (x6 : Int32) (M : dM) : Option ((Int32 × dM) ⊕ dM) :=
  gd (vp_in x3 8) <|
  if (gI M 121 x3.toNatClampNeg) ≤ x6 then
    (f_mo_takes x1 x2 x5 1 M).bind fun q19 =>
    some (.inr q19)
  else
    gd (vp_in (((9 * x3) + x6) + 1) 72) <|
    gd (vp_in ((9 * x3) + x6) 72) <|
    some (.inl ((x6 + 1), (sI M 120 ((9 * x3) + x6).toNatClampNeg (gI M 120 (((9 * x3) + x6) + 1).toNatClampNeg))))
noncomputable def l_mo_digsAt_63 (x1 : Int32) (x2 : Int32) (x3 : Int32) (x5 : Int32) (x6 : Int32) (M : dM) : Option dM := lpc (fun s => b_mo_digsAt_63_63 x1 x2 x3 x5 s.1 s.2) (x6, M)
noncomputable def f_mo_digsAt (a1 : Int32) (a2 : Int32) (M : dM) : Option dM :=
  gd (vp_in a1 80) <|
  gd (vp_in (gI M 69 a1.toNatClampNeg) 10) <|
  gd (vp_in (gI M 70 a1.toNatClampNeg) 8) <|
  if (gI M 121 (gI M 70 a1.toNatClampNeg).toNatClampNeg) ≤ 0 then
    (f_mo_layersOf (gI M 70 a1.toNatClampNeg) M).bind fun v4 =>
    if v4 = 0 then
      some M
    else
      (f_mo_drawsLayer (gI M 70 a1.toNatClampNeg) M).bind fun q6 =>
      (f_mo_draws q6.2).bind fun q8 =>
      gd (vp_in ((10 * (gI M 70 a1.toNatClampNeg)) + q6.1) 80) <|
      if (gI q8.2 117 ((10 * (gI M 70 a1.toNatClampNeg)) + q6.1).toNatClampNeg) ≤ q8.1 then
        t_mo_digsAt_156 a1 a2 (gI M 115 (gI M 69 a1.toNatClampNeg).toNatClampNeg) q6.1 0 q8.2
      else
        t_mo_digsAt_156 a1 a2 (gI M 115 (gI M 69 a1.toNatClampNeg).toNatClampNeg) q6.1 1 q8.2
  else
    (f_mo_draws M).bind fun q15 =>
    if q15.1 < (gI M 115 (gI M 69 a1.toNatClampNeg).toNatClampNeg) then
      gd (vp_in (9 * (gI M 70 a1.toNatClampNeg)) 72) <|
      (l_mo_digsAt_63 a1 a2 (gI M 70 a1.toNatClampNeg) (gI q15.2 120 (9 * (gI M 70 a1.toNatClampNeg)).toNatClampNeg) 0 (sI q15.2 121 (gI M 70 a1.toNatClampNeg).toNatClampNeg ((gI q15.2 121 (gI M 70 a1.toNatClampNeg).toNatClampNeg) - 1))).bind fun r25 => some r25
    else
      some q15.2
theorem w_t_mo_digsAt_172 (x1 : Int32) (x2 : Int32) (x5 : Int32) (x6 : Int32) (y0 : Int32) (M : dM) {Q : mz_P} {o : dM} (hf : t_mo_digsAt_172 x1 x2 x5 x6 y0 M = some o) (hk : mR Q none o) : mW mX12_digsAt 6 Q 172 [some (.ref 66), some (.int x1), some (.int x2), none, none, some (.int x5), some (.int x6), none] [.int y0] M := by
  unfold t_mo_digsAt_172 at hf
  refine y_istore (i := 7) (n := 174) (L2 := [some (.ref 66), some (.int x1), some (.int x2), none, none, some (.int x5), some (.int x6), some (.int y0)]) ⟨dX12_digsAt_172, rfl⟩ (by decide) rfl rfl ?_
  refine y_iload (i := 6) (n := 176) ⟨dX12_digsAt_174, rfl⟩ rfl ?_
  refine y_if_eq (t := 193) (n := 179) ⟨dX12_digsAt_176, rfl, rfl⟩ (fun (hc : x6 = 0) => ?_) (fun (hc : ¬ (x6 = 0)) => ?_)
  · replace hf := i_t hc hf
    cases hf
    exact y_return (n := 194) ⟨dX12_digsAt_193, rfl⟩ rfl hk
  · replace hf := i_f hc hf
    refine y_iload (i := 7) (n := 181) ⟨dX12_digsAt_179, rfl⟩ rfl ?_
    refine y_if_eq (t := 193) (n := 184) ⟨dX12_digsAt_181, rfl, rfl⟩ (fun (hc : y0 = 0) => ?_) (fun (hc : ¬ (y0 = 0)) => ?_)
    · replace hf := i_t hc hf
      cases hf
      exact y_return (n := 194) ⟨dX12_digsAt_193, rfl⟩ rfl hk
    · replace hf := i_f hc hf
      refine y_aload_n (i := 0) (n := 185) ⟨dX12_digsAt_184, rfl⟩ rfl ?_
      refine y_iload_n (i := 1) (n := 186) ⟨dX12_digsAt_185, rfl⟩ rfl ?_
      refine y_iload_n (i := 2) (n := 187) ⟨dX12_digsAt_186, rfl⟩ rfl ?_
      refine y_iload (i := 5) (n := 189) ⟨dX12_digsAt_187, rfl⟩ rfl ?_
      refine y_iconst (n := 190) (v := 0) ⟨dX12_digsAt_189, rfl⟩ ki_0 ?_
      obtain ⟨q13, hv14, hf⟩ := b_s hf
      refine c_mo_takes x1 x2 x5 0 M (n := 193) ⟨dX12_digsAt_190, rfl⟩ klX12_574 hv14 (by decide) (Nat.le_of_ble_eq_true rfl) rfl rfl ?_
      cases hf
      exact y_return (n := 194) ⟨dX12_digsAt_193, rfl⟩ rfl hk
theorem w_t_mo_digsAt_156 (x1 : Int32) (x2 : Int32) (x4 : Int32) (x5 : Int32) (y0 : Int32) (M : dM) {Q : mz_P} {o : dM} (hf : t_mo_digsAt_156 x1 x2 x4 x5 y0 M = some o) (hk : mR Q none o) : mW mX12_digsAt 6 Q 156 [some (.ref 66), some (.int x1), some (.int x2), none, some (.int x4), some (.int x5), none, none] [.int y0] M := by
  unfold t_mo_digsAt_156 at hf
  refine y_istore (i := 6) (n := 158) (L2 := [some (.ref 66), some (.int x1), some (.int x2), none, some (.int x4), some (.int x5), some (.int y0), none]) ⟨dX12_digsAt_156, rfl⟩ (by decide) rfl rfl ?_
  refine y_aload_n (i := 0) (n := 159) ⟨dX12_digsAt_158, rfl⟩ rfl ?_
  obtain ⟨q11, hv12, hf⟩ := b_s hf
  refine c_mo_draws M (n := 162) ⟨dX12_digsAt_159, rfl⟩ klX12_562 hv12 (by decide) (Nat.le_of_ble_eq_true rfl) rfl rfl ?_
  refine y_iload (i := 4) (n := 164) ⟨dX12_digsAt_162, rfl⟩ rfl ?_
  refine y_icmp_ge (t := 171) (n := 167) ⟨dX12_digsAt_164, rfl, rfl⟩ (fun (hc : x4 ≤ q11.1) => ?_) (fun (hc : ¬ (x4 ≤ q11.1)) => ?_)
  · replace hf := i_t hc hf
    refine y_iconst (n := 172) (v := 0) ⟨dX12_digsAt_171, rfl⟩ ki_0 ?_
    exact y_wk (L2 := [some (.ref 66), some (.int x1), some (.int x2), none, none, some (.int x5), some (.int y0), none]) ⟨Or.inr rfl, Or.inr rfl, Or.inr rfl, Or.inr rfl, Or.inl rfl, Or.inr rfl, Or.inr rfl, Or.inr rfl, trivial⟩ (w_t_mo_digsAt_172 x1 x2 x5 y0 0 q11.2 hf hk)
  · replace hf := i_f hc hf
    refine y_iconst (n := 168) (v := 1) ⟨dX12_digsAt_167, rfl⟩ ki_1 ?_
    refine y_goto (t := 172) ⟨dX12_digsAt_168, rfl, rfl⟩ ?_
    exact y_wk (L2 := [some (.ref 66), some (.int x1), some (.int x2), none, none, some (.int x5), some (.int y0), none]) ⟨Or.inr rfl, Or.inr rfl, Or.inr rfl, Or.inr rfl, Or.inl rfl, Or.inr rfl, Or.inr rfl, Or.inr rfl, trivial⟩ (w_t_mo_digsAt_172 x1 x2 x5 y0 1 q11.2 hf hk)
theorem w_b_mo_digsAt_63_63 (x1 : Int32) (x2 : Int32) (x3 : Int32) (x5 : Int32) (x6 : Int32)  (M : dM) {Q : mz_P} {o : ((Int32 × dM) ⊕ dM)} (hf : b_mo_digsAt_63_63 x1 x2 x3 x5 x6 M = some o) (hk : K_mo_digsAt_63 Q x1 x2 x3 x5 o) : mW mX12_digsAt 6 Q 63 [some (.ref 66), some (.int x1), some (.int x2), some (.int x3), none, some (.int x5), some (.int x6), none] [] M := by
  unfold b_mo_digsAt_63_63 at hf
  refine y_iload (i := 6) (n := 65) ⟨dX12_digsAt_63, rfl⟩ rfl ?_
  refine y_aload_n (i := 0) (n := 66) ⟨dX12_digsAt_65, rfl⟩ rfl ?_
  refine y_getR (n := 69) ⟨dX12_digsAt_66, rfl⟩ kfX12_174 l_66 rfl r_66_87 ?_
  refine y_iload_n (i := 3) (n := 70) ⟨dX12_digsAt_69, rfl⟩ rfl ?_
  obtain ⟨hg18, hf⟩ := g_s hf
  refine y_iaload (n := 71) ⟨dX12_digsAt_70, rfl⟩ l_121 hg18 ?_
  refine y_icmp_ge (t := 106) (n := 74) ⟨dX12_digsAt_71, rfl, rfl⟩ (fun (hc : (gI M 121 x3.toNatClampNeg) ≤ x6) => ?_) (fun (hc : ¬ ((gI M 121 x3.toNatClampNeg) ≤ x6)) => ?_)
  · replace hf := i_t hc hf
    refine y_aload_n (i := 0) (n := 107) ⟨dX12_digsAt_106, rfl⟩ rfl ?_
    refine y_iload_n (i := 1) (n := 108) ⟨dX12_digsAt_107, rfl⟩ rfl ?_
    refine y_iload_n (i := 2) (n := 109) ⟨dX12_digsAt_108, rfl⟩ rfl ?_
    refine y_iload (i := 5) (n := 111) ⟨dX12_digsAt_109, rfl⟩ rfl ?_
    refine y_iconst (n := 112) (v := 1) ⟨dX12_digsAt_111, rfl⟩ ki_1 ?_
    obtain ⟨q19, hv20, hf⟩ := b_s hf
    refine c_mo_takes x1 x2 x5 1 M (n := 115) ⟨dX12_digsAt_112, rfl⟩ klX12_574 hv20 (by decide) (Nat.le_of_ble_eq_true rfl) rfl rfl ?_
    cases hf
    exact y_return (n := 116) ⟨dX12_digsAt_115, rfl⟩ rfl hk
  · replace hf := i_f hc hf
    refine y_aload_n (i := 0) (n := 75) ⟨dX12_digsAt_74, rfl⟩ rfl ?_
    refine y_getR (n := 78) ⟨dX12_digsAt_75, rfl⟩ kfX12_171 l_66 rfl r_66_86 ?_
    refine y_bipush (n := 80) (v := 9) ⟨dX12_digsAt_78, rfl⟩ kb_9 ?_
    refine y_iload_n (i := 3) (n := 81) ⟨dX12_digsAt_80, rfl⟩ rfl ?_
    refine y_imul (n := 82) ⟨dX12_digsAt_81, rfl⟩ ?_
    refine y_iload (i := 6) (n := 84) ⟨dX12_digsAt_82, rfl⟩ rfl ?_
    refine y_iadd (n := 85) ⟨dX12_digsAt_84, rfl⟩ ?_
    refine y_aload_n (i := 0) (n := 86) ⟨dX12_digsAt_85, rfl⟩ rfl ?_
    refine y_getR (n := 89) ⟨dX12_digsAt_86, rfl⟩ kfX12_171 l_66 rfl r_66_86 ?_
    refine y_bipush (n := 91) (v := 9) ⟨dX12_digsAt_89, rfl⟩ kb_9 ?_
    refine y_iload_n (i := 3) (n := 92) ⟨dX12_digsAt_91, rfl⟩ rfl ?_
    refine y_imul (n := 93) ⟨dX12_digsAt_92, rfl⟩ ?_
    refine y_iload (i := 6) (n := 95) ⟨dX12_digsAt_93, rfl⟩ rfl ?_
    refine y_iadd (n := 96) ⟨dX12_digsAt_95, rfl⟩ ?_
    refine y_iconst (n := 97) (v := 1) ⟨dX12_digsAt_96, rfl⟩ ki_1 ?_
    refine y_iadd (n := 98) ⟨dX12_digsAt_97, rfl⟩ ?_
    obtain ⟨hg21, hf⟩ := g_s hf
    refine y_iaload (n := 99) ⟨dX12_digsAt_98, rfl⟩ l_120 hg21 ?_
    obtain ⟨hg22, hf⟩ := g_s hf
    refine y_iastore (n := 100) ⟨dX12_digsAt_99, rfl⟩ l_120 hg22 ?_
    refine y_iinc (i := 6) (n := 103) (b := (x6 + 1)) (L2 := [some (.ref 66), some (.int x1), some (.int x2), some (.int x3), none, some (.int x5), some (.int (x6 + 1)), none]) ⟨dX12_digsAt_100, rfl⟩ rfl (by rw [ki_1]) (by decide) rfl rfl ?_
    refine y_goto (t := 63) ⟨dX12_digsAt_103, rfl, rfl⟩ ?_
    cases hf
    exact y_wk (L2 := [some (.ref 66), some (.int x1), some (.int x2), some (.int x3), none, some (.int x5), some (.int (x6 + 1)), none]) ⟨Or.inr rfl, Or.inr rfl, Or.inr rfl, Or.inr rfl, Or.inr rfl, Or.inr rfl, Or.inr rfl, Or.inr rfl, trivial⟩ hk
theorem wl_mo_digsAt_63 (x1 : Int32) (x2 : Int32) (x3 : Int32) (x5 : Int32) (x6 : Int32) (M : dM) {Q : mz_P} {x : dM} (hf : l_mo_digsAt_63 x1 x2 x3 x5 x6 M = some x) (hk : K_mo_digsAt_63 Q x1 x2 x3 x5 (.inr x)) : mW mX12_digsAt 6 Q 63 [some (.ref 66), some (.int x1), some (.int x2), some (.int x3), none, some (.int x5), some (.int x6), none] [] M :=
  lpc_wp (σ := (Int32 × dM)) (ξ := dM) (s := (x6, M)) (Wh := fun s => mW mX12_digsAt 6 Q 63 [some (.ref 66), some (.int x1), some (.int x2), some (.int x3), none, some (.int x5), some (.int s.1), none] [] s.2) (K := K_mo_digsAt_63 Q x1 x2 x3 x5) (fun _ h => h) (fun s o hb hk => w_b_mo_digsAt_63_63 x1 x2 x3 x5 s.1 s.2 hb hk) hf hk
theorem ok_mo_digsAt (a1 : Int32) (a2 : Int32) (M : dM) {o : dM} (hf : f_mo_digsAt a1 a2 M = some o) : mO mX12_digsAt 6 [.ref 66, .int a1, .int a2] M none o := by
  refine y_ok (by decide +kernel) (Nat.le_of_ble_eq_true rfl) (L0 := [some (.ref 66), some (.int a1), some (.int a2), none, none, none, none, none]) rfl ?_
  have hk := mR_mQ none o
  generalize mQ _ _ = Q at hk ⊢
  unfold f_mo_digsAt at hf
  refine y_aload_n (i := 0) (n := 1) ⟨dX12_digsAt_0, rfl⟩ rfl ?_
  refine y_getR (n := 4) ⟨dX12_digsAt_1, rfl⟩ kfX12_19 l_66 rfl r_66_5 ?_
  refine y_iload_n (i := 1) (n := 5) ⟨dX12_digsAt_4, rfl⟩ rfl ?_
  obtain ⟨hg1, hf⟩ := g_s hf
  refine y_iaload (n := 6) ⟨dX12_digsAt_5, rfl⟩ l_70 hg1 ?_
  refine y_istore_n (i := 3) (n := 7) (L2 := [some (.ref 66), some (.int a1), some (.int a2), some (.int (gI M 70 a1.toNatClampNeg)), none, none, none, none]) ⟨dX12_digsAt_6, rfl⟩ (by decide) rfl rfl ?_
  refine y_aload_n (i := 0) (n := 8) ⟨dX12_digsAt_7, rfl⟩ rfl ?_
  refine y_getR (n := 11) ⟨dX12_digsAt_8, rfl⟩ kfX12_156 l_66 rfl r_66_80 ?_
  refine y_aload_n (i := 0) (n := 12) ⟨dX12_digsAt_11, rfl⟩ rfl ?_
  refine y_getR (n := 15) ⟨dX12_digsAt_12, rfl⟩ kfX12_16 l_66 rfl r_66_4 ?_
  refine y_iload_n (i := 1) (n := 16) ⟨dX12_digsAt_15, rfl⟩ rfl ?_
  refine y_iaload (n := 17) ⟨dX12_digsAt_16, rfl⟩ l_69 hg1 ?_
  obtain ⟨hg2, hf⟩ := g_s hf
  refine y_iaload (n := 18) ⟨dX12_digsAt_17, rfl⟩ l_115 hg2 ?_
  refine y_istore (i := 4) (n := 20) (L2 := [some (.ref 66), some (.int a1), some (.int a2), some (.int (gI M 70 a1.toNatClampNeg)), some (.int (gI M 115 (gI M 69 a1.toNatClampNeg).toNatClampNeg)), none, none, none]) ⟨dX12_digsAt_18, rfl⟩ (by decide) rfl rfl ?_
  refine y_aload_n (i := 0) (n := 21) ⟨dX12_digsAt_20, rfl⟩ rfl ?_
  refine y_getR (n := 24) ⟨dX12_digsAt_21, rfl⟩ kfX12_174 l_66 rfl r_66_87 ?_
  refine y_iload_n (i := 3) (n := 25) ⟨dX12_digsAt_24, rfl⟩ rfl ?_
  obtain ⟨hg3, hf⟩ := g_s hf
  refine y_iaload (n := 26) ⟨dX12_digsAt_25, rfl⟩ l_121 hg3 ?_
  refine y_if_le (t := 116) (n := 29) ⟨dX12_digsAt_26, rfl, rfl⟩ (fun (hc : (gI M 121 (gI M 70 a1.toNatClampNeg).toNatClampNeg) ≤ 0) => ?_) (fun (hc : ¬ ((gI M 121 (gI M 70 a1.toNatClampNeg).toNatClampNeg) ≤ 0)) => ?_)
  · replace hf := i_t hc hf
    refine y_aload_n (i := 0) (n := 117) ⟨dX12_digsAt_116, rfl⟩ rfl ?_
    refine y_iload_n (i := 3) (n := 118) ⟨dX12_digsAt_117, rfl⟩ rfl ?_
    obtain ⟨v4, hv5, hf⟩ := b_s hf
    refine c_mo_layersOf (gI M 70 a1.toNatClampNeg) M (n := 121) ⟨dX12_digsAt_118, rfl⟩ klX12_565 hv5 (by decide) (Nat.le_of_ble_eq_true rfl) rfl rfl ?_
    refine y_if_ne (t := 125) (n := 124) ⟨dX12_digsAt_121, rfl, rfl⟩ (fun (hc : ¬ (v4 = 0)) => ?_) (fun (hc : v4 = 0) => ?_)
    · replace hf := i_f hc hf
      refine y_aload_n (i := 0) (n := 126) ⟨dX12_digsAt_125, rfl⟩ rfl ?_
      refine y_iload_n (i := 3) (n := 127) ⟨dX12_digsAt_126, rfl⟩ rfl ?_
      obtain ⟨q6, hv7, hf⟩ := b_s hf
      refine c_mo_drawsLayer (gI M 70 a1.toNatClampNeg) M (n := 130) ⟨dX12_digsAt_127, rfl⟩ klX12_571 hv7 (by decide) (Nat.le_of_ble_eq_true rfl) rfl rfl ?_
      refine y_istore (i := 5) (n := 132) (L2 := [some (.ref 66), some (.int a1), some (.int a2), some (.int (gI M 70 a1.toNatClampNeg)), some (.int (gI M 115 (gI M 69 a1.toNatClampNeg).toNatClampNeg)), some (.int q6.1), none, none]) ⟨dX12_digsAt_130, rfl⟩ (by decide) rfl rfl ?_
      refine y_aload_n (i := 0) (n := 133) ⟨dX12_digsAt_132, rfl⟩ rfl ?_
      obtain ⟨q8, hv9, hf⟩ := b_s hf
      refine c_mo_draws q6.2 (n := 136) ⟨dX12_digsAt_133, rfl⟩ klX12_562 hv9 (by decide) (Nat.le_of_ble_eq_true rfl) rfl rfl ?_
      refine y_aload_n (i := 0) (n := 137) ⟨dX12_digsAt_136, rfl⟩ rfl ?_
      refine y_getR (n := 140) ⟨dX12_digsAt_137, rfl⟩ kfX12_162 l_66 rfl r_66_82 ?_
      refine y_bipush (n := 142) (v := 10) ⟨dX12_digsAt_140, rfl⟩ kb_10 ?_
      refine y_iload_n (i := 3) (n := 143) ⟨dX12_digsAt_142, rfl⟩ rfl ?_
      refine y_imul (n := 144) ⟨dX12_digsAt_143, rfl⟩ ?_
      refine y_iload (i := 5) (n := 146) ⟨dX12_digsAt_144, rfl⟩ rfl ?_
      refine y_iadd (n := 147) ⟨dX12_digsAt_146, rfl⟩ ?_
      obtain ⟨hg10, hf⟩ := g_s hf
      refine y_iaload (n := 148) ⟨dX12_digsAt_147, rfl⟩ l_117 hg10 ?_
      refine y_icmp_ge (t := 155) (n := 151) ⟨dX12_digsAt_148, rfl, rfl⟩ (fun (hc : (gI q8.2 117 ((10 * (gI M 70 a1.toNatClampNeg)) + q6.1).toNatClampNeg) ≤ q8.1) => ?_) (fun (hc : ¬ ((gI q8.2 117 ((10 * (gI M 70 a1.toNatClampNeg)) + q6.1).toNatClampNeg) ≤ q8.1)) => ?_)
      · replace hf := i_t hc hf
        refine y_iconst (n := 156) (v := 0) ⟨dX12_digsAt_155, rfl⟩ ki_0 ?_
        exact y_wk (L2 := [some (.ref 66), some (.int a1), some (.int a2), none, some (.int (gI M 115 (gI M 69 a1.toNatClampNeg).toNatClampNeg)), some (.int q6.1), none, none]) ⟨Or.inr rfl, Or.inr rfl, Or.inr rfl, Or.inl rfl, Or.inr rfl, Or.inr rfl, Or.inr rfl, Or.inr rfl, trivial⟩ (w_t_mo_digsAt_156 a1 a2 (gI M 115 (gI M 69 a1.toNatClampNeg).toNatClampNeg) q6.1 0 q8.2 hf hk)
      · replace hf := i_f hc hf
        refine y_iconst (n := 152) (v := 1) ⟨dX12_digsAt_151, rfl⟩ ki_1 ?_
        refine y_goto (t := 156) ⟨dX12_digsAt_152, rfl, rfl⟩ ?_
        exact y_wk (L2 := [some (.ref 66), some (.int a1), some (.int a2), none, some (.int (gI M 115 (gI M 69 a1.toNatClampNeg).toNatClampNeg)), some (.int q6.1), none, none]) ⟨Or.inr rfl, Or.inr rfl, Or.inr rfl, Or.inl rfl, Or.inr rfl, Or.inr rfl, Or.inr rfl, Or.inr rfl, trivial⟩ (w_t_mo_digsAt_156 a1 a2 (gI M 115 (gI M 69 a1.toNatClampNeg).toNatClampNeg) q6.1 1 q8.2 hf hk)
    · replace hf := i_t hc hf
      cases hf
      exact y_return (n := 125) ⟨dX12_digsAt_124, rfl⟩ rfl hk
  · replace hf := i_f hc hf
    refine y_aload_n (i := 0) (n := 30) ⟨dX12_digsAt_29, rfl⟩ rfl ?_
    obtain ⟨q15, hv16, hf⟩ := b_s hf
    refine c_mo_draws M (n := 33) ⟨dX12_digsAt_30, rfl⟩ klX12_562 hv16 (by decide) (Nat.le_of_ble_eq_true rfl) rfl rfl ?_
    refine y_iload (i := 4) (n := 35) ⟨dX12_digsAt_33, rfl⟩ rfl ?_
    refine y_icmp_lt (t := 39) (n := 38) ⟨dX12_digsAt_35, rfl, rfl⟩ (fun (hc : q15.1 < (gI M 115 (gI M 69 a1.toNatClampNeg).toNatClampNeg)) => ?_) (fun (hc : ¬ (q15.1 < (gI M 115 (gI M 69 a1.toNatClampNeg).toNatClampNeg))) => ?_)
    · replace hf := i_t hc hf
      refine y_aload_n (i := 0) (n := 40) ⟨dX12_digsAt_39, rfl⟩ rfl ?_
      refine y_getR (n := 43) ⟨dX12_digsAt_40, rfl⟩ kfX12_171 l_66 rfl r_66_86 ?_
      refine y_bipush (n := 45) (v := 9) ⟨dX12_digsAt_43, rfl⟩ kb_9 ?_
      refine y_iload_n (i := 3) (n := 46) ⟨dX12_digsAt_45, rfl⟩ rfl ?_
      refine y_imul (n := 47) ⟨dX12_digsAt_46, rfl⟩ ?_
      obtain ⟨hg17, hf⟩ := g_s hf
      refine y_iaload (n := 48) ⟨dX12_digsAt_47, rfl⟩ l_120 hg17 ?_
      refine y_istore (i := 5) (n := 50) (L2 := [some (.ref 66), some (.int a1), some (.int a2), some (.int (gI M 70 a1.toNatClampNeg)), some (.int (gI M 115 (gI M 69 a1.toNatClampNeg).toNatClampNeg)), some (.int (gI q15.2 120 (9 * (gI M 70 a1.toNatClampNeg)).toNatClampNeg)), none, none]) ⟨dX12_digsAt_48, rfl⟩ (by decide) rfl rfl ?_
      refine y_aload_n (i := 0) (n := 51) ⟨dX12_digsAt_50, rfl⟩ rfl ?_
      refine y_getR (n := 54) ⟨dX12_digsAt_51, rfl⟩ kfX12_174 l_66 rfl r_66_87 ?_
      refine y_iload_n (i := 3) (n := 55) ⟨dX12_digsAt_54, rfl⟩ rfl ?_
      refine y_dup2 (n := 56) ⟨dX12_digsAt_55, rfl⟩ ?_
      refine y_iaload (n := 57) ⟨dX12_digsAt_56, rfl⟩ l_121 hg3 ?_
      refine y_iconst (n := 58) (v := 1) ⟨dX12_digsAt_57, rfl⟩ ki_1 ?_
      refine y_isub (n := 59) ⟨dX12_digsAt_58, rfl⟩ ?_
      refine y_iastore (n := 60) ⟨dX12_digsAt_59, rfl⟩ l_121 hg3 ?_
      refine y_iconst (n := 61) (v := 0) ⟨dX12_digsAt_60, rfl⟩ ki_0 ?_
      refine y_istore (i := 6) (n := 63) (L2 := [some (.ref 66), some (.int a1), some (.int a2), some (.int (gI M 70 a1.toNatClampNeg)), some (.int (gI M 115 (gI M 69 a1.toNatClampNeg).toNatClampNeg)), some (.int (gI q15.2 120 (9 * (gI M 70 a1.toNatClampNeg)).toNatClampNeg)), some (.int 0), none]) ⟨dX12_digsAt_61, rfl⟩ (by decide) rfl rfl ?_
      obtain ⟨r25, hl24, hf⟩ := b_s hf
      cases hf
      exact y_wk (L2 := [some (.ref 66), some (.int a1), some (.int a2), some (.int (gI M 70 a1.toNatClampNeg)), none, some (.int (gI q15.2 120 (9 * (gI M 70 a1.toNatClampNeg)).toNatClampNeg)), some (.int 0), none]) ⟨Or.inr rfl, Or.inr rfl, Or.inr rfl, Or.inr rfl, Or.inl rfl, Or.inr rfl, Or.inr rfl, Or.inr rfl, trivial⟩ (wl_mo_digsAt_63 a1 a2 (gI M 70 a1.toNatClampNeg) (gI q15.2 120 (9 * (gI M 70 a1.toNatClampNeg)).toNatClampNeg) 0 (sI q15.2 121 (gI M 70 a1.toNatClampNeg).toNatClampNeg ((gI q15.2 121 (gI M 70 a1.toNatClampNeg).toNatClampNeg) - 1)) hl24 hk)
    · replace hf := i_f hc hf
      cases hf
      exact y_return (n := 39) ⟨dX12_digsAt_38, rfl⟩ rfl hk
theorem c_mo_digsAt (a1 : Int32) (a2 : Int32) (M : dM) {o : dM} {y : mz_M} {d : Nat} {Q : mz_P} {pc n i : Nat} {L : List (Option Value)} {st : List Value} (h : mz_d y.2.1 pc n 3 (.invokevirtual i)) (hl : mz_ml y.1.cls i yX12_digsAt) (hf : f_mo_digsAt a1 a2 M = some o) (hd : 6 + 1 ≤ d) (hsm : (st.map (fun v => v.category)).sum ≤ 8) (hLr : mz_rL 133 L = true) (hSr : mz_rS 133 st = true) (kk : mW y d Q n L st o) : mW y d Q pc L (.int a2 :: .int a1 :: .ref 66 :: st) M :=
  y_callV kmX12_digsAt kvX12_digsAt l_66 (by decide +kernel) (by decide +kernel) h hl (ok_mo_digsAt a1 a2 M hf) (vs := [.int a1, .int a2]) rfl rfl hd hsm hLr hSr kk
def K_mo_runs_13 (Q : mz_P)  : ((Int32 × dM) ⊕ dM) → Prop
  | .inl s => mW mX12_runs 7 Q 13 [some (.ref 66), none, some (.int s.1), none] [] s.2
  | .inr t => mW mX12_runs 7 Q 32 [some (.ref 66), none, none, none] [] t
noncomputable def b_mo_runs_13_13 (x2 : Int32) (M : dM) : Option ((Int32 × dM) ⊕ dM) :=
  if 8 ≤ x2 then
    some (.inr M)
  else
    gd (vp_in x2 8) <|
    some (.inl ((x2 + 1), (sI M 121 x2.toNatClampNeg 0)))
noncomputable def l_mo_runs_13 (x2 : Int32) (M : dM) : Option dM := lpc (fun s => b_mo_runs_13_13 s.1 s.2) (x2, M)
def K_mo_runs_34 (Q : mz_P)  : ((Int32 × dM) ⊕ dM) → Prop
  | .inl s => mW mX12_runs 7 Q 34 [some (.ref 66), none, some (.int s.1), none] [] s.2
  | .inr r => mR Q none r
def K_mo_runs_49 (Q : mz_P) (x2 : Int32) : ((Int32 × dM) ⊕ dM) → Prop
  | .inl s => mW mX12_runs 7 Q 49 [some (.ref 66), none, some (.int x2), some (.int s.1)] [] s.2
  | .inr t => mW mX12_runs 7 Q 77 [some (.ref 66), none, some (.int x2), none] [] t
noncomputable def b_mo_runs_49_49 (x2 : Int32) (x3 : Int32) (M : dM) : Option ((Int32 × dM) ⊕ dM) :=
  gd (vp_in x2 80) <|
  if (gI M 73 x2.toNatClampNeg) < x3 then
    some (.inr M)
  else
    (f_mo_buries x2 x3 M).bind fun q7 =>
    (f_mo_digsAt x2 x3 q7).bind fun q9 =>
    some (.inl ((x3 + 1), q9))
noncomputable def l_mo_runs_49 (x2 : Int32) (x3 : Int32) (M : dM) : Option dM := lpc (fun s => b_mo_runs_49_49 x2 s.1 s.2) (x3, M)
noncomputable def b_mo_runs_34_34 (x2 : Int32) (M : dM) : Option ((Int32 × dM) ⊕ dM) :=
  if (gI M 66 3) ≤ x2 then
    some (.inr M)
  else
    gd (vp_in x2 80) <|
    (l_mo_runs_49 x2 (gI M 72 x2.toNatClampNeg) M).bind fun t11 =>
      some (.inl ((x2 + 1), t11))
noncomputable def l_mo_runs_34 (x2 : Int32) (M : dM) : Option dM := lpc (fun s => b_mo_runs_34_34 s.1 s.2) (x2, M)
noncomputable def f_mo_runs (a1 : Int32) (M : dM) : Option dM :=
  (l_mo_runs_13 0 (sI (sJ M 66 85 a1.toInt64) 66 88 0)).bind fun t2 =>
    (l_mo_runs_34 0 t2).bind fun r16 => some r16
theorem w_b_mo_runs_13_13 (x2 : Int32)  (M : dM) {Q : mz_P} {o : ((Int32 × dM) ⊕ dM)} (hf : b_mo_runs_13_13 x2 M = some o) (hk : K_mo_runs_13 Q  o) : mW mX12_runs 7 Q 13 [some (.ref 66), none, some (.int x2), none] [] M := by
  unfold b_mo_runs_13_13 at hf
  refine y_iload_n (i := 2) (n := 14) ⟨dX12_runs_13, rfl⟩ rfl ?_
  refine y_bipush (n := 16) (v := 8) ⟨dX12_runs_14, rfl⟩ kb_8 ?_
  refine y_icmp_ge (t := 32) (n := 19) ⟨dX12_runs_16, rfl, rfl⟩ (fun (hc : 8 ≤ x2) => ?_) (fun (hc : ¬ (8 ≤ x2)) => ?_)
  · replace hf := i_t hc hf
    cases hf
    exact y_wk (L2 := [some (.ref 66), none, none, none]) ⟨Or.inr rfl, Or.inr rfl, Or.inl rfl, Or.inr rfl, trivial⟩ hk
  · replace hf := i_f hc hf
    refine y_aload_n (i := 0) (n := 20) ⟨dX12_runs_19, rfl⟩ rfl ?_
    refine y_getR (n := 23) ⟨dX12_runs_20, rfl⟩ kfX12_174 l_66 rfl r_66_87 ?_
    refine y_iload_n (i := 2) (n := 24) ⟨dX12_runs_23, rfl⟩ rfl ?_
    refine y_iconst (n := 25) (v := 0) ⟨dX12_runs_24, rfl⟩ ki_0 ?_
    obtain ⟨hg1, hf⟩ := g_s hf
    refine y_iastore (n := 26) ⟨dX12_runs_25, rfl⟩ l_121 hg1 ?_
    refine y_iinc (i := 2) (n := 29) (b := (x2 + 1)) (L2 := [some (.ref 66), none, some (.int (x2 + 1)), none]) ⟨dX12_runs_26, rfl⟩ rfl (by rw [ki_1]) (by decide) rfl rfl ?_
    refine y_goto (t := 13) ⟨dX12_runs_29, rfl, rfl⟩ ?_
    cases hf
    exact y_wk (L2 := [some (.ref 66), none, some (.int (x2 + 1)), none]) ⟨Or.inr rfl, Or.inr rfl, Or.inr rfl, Or.inr rfl, trivial⟩ hk
theorem wl_mo_runs_13 (x2 : Int32) (M : dM) {Q : mz_P} {x : dM} (hf : l_mo_runs_13 x2 M = some x) (hk : K_mo_runs_13 Q  (.inr x)) : mW mX12_runs 7 Q 13 [some (.ref 66), none, some (.int x2), none] [] M :=
  lpc_wp (σ := (Int32 × dM)) (ξ := dM) (s := (x2, M)) (Wh := fun s => mW mX12_runs 7 Q 13 [some (.ref 66), none, some (.int s.1), none] [] s.2) (K := K_mo_runs_13 Q ) (fun _ h => h) (fun s o hb hk => w_b_mo_runs_13_13 s.1 s.2 hb hk) hf hk
theorem w_b_mo_runs_49_49 (x2 : Int32) (x3 : Int32)  (M : dM) {Q : mz_P} {o : ((Int32 × dM) ⊕ dM)} (hf : b_mo_runs_49_49 x2 x3 M = some o) (hk : K_mo_runs_49 Q x2 o) : mW mX12_runs 7 Q 49 [some (.ref 66), none, some (.int x2), some (.int x3)] [] M := by
  unfold b_mo_runs_49_49 at hf
  refine y_iload_n (i := 3) (n := 50) ⟨dX12_runs_49, rfl⟩ rfl ?_
  refine y_aload_n (i := 0) (n := 51) ⟨dX12_runs_50, rfl⟩ rfl ?_
  refine y_getR (n := 54) ⟨dX12_runs_51, rfl⟩ kfX12_28 l_66 rfl r_66_8 ?_
  refine y_iload_n (i := 2) (n := 55) ⟨dX12_runs_54, rfl⟩ rfl ?_
  obtain ⟨hg6, hf⟩ := g_s hf
  refine y_iaload (n := 56) ⟨dX12_runs_55, rfl⟩ l_73 hg6 ?_
  refine y_icmp_gt (t := 77) (n := 59) ⟨dX12_runs_56, rfl, rfl⟩ (fun (hc : (gI M 73 x2.toNatClampNeg) < x3) => ?_) (fun (hc : ¬ ((gI M 73 x2.toNatClampNeg) < x3)) => ?_)
  · replace hf := i_t hc hf
    cases hf
    exact y_wk (L2 := [some (.ref 66), none, some (.int x2), none]) ⟨Or.inr rfl, Or.inr rfl, Or.inr rfl, Or.inl rfl, trivial⟩ hk
  · replace hf := i_f hc hf
    refine y_aload_n (i := 0) (n := 60) ⟨dX12_runs_59, rfl⟩ rfl ?_
    refine y_iload_n (i := 2) (n := 61) ⟨dX12_runs_60, rfl⟩ rfl ?_
    refine y_iload_n (i := 3) (n := 62) ⟨dX12_runs_61, rfl⟩ rfl ?_
    obtain ⟨q7, hv8, hf⟩ := b_s hf
    refine c_mo_buries x2 x3 M (n := 65) ⟨dX12_runs_62, rfl⟩ klX12_578 hv8 (by decide) (Nat.le_of_ble_eq_true rfl) rfl rfl ?_
    refine y_aload_n (i := 0) (n := 66) ⟨dX12_runs_65, rfl⟩ rfl ?_
    refine y_iload_n (i := 2) (n := 67) ⟨dX12_runs_66, rfl⟩ rfl ?_
    refine y_iload_n (i := 3) (n := 68) ⟨dX12_runs_67, rfl⟩ rfl ?_
    obtain ⟨q9, hv10, hf⟩ := b_s hf
    refine c_mo_digsAt x2 x3 q7 (n := 71) ⟨dX12_runs_68, rfl⟩ klX12_581 hv10 (by decide) (Nat.le_of_ble_eq_true rfl) rfl rfl ?_
    refine y_iinc (i := 3) (n := 74) (b := (x3 + 1)) (L2 := [some (.ref 66), none, some (.int x2), some (.int (x3 + 1))]) ⟨dX12_runs_71, rfl⟩ rfl (by rw [ki_1]) (by decide) rfl rfl ?_
    refine y_goto (t := 49) ⟨dX12_runs_74, rfl, rfl⟩ ?_
    cases hf
    exact y_wk (L2 := [some (.ref 66), none, some (.int x2), some (.int (x3 + 1))]) ⟨Or.inr rfl, Or.inr rfl, Or.inr rfl, Or.inr rfl, trivial⟩ hk
theorem wl_mo_runs_49 (x2 : Int32) (x3 : Int32) (M : dM) {Q : mz_P} {x : dM} (hf : l_mo_runs_49 x2 x3 M = some x) (hk : K_mo_runs_49 Q x2 (.inr x)) : mW mX12_runs 7 Q 49 [some (.ref 66), none, some (.int x2), some (.int x3)] [] M :=
  lpc_wp (σ := (Int32 × dM)) (ξ := dM) (s := (x3, M)) (Wh := fun s => mW mX12_runs 7 Q 49 [some (.ref 66), none, some (.int x2), some (.int s.1)] [] s.2) (K := K_mo_runs_49 Q x2) (fun _ h => h) (fun s o hb hk => w_b_mo_runs_49_49 x2 s.1 s.2 hb hk) hf hk
theorem w_b_mo_runs_34_34 (x2 : Int32)  (M : dM) {Q : mz_P} {o : ((Int32 × dM) ⊕ dM)} (hf : b_mo_runs_34_34 x2 M = some o) (hk : K_mo_runs_34 Q  o) : mW mX12_runs 7 Q 34 [some (.ref 66), none, some (.int x2), none] [] M := by
  unfold b_mo_runs_34_34 at hf
  refine y_iload_n (i := 2) (n := 35) ⟨dX12_runs_34, rfl⟩ rfl ?_
  refine y_aload_n (i := 0) (n := 36) ⟨dX12_runs_35, rfl⟩ rfl ?_
  refine y_getI (n := 39) ⟨dX12_runs_36, rfl⟩ kfX12_228 l_66 rfl ?_
  refine y_icmp_ge (t := 83) (n := 42) ⟨dX12_runs_39, rfl, rfl⟩ (fun (hc : (gI M 66 3) ≤ x2) => ?_) (fun (hc : ¬ ((gI M 66 3) ≤ x2)) => ?_)
  · replace hf := i_t hc hf
    cases hf
    exact y_return (n := 84) ⟨dX12_runs_83, rfl⟩ rfl hk
  · replace hf := i_f hc hf
    refine y_aload_n (i := 0) (n := 43) ⟨dX12_runs_42, rfl⟩ rfl ?_
    refine y_getR (n := 46) ⟨dX12_runs_43, rfl⟩ kfX12_25 l_66 rfl r_66_7 ?_
    refine y_iload_n (i := 2) (n := 47) ⟨dX12_runs_46, rfl⟩ rfl ?_
    obtain ⟨hg5, hf⟩ := g_s hf
    refine y_iaload (n := 48) ⟨dX12_runs_47, rfl⟩ l_72 hg5 ?_
    refine y_istore_n (i := 3) (n := 49) (L2 := [some (.ref 66), none, some (.int x2), some (.int (gI M 72 x2.toNatClampNeg))]) ⟨dX12_runs_48, rfl⟩ (by decide) rfl rfl ?_
    obtain ⟨t11, hl12, hf⟩ := b_s hf
    refine y_wk (L2 := [some (.ref 66), none, some (.int x2), some (.int (gI M 72 x2.toNatClampNeg))]) ⟨Or.inr rfl, Or.inr rfl, Or.inr rfl, Or.inr rfl, trivial⟩ (wl_mo_runs_49 x2 (gI M 72 x2.toNatClampNeg) M hl12 ?_)
    show mW mX12_runs 7 Q 77 [some (.ref 66), none, some (.int x2), none] [] t11
    refine y_iinc (i := 2) (n := 80) (b := (x2 + 1)) (L2 := [some (.ref 66), none, some (.int (x2 + 1)), none]) ⟨dX12_runs_77, rfl⟩ rfl (by rw [ki_1]) (by decide) rfl rfl ?_
    refine y_goto (t := 34) ⟨dX12_runs_80, rfl, rfl⟩ ?_
    cases hf
    exact y_wk (L2 := [some (.ref 66), none, some (.int (x2 + 1)), none]) ⟨Or.inr rfl, Or.inr rfl, Or.inr rfl, Or.inr rfl, trivial⟩ hk
theorem wl_mo_runs_34 (x2 : Int32) (M : dM) {Q : mz_P} {x : dM} (hf : l_mo_runs_34 x2 M = some x) (hk : K_mo_runs_34 Q  (.inr x)) : mW mX12_runs 7 Q 34 [some (.ref 66), none, some (.int x2), none] [] M :=
  lpc_wp (σ := (Int32 × dM)) (ξ := dM) (s := (x2, M)) (Wh := fun s => mW mX12_runs 7 Q 34 [some (.ref 66), none, some (.int s.1), none] [] s.2) (K := K_mo_runs_34 Q ) (fun _ h => h) (fun s o hb hk => w_b_mo_runs_34_34 s.1 s.2 hb hk) hf hk
theorem ok_mo_runs (a1 : Int32) (M : dM) {o : dM} (hf : f_mo_runs a1 M = some o) : mO mX12_runs 7 [.ref 66, .int a1] M none o := by
  refine y_ok (by decide +kernel) (Nat.le_of_ble_eq_true rfl) (L0 := [some (.ref 66), some (.int a1), none, none]) rfl ?_
  have hk := mR_mQ none o
  generalize mQ _ _ = Q at hk ⊢
  unfold f_mo_runs at hf
  refine y_aload_n (i := 0) (n := 1) ⟨dX12_runs_0, rfl⟩ rfl ?_
  refine y_iload_n (i := 1) (n := 2) ⟨dX12_runs_1, rfl⟩ rfl ?_
  refine y_i2l (n := 3) ⟨dX12_runs_2, rfl⟩ ?_
  refine y_putJ (n := 6) ⟨dX12_runs_3, rfl⟩ kfX12_551 l_66 (by decide +kernel) rfl ?_
  refine y_aload_n (i := 0) (n := 7) ⟨dX12_runs_6, rfl⟩ rfl ?_
  refine y_iconst (n := 8) (v := 0) ⟨dX12_runs_7, rfl⟩ ki_0 ?_
  refine y_putI (n := 11) ⟨dX12_runs_8, rfl⟩ kfX12_568 l_66 (by decide +kernel) rfl ?_
  refine y_iconst (n := 12) (v := 0) ⟨dX12_runs_11, rfl⟩ ki_0 ?_
  refine y_istore_n (i := 2) (n := 13) (L2 := [some (.ref 66), some (.int a1), some (.int 0), none]) ⟨dX12_runs_12, rfl⟩ (by decide) rfl rfl ?_
  obtain ⟨t2, hl3, hf⟩ := b_s hf
  refine y_wk (L2 := [some (.ref 66), none, some (.int 0), none]) ⟨Or.inr rfl, Or.inl rfl, Or.inr rfl, Or.inr rfl, trivial⟩ (wl_mo_runs_13 0 (sI (sJ M 66 85 a1.toInt64) 66 88 0) hl3 ?_)
  show mW mX12_runs 7 Q 32 [some (.ref 66), none, none, none] [] t2
  refine y_iconst (n := 33) (v := 0) ⟨dX12_runs_32, rfl⟩ ki_0 ?_
  refine y_istore_n (i := 2) (n := 34) (L2 := [some (.ref 66), none, some (.int 0), none]) ⟨dX12_runs_33, rfl⟩ (by decide) rfl rfl ?_
  obtain ⟨r16, hl15, hf⟩ := b_s hf
  cases hf
  exact y_wk (L2 := [some (.ref 66), none, some (.int 0), none]) ⟨Or.inr rfl, Or.inr rfl, Or.inr rfl, Or.inr rfl, trivial⟩ (wl_mo_runs_34 0 t2 hl15 hk)
theorem c_mo_runs (a1 : Int32) (M : dM) {o : dM} {y : mz_M} {d : Nat} {Q : mz_P} {pc n i : Nat} {L : List (Option Value)} {st : List Value} (h : mz_d y.2.1 pc n 3 (.invokevirtual i)) (hl : mz_ml y.1.cls i yX12_runs) (hf : f_mo_runs a1 M = some o) (hd : 7 + 1 ≤ d) (hsm : (st.map (fun v => v.category)).sum ≤ 8) (hLr : mz_rL 133 L = true) (hSr : mz_rS 133 st = true) (kk : mW y d Q n L st o) : mW y d Q pc L (.int a1 :: .ref 66 :: st) M :=
  y_callV kmX12_runs kvX12_runs l_66 (by decide +kernel) (by decide +kernel) h hl (ok_mo_runs a1 M hf) (vs := [.int a1]) rfl rfl hd hsm hLr hSr kk
def K_mo_mostFound_6 (Q : mz_P)  (M : dM) : ((Int32 × Int32 × Int32) ⊕ Int32) → Prop
  | .inl s => mW mX12_mostFound 1 Q 6 [some (.ref 66), some (.int s.1), some (.int s.2.1), some (.int s.2.2), none, none] [] M
  | .inr r => mR Q (some (.int r)) M
def K_mo_mostFound_18 (Q : mz_P) (x1 : Int32) (x2 : Int32) (x3 : Int32) (M : dM) : ((Int32 × Int32) ⊕ Int32) → Prop
  | .inl s => mW mX12_mostFound 1 Q 18 [some (.ref 66), some (.int x1), some (.int x2), some (.int x3), some (.int s.1), some (.int s.2)] [] M
  | .inr t => mW mX12_mostFound 1 Q 54 [some (.ref 66), some (.int x1), some (.int x2), some (.int x3), some (.int t), none] [] M
noncomputable def b_mo_mostFound_18_18 (x1 : Int32) (x2 : Int32) (x3 : Int32) (x4 : Int32) (x5 : Int32) (M : dM) : Option ((Int32 × Int32) ⊕ Int32) :=
  if (gI M 66 88) ≤ x5 then
    some (.inr x4)
  else
    gd (vp_in x5 1920) <|
    if (gI M 125 x5.toNatClampNeg) = x3 then
      some (.inl ((x4 + 1), (x5 + 1)))
    else
      some (.inl ((x4 + 0), (x5 + 1)))
noncomputable def l_mo_mostFound_18 (x1 : Int32) (x2 : Int32) (x3 : Int32) (x4 : Int32) (x5 : Int32) (M : dM) : Option Int32 := lpc (fun s => b_mo_mostFound_18_18 x1 x2 x3 s.1 s.2 M) (x4, x5)
noncomputable def b_mo_mostFound_6_65 (x2 : Int32) (x3 : Int32) (x4 : Int32) (y0 : Int32) (M : dM) : Option ((Int32 × Int32 × Int32) ⊕ Int32) :=
  if x4 ≤ x2 then
    some (.inl (y0, x2, (x3 + 1)))
  else
    some (.inl (y0, x4, (x3 + 1)))
noncomputable def b_mo_mostFound_6_6 (x1 : Int32) (x2 : Int32) (x3 : Int32) (M : dM) : Option ((Int32 × Int32 × Int32) ⊕ Int32) :=
  if 10 ≤ x3 then
    some (.inr x1)
  else
    (l_mo_mostFound_18 x1 x2 x3 0 0 M).bind fun t2 =>
      if t2 ≤ x2 then
        b_mo_mostFound_6_65 x2 x3 t2 x1 M
      else
        b_mo_mostFound_6_65 x2 x3 t2 x3 M
noncomputable def l_mo_mostFound_6 (x1 : Int32) (x2 : Int32) (x3 : Int32) (M : dM) : Option Int32 := lpc (fun s => b_mo_mostFound_6_6 s.1 s.2.1 s.2.2 M) (x1, x2, x3)
noncomputable def f_mo_mostFound (M : dM) : Option Int32 :=
  (l_mo_mostFound_6 (-1) 0 0 M).bind fun r7 => some r7
theorem w_b_mo_mostFound_18_18 (x1 : Int32) (x2 : Int32) (x3 : Int32) (x4 : Int32) (x5 : Int32)  (M : dM) {Q : mz_P} {o : ((Int32 × Int32) ⊕ Int32)} (hf : b_mo_mostFound_18_18 x1 x2 x3 x4 x5 M = some o) (hk : K_mo_mostFound_18 Q x1 x2 x3 M o) : mW mX12_mostFound 1 Q 18 [some (.ref 66), some (.int x1), some (.int x2), some (.int x3), some (.int x4), some (.int x5)] [] M := by
  unfold b_mo_mostFound_18_18 at hf
  refine y_iload (i := 5) (n := 20) ⟨dX12_mostFound_18, rfl⟩ rfl ?_
  refine y_aload_n (i := 0) (n := 21) ⟨dX12_mostFound_20, rfl⟩ rfl ?_
  refine y_getI (n := 24) ⟨dX12_mostFound_21, rfl⟩ kfX12_568 l_66 rfl ?_
  refine y_icmp_ge (t := 54) (n := 27) ⟨dX12_mostFound_24, rfl, rfl⟩ (fun (hc : (gI M 66 88) ≤ x5) => ?_) (fun (hc : ¬ ((gI M 66 88) ≤ x5)) => ?_)
  · replace hf := i_t hc hf
    cases hf
    exact y_wk (L2 := [some (.ref 66), some (.int x1), some (.int x2), some (.int x3), some (.int x4), none]) ⟨Or.inr rfl, Or.inr rfl, Or.inr rfl, Or.inr rfl, Or.inr rfl, Or.inl rfl, trivial⟩ hk
  · replace hf := i_f hc hf
    refine y_iload (i := 4) (n := 29) ⟨dX12_mostFound_27, rfl⟩ rfl ?_
    refine y_aload_n (i := 0) (n := 30) ⟨dX12_mostFound_29, rfl⟩ rfl ?_
    refine y_getR (n := 33) ⟨dX12_mostFound_30, rfl⟩ kfX12_186 l_66 rfl r_66_92 ?_
    refine y_iload (i := 5) (n := 35) ⟨dX12_mostFound_33, rfl⟩ rfl ?_
    obtain ⟨hg1, hf⟩ := g_s hf
    refine y_iaload (n := 36) ⟨dX12_mostFound_35, rfl⟩ l_125 hg1 ?_
    refine y_iload_n (i := 3) (n := 37) ⟨dX12_mostFound_36, rfl⟩ rfl ?_
    refine y_icmp_ne (t := 44) (n := 40) ⟨dX12_mostFound_37, rfl, rfl⟩ (fun (hc : ¬ ((gI M 125 x5.toNatClampNeg) = x3)) => ?_) (fun (hc : (gI M 125 x5.toNatClampNeg) = x3) => ?_)
    · replace hf := i_f hc hf
      refine y_iconst (n := 45) (v := 0) ⟨dX12_mostFound_44, rfl⟩ ki_0 ?_
      refine y_iadd (n := 46) ⟨dX12_mostFound_45, rfl⟩ ?_
      refine y_istore (i := 4) (n := 48) (L2 := [some (.ref 66), some (.int x1), some (.int x2), some (.int x3), some (.int (x4 + 0)), some (.int x5)]) ⟨dX12_mostFound_46, rfl⟩ (by decide) rfl rfl ?_
      refine y_iinc (i := 5) (n := 51) (b := (x5 + 1)) (L2 := [some (.ref 66), some (.int x1), some (.int x2), some (.int x3), some (.int (x4 + 0)), some (.int (x5 + 1))]) ⟨dX12_mostFound_48, rfl⟩ rfl (by rw [ki_1]) (by decide) rfl rfl ?_
      refine y_goto (t := 18) ⟨dX12_mostFound_51, rfl, rfl⟩ ?_
      cases hf
      exact y_wk (L2 := [some (.ref 66), some (.int x1), some (.int x2), some (.int x3), some (.int (x4 + 0)), some (.int (x5 + 1))]) ⟨Or.inr rfl, Or.inr rfl, Or.inr rfl, Or.inr rfl, Or.inr rfl, Or.inr rfl, trivial⟩ hk
    · replace hf := i_t hc hf
      refine y_iconst (n := 41) (v := 1) ⟨dX12_mostFound_40, rfl⟩ ki_1 ?_
      refine y_goto (t := 45) ⟨dX12_mostFound_41, rfl, rfl⟩ ?_
      refine y_iadd (n := 46) ⟨dX12_mostFound_45, rfl⟩ ?_
      refine y_istore (i := 4) (n := 48) (L2 := [some (.ref 66), some (.int x1), some (.int x2), some (.int x3), some (.int (x4 + 1)), some (.int x5)]) ⟨dX12_mostFound_46, rfl⟩ (by decide) rfl rfl ?_
      refine y_iinc (i := 5) (n := 51) (b := (x5 + 1)) (L2 := [some (.ref 66), some (.int x1), some (.int x2), some (.int x3), some (.int (x4 + 1)), some (.int (x5 + 1))]) ⟨dX12_mostFound_48, rfl⟩ rfl (by rw [ki_1]) (by decide) rfl rfl ?_
      refine y_goto (t := 18) ⟨dX12_mostFound_51, rfl, rfl⟩ ?_
      cases hf
      exact y_wk (L2 := [some (.ref 66), some (.int x1), some (.int x2), some (.int x3), some (.int (x4 + 1)), some (.int (x5 + 1))]) ⟨Or.inr rfl, Or.inr rfl, Or.inr rfl, Or.inr rfl, Or.inr rfl, Or.inr rfl, trivial⟩ hk
theorem wl_mo_mostFound_18 (x1 : Int32) (x2 : Int32) (x3 : Int32) (x4 : Int32) (x5 : Int32) (M : dM) {Q : mz_P} {x : Int32} (hf : l_mo_mostFound_18 x1 x2 x3 x4 x5 M = some x) (hk : K_mo_mostFound_18 Q x1 x2 x3 M (.inr x)) : mW mX12_mostFound 1 Q 18 [some (.ref 66), some (.int x1), some (.int x2), some (.int x3), some (.int x4), some (.int x5)] [] M :=
  lpc_wp (σ := (Int32 × Int32)) (ξ := Int32) (s := (x4, x5)) (Wh := fun s => mW mX12_mostFound 1 Q 18 [some (.ref 66), some (.int x1), some (.int x2), some (.int x3), some (.int s.1), some (.int s.2)] [] M) (K := K_mo_mostFound_18 Q x1 x2 x3 M) (fun _ h => h) (fun s o hb hk => w_b_mo_mostFound_18_18 x1 x2 x3 s.1 s.2 M hb hk) hf hk
theorem w_b_mo_mostFound_6_65 (x2 : Int32) (x3 : Int32) (x4 : Int32) (y0 : Int32)  (M : dM) {Q : mz_P} {o : ((Int32 × Int32 × Int32) ⊕ Int32)} (hf : b_mo_mostFound_6_65 x2 x3 x4 y0 M = some o) (hk : K_mo_mostFound_6 Q  M o) : mW mX12_mostFound 1 Q 65 [some (.ref 66), none, some (.int x2), some (.int x3), some (.int x4), none] [.int y0] M := by
  unfold b_mo_mostFound_6_65 at hf
  refine y_istore_n (i := 1) (n := 66) (L2 := [some (.ref 66), some (.int y0), some (.int x2), some (.int x3), some (.int x4), none]) ⟨dX12_mostFound_65, rfl⟩ (by decide) rfl rfl ?_
  refine y_iload (i := 4) (n := 68) ⟨dX12_mostFound_66, rfl⟩ rfl ?_
  refine y_iload_n (i := 2) (n := 69) ⟨dX12_mostFound_68, rfl⟩ rfl ?_
  refine y_icmp_le (t := 77) (n := 72) ⟨dX12_mostFound_69, rfl, rfl⟩ (fun (hc : x4 ≤ x2) => ?_) (fun (hc : ¬ (x4 ≤ x2)) => ?_)
  · replace hf := i_t hc hf
    refine y_iload_n (i := 2) (n := 78) ⟨dX12_mostFound_77, rfl⟩ rfl ?_
    refine y_istore_n (i := 2) (n := 79) (L2 := [some (.ref 66), some (.int y0), some (.int x2), some (.int x3), some (.int x4), none]) ⟨dX12_mostFound_78, rfl⟩ (by decide) rfl rfl ?_
    refine y_iinc (i := 3) (n := 82) (b := (x3 + 1)) (L2 := [some (.ref 66), some (.int y0), some (.int x2), some (.int (x3 + 1)), some (.int x4), none]) ⟨dX12_mostFound_79, rfl⟩ rfl (by rw [ki_1]) (by decide) rfl rfl ?_
    refine y_goto (t := 6) ⟨dX12_mostFound_82, rfl, rfl⟩ ?_
    cases hf
    exact y_wk (L2 := [some (.ref 66), some (.int y0), some (.int x2), some (.int (x3 + 1)), none, none]) ⟨Or.inr rfl, Or.inr rfl, Or.inr rfl, Or.inr rfl, Or.inl rfl, Or.inr rfl, trivial⟩ hk
  · replace hf := i_f hc hf
    refine y_iload (i := 4) (n := 74) ⟨dX12_mostFound_72, rfl⟩ rfl ?_
    refine y_goto (t := 78) ⟨dX12_mostFound_74, rfl, rfl⟩ ?_
    refine y_istore_n (i := 2) (n := 79) (L2 := [some (.ref 66), some (.int y0), some (.int x4), some (.int x3), some (.int x4), none]) ⟨dX12_mostFound_78, rfl⟩ (by decide) rfl rfl ?_
    refine y_iinc (i := 3) (n := 82) (b := (x3 + 1)) (L2 := [some (.ref 66), some (.int y0), some (.int x4), some (.int (x3 + 1)), some (.int x4), none]) ⟨dX12_mostFound_79, rfl⟩ rfl (by rw [ki_1]) (by decide) rfl rfl ?_
    refine y_goto (t := 6) ⟨dX12_mostFound_82, rfl, rfl⟩ ?_
    cases hf
    exact y_wk (L2 := [some (.ref 66), some (.int y0), some (.int x4), some (.int (x3 + 1)), none, none]) ⟨Or.inr rfl, Or.inr rfl, Or.inr rfl, Or.inr rfl, Or.inl rfl, Or.inr rfl, trivial⟩ hk
theorem w_b_mo_mostFound_6_6 (x1 : Int32) (x2 : Int32) (x3 : Int32)  (M : dM) {Q : mz_P} {o : ((Int32 × Int32 × Int32) ⊕ Int32)} (hf : b_mo_mostFound_6_6 x1 x2 x3 M = some o) (hk : K_mo_mostFound_6 Q  M o) : mW mX12_mostFound 1 Q 6 [some (.ref 66), some (.int x1), some (.int x2), some (.int x3), none, none] [] M := by
  unfold b_mo_mostFound_6_6 at hf
  refine y_iload_n (i := 3) (n := 7) ⟨dX12_mostFound_6, rfl⟩ rfl ?_
  refine y_bipush (n := 9) (v := 10) ⟨dX12_mostFound_7, rfl⟩ kb_10 ?_
  refine y_icmp_ge (t := 85) (n := 12) ⟨dX12_mostFound_9, rfl, rfl⟩ (fun (hc : 10 ≤ x3) => ?_) (fun (hc : ¬ (10 ≤ x3)) => ?_)
  · replace hf := i_t hc hf
    refine y_iload_n (i := 1) (n := 86) ⟨dX12_mostFound_85, rfl⟩ rfl ?_
    cases hf
    exact y_ireturn (n := 87) ⟨dX12_mostFound_86, rfl⟩ rfl rfl hk
  · replace hf := i_f hc hf
    refine y_iconst (n := 13) (v := 0) ⟨dX12_mostFound_12, rfl⟩ ki_0 ?_
    refine y_istore (i := 4) (n := 15) (L2 := [some (.ref 66), some (.int x1), some (.int x2), some (.int x3), some (.int 0), none]) ⟨dX12_mostFound_13, rfl⟩ (by decide) rfl rfl ?_
    refine y_iconst (n := 16) (v := 0) ⟨dX12_mostFound_15, rfl⟩ ki_0 ?_
    refine y_istore (i := 5) (n := 18) (L2 := [some (.ref 66), some (.int x1), some (.int x2), some (.int x3), some (.int 0), some (.int 0)]) ⟨dX12_mostFound_16, rfl⟩ (by decide) rfl rfl ?_
    obtain ⟨t2, hl3, hf⟩ := b_s hf
    refine y_wk (L2 := [some (.ref 66), some (.int x1), some (.int x2), some (.int x3), some (.int 0), some (.int 0)]) ⟨Or.inr rfl, Or.inr rfl, Or.inr rfl, Or.inr rfl, Or.inr rfl, Or.inr rfl, trivial⟩ (wl_mo_mostFound_18 x1 x2 x3 0 0 M hl3 ?_)
    show mW mX12_mostFound 1 Q 54 [some (.ref 66), some (.int x1), some (.int x2), some (.int x3), some (.int t2), none] [] M
    refine y_iload (i := 4) (n := 56) ⟨dX12_mostFound_54, rfl⟩ rfl ?_
    refine y_iload_n (i := 2) (n := 57) ⟨dX12_mostFound_56, rfl⟩ rfl ?_
    refine y_icmp_le (t := 64) (n := 60) ⟨dX12_mostFound_57, rfl, rfl⟩ (fun (hc : t2 ≤ x2) => ?_) (fun (hc : ¬ (t2 ≤ x2)) => ?_)
    · replace hf := i_t hc hf
      refine y_iload_n (i := 1) (n := 65) ⟨dX12_mostFound_64, rfl⟩ rfl ?_
      exact y_wk (L2 := [some (.ref 66), none, some (.int x2), some (.int x3), some (.int t2), none]) ⟨Or.inr rfl, Or.inl rfl, Or.inr rfl, Or.inr rfl, Or.inr rfl, Or.inr rfl, trivial⟩ (w_b_mo_mostFound_6_65 x2 x3 t2 x1 M hf hk)
    · replace hf := i_f hc hf
      refine y_iload_n (i := 3) (n := 61) ⟨dX12_mostFound_60, rfl⟩ rfl ?_
      refine y_goto (t := 65) ⟨dX12_mostFound_61, rfl, rfl⟩ ?_
      exact y_wk (L2 := [some (.ref 66), none, some (.int x2), some (.int x3), some (.int t2), none]) ⟨Or.inr rfl, Or.inl rfl, Or.inr rfl, Or.inr rfl, Or.inr rfl, Or.inr rfl, trivial⟩ (w_b_mo_mostFound_6_65 x2 x3 t2 x3 M hf hk)
theorem wl_mo_mostFound_6 (x1 : Int32) (x2 : Int32) (x3 : Int32) (M : dM) {Q : mz_P} {x : Int32} (hf : l_mo_mostFound_6 x1 x2 x3 M = some x) (hk : K_mo_mostFound_6 Q  M (.inr x)) : mW mX12_mostFound 1 Q 6 [some (.ref 66), some (.int x1), some (.int x2), some (.int x3), none, none] [] M :=
  lpc_wp (σ := (Int32 × Int32 × Int32)) (ξ := Int32) (s := (x1, x2, x3)) (Wh := fun s => mW mX12_mostFound 1 Q 6 [some (.ref 66), some (.int s.1), some (.int s.2.1), some (.int s.2.2), none, none] [] M) (K := K_mo_mostFound_6 Q  M) (fun _ h => h) (fun s o hb hk => w_b_mo_mostFound_6_6 s.1 s.2.1 s.2.2 M hb hk) hf hk
theorem ok_mo_mostFound  (M : dM) {o : Int32} (hf : f_mo_mostFound M = some o) : mO mX12_mostFound 1 [.ref 66] M (some (.int o)) M := by
  refine y_ok (by decide +kernel) (Nat.le_of_ble_eq_true rfl) (L0 := [some (.ref 66), none, none, none, none, none]) rfl ?_
  have hk := mR_mQ (some (.int o)) M
  generalize mQ _ _ = Q at hk ⊢
  unfold f_mo_mostFound at hf
  refine y_iconst (n := 1) (v := (-1)) ⟨dX12_mostFound_0, rfl⟩ ki_m1 ?_
  refine y_istore_n (i := 1) (n := 2) (L2 := [some (.ref 66), some (.int (-1)), none, none, none, none]) ⟨dX12_mostFound_1, rfl⟩ (by decide) rfl rfl ?_
  refine y_iconst (n := 3) (v := 0) ⟨dX12_mostFound_2, rfl⟩ ki_0 ?_
  refine y_istore_n (i := 2) (n := 4) (L2 := [some (.ref 66), some (.int (-1)), some (.int 0), none, none, none]) ⟨dX12_mostFound_3, rfl⟩ (by decide) rfl rfl ?_
  refine y_iconst (n := 5) (v := 0) ⟨dX12_mostFound_4, rfl⟩ ki_0 ?_
  refine y_istore_n (i := 3) (n := 6) (L2 := [some (.ref 66), some (.int (-1)), some (.int 0), some (.int 0), none, none]) ⟨dX12_mostFound_5, rfl⟩ (by decide) rfl rfl ?_
  obtain ⟨r7, hl6, hf⟩ := b_s hf
  cases hf
  exact y_wk (L2 := [some (.ref 66), some (.int (-1)), some (.int 0), some (.int 0), none, none]) ⟨Or.inr rfl, Or.inr rfl, Or.inr rfl, Or.inr rfl, Or.inr rfl, Or.inr rfl, trivial⟩ (wl_mo_mostFound_6 (-1) 0 0 M hl6 hk)
theorem c_mo_mostFound  (M : dM) {o : Int32} {y : mz_M} {d : Nat} {Q : mz_P} {pc n i : Nat} {L : List (Option Value)} {st : List Value} (h : mz_d y.2.1 pc n 3 (.invokevirtual i)) (hl : mz_ml y.1.cls i yX12_mostFound) (hf : f_mo_mostFound M = some o) (hd : 1 + 1 ≤ d) (hsm : (st.map (fun v => v.category)).sum ≤ 8) (hLr : mz_rL 133 L = true) (hSr : mz_rS 133 st = true) (kk : mW y d Q n L (.int o :: st) M) : mW y d Q pc L (.ref 66 :: st) M :=
  y_callV kmX12_mostFound kvX12_mostFound l_66 (by decide +kernel) (by decide +kernel) h hl (ok_mo_mostFound  M hf) (vs := []) rfl rfl hd hsm hLr hSr kk
def K_mo_world_53 (Q : mz_P) (x2 : Int32) (x5 : Int32) (M : dM) : ((Int32 × Int32 × Int32) ⊕ (Int32 × Int32)) → Prop
  | .inl s => mW mX12_world 8 Q 53 [some (.ref 66), none, some (.int x2), some (.int s.1), some (.int s.2.1), some (.int x5), some (.int s.2.2)] [] M
  | .inr t => mW mX12_world 8 Q 112 [some (.ref 66), none, some (.int x2), some (.int t.1), some (.int t.2), some (.int x5), none] [] M
noncomputable def b_mo_world_53_78 (x2 : Int32) (x4 : Int32) (x5 : Int32) (x6 : Int32) (y0 : Int32) (y1 : Int32) (M : dM) : Option ((Int32 × Int32 × Int32) ⊕ (Int32 × Int32)) :=
  gd (vp_in x6 1920) <|
  if (gI M 127 x6.toNatClampNeg) ≤ x4 then
    some (.inl ((y0 + y1), x4, (x6 + 1)))
  else
    some (.inl ((y0 + y1), (gI M 127 x6.toNatClampNeg), (x6 + 1)))
noncomputable def b_mo_world_53_53 (x2 : Int32) (x3 : Int32) (x4 : Int32) (x5 : Int32) (x6 : Int32) (M : dM) : Option ((Int32 × Int32 × Int32) ⊕ (Int32 × Int32)) :=
  if (gI M 66 88) ≤ x6 then
    some (.inr (x3, x4))
  else
    gd (vp_in x6 1920) <|
    if (gI M 122 x6.toNatClampNeg) = 0 then
      b_mo_world_53_78 x2 x4 x5 x6 x3 1 M
    else
      b_mo_world_53_78 x2 x4 x5 x6 x3 0 M
noncomputable def l_mo_world_53 (x2 : Int32) (x3 : Int32) (x4 : Int32) (x5 : Int32) (x6 : Int32) (M : dM) : Option (Int32 × Int32) := lpc (fun s => b_mo_world_53_53 x2 s.1 s.2.1 x5 s.2.2 M) (x3, x4, x6)
def K_mo_world_115 (Q : mz_P) (x2 : Int32) (x3 : Int32) (x4 : Int32) (M : dM) : ((Int32 × Int32) ⊕ Int32) → Prop
  | .inl s => mW mX12_world 8 Q 115 [some (.ref 66), none, some (.int x2), some (.int x3), some (.int x4), some (.int s.1), some (.int s.2)] [] M
  | .inr t => mW mX12_world 8 Q 140 [some (.ref 66), none, some (.int x2), some (.int x3), some (.int x4), some (.int t), none] [] M
noncomputable def b_mo_world_115_115 (x2 : Int32) (x3 : Int32) (x4 : Int32) (x5 : Int32) (x6 : Int32) (M : dM) : Option ((Int32 × Int32) ⊕ Int32) :=
  if 8 ≤ x6 then
    some (.inr x5)
  else
    gd (vp_in x6 8) <|
    some (.inl ((x5 + (gI M 121 x6.toNatClampNeg)), (x6 + 1)))
noncomputable def l_mo_world_115 (x2 : Int32) (x3 : Int32) (x4 : Int32) (x5 : Int32) (x6 : Int32) (M : dM) : Option Int32 := lpc (fun s => b_mo_world_115_115 x2 x3 x4 s.1 s.2 M) (x5, x6)
noncomputable def f_mo_world (a1 : Int32) (a2 : Int32) (M : dM) : Option (Int32 × dM) :=
  if (f_mo_within a1 0 9999) = true then
    if (f_mo_within a2 0 4) = true then
      (f_mo_runs a1 (sI M 66 0 0)).bind fun q1 =>
      if a2 = 3 then
        (f_mo_mostFound q1).bind fun v12 =>
        some (v12, q1)
      else
        (l_mo_world_53 a2 0 (-1) 0 0 q1).bind fun t5 =>
          (l_mo_world_115 a2 t5.1 t5.2 0 0 q1).bind fun t9 =>
            if a2 = 0 then
              some (t5.1, q1)
            else
              if a2 = 1 then
                some (((gI q1 66 88) - t5.1), q1)
              else
                if a2 = 2 then
                  some (t9, q1)
                else
                  some (t5.2, q1)
    else
      some ((-1), (sI M 66 0 0))
  else
    some ((-1), (sI M 66 0 0))
theorem w_b_mo_world_53_78 (x2 : Int32) (x4 : Int32) (x5 : Int32) (x6 : Int32) (y0 : Int32) (y1 : Int32)  (M : dM) {Q : mz_P} {o : ((Int32 × Int32 × Int32) ⊕ (Int32 × Int32))} (hf : b_mo_world_53_78 x2 x4 x5 x6 y0 y1 M = some o) (hk : K_mo_world_53 Q x2 x5 M o) : mW mX12_world 8 Q 78 [some (.ref 66), none, some (.int x2), none, some (.int x4), some (.int x5), some (.int x6)] [.int y1, .int y0] M := by
  unfold b_mo_world_53_78 at hf
  refine y_iadd (n := 79) ⟨dX12_world_78, rfl⟩ ?_
  refine y_istore_n (i := 3) (n := 80) (L2 := [some (.ref 66), none, some (.int x2), some (.int (y0 + y1)), some (.int x4), some (.int x5), some (.int x6)]) ⟨dX12_world_79, rfl⟩ (by decide) rfl rfl ?_
  refine y_aload_n (i := 0) (n := 81) ⟨dX12_world_80, rfl⟩ rfl ?_
  refine y_getR (n := 84) ⟨dX12_world_81, rfl⟩ kfX12_192 l_66 rfl r_66_94 ?_
  refine y_iload (i := 6) (n := 86) ⟨dX12_world_84, rfl⟩ rfl ?_
  obtain ⟨hg4, hf⟩ := g_s hf
  refine y_iaload (n := 87) ⟨dX12_world_86, rfl⟩ l_127 hg4 ?_
  refine y_iload (i := 4) (n := 89) ⟨dX12_world_87, rfl⟩ rfl ?_
  refine y_icmp_le (t := 102) (n := 92) ⟨dX12_world_89, rfl, rfl⟩ (fun (hc : (gI M 127 x6.toNatClampNeg) ≤ x4) => ?_) (fun (hc : ¬ ((gI M 127 x6.toNatClampNeg) ≤ x4)) => ?_)
  · replace hf := i_t hc hf
    refine y_iload (i := 4) (n := 104) ⟨dX12_world_102, rfl⟩ rfl ?_
    refine y_istore (i := 4) (n := 106) (L2 := [some (.ref 66), none, some (.int x2), some (.int (y0 + y1)), some (.int x4), some (.int x5), some (.int x6)]) ⟨dX12_world_104, rfl⟩ (by decide) rfl rfl ?_
    refine y_iinc (i := 6) (n := 109) (b := (x6 + 1)) (L2 := [some (.ref 66), none, some (.int x2), some (.int (y0 + y1)), some (.int x4), some (.int x5), some (.int (x6 + 1))]) ⟨dX12_world_106, rfl⟩ rfl (by rw [ki_1]) (by decide) rfl rfl ?_
    refine y_goto (t := 53) ⟨dX12_world_109, rfl, rfl⟩ ?_
    cases hf
    exact y_wk (L2 := [some (.ref 66), none, some (.int x2), some (.int (y0 + y1)), some (.int x4), some (.int x5), some (.int (x6 + 1))]) ⟨Or.inr rfl, Or.inr rfl, Or.inr rfl, Or.inr rfl, Or.inr rfl, Or.inr rfl, Or.inr rfl, trivial⟩ hk
  · replace hf := i_f hc hf
    refine y_aload_n (i := 0) (n := 93) ⟨dX12_world_92, rfl⟩ rfl ?_
    refine y_getR (n := 96) ⟨dX12_world_93, rfl⟩ kfX12_192 l_66 rfl r_66_94 ?_
    refine y_iload (i := 6) (n := 98) ⟨dX12_world_96, rfl⟩ rfl ?_
    refine y_iaload (n := 99) ⟨dX12_world_98, rfl⟩ l_127 hg4 ?_
    refine y_goto (t := 104) ⟨dX12_world_99, rfl, rfl⟩ ?_
    refine y_istore (i := 4) (n := 106) (L2 := [some (.ref 66), none, some (.int x2), some (.int (y0 + y1)), some (.int (gI M 127 x6.toNatClampNeg)), some (.int x5), some (.int x6)]) ⟨dX12_world_104, rfl⟩ (by decide) rfl rfl ?_
    refine y_iinc (i := 6) (n := 109) (b := (x6 + 1)) (L2 := [some (.ref 66), none, some (.int x2), some (.int (y0 + y1)), some (.int (gI M 127 x6.toNatClampNeg)), some (.int x5), some (.int (x6 + 1))]) ⟨dX12_world_106, rfl⟩ rfl (by rw [ki_1]) (by decide) rfl rfl ?_
    refine y_goto (t := 53) ⟨dX12_world_109, rfl, rfl⟩ ?_
    cases hf
    exact y_wk (L2 := [some (.ref 66), none, some (.int x2), some (.int (y0 + y1)), some (.int (gI M 127 x6.toNatClampNeg)), some (.int x5), some (.int (x6 + 1))]) ⟨Or.inr rfl, Or.inr rfl, Or.inr rfl, Or.inr rfl, Or.inr rfl, Or.inr rfl, Or.inr rfl, trivial⟩ hk
theorem w_b_mo_world_53_53 (x2 : Int32) (x3 : Int32) (x4 : Int32) (x5 : Int32) (x6 : Int32)  (M : dM) {Q : mz_P} {o : ((Int32 × Int32 × Int32) ⊕ (Int32 × Int32))} (hf : b_mo_world_53_53 x2 x3 x4 x5 x6 M = some o) (hk : K_mo_world_53 Q x2 x5 M o) : mW mX12_world 8 Q 53 [some (.ref 66), none, some (.int x2), some (.int x3), some (.int x4), some (.int x5), some (.int x6)] [] M := by
  unfold b_mo_world_53_53 at hf
  refine y_iload (i := 6) (n := 55) ⟨dX12_world_53, rfl⟩ rfl ?_
  refine y_aload_n (i := 0) (n := 56) ⟨dX12_world_55, rfl⟩ rfl ?_
  refine y_getI (n := 59) ⟨dX12_world_56, rfl⟩ kfX12_568 l_66 rfl ?_
  refine y_icmp_ge (t := 112) (n := 62) ⟨dX12_world_59, rfl, rfl⟩ (fun (hc : (gI M 66 88) ≤ x6) => ?_) (fun (hc : ¬ ((gI M 66 88) ≤ x6)) => ?_)
  · replace hf := i_t hc hf
    cases hf
    exact y_wk (L2 := [some (.ref 66), none, some (.int x2), some (.int x3), some (.int x4), some (.int x5), none]) ⟨Or.inr rfl, Or.inr rfl, Or.inr rfl, Or.inr rfl, Or.inr rfl, Or.inr rfl, Or.inl rfl, trivial⟩ hk
  · replace hf := i_f hc hf
    refine y_iload_n (i := 3) (n := 63) ⟨dX12_world_62, rfl⟩ rfl ?_
    refine y_aload_n (i := 0) (n := 64) ⟨dX12_world_63, rfl⟩ rfl ?_
    refine y_getR (n := 67) ⟨dX12_world_64, rfl⟩ kfX12_177 l_66 rfl r_66_89 ?_
    refine y_iload (i := 6) (n := 69) ⟨dX12_world_67, rfl⟩ rfl ?_
    obtain ⟨hg3, hf⟩ := g_s hf
    refine y_baload (n := 70) ⟨dX12_world_69, rfl⟩ l_122 hg3 ?_
    refine y_if_eq (t := 77) (n := 73) ⟨dX12_world_70, rfl, rfl⟩ (fun (hc : (gI M 122 x6.toNatClampNeg) = 0) => ?_) (fun (hc : ¬ ((gI M 122 x6.toNatClampNeg) = 0)) => ?_)
    · replace hf := i_t hc hf
      refine y_iconst (n := 78) (v := 1) ⟨dX12_world_77, rfl⟩ ki_1 ?_
      exact y_wk (L2 := [some (.ref 66), none, some (.int x2), none, some (.int x4), some (.int x5), some (.int x6)]) ⟨Or.inr rfl, Or.inr rfl, Or.inr rfl, Or.inl rfl, Or.inr rfl, Or.inr rfl, Or.inr rfl, trivial⟩ (w_b_mo_world_53_78 x2 x4 x5 x6 x3 1 M hf hk)
    · replace hf := i_f hc hf
      refine y_iconst (n := 74) (v := 0) ⟨dX12_world_73, rfl⟩ ki_0 ?_
      refine y_goto (t := 78) ⟨dX12_world_74, rfl, rfl⟩ ?_
      exact y_wk (L2 := [some (.ref 66), none, some (.int x2), none, some (.int x4), some (.int x5), some (.int x6)]) ⟨Or.inr rfl, Or.inr rfl, Or.inr rfl, Or.inl rfl, Or.inr rfl, Or.inr rfl, Or.inr rfl, trivial⟩ (w_b_mo_world_53_78 x2 x4 x5 x6 x3 0 M hf hk)
theorem wl_mo_world_53 (x2 : Int32) (x3 : Int32) (x4 : Int32) (x5 : Int32) (x6 : Int32) (M : dM) {Q : mz_P} {x : (Int32 × Int32)} (hf : l_mo_world_53 x2 x3 x4 x5 x6 M = some x) (hk : K_mo_world_53 Q x2 x5 M (.inr x)) : mW mX12_world 8 Q 53 [some (.ref 66), none, some (.int x2), some (.int x3), some (.int x4), some (.int x5), some (.int x6)] [] M :=
  lpc_wp (σ := (Int32 × Int32 × Int32)) (ξ := (Int32 × Int32)) (s := (x3, x4, x6)) (Wh := fun s => mW mX12_world 8 Q 53 [some (.ref 66), none, some (.int x2), some (.int s.1), some (.int s.2.1), some (.int x5), some (.int s.2.2)] [] M) (K := K_mo_world_53 Q x2 x5 M) (fun _ h => h) (fun s o hb hk => w_b_mo_world_53_53 x2 s.1 s.2.1 x5 s.2.2 M hb hk) hf hk
theorem w_b_mo_world_115_115 (x2 : Int32) (x3 : Int32) (x4 : Int32) (x5 : Int32) (x6 : Int32)  (M : dM) {Q : mz_P} {o : ((Int32 × Int32) ⊕ Int32)} (hf : b_mo_world_115_115 x2 x3 x4 x5 x6 M = some o) (hk : K_mo_world_115 Q x2 x3 x4 M o) : mW mX12_world 8 Q 115 [some (.ref 66), none, some (.int x2), some (.int x3), some (.int x4), some (.int x5), some (.int x6)] [] M := by
  unfold b_mo_world_115_115 at hf
  refine y_iload (i := 6) (n := 117) ⟨dX12_world_115, rfl⟩ rfl ?_
  refine y_bipush (n := 119) (v := 8) ⟨dX12_world_117, rfl⟩ kb_8 ?_
  refine y_icmp_ge (t := 140) (n := 122) ⟨dX12_world_119, rfl, rfl⟩ (fun (hc : 8 ≤ x6) => ?_) (fun (hc : ¬ (8 ≤ x6)) => ?_)
  · replace hf := i_t hc hf
    cases hf
    exact y_wk (L2 := [some (.ref 66), none, some (.int x2), some (.int x3), some (.int x4), some (.int x5), none]) ⟨Or.inr rfl, Or.inr rfl, Or.inr rfl, Or.inr rfl, Or.inr rfl, Or.inr rfl, Or.inl rfl, trivial⟩ hk
  · replace hf := i_f hc hf
    refine y_iload (i := 5) (n := 124) ⟨dX12_world_122, rfl⟩ rfl ?_
    refine y_aload_n (i := 0) (n := 125) ⟨dX12_world_124, rfl⟩ rfl ?_
    refine y_getR (n := 128) ⟨dX12_world_125, rfl⟩ kfX12_174 l_66 rfl r_66_87 ?_
    refine y_iload (i := 6) (n := 130) ⟨dX12_world_128, rfl⟩ rfl ?_
    obtain ⟨hg8, hf⟩ := g_s hf
    refine y_iaload (n := 131) ⟨dX12_world_130, rfl⟩ l_121 hg8 ?_
    refine y_iadd (n := 132) ⟨dX12_world_131, rfl⟩ ?_
    refine y_istore (i := 5) (n := 134) (L2 := [some (.ref 66), none, some (.int x2), some (.int x3), some (.int x4), some (.int (x5 + (gI M 121 x6.toNatClampNeg))), some (.int x6)]) ⟨dX12_world_132, rfl⟩ (by decide) rfl rfl ?_
    refine y_iinc (i := 6) (n := 137) (b := (x6 + 1)) (L2 := [some (.ref 66), none, some (.int x2), some (.int x3), some (.int x4), some (.int (x5 + (gI M 121 x6.toNatClampNeg))), some (.int (x6 + 1))]) ⟨dX12_world_134, rfl⟩ rfl (by rw [ki_1]) (by decide) rfl rfl ?_
    refine y_goto (t := 115) ⟨dX12_world_137, rfl, rfl⟩ ?_
    cases hf
    exact y_wk (L2 := [some (.ref 66), none, some (.int x2), some (.int x3), some (.int x4), some (.int (x5 + (gI M 121 x6.toNatClampNeg))), some (.int (x6 + 1))]) ⟨Or.inr rfl, Or.inr rfl, Or.inr rfl, Or.inr rfl, Or.inr rfl, Or.inr rfl, Or.inr rfl, trivial⟩ hk
theorem wl_mo_world_115 (x2 : Int32) (x3 : Int32) (x4 : Int32) (x5 : Int32) (x6 : Int32) (M : dM) {Q : mz_P} {x : Int32} (hf : l_mo_world_115 x2 x3 x4 x5 x6 M = some x) (hk : K_mo_world_115 Q x2 x3 x4 M (.inr x)) : mW mX12_world 8 Q 115 [some (.ref 66), none, some (.int x2), some (.int x3), some (.int x4), some (.int x5), some (.int x6)] [] M :=
  lpc_wp (σ := (Int32 × Int32)) (ξ := Int32) (s := (x5, x6)) (Wh := fun s => mW mX12_world 8 Q 115 [some (.ref 66), none, some (.int x2), some (.int x3), some (.int x4), some (.int s.1), some (.int s.2)] [] M) (K := K_mo_world_115 Q x2 x3 x4 M) (fun _ h => h) (fun s o hb hk => w_b_mo_world_115_115 x2 x3 x4 s.1 s.2 M hb hk) hf hk
theorem ok_mo_world (a1 : Int32) (a2 : Int32) (M : dM) {o : (Int32 × dM)} (hf : f_mo_world a1 a2 M = some o) : mO mX12_world 8 [.ref 66, .int a1, .int a2] M (some (.int o.1)) o.2 := by
  refine y_ok (by decide +kernel) (Nat.le_of_ble_eq_true rfl) (L0 := [some (.ref 66), some (.int a1), some (.int a2), none, none, none, none]) rfl ?_
  have hk := mR_mQ (some (.int o.1)) o.2
  generalize mQ _ _ = Q at hk ⊢
  unfold f_mo_world at hf
  refine y_aload_n (i := 0) (n := 1) ⟨dX12_world_0, rfl⟩ rfl ?_
  refine y_iconst (n := 2) (v := 0) ⟨dX12_world_1, rfl⟩ ki_0 ?_
  refine y_putI (n := 5) ⟨dX12_world_2, rfl⟩ kfX12_214 l_66 (by decide +kernel) rfl ?_
  refine y_iload_n (i := 1) (n := 6) ⟨dX12_world_5, rfl⟩ rfl ?_
  refine y_iconst (n := 7) (v := 0) ⟨dX12_world_6, rfl⟩ ki_0 ?_
  refine y_sipush (n := 10) (v := 9999) ⟨dX12_world_7, rfl⟩ ks_9999 ?_
  refine c_mo_within a1 0 9999 (sI M 66 0 0) (n := 13) ⟨dX12_world_10, rfl⟩ klX12_221 rfl (by decide) (Nat.le_of_ble_eq_true rfl) rfl rfl ?_
  refine y_if_eq (t := 25) (n := 16) ⟨dX12_world_13, rfl, rfl⟩ (fun h0 => ?_) (fun h0 => ?_)
  · have hc := bI_0 h0
    replace hf := i_f hc hf
    refine y_iconst (n := 26) (v := (-1)) ⟨dX12_world_25, rfl⟩ ki_m1 ?_
    cases hf
    exact y_ireturn (n := 27) ⟨dX12_world_26, rfl⟩ rfl rfl hk
  · have hc := bI_1 h0
    replace hf := i_t hc hf
    refine y_iload_n (i := 2) (n := 17) ⟨dX12_world_16, rfl⟩ rfl ?_
    refine y_iconst (n := 18) (v := 0) ⟨dX12_world_17, rfl⟩ ki_0 ?_
    refine y_iconst (n := 19) (v := 4) ⟨dX12_world_18, rfl⟩ ki_4 ?_
    refine c_mo_within a2 0 4 (sI M 66 0 0) (n := 22) ⟨dX12_world_19, rfl⟩ klX12_221 rfl (by decide) (Nat.le_of_ble_eq_true rfl) rfl rfl ?_
    refine y_if_ne (t := 27) (n := 25) ⟨dX12_world_22, rfl, rfl⟩ (fun h0 => ?_) (fun h0 => ?_)
    · have hc := bI_1 h0
      replace hf := i_t hc hf
      refine y_aload_n (i := 0) (n := 28) ⟨dX12_world_27, rfl⟩ rfl ?_
      refine y_iload_n (i := 1) (n := 29) ⟨dX12_world_28, rfl⟩ rfl ?_
      obtain ⟨q1, hv2, hf⟩ := b_s hf
      refine c_mo_runs a1 (sI M 66 0 0) (n := 32) ⟨dX12_world_29, rfl⟩ klX12_584 hv2 (by decide) (Nat.le_of_ble_eq_true rfl) rfl rfl ?_
      refine y_iload_n (i := 2) (n := 33) ⟨dX12_world_32, rfl⟩ rfl ?_
      refine y_iconst (n := 34) (v := 3) ⟨dX12_world_33, rfl⟩ ki_3 ?_
      refine y_icmp_ne (t := 42) (n := 37) ⟨dX12_world_34, rfl, rfl⟩ (fun (hc : ¬ (a2 = 3)) => ?_) (fun (hc : a2 = 3) => ?_)
      · replace hf := i_f hc hf
        refine y_iconst (n := 43) (v := 0) ⟨dX12_world_42, rfl⟩ ki_0 ?_
        refine y_istore_n (i := 3) (n := 44) (L2 := [some (.ref 66), some (.int a1), some (.int a2), some (.int 0), none, none, none]) ⟨dX12_world_43, rfl⟩ (by decide) rfl rfl ?_
        refine y_iconst (n := 45) (v := (-1)) ⟨dX12_world_44, rfl⟩ ki_m1 ?_
        refine y_istore (i := 4) (n := 47) (L2 := [some (.ref 66), some (.int a1), some (.int a2), some (.int 0), some (.int (-1)), none, none]) ⟨dX12_world_45, rfl⟩ (by decide) rfl rfl ?_
        refine y_iconst (n := 48) (v := 0) ⟨dX12_world_47, rfl⟩ ki_0 ?_
        refine y_istore (i := 5) (n := 50) (L2 := [some (.ref 66), some (.int a1), some (.int a2), some (.int 0), some (.int (-1)), some (.int 0), none]) ⟨dX12_world_48, rfl⟩ (by decide) rfl rfl ?_
        refine y_iconst (n := 51) (v := 0) ⟨dX12_world_50, rfl⟩ ki_0 ?_
        refine y_istore (i := 6) (n := 53) (L2 := [some (.ref 66), some (.int a1), some (.int a2), some (.int 0), some (.int (-1)), some (.int 0), some (.int 0)]) ⟨dX12_world_51, rfl⟩ (by decide) rfl rfl ?_
        obtain ⟨t5, hl6, hf⟩ := b_s hf
        refine y_wk (L2 := [some (.ref 66), none, some (.int a2), some (.int 0), some (.int (-1)), some (.int 0), some (.int 0)]) ⟨Or.inr rfl, Or.inl rfl, Or.inr rfl, Or.inr rfl, Or.inr rfl, Or.inr rfl, Or.inr rfl, trivial⟩ (wl_mo_world_53 a2 0 (-1) 0 0 q1 hl6 ?_)
        show mW mX12_world 8 Q 112 [some (.ref 66), none, some (.int a2), some (.int t5.1), some (.int t5.2), some (.int 0), none] [] q1
        refine y_iconst (n := 113) (v := 0) ⟨dX12_world_112, rfl⟩ ki_0 ?_
        refine y_istore (i := 6) (n := 115) (L2 := [some (.ref 66), none, some (.int a2), some (.int t5.1), some (.int t5.2), some (.int 0), some (.int 0)]) ⟨dX12_world_113, rfl⟩ (by decide) rfl rfl ?_
        obtain ⟨t9, hl10, hf⟩ := b_s hf
        refine y_wk (L2 := [some (.ref 66), none, some (.int a2), some (.int t5.1), some (.int t5.2), some (.int 0), some (.int 0)]) ⟨Or.inr rfl, Or.inr rfl, Or.inr rfl, Or.inr rfl, Or.inr rfl, Or.inr rfl, Or.inr rfl, trivial⟩ (wl_mo_world_115 a2 t5.1 t5.2 0 0 q1 hl10 ?_)
        show mW mX12_world 8 Q 140 [some (.ref 66), none, some (.int a2), some (.int t5.1), some (.int t5.2), some (.int t9), none] [] q1
        refine y_iload_n (i := 2) (n := 141) ⟨dX12_world_140, rfl⟩ rfl ?_
        refine y_if_ne (t := 148) (n := 144) ⟨dX12_world_141, rfl, rfl⟩ (fun (hc : ¬ (a2 = 0)) => ?_) (fun (hc : a2 = 0) => ?_)
        · replace hf := i_f hc hf
          refine y_iload_n (i := 2) (n := 149) ⟨dX12_world_148, rfl⟩ rfl ?_
          refine y_iconst (n := 150) (v := 1) ⟨dX12_world_149, rfl⟩ ki_1 ?_
          refine y_icmp_ne (t := 162) (n := 153) ⟨dX12_world_150, rfl, rfl⟩ (fun (hc : ¬ (a2 = 1)) => ?_) (fun (hc : a2 = 1) => ?_)
          · replace hf := i_f hc hf
            refine y_iload_n (i := 2) (n := 163) ⟨dX12_world_162, rfl⟩ rfl ?_
            refine y_iconst (n := 164) (v := 2) ⟨dX12_world_163, rfl⟩ ki_2 ?_
            refine y_icmp_ne (t := 172) (n := 167) ⟨dX12_world_164, rfl, rfl⟩ (fun (hc : ¬ (a2 = 2)) => ?_) (fun (hc : a2 = 2) => ?_)
            · replace hf := i_f hc hf
              refine y_iload (i := 4) (n := 174) ⟨dX12_world_172, rfl⟩ rfl ?_
              cases hf
              exact y_ireturn (n := 175) ⟨dX12_world_174, rfl⟩ rfl rfl hk
            · replace hf := i_t hc hf
              refine y_iload (i := 5) (n := 169) ⟨dX12_world_167, rfl⟩ rfl ?_
              refine y_goto (t := 174) ⟨dX12_world_169, rfl, rfl⟩ ?_
              cases hf
              exact y_ireturn (n := 175) ⟨dX12_world_174, rfl⟩ rfl rfl hk
          · replace hf := i_t hc hf
            refine y_aload_n (i := 0) (n := 154) ⟨dX12_world_153, rfl⟩ rfl ?_
            refine y_getI (n := 157) ⟨dX12_world_154, rfl⟩ kfX12_568 l_66 rfl ?_
            refine y_iload_n (i := 3) (n := 158) ⟨dX12_world_157, rfl⟩ rfl ?_
            refine y_isub (n := 159) ⟨dX12_world_158, rfl⟩ ?_
            refine y_goto (t := 174) ⟨dX12_world_159, rfl, rfl⟩ ?_
            cases hf
            exact y_ireturn (n := 175) ⟨dX12_world_174, rfl⟩ rfl rfl hk
        · replace hf := i_t hc hf
          refine y_iload_n (i := 3) (n := 145) ⟨dX12_world_144, rfl⟩ rfl ?_
          refine y_goto (t := 174) ⟨dX12_world_145, rfl, rfl⟩ ?_
          cases hf
          exact y_ireturn (n := 175) ⟨dX12_world_174, rfl⟩ rfl rfl hk
      · replace hf := i_t hc hf
        refine y_aload_n (i := 0) (n := 38) ⟨dX12_world_37, rfl⟩ rfl ?_
        obtain ⟨v12, hv13, hf⟩ := b_s hf
        refine c_mo_mostFound q1 (n := 41) ⟨dX12_world_38, rfl⟩ klX12_587 hv13 (by decide) (Nat.le_of_ble_eq_true rfl) rfl rfl ?_
        cases hf
        exact y_ireturn (n := 42) ⟨dX12_world_41, rfl⟩ rfl rfl hk
    · have hc := bI_0 h0
      replace hf := i_f hc hf
      refine y_iconst (n := 26) (v := (-1)) ⟨dX12_world_25, rfl⟩ ki_m1 ?_
      cases hf
      exact y_ireturn (n := 27) ⟨dX12_world_26, rfl⟩ rfl rfl hk
theorem c_mo_world (a1 : Int32) (a2 : Int32) (M : dM) {o : (Int32 × dM)} {y : mz_M} {d : Nat} {Q : mz_P} {pc n i : Nat} {L : List (Option Value)} {st : List Value} (h : mz_d y.2.1 pc n 3 (.invokevirtual i)) (hl : mz_ml y.1.cls i yX12_world) (hf : f_mo_world a1 a2 M = some o) (hd : 8 + 1 ≤ d) (hsm : (st.map (fun v => v.category)).sum ≤ 8) (hLr : mz_rL 133 L = true) (hSr : mz_rS 133 st = true) (kk : mW y d Q n L (.int o.1 :: st) o.2) : mW y d Q pc L (.int a2 :: .int a1 :: .ref 66 :: st) M :=
  y_callV kmX12_world kvX12_world l_66 (by decide +kernel) (by decide +kernel) h hl (ok_mo_world a1 a2 M hf) (vs := [.int a1, .int a2]) rfl rfl hd hsm hLr hSr kk
noncomputable def f_mo_found (a1 : Int32) (a2 : Int32) (a3 : Int32) (M : dM) : Option (Int32 × dM) :=
  if (f_mo_within a1 0 9999) = true then
    if a2 < 0 then
      some ((-1), (sI M 66 0 0))
    else
      if (f_mo_within a3 0 5) = true then
        (f_mo_runs a1 (sI M 66 0 0)).bind fun q1 =>
        if a2 < (gI q1 66 88) then
          if a3 = 0 then
            gd (vp_in a2 1920) <|
            if (gI q1 122 a2.toNatClampNeg) = 0 then
              some (0, q1)
            else
              some (1, q1)
          else
            if a3 = 1 then
              gd (vp_in a2 1920) <|
              some ((gI q1 123 a2.toNatClampNeg), q1)
            else
              if a3 = 2 then
                gd (vp_in a2 1920) <|
                some ((gI q1 124 a2.toNatClampNeg), q1)
              else
                if a3 = 3 then
                  gd (vp_in a2 1920) <|
                  some ((gI q1 125 a2.toNatClampNeg), q1)
                else
                  if a3 = 4 then
                    gd (vp_in a2 1920) <|
                    some ((gI q1 126 a2.toNatClampNeg), q1)
                  else
                    gd (vp_in a2 1920) <|
                    some ((gI q1 128 a2.toNatClampNeg), q1)
        else
          some ((-1), q1)
      else
        some ((-1), (sI M 66 0 0))
  else
    some ((-1), (sI M 66 0 0))
theorem ok_mo_found (a1 : Int32) (a2 : Int32) (a3 : Int32) (M : dM) {o : (Int32 × dM)} (hf : f_mo_found a1 a2 a3 M = some o) : mO mX12_found 8 [.ref 66, .int a1, .int a2, .int a3] M (some (.int o.1)) o.2 := by
  refine y_ok (by decide +kernel) (Nat.le_of_ble_eq_true rfl) (L0 := [some (.ref 66), some (.int a1), some (.int a2), some (.int a3)]) rfl ?_
  have hk := mR_mQ (some (.int o.1)) o.2
  generalize mQ _ _ = Q at hk ⊢
  unfold f_mo_found at hf
  refine y_aload_n (i := 0) (n := 1) ⟨dX12_found_0, rfl⟩ rfl ?_
  refine y_iconst (n := 2) (v := 0) ⟨dX12_found_1, rfl⟩ ki_0 ?_
  refine y_putI (n := 5) ⟨dX12_found_2, rfl⟩ kfX12_214 l_66 (by decide +kernel) rfl ?_
  refine y_iload_n (i := 1) (n := 6) ⟨dX12_found_5, rfl⟩ rfl ?_
  refine y_iconst (n := 7) (v := 0) ⟨dX12_found_6, rfl⟩ ki_0 ?_
  refine y_sipush (n := 10) (v := 9999) ⟨dX12_found_7, rfl⟩ ks_9999 ?_
  refine c_mo_within a1 0 9999 (sI M 66 0 0) (n := 13) ⟨dX12_found_10, rfl⟩ klX12_221 rfl (by decide) (Nat.le_of_ble_eq_true rfl) rfl rfl ?_
  refine y_if_eq (t := 29) (n := 16) ⟨dX12_found_13, rfl, rfl⟩ (fun h0 => ?_) (fun h0 => ?_)
  · have hc := bI_0 h0
    replace hf := i_f hc hf
    refine y_iconst (n := 30) (v := (-1)) ⟨dX12_found_29, rfl⟩ ki_m1 ?_
    cases hf
    exact y_ireturn (n := 31) ⟨dX12_found_30, rfl⟩ rfl rfl hk
  · have hc := bI_1 h0
    replace hf := i_t hc hf
    refine y_iload_n (i := 2) (n := 17) ⟨dX12_found_16, rfl⟩ rfl ?_
    refine y_if_lt (t := 29) (n := 20) ⟨dX12_found_17, rfl, rfl⟩ (fun (hc : a2 < 0) => ?_) (fun (hc : ¬ (a2 < 0)) => ?_)
    · replace hf := i_t hc hf
      refine y_iconst (n := 30) (v := (-1)) ⟨dX12_found_29, rfl⟩ ki_m1 ?_
      cases hf
      exact y_ireturn (n := 31) ⟨dX12_found_30, rfl⟩ rfl rfl hk
    · replace hf := i_f hc hf
      refine y_iload_n (i := 3) (n := 21) ⟨dX12_found_20, rfl⟩ rfl ?_
      refine y_iconst (n := 22) (v := 0) ⟨dX12_found_21, rfl⟩ ki_0 ?_
      refine y_iconst (n := 23) (v := 5) ⟨dX12_found_22, rfl⟩ ki_5 ?_
      refine c_mo_within a3 0 5 (sI M 66 0 0) (n := 26) ⟨dX12_found_23, rfl⟩ klX12_221 rfl (by decide) (Nat.le_of_ble_eq_true rfl) rfl rfl ?_
      refine y_if_ne (t := 31) (n := 29) ⟨dX12_found_26, rfl, rfl⟩ (fun h0 => ?_) (fun h0 => ?_)
      · have hc := bI_1 h0
        replace hf := i_t hc hf
        refine y_aload_n (i := 0) (n := 32) ⟨dX12_found_31, rfl⟩ rfl ?_
        refine y_iload_n (i := 1) (n := 33) ⟨dX12_found_32, rfl⟩ rfl ?_
        obtain ⟨q1, hv2, hf⟩ := b_s hf
        refine c_mo_runs a1 (sI M 66 0 0) (n := 36) ⟨dX12_found_33, rfl⟩ klX12_584 hv2 (by decide) (Nat.le_of_ble_eq_true rfl) rfl rfl ?_
        refine y_iload_n (i := 2) (n := 37) ⟨dX12_found_36, rfl⟩ rfl ?_
        refine y_aload_n (i := 0) (n := 38) ⟨dX12_found_37, rfl⟩ rfl ?_
        refine y_getI (n := 41) ⟨dX12_found_38, rfl⟩ kfX12_568 l_66 rfl ?_
        refine y_icmp_lt (t := 46) (n := 44) ⟨dX12_found_41, rfl, rfl⟩ (fun (hc : a2 < (gI q1 66 88)) => ?_) (fun (hc : ¬ (a2 < (gI q1 66 88))) => ?_)
        · replace hf := i_t hc hf
          refine y_iload_n (i := 3) (n := 47) ⟨dX12_found_46, rfl⟩ rfl ?_
          refine y_if_ne (t := 65) (n := 50) ⟨dX12_found_47, rfl, rfl⟩ (fun (hc : ¬ (a3 = 0)) => ?_) (fun (hc : a3 = 0) => ?_)
          · replace hf := i_f hc hf
            refine y_iload_n (i := 3) (n := 66) ⟨dX12_found_65, rfl⟩ rfl ?_
            refine y_iconst (n := 67) (v := 1) ⟨dX12_found_66, rfl⟩ ki_1 ?_
            refine y_icmp_ne (t := 79) (n := 70) ⟨dX12_found_67, rfl, rfl⟩ (fun (hc : ¬ (a3 = 1)) => ?_) (fun (hc : a3 = 1) => ?_)
            · replace hf := i_f hc hf
              refine y_iload_n (i := 3) (n := 80) ⟨dX12_found_79, rfl⟩ rfl ?_
              refine y_iconst (n := 81) (v := 2) ⟨dX12_found_80, rfl⟩ ki_2 ?_
              refine y_icmp_ne (t := 93) (n := 84) ⟨dX12_found_81, rfl, rfl⟩ (fun (hc : ¬ (a3 = 2)) => ?_) (fun (hc : a3 = 2) => ?_)
              · replace hf := i_f hc hf
                refine y_iload_n (i := 3) (n := 94) ⟨dX12_found_93, rfl⟩ rfl ?_
                refine y_iconst (n := 95) (v := 3) ⟨dX12_found_94, rfl⟩ ki_3 ?_
                refine y_icmp_ne (t := 107) (n := 98) ⟨dX12_found_95, rfl, rfl⟩ (fun (hc : ¬ (a3 = 3)) => ?_) (fun (hc : a3 = 3) => ?_)
                · replace hf := i_f hc hf
                  refine y_iload_n (i := 3) (n := 108) ⟨dX12_found_107, rfl⟩ rfl ?_
                  refine y_iconst (n := 109) (v := 4) ⟨dX12_found_108, rfl⟩ ki_4 ?_
                  refine y_icmp_ne (t := 121) (n := 112) ⟨dX12_found_109, rfl, rfl⟩ (fun (hc : ¬ (a3 = 4)) => ?_) (fun (hc : a3 = 4) => ?_)
                  · replace hf := i_f hc hf
                    refine y_aload_n (i := 0) (n := 122) ⟨dX12_found_121, rfl⟩ rfl ?_
                    refine y_getR (n := 125) ⟨dX12_found_122, rfl⟩ kfX12_195 l_66 rfl r_66_95 ?_
                    refine y_iload_n (i := 2) (n := 126) ⟨dX12_found_125, rfl⟩ rfl ?_
                    obtain ⟨hg3, hf⟩ := g_s hf
                    refine y_iaload (n := 127) ⟨dX12_found_126, rfl⟩ l_128 hg3 ?_
                    cases hf
                    exact y_ireturn (n := 128) ⟨dX12_found_127, rfl⟩ rfl rfl hk
                  · replace hf := i_t hc hf
                    refine y_aload_n (i := 0) (n := 113) ⟨dX12_found_112, rfl⟩ rfl ?_
                    refine y_getR (n := 116) ⟨dX12_found_113, rfl⟩ kfX12_189 l_66 rfl r_66_93 ?_
                    refine y_iload_n (i := 2) (n := 117) ⟨dX12_found_116, rfl⟩ rfl ?_
                    obtain ⟨hg4, hf⟩ := g_s hf
                    refine y_iaload (n := 118) ⟨dX12_found_117, rfl⟩ l_126 hg4 ?_
                    refine y_goto (t := 127) ⟨dX12_found_118, rfl, rfl⟩ ?_
                    cases hf
                    exact y_ireturn (n := 128) ⟨dX12_found_127, rfl⟩ rfl rfl hk
                · replace hf := i_t hc hf
                  refine y_aload_n (i := 0) (n := 99) ⟨dX12_found_98, rfl⟩ rfl ?_
                  refine y_getR (n := 102) ⟨dX12_found_99, rfl⟩ kfX12_186 l_66 rfl r_66_92 ?_
                  refine y_iload_n (i := 2) (n := 103) ⟨dX12_found_102, rfl⟩ rfl ?_
                  obtain ⟨hg5, hf⟩ := g_s hf
                  refine y_iaload (n := 104) ⟨dX12_found_103, rfl⟩ l_125 hg5 ?_
                  refine y_goto (t := 127) ⟨dX12_found_104, rfl, rfl⟩ ?_
                  cases hf
                  exact y_ireturn (n := 128) ⟨dX12_found_127, rfl⟩ rfl rfl hk
              · replace hf := i_t hc hf
                refine y_aload_n (i := 0) (n := 85) ⟨dX12_found_84, rfl⟩ rfl ?_
                refine y_getR (n := 88) ⟨dX12_found_85, rfl⟩ kfX12_183 l_66 rfl r_66_91 ?_
                refine y_iload_n (i := 2) (n := 89) ⟨dX12_found_88, rfl⟩ rfl ?_
                obtain ⟨hg6, hf⟩ := g_s hf
                refine y_iaload (n := 90) ⟨dX12_found_89, rfl⟩ l_124 hg6 ?_
                refine y_goto (t := 127) ⟨dX12_found_90, rfl, rfl⟩ ?_
                cases hf
                exact y_ireturn (n := 128) ⟨dX12_found_127, rfl⟩ rfl rfl hk
            · replace hf := i_t hc hf
              refine y_aload_n (i := 0) (n := 71) ⟨dX12_found_70, rfl⟩ rfl ?_
              refine y_getR (n := 74) ⟨dX12_found_71, rfl⟩ kfX12_180 l_66 rfl r_66_90 ?_
              refine y_iload_n (i := 2) (n := 75) ⟨dX12_found_74, rfl⟩ rfl ?_
              obtain ⟨hg7, hf⟩ := g_s hf
              refine y_iaload (n := 76) ⟨dX12_found_75, rfl⟩ l_123 hg7 ?_
              refine y_goto (t := 127) ⟨dX12_found_76, rfl, rfl⟩ ?_
              cases hf
              exact y_ireturn (n := 128) ⟨dX12_found_127, rfl⟩ rfl rfl hk
          · replace hf := i_t hc hf
            refine y_aload_n (i := 0) (n := 51) ⟨dX12_found_50, rfl⟩ rfl ?_
            refine y_getR (n := 54) ⟨dX12_found_51, rfl⟩ kfX12_177 l_66 rfl r_66_89 ?_
            refine y_iload_n (i := 2) (n := 55) ⟨dX12_found_54, rfl⟩ rfl ?_
            obtain ⟨hg8, hf⟩ := g_s hf
            refine y_baload (n := 56) ⟨dX12_found_55, rfl⟩ l_122 hg8 ?_
            refine y_if_eq (t := 63) (n := 59) ⟨dX12_found_56, rfl, rfl⟩ (fun (hc : (gI q1 122 a2.toNatClampNeg) = 0) => ?_) (fun (hc : ¬ ((gI q1 122 a2.toNatClampNeg) = 0)) => ?_)
            · replace hf := i_t hc hf
              refine y_iconst (n := 64) (v := 0) ⟨dX12_found_63, rfl⟩ ki_0 ?_
              cases hf
              exact y_ireturn (n := 65) ⟨dX12_found_64, rfl⟩ rfl rfl hk
            · replace hf := i_f hc hf
              refine y_iconst (n := 60) (v := 1) ⟨dX12_found_59, rfl⟩ ki_1 ?_
              refine y_goto (t := 64) ⟨dX12_found_60, rfl, rfl⟩ ?_
              cases hf
              exact y_ireturn (n := 65) ⟨dX12_found_64, rfl⟩ rfl rfl hk
        · replace hf := i_f hc hf
          refine y_iconst (n := 45) (v := (-1)) ⟨dX12_found_44, rfl⟩ ki_m1 ?_
          cases hf
          exact y_ireturn (n := 46) ⟨dX12_found_45, rfl⟩ rfl rfl hk
      · have hc := bI_0 h0
        replace hf := i_f hc hf
        refine y_iconst (n := 30) (v := (-1)) ⟨dX12_found_29, rfl⟩ ki_m1 ?_
        cases hf
        exact y_ireturn (n := 31) ⟨dX12_found_30, rfl⟩ rfl rfl hk
theorem c_mo_found (a1 : Int32) (a2 : Int32) (a3 : Int32) (M : dM) {o : (Int32 × dM)} {y : mz_M} {d : Nat} {Q : mz_P} {pc n i : Nat} {L : List (Option Value)} {st : List Value} (h : mz_d y.2.1 pc n 3 (.invokevirtual i)) (hl : mz_ml y.1.cls i yX12_found) (hf : f_mo_found a1 a2 a3 M = some o) (hd : 8 + 1 ≤ d) (hsm : (st.map (fun v => v.category)).sum ≤ 8) (hLr : mz_rL 133 L = true) (hSr : mz_rS 133 st = true) (kk : mW y d Q n L (.int o.1 :: st) o.2) : mW y d Q pc L (.int a3 :: .int a2 :: .int a1 :: .ref 66 :: st) M :=
  y_callV kmX12_found kvX12_found l_66 (by decide +kernel) (by decide +kernel) h hl (ok_mo_found a1 a2 a3 M hf) (vs := [.int a1, .int a2, .int a3]) rfl rfl hd hsm hLr hSr kk
def K_mo_rates_31 (Q : mz_P) (x1 : Int32) (x2 : Int32) : ((Int32 × Int32 × dM) ⊕ (Int32 × dM)) → Prop
  | .inl s => mW mX12_rates 8 Q 31 [some (.ref 66), some (.int x1), some (.int x2), some (.int s.1), some (.int s.2.1), none, none] [] s.2.2
  | .inr r => mR Q (some (.int r.1)) r.2
def K_mo_rates_46 (Q : mz_P) (x1 : Int32) (x2 : Int32) (x4 : Int32) (M : dM) : ((Int32 × Int32) ⊕ Int32) → Prop
  | .inl s => mW mX12_rates 8 Q 46 [some (.ref 66), some (.int x1), some (.int x2), some (.int s.1), some (.int x4), some (.int s.2), none] [] M
  | .inr t => mW mX12_rates 8 Q 129 [some (.ref 66), some (.int x1), some (.int x2), some (.int t), some (.int x4), none, none] [] M
noncomputable def b_mo_rates_46_120 (x1 : Int32) (x2 : Int32) (x4 : Int32) (x5 : Int32) (y0 : Int32) (M : dM) : Option ((Int32 × Int32) ⊕ Int32) :=
  some (.inl ((y0 + 0), (x5 + 1)))
noncomputable def b_mo_rates_46_113 (x1 : Int32) (x2 : Int32) (x4 : Int32) (x5 : Int32) (y0 : Int32) (y1 : Int32) (y2 : Int32) (M : dM) : Option ((Int32 × Int32) ⊕ Int32) :=
  if y1 = y2 then
    some (.inl ((y0 + 1), (x5 + 1)))
  else
    b_mo_rates_46_120 x1 x2 x4 x5 y0 M
noncomputable def b_mo_rates_46_88 (x1 : Int32) (x2 : Int32) (x3 : Int32) (x4 : Int32) (x5 : Int32) (y0 : Int32) (M : dM) : Option ((Int32 × Int32) ⊕ Int32) :=
  if y0 = 0 then
    b_mo_rates_46_120 x1 x2 x4 x5 x3 M
  else
    gd (vp_in x5 1920) <|
    if x2 ≤ 2 then
      b_mo_rates_46_113 x1 x2 x4 x5 x3 (gI M 122 x5.toNatClampNeg) 0 M
    else
      b_mo_rates_46_113 x1 x2 x4 x5 x3 (gI M 122 x5.toNatClampNeg) 1 M
noncomputable def b_mo_rates_46_83 (x1 : Int32) (x2 : Int32) (x3 : Int32) (x4 : Int32) (x5 : Int32) (M : dM) : Option ((Int32 × Int32) ⊕ Int32) :=
  b_mo_rates_46_88 x1 x2 x3 x4 x5 1 M
noncomputable def b_mo_rates_46_80 (x1 : Int32) (x2 : Int32) (x3 : Int32) (x4 : Int32) (x5 : Int32) (y0 : Int32) (y1 : Int32) (M : dM) : Option ((Int32 × Int32) ⊕ Int32) :=
  if y0 = y1 then
    b_mo_rates_46_83 x1 x2 x3 x4 x5 M
  else
    b_mo_rates_46_88 x1 x2 x3 x4 x5 0 M
noncomputable def b_mo_rates_46_46 (x1 : Int32) (x2 : Int32) (x3 : Int32) (x4 : Int32) (x5 : Int32) (M : dM) : Option ((Int32 × Int32) ⊕ Int32) :=
  if (gI M 66 88) ≤ x5 then
    some (.inr x3)
  else
    if (x2 - x2 / 3 * 3) = 0 then
      b_mo_rates_46_83 x1 x2 x3 x4 x5 M
    else
      gd (vp_in x5 1920) <|
      if (x2 - x2 / 3 * 3) = 1 then
        b_mo_rates_46_80 x1 x2 x3 x4 x5 (gI M 128 x5.toNatClampNeg) 2 M
      else
        b_mo_rates_46_80 x1 x2 x3 x4 x5 (gI M 128 x5.toNatClampNeg) 1 M
noncomputable def l_mo_rates_46 (x1 : Int32) (x2 : Int32) (x3 : Int32) (x4 : Int32) (x5 : Int32) (M : dM) : Option Int32 := lpc (fun s => b_mo_rates_46_46 x1 x2 s.1 x4 s.2 M) (x3, x5)
noncomputable def b_mo_rates_31_31 (x1 : Int32) (x2 : Int32) (x3 : Int32) (x4 : Int32) (M : dM) : Option ((Int32 × Int32 × dM) ⊕ (Int32 × dM)) :=
  if x1 ≤ x4 then
    some (.inr (x3, M))
  else
    (f_mo_runs x4 M).bind fun q1 =>
    (l_mo_rates_46 x1 x2 x3 x4 0 q1).bind fun t5 =>
      some (.inl (t5, (x4 + 1), q1))
noncomputable def l_mo_rates_31 (x1 : Int32) (x2 : Int32) (x3 : Int32) (x4 : Int32) (M : dM) : Option (Int32 × dM) := lpc (fun s => b_mo_rates_31_31 x1 x2 s.1 s.2.1 s.2.2) (x3, x4, M)
noncomputable def f_mo_rates (a1 : Int32) (a2 : Int32) (M : dM) : Option (Int32 × dM) :=
  if (f_mo_within a1 1 20) = true then
    if (f_mo_within a2 0 5) = true then
      (l_mo_rates_31 a1 a2 0 0 (sI M 66 0 0)).bind fun r10 => some r10
    else
      some ((-1), (sI M 66 0 0))
  else
    some ((-1), (sI M 66 0 0))
theorem w_b_mo_rates_46_120 (x1 : Int32) (x2 : Int32) (x4 : Int32) (x5 : Int32) (y0 : Int32)  (M : dM) {Q : mz_P} {o : ((Int32 × Int32) ⊕ Int32)} (hf : b_mo_rates_46_120 x1 x2 x4 x5 y0 M = some o) (hk : K_mo_rates_46 Q x1 x2 x4 M o) : mW mX12_rates 8 Q 120 [some (.ref 66), some (.int x1), some (.int x2), none, some (.int x4), some (.int x5), none] [.int y0] M := by
  unfold b_mo_rates_46_120 at hf
  refine y_iconst (n := 121) (v := 0) ⟨dX12_rates_120, rfl⟩ ki_0 ?_
  refine y_iadd (n := 122) ⟨dX12_rates_121, rfl⟩ ?_
  refine y_istore_n (i := 3) (n := 123) (L2 := [some (.ref 66), some (.int x1), some (.int x2), some (.int (y0 + 0)), some (.int x4), some (.int x5), none]) ⟨dX12_rates_122, rfl⟩ (by decide) rfl rfl ?_
  refine y_iinc (i := 5) (n := 126) (b := (x5 + 1)) (L2 := [some (.ref 66), some (.int x1), some (.int x2), some (.int (y0 + 0)), some (.int x4), some (.int (x5 + 1)), none]) ⟨dX12_rates_123, rfl⟩ rfl (by rw [ki_1]) (by decide) rfl rfl ?_
  refine y_goto (t := 46) ⟨dX12_rates_126, rfl, rfl⟩ ?_
  cases hf
  exact y_wk (L2 := [some (.ref 66), some (.int x1), some (.int x2), some (.int (y0 + 0)), some (.int x4), some (.int (x5 + 1)), none]) ⟨Or.inr rfl, Or.inr rfl, Or.inr rfl, Or.inr rfl, Or.inr rfl, Or.inr rfl, Or.inr rfl, trivial⟩ hk
theorem w_b_mo_rates_46_113 (x1 : Int32) (x2 : Int32) (x4 : Int32) (x5 : Int32) (y0 : Int32) (y1 : Int32) (y2 : Int32)  (M : dM) {Q : mz_P} {o : ((Int32 × Int32) ⊕ Int32)} (hf : b_mo_rates_46_113 x1 x2 x4 x5 y0 y1 y2 M = some o) (hk : K_mo_rates_46 Q x1 x2 x4 M o) : mW mX12_rates 8 Q 113 [some (.ref 66), some (.int x1), some (.int x2), none, some (.int x4), some (.int x5), none] [.int y2, .int y1, .int y0] M := by
  unfold b_mo_rates_46_113 at hf
  refine y_icmp_ne (t := 120) (n := 116) ⟨dX12_rates_113, rfl, rfl⟩ (fun (hc : ¬ (y1 = y2)) => ?_) (fun (hc : y1 = y2) => ?_)
  · replace hf := i_f hc hf
    exact y_wk (L2 := [some (.ref 66), some (.int x1), some (.int x2), none, some (.int x4), some (.int x5), none]) ⟨Or.inr rfl, Or.inr rfl, Or.inr rfl, Or.inr rfl, Or.inr rfl, Or.inr rfl, Or.inr rfl, trivial⟩ (w_b_mo_rates_46_120 x1 x2 x4 x5 y0 M hf hk)
  · replace hf := i_t hc hf
    refine y_iconst (n := 117) (v := 1) ⟨dX12_rates_116, rfl⟩ ki_1 ?_
    refine y_goto (t := 121) ⟨dX12_rates_117, rfl, rfl⟩ ?_
    refine y_iadd (n := 122) ⟨dX12_rates_121, rfl⟩ ?_
    refine y_istore_n (i := 3) (n := 123) (L2 := [some (.ref 66), some (.int x1), some (.int x2), some (.int (y0 + 1)), some (.int x4), some (.int x5), none]) ⟨dX12_rates_122, rfl⟩ (by decide) rfl rfl ?_
    refine y_iinc (i := 5) (n := 126) (b := (x5 + 1)) (L2 := [some (.ref 66), some (.int x1), some (.int x2), some (.int (y0 + 1)), some (.int x4), some (.int (x5 + 1)), none]) ⟨dX12_rates_123, rfl⟩ rfl (by rw [ki_1]) (by decide) rfl rfl ?_
    refine y_goto (t := 46) ⟨dX12_rates_126, rfl, rfl⟩ ?_
    cases hf
    exact y_wk (L2 := [some (.ref 66), some (.int x1), some (.int x2), some (.int (y0 + 1)), some (.int x4), some (.int (x5 + 1)), none]) ⟨Or.inr rfl, Or.inr rfl, Or.inr rfl, Or.inr rfl, Or.inr rfl, Or.inr rfl, Or.inr rfl, trivial⟩ hk
theorem w_b_mo_rates_46_88 (x1 : Int32) (x2 : Int32) (x3 : Int32) (x4 : Int32) (x5 : Int32) (y0 : Int32)  (M : dM) {Q : mz_P} {o : ((Int32 × Int32) ⊕ Int32)} (hf : b_mo_rates_46_88 x1 x2 x3 x4 x5 y0 M = some o) (hk : K_mo_rates_46 Q x1 x2 x4 M o) : mW mX12_rates 8 Q 88 [some (.ref 66), some (.int x1), some (.int x2), some (.int x3), some (.int x4), some (.int x5), none] [.int y0] M := by
  unfold b_mo_rates_46_88 at hf
  refine y_istore (i := 6) (n := 90) (L2 := [some (.ref 66), some (.int x1), some (.int x2), some (.int x3), some (.int x4), some (.int x5), some (.int y0)]) ⟨dX12_rates_88, rfl⟩ (by decide) rfl rfl ?_
  refine y_iload_n (i := 3) (n := 91) ⟨dX12_rates_90, rfl⟩ rfl ?_
  refine y_iload (i := 6) (n := 93) ⟨dX12_rates_91, rfl⟩ rfl ?_
  refine y_if_eq (t := 120) (n := 96) ⟨dX12_rates_93, rfl, rfl⟩ (fun (hc : y0 = 0) => ?_) (fun (hc : ¬ (y0 = 0)) => ?_)
  · replace hf := i_t hc hf
    exact y_wk (L2 := [some (.ref 66), some (.int x1), some (.int x2), none, some (.int x4), some (.int x5), none]) ⟨Or.inr rfl, Or.inr rfl, Or.inr rfl, Or.inl rfl, Or.inr rfl, Or.inr rfl, Or.inl rfl, trivial⟩ (w_b_mo_rates_46_120 x1 x2 x4 x5 x3 M hf hk)
  · replace hf := i_f hc hf
    refine y_aload_n (i := 0) (n := 97) ⟨dX12_rates_96, rfl⟩ rfl ?_
    refine y_getR (n := 100) ⟨dX12_rates_97, rfl⟩ kfX12_177 l_66 rfl r_66_89 ?_
    refine y_iload (i := 5) (n := 102) ⟨dX12_rates_100, rfl⟩ rfl ?_
    obtain ⟨hg3, hf⟩ := g_s hf
    refine y_baload (n := 103) ⟨dX12_rates_102, rfl⟩ l_122 hg3 ?_
    refine y_iload_n (i := 2) (n := 104) ⟨dX12_rates_103, rfl⟩ rfl ?_
    refine y_iconst (n := 105) (v := 2) ⟨dX12_rates_104, rfl⟩ ki_2 ?_
    refine y_icmp_le (t := 112) (n := 108) ⟨dX12_rates_105, rfl, rfl⟩ (fun (hc : x2 ≤ 2) => ?_) (fun (hc : ¬ (x2 ≤ 2)) => ?_)
    · replace hf := i_t hc hf
      refine y_iconst (n := 113) (v := 0) ⟨dX12_rates_112, rfl⟩ ki_0 ?_
      exact y_wk (L2 := [some (.ref 66), some (.int x1), some (.int x2), none, some (.int x4), some (.int x5), none]) ⟨Or.inr rfl, Or.inr rfl, Or.inr rfl, Or.inl rfl, Or.inr rfl, Or.inr rfl, Or.inl rfl, trivial⟩ (w_b_mo_rates_46_113 x1 x2 x4 x5 x3 (gI M 122 x5.toNatClampNeg) 0 M hf hk)
    · replace hf := i_f hc hf
      refine y_iconst (n := 109) (v := 1) ⟨dX12_rates_108, rfl⟩ ki_1 ?_
      refine y_goto (t := 113) ⟨dX12_rates_109, rfl, rfl⟩ ?_
      exact y_wk (L2 := [some (.ref 66), some (.int x1), some (.int x2), none, some (.int x4), some (.int x5), none]) ⟨Or.inr rfl, Or.inr rfl, Or.inr rfl, Or.inl rfl, Or.inr rfl, Or.inr rfl, Or.inl rfl, trivial⟩ (w_b_mo_rates_46_113 x1 x2 x4 x5 x3 (gI M 122 x5.toNatClampNeg) 1 M hf hk)
theorem w_b_mo_rates_46_83 (x1 : Int32) (x2 : Int32) (x3 : Int32) (x4 : Int32) (x5 : Int32)  (M : dM) {Q : mz_P} {o : ((Int32 × Int32) ⊕ Int32)} (hf : b_mo_rates_46_83 x1 x2 x3 x4 x5 M = some o) (hk : K_mo_rates_46 Q x1 x2 x4 M o) : mW mX12_rates 8 Q 83 [some (.ref 66), some (.int x1), some (.int x2), some (.int x3), some (.int x4), some (.int x5), none] [] M := by
  unfold b_mo_rates_46_83 at hf
  refine y_iconst (n := 84) (v := 1) ⟨dX12_rates_83, rfl⟩ ki_1 ?_
  refine y_goto (t := 88) ⟨dX12_rates_84, rfl, rfl⟩ ?_
  exact y_wk (L2 := [some (.ref 66), some (.int x1), some (.int x2), some (.int x3), some (.int x4), some (.int x5), none]) ⟨Or.inr rfl, Or.inr rfl, Or.inr rfl, Or.inr rfl, Or.inr rfl, Or.inr rfl, Or.inr rfl, trivial⟩ (w_b_mo_rates_46_88 x1 x2 x3 x4 x5 1 M hf hk)
theorem w_b_mo_rates_46_80 (x1 : Int32) (x2 : Int32) (x3 : Int32) (x4 : Int32) (x5 : Int32) (y0 : Int32) (y1 : Int32)  (M : dM) {Q : mz_P} {o : ((Int32 × Int32) ⊕ Int32)} (hf : b_mo_rates_46_80 x1 x2 x3 x4 x5 y0 y1 M = some o) (hk : K_mo_rates_46 Q x1 x2 x4 M o) : mW mX12_rates 8 Q 80 [some (.ref 66), some (.int x1), some (.int x2), some (.int x3), some (.int x4), some (.int x5), none] [.int y1, .int y0] M := by
  unfold b_mo_rates_46_80 at hf
  refine y_icmp_ne (t := 87) (n := 83) ⟨dX12_rates_80, rfl, rfl⟩ (fun (hc : ¬ (y0 = y1)) => ?_) (fun (hc : y0 = y1) => ?_)
  · replace hf := i_f hc hf
    refine y_iconst (n := 88) (v := 0) ⟨dX12_rates_87, rfl⟩ ki_0 ?_
    exact y_wk (L2 := [some (.ref 66), some (.int x1), some (.int x2), some (.int x3), some (.int x4), some (.int x5), none]) ⟨Or.inr rfl, Or.inr rfl, Or.inr rfl, Or.inr rfl, Or.inr rfl, Or.inr rfl, Or.inr rfl, trivial⟩ (w_b_mo_rates_46_88 x1 x2 x3 x4 x5 0 M hf hk)
  · replace hf := i_t hc hf
    exact y_wk (L2 := [some (.ref 66), some (.int x1), some (.int x2), some (.int x3), some (.int x4), some (.int x5), none]) ⟨Or.inr rfl, Or.inr rfl, Or.inr rfl, Or.inr rfl, Or.inr rfl, Or.inr rfl, Or.inr rfl, trivial⟩ (w_b_mo_rates_46_83 x1 x2 x3 x4 x5 M hf hk)
theorem w_b_mo_rates_46_46 (x1 : Int32) (x2 : Int32) (x3 : Int32) (x4 : Int32) (x5 : Int32)  (M : dM) {Q : mz_P} {o : ((Int32 × Int32) ⊕ Int32)} (hf : b_mo_rates_46_46 x1 x2 x3 x4 x5 M = some o) (hk : K_mo_rates_46 Q x1 x2 x4 M o) : mW mX12_rates 8 Q 46 [some (.ref 66), some (.int x1), some (.int x2), some (.int x3), some (.int x4), some (.int x5), none] [] M := by
  unfold b_mo_rates_46_46 at hf
  refine y_iload (i := 5) (n := 48) ⟨dX12_rates_46, rfl⟩ rfl ?_
  refine y_aload_n (i := 0) (n := 49) ⟨dX12_rates_48, rfl⟩ rfl ?_
  refine y_getI (n := 52) ⟨dX12_rates_49, rfl⟩ kfX12_568 l_66 rfl ?_
  refine y_icmp_ge (t := 129) (n := 55) ⟨dX12_rates_52, rfl, rfl⟩ (fun (hc : (gI M 66 88) ≤ x5) => ?_) (fun (hc : ¬ ((gI M 66 88) ≤ x5)) => ?_)
  · replace hf := i_t hc hf
    cases hf
    exact y_wk (L2 := [some (.ref 66), some (.int x1), some (.int x2), some (.int x3), some (.int x4), none, none]) ⟨Or.inr rfl, Or.inr rfl, Or.inr rfl, Or.inr rfl, Or.inr rfl, Or.inl rfl, Or.inr rfl, trivial⟩ hk
  · replace hf := i_f hc hf
    refine y_iload_n (i := 2) (n := 56) ⟨dX12_rates_55, rfl⟩ rfl ?_
    refine y_iconst (n := 57) (v := 3) ⟨dX12_rates_56, rfl⟩ ki_3 ?_
    refine y_irem (n := 58) ⟨dX12_rates_57, rfl⟩ (by decide) ?_
    refine y_if_eq (t := 83) (n := 61) ⟨dX12_rates_58, rfl, rfl⟩ (fun (hc : (x2 - x2 / 3 * 3) = 0) => ?_) (fun (hc : ¬ ((x2 - x2 / 3 * 3) = 0)) => ?_)
    · replace hf := i_t hc hf
      exact y_wk (L2 := [some (.ref 66), some (.int x1), some (.int x2), some (.int x3), some (.int x4), some (.int x5), none]) ⟨Or.inr rfl, Or.inr rfl, Or.inr rfl, Or.inr rfl, Or.inr rfl, Or.inr rfl, Or.inr rfl, trivial⟩ (w_b_mo_rates_46_83 x1 x2 x3 x4 x5 M hf hk)
    · replace hf := i_f hc hf
      refine y_aload_n (i := 0) (n := 62) ⟨dX12_rates_61, rfl⟩ rfl ?_
      refine y_getR (n := 65) ⟨dX12_rates_62, rfl⟩ kfX12_195 l_66 rfl r_66_95 ?_
      refine y_iload (i := 5) (n := 67) ⟨dX12_rates_65, rfl⟩ rfl ?_
      obtain ⟨hg4, hf⟩ := g_s hf
      refine y_iaload (n := 68) ⟨dX12_rates_67, rfl⟩ l_128 hg4 ?_
      refine y_iload_n (i := 2) (n := 69) ⟨dX12_rates_68, rfl⟩ rfl ?_
      refine y_iconst (n := 70) (v := 3) ⟨dX12_rates_69, rfl⟩ ki_3 ?_
      refine y_irem (n := 71) ⟨dX12_rates_70, rfl⟩ (by decide) ?_
      refine y_iconst (n := 72) (v := 1) ⟨dX12_rates_71, rfl⟩ ki_1 ?_
      refine y_icmp_ne (t := 79) (n := 75) ⟨dX12_rates_72, rfl, rfl⟩ (fun (hc : ¬ ((x2 - x2 / 3 * 3) = 1)) => ?_) (fun (hc : (x2 - x2 / 3 * 3) = 1) => ?_)
      · replace hf := i_f hc hf
        refine y_iconst (n := 80) (v := 1) ⟨dX12_rates_79, rfl⟩ ki_1 ?_
        exact y_wk (L2 := [some (.ref 66), some (.int x1), some (.int x2), some (.int x3), some (.int x4), some (.int x5), none]) ⟨Or.inr rfl, Or.inr rfl, Or.inr rfl, Or.inr rfl, Or.inr rfl, Or.inr rfl, Or.inr rfl, trivial⟩ (w_b_mo_rates_46_80 x1 x2 x3 x4 x5 (gI M 128 x5.toNatClampNeg) 1 M hf hk)
      · replace hf := i_t hc hf
        refine y_iconst (n := 76) (v := 2) ⟨dX12_rates_75, rfl⟩ ki_2 ?_
        refine y_goto (t := 80) ⟨dX12_rates_76, rfl, rfl⟩ ?_
        exact y_wk (L2 := [some (.ref 66), some (.int x1), some (.int x2), some (.int x3), some (.int x4), some (.int x5), none]) ⟨Or.inr rfl, Or.inr rfl, Or.inr rfl, Or.inr rfl, Or.inr rfl, Or.inr rfl, Or.inr rfl, trivial⟩ (w_b_mo_rates_46_80 x1 x2 x3 x4 x5 (gI M 128 x5.toNatClampNeg) 2 M hf hk)
theorem wl_mo_rates_46 (x1 : Int32) (x2 : Int32) (x3 : Int32) (x4 : Int32) (x5 : Int32) (M : dM) {Q : mz_P} {x : Int32} (hf : l_mo_rates_46 x1 x2 x3 x4 x5 M = some x) (hk : K_mo_rates_46 Q x1 x2 x4 M (.inr x)) : mW mX12_rates 8 Q 46 [some (.ref 66), some (.int x1), some (.int x2), some (.int x3), some (.int x4), some (.int x5), none] [] M :=
  lpc_wp (σ := (Int32 × Int32)) (ξ := Int32) (s := (x3, x5)) (Wh := fun s => mW mX12_rates 8 Q 46 [some (.ref 66), some (.int x1), some (.int x2), some (.int s.1), some (.int x4), some (.int s.2), none] [] M) (K := K_mo_rates_46 Q x1 x2 x4 M) (fun _ h => h) (fun s o hb hk => w_b_mo_rates_46_46 x1 x2 s.1 x4 s.2 M hb hk) hf hk
theorem w_b_mo_rates_31_31 (x1 : Int32) (x2 : Int32) (x3 : Int32) (x4 : Int32)  (M : dM) {Q : mz_P} {o : ((Int32 × Int32 × dM) ⊕ (Int32 × dM))} (hf : b_mo_rates_31_31 x1 x2 x3 x4 M = some o) (hk : K_mo_rates_31 Q x1 x2 o) : mW mX12_rates 8 Q 31 [some (.ref 66), some (.int x1), some (.int x2), some (.int x3), some (.int x4), none, none] [] M := by
  unfold b_mo_rates_31_31 at hf
  refine y_iload (i := 4) (n := 33) ⟨dX12_rates_31, rfl⟩ rfl ?_
  refine y_iload_n (i := 1) (n := 34) ⟨dX12_rates_33, rfl⟩ rfl ?_
  refine y_icmp_ge (t := 135) (n := 37) ⟨dX12_rates_34, rfl, rfl⟩ (fun (hc : x1 ≤ x4) => ?_) (fun (hc : ¬ (x1 ≤ x4)) => ?_)
  · replace hf := i_t hc hf
    refine y_iload_n (i := 3) (n := 136) ⟨dX12_rates_135, rfl⟩ rfl ?_
    cases hf
    exact y_ireturn (n := 137) ⟨dX12_rates_136, rfl⟩ rfl rfl hk
  · replace hf := i_f hc hf
    refine y_aload_n (i := 0) (n := 38) ⟨dX12_rates_37, rfl⟩ rfl ?_
    refine y_iload (i := 4) (n := 40) ⟨dX12_rates_38, rfl⟩ rfl ?_
    obtain ⟨q1, hv2, hf⟩ := b_s hf
    refine c_mo_runs x4 M (n := 43) ⟨dX12_rates_40, rfl⟩ klX12_584 hv2 (by decide) (Nat.le_of_ble_eq_true rfl) rfl rfl ?_
    refine y_iconst (n := 44) (v := 0) ⟨dX12_rates_43, rfl⟩ ki_0 ?_
    refine y_istore (i := 5) (n := 46) (L2 := [some (.ref 66), some (.int x1), some (.int x2), some (.int x3), some (.int x4), some (.int 0), none]) ⟨dX12_rates_44, rfl⟩ (by decide) rfl rfl ?_
    obtain ⟨t5, hl6, hf⟩ := b_s hf
    refine y_wk (L2 := [some (.ref 66), some (.int x1), some (.int x2), some (.int x3), some (.int x4), some (.int 0), none]) ⟨Or.inr rfl, Or.inr rfl, Or.inr rfl, Or.inr rfl, Or.inr rfl, Or.inr rfl, Or.inr rfl, trivial⟩ (wl_mo_rates_46 x1 x2 x3 x4 0 q1 hl6 ?_)
    show mW mX12_rates 8 Q 129 [some (.ref 66), some (.int x1), some (.int x2), some (.int t5), some (.int x4), none, none] [] q1
    refine y_iinc (i := 4) (n := 132) (b := (x4 + 1)) (L2 := [some (.ref 66), some (.int x1), some (.int x2), some (.int t5), some (.int (x4 + 1)), none, none]) ⟨dX12_rates_129, rfl⟩ rfl (by rw [ki_1]) (by decide) rfl rfl ?_
    refine y_goto (t := 31) ⟨dX12_rates_132, rfl, rfl⟩ ?_
    cases hf
    exact y_wk (L2 := [some (.ref 66), some (.int x1), some (.int x2), some (.int t5), some (.int (x4 + 1)), none, none]) ⟨Or.inr rfl, Or.inr rfl, Or.inr rfl, Or.inr rfl, Or.inr rfl, Or.inr rfl, Or.inr rfl, trivial⟩ hk
theorem wl_mo_rates_31 (x1 : Int32) (x2 : Int32) (x3 : Int32) (x4 : Int32) (M : dM) {Q : mz_P} {x : (Int32 × dM)} (hf : l_mo_rates_31 x1 x2 x3 x4 M = some x) (hk : K_mo_rates_31 Q x1 x2 (.inr x)) : mW mX12_rates 8 Q 31 [some (.ref 66), some (.int x1), some (.int x2), some (.int x3), some (.int x4), none, none] [] M :=
  lpc_wp (σ := (Int32 × Int32 × dM)) (ξ := (Int32 × dM)) (s := (x3, x4, M)) (Wh := fun s => mW mX12_rates 8 Q 31 [some (.ref 66), some (.int x1), some (.int x2), some (.int s.1), some (.int s.2.1), none, none] [] s.2.2) (K := K_mo_rates_31 Q x1 x2) (fun _ h => h) (fun s o hb hk => w_b_mo_rates_31_31 x1 x2 s.1 s.2.1 s.2.2 hb hk) hf hk
theorem ok_mo_rates (a1 : Int32) (a2 : Int32) (M : dM) {o : (Int32 × dM)} (hf : f_mo_rates a1 a2 M = some o) : mO mX12_rates 8 [.ref 66, .int a1, .int a2] M (some (.int o.1)) o.2 := by
  refine y_ok (by decide +kernel) (Nat.le_of_ble_eq_true rfl) (L0 := [some (.ref 66), some (.int a1), some (.int a2), none, none, none, none]) rfl ?_
  have hk := mR_mQ (some (.int o.1)) o.2
  generalize mQ _ _ = Q at hk ⊢
  unfold f_mo_rates at hf
  refine y_aload_n (i := 0) (n := 1) ⟨dX12_rates_0, rfl⟩ rfl ?_
  refine y_iconst (n := 2) (v := 0) ⟨dX12_rates_1, rfl⟩ ki_0 ?_
  refine y_putI (n := 5) ⟨dX12_rates_2, rfl⟩ kfX12_214 l_66 (by decide +kernel) rfl ?_
  refine y_iload_n (i := 1) (n := 6) ⟨dX12_rates_5, rfl⟩ rfl ?_
  refine y_iconst (n := 7) (v := 1) ⟨dX12_rates_6, rfl⟩ ki_1 ?_
  refine y_bipush (n := 9) (v := 20) ⟨dX12_rates_7, rfl⟩ kb_20 ?_
  refine c_mo_within a1 1 20 (sI M 66 0 0) (n := 12) ⟨dX12_rates_9, rfl⟩ klX12_221 rfl (by decide) (Nat.le_of_ble_eq_true rfl) rfl rfl ?_
  refine y_if_eq (t := 24) (n := 15) ⟨dX12_rates_12, rfl, rfl⟩ (fun h0 => ?_) (fun h0 => ?_)
  · have hc := bI_0 h0
    replace hf := i_f hc hf
    refine y_iconst (n := 25) (v := (-1)) ⟨dX12_rates_24, rfl⟩ ki_m1 ?_
    cases hf
    exact y_ireturn (n := 26) ⟨dX12_rates_25, rfl⟩ rfl rfl hk
  · have hc := bI_1 h0
    replace hf := i_t hc hf
    refine y_iload_n (i := 2) (n := 16) ⟨dX12_rates_15, rfl⟩ rfl ?_
    refine y_iconst (n := 17) (v := 0) ⟨dX12_rates_16, rfl⟩ ki_0 ?_
    refine y_iconst (n := 18) (v := 5) ⟨dX12_rates_17, rfl⟩ ki_5 ?_
    refine c_mo_within a2 0 5 (sI M 66 0 0) (n := 21) ⟨dX12_rates_18, rfl⟩ klX12_221 rfl (by decide) (Nat.le_of_ble_eq_true rfl) rfl rfl ?_
    refine y_if_ne (t := 26) (n := 24) ⟨dX12_rates_21, rfl, rfl⟩ (fun h0 => ?_) (fun h0 => ?_)
    · have hc := bI_1 h0
      replace hf := i_t hc hf
      refine y_iconst (n := 27) (v := 0) ⟨dX12_rates_26, rfl⟩ ki_0 ?_
      refine y_istore_n (i := 3) (n := 28) (L2 := [some (.ref 66), some (.int a1), some (.int a2), some (.int 0), none, none, none]) ⟨dX12_rates_27, rfl⟩ (by decide) rfl rfl ?_
      refine y_iconst (n := 29) (v := 0) ⟨dX12_rates_28, rfl⟩ ki_0 ?_
      refine y_istore (i := 4) (n := 31) (L2 := [some (.ref 66), some (.int a1), some (.int a2), some (.int 0), some (.int 0), none, none]) ⟨dX12_rates_29, rfl⟩ (by decide) rfl rfl ?_
      obtain ⟨r10, hl9, hf⟩ := b_s hf
      cases hf
      exact y_wk (L2 := [some (.ref 66), some (.int a1), some (.int a2), some (.int 0), some (.int 0), none, none]) ⟨Or.inr rfl, Or.inr rfl, Or.inr rfl, Or.inr rfl, Or.inr rfl, Or.inr rfl, Or.inr rfl, trivial⟩ (wl_mo_rates_31 a1 a2 0 0 (sI M 66 0 0) hl9 hk)
    · have hc := bI_0 h0
      replace hf := i_f hc hf
      refine y_iconst (n := 25) (v := (-1)) ⟨dX12_rates_24, rfl⟩ ki_m1 ?_
      cases hf
      exact y_ireturn (n := 26) ⟨dX12_rates_25, rfl⟩ rfl rfl hk
theorem c_mo_rates (a1 : Int32) (a2 : Int32) (M : dM) {o : (Int32 × dM)} {y : mz_M} {d : Nat} {Q : mz_P} {pc n i : Nat} {L : List (Option Value)} {st : List Value} (h : mz_d y.2.1 pc n 3 (.invokevirtual i)) (hl : mz_ml y.1.cls i yX12_rates) (hf : f_mo_rates a1 a2 M = some o) (hd : 8 + 1 ≤ d) (hsm : (st.map (fun v => v.category)).sum ≤ 8) (hLr : mz_rL 133 L = true) (hSr : mz_rS 133 st = true) (kk : mW y d Q n L (.int o.1 :: st) o.2) : mW y d Q pc L (.int a2 :: .int a1 :: .ref 66 :: st) M :=
  y_callV kmX12_rates kvX12_rates l_66 (by decide +kernel) (by decide +kernel) h hl (ok_mo_rates a1 a2 M hf) (vs := [.int a1, .int a2]) rfl rfl hd hsm hLr hSr kk
def K_mo_parted_40 (Q : mz_P) (x1 : Int32) (x2 : Int32) : ((Int32 × dM) ⊕ dM) → Prop
  | .inl s => mW mX12_parted 8 Q 40 [some (.ref 66), some (.int x1), some (.int x2), some (.int s.1), none, none] [] s.2
  | .inr t => mW mX12_parted 8 Q 59 [some (.ref 66), some (.int x1), some (.int x2), none, none, none] [] t
noncomputable def b_mo_parted_40_40 (x1 : Int32) (x2 : Int32) (x3 : Int32) (M : dM) : Option ((Int32 × dM) ⊕ dM) :=
  if 8 ≤ x3 then
    some (.inr M)
  else
    gd (vp_in x3 8) <|
    some (.inl ((x3 + 1), (sI M 129 x3.toNatClampNeg 0)))
noncomputable def l_mo_parted_40 (x1 : Int32) (x2 : Int32) (x3 : Int32) (M : dM) : Option dM := lpc (fun s => b_mo_parted_40_40 x1 x2 s.1 s.2) (x3, M)
def K_mo_parted_61 (Q : mz_P) (x1 : Int32) (x2 : Int32) : ((Int32 × dM) ⊕ dM) → Prop
  | .inl s => mW mX12_parted 8 Q 61 [some (.ref 66), some (.int x1), some (.int x2), some (.int s.1), none, none] [] s.2
  | .inr t => mW mX12_parted 8 Q 155 [some (.ref 66), none, some (.int x2), none, none, none] [] t
def K_mo_parted_74 (Q : mz_P) (x1 : Int32) (x2 : Int32) (x3 : Int32) : ((Int32 × dM) ⊕ dM) → Prop
  | .inl s => mW mX12_parted 8 Q 74 [some (.ref 66), some (.int x1), some (.int x2), some (.int x3), some (.int s.1), none] [] s.2
  | .inr t => mW mX12_parted 8 Q 149 [some (.ref 66), some (.int x1), some (.int x2), some (.int x3), none, none] [] t
def K_mo_parted_86 (Q : mz_P) (x1 : Int32) (x2 : Int32) (x3 : Int32) (x4 : Int32) : ((Int32 × dM) ⊕ dM) → Prop
  | .inl s => mW mX12_parted 8 Q 86 [some (.ref 66), some (.int x1), some (.int x2), some (.int x3), some (.int x4), some (.int s.1)] [] s.2
  | .inr t => mW mX12_parted 8 Q 143 [some (.ref 66), some (.int x1), some (.int x2), some (.int x3), some (.int x4), none] [] t
noncomputable def b_mo_parted_86_135 (x1 : Int32) (x2 : Int32) (x3 : Int32) (x4 : Int32) (x5 : Int32) (y1 : Int32) (y2 : Int32) (y3 : Int32) (M : dM) : Option ((Int32 × dM) ⊕ dM) :=
  gd (vp_in y1 8) <|
  some (.inl ((x5 + 1), (sI M 129 y1.toNatClampNeg (y2 + y3))))
noncomputable def b_mo_parted_86_86 (x1 : Int32) (x2 : Int32) (x3 : Int32) (x4 : Int32) (x5 : Int32) (M : dM) : Option ((Int32 × dM) ⊕ dM) :=
  if 8 ≤ x5 then
    some (.inr M)
  else
    gd (vp_in x5 8) <|
    gd (vp_in x4 1920) <|
    if (((gI M 123 x4.toNatClampNeg) >>> (x5 &&& 31)) &&& 1) = 0 then
      b_mo_parted_86_135 x1 x2 x3 x4 x5 x5 (gI M 129 x5.toNatClampNeg) 0 M
    else
      if (gI M 122 x4.toNatClampNeg) = 0 then
        b_mo_parted_86_135 x1 x2 x3 x4 x5 x5 (gI M 129 x5.toNatClampNeg) (-1) M
      else
        b_mo_parted_86_135 x1 x2 x3 x4 x5 x5 (gI M 129 x5.toNatClampNeg) 1 M
noncomputable def l_mo_parted_86 (x1 : Int32) (x2 : Int32) (x3 : Int32) (x4 : Int32) (x5 : Int32) (M : dM) : Option dM := lpc (fun s => b_mo_parted_86_86 x1 x2 x3 x4 s.1 s.2) (x5, M)
noncomputable def b_mo_parted_74_74 (x1 : Int32) (x2 : Int32) (x3 : Int32) (x4 : Int32) (M : dM) : Option ((Int32 × dM) ⊕ dM) :=
  if (gI M 66 88) ≤ x4 then
    some (.inr M)
  else
    (l_mo_parted_86 x1 x2 x3 x4 0 M).bind fun t10 =>
      some (.inl ((x4 + 1), t10))
noncomputable def l_mo_parted_74 (x1 : Int32) (x2 : Int32) (x3 : Int32) (x4 : Int32) (M : dM) : Option dM := lpc (fun s => b_mo_parted_74_74 x1 x2 x3 s.1 s.2) (x4, M)
noncomputable def b_mo_parted_61_61 (x1 : Int32) (x2 : Int32) (x3 : Int32) (M : dM) : Option ((Int32 × dM) ⊕ dM) :=
  if x1 ≤ x3 then
    some (.inr M)
  else
    (f_mo_runs x3 M).bind fun q5 =>
    (l_mo_parted_74 x1 x2 x3 0 q5).bind fun t13 =>
      some (.inl ((x3 + 1), t13))
noncomputable def l_mo_parted_61 (x1 : Int32) (x2 : Int32) (x3 : Int32) (M : dM) : Option dM := lpc (fun s => b_mo_parted_61_61 x1 x2 s.1 s.2) (x3, M)
def K_mo_parted_160 (Q : mz_P) (x2 : Int32) (M : dM) : ((Int32 × Int32) ⊕ Int32) → Prop
  | .inl s => mW mX12_parted 8 Q 160 [some (.ref 66), none, some (.int x2), some (.int s.1), some (.int s.2), none] [] M
  | .inr t => mW mX12_parted 8 Q 196 [some (.ref 66), none, some (.int x2), some (.int t), none, none] [] M
noncomputable def b_mo_parted_160_160 (x2 : Int32) (x3 : Int32) (x4 : Int32) (M : dM) : Option ((Int32 × Int32) ⊕ Int32) :=
  if 8 ≤ x4 then
    some (.inr x3)
  else
    gd (vp_in x4 8) <|
    gd (vp_in x3 8) <|
    if (gI M 129 x4.toNatClampNeg) ≤ (gI M 129 x3.toNatClampNeg) then
      some (.inl (x3, (x4 + 1)))
    else
      some (.inl (x4, (x4 + 1)))
noncomputable def l_mo_parted_160 (x2 : Int32) (x3 : Int32) (x4 : Int32) (M : dM) : Option Int32 := lpc (fun s => b_mo_parted_160_160 x2 s.1 s.2 M) (x3, x4)
noncomputable def t_mo_parted_25 (x1 : Int32) (x2 : Int32) (y1 : Int32) (M : dM) : Option (Int32 × dM) :=
  if (gI (sI M 66 0 y1) 66 0) = 1 then
    some (0, (sI M 66 0 y1))
  else
    (l_mo_parted_40 x1 x2 0 (sI M 66 0 y1)).bind fun t2 =>
      (l_mo_parted_61 x1 x2 0 t2).bind fun t16 =>
        (l_mo_parted_160 x2 0 1 t16).bind fun t21 =>
          if x2 = 0 then
            some (t21, t16)
          else
            gd (vp_in t21 8) <|
            some ((gI t16 129 t21.toNatClampNeg), t16)
noncomputable def t_mo_parted_24 (x1 : Int32) (x2 : Int32) (M : dM) : Option (Int32 × dM) :=
  t_mo_parted_25 x1 x2 1 M
noncomputable def f_mo_parted (a1 : Int32) (a2 : Int32) (M : dM) : Option (Int32 × dM) :=
  if (f_mo_within a1 1 20) = true then
    if (f_mo_within a2 0 1) = true then
      t_mo_parted_25 a1 a2 0 M
    else
      t_mo_parted_24 a1 a2 M
  else
    t_mo_parted_24 a1 a2 M
theorem w_b_mo_parted_40_40 (x1 : Int32) (x2 : Int32) (x3 : Int32)  (M : dM) {Q : mz_P} {o : ((Int32 × dM) ⊕ dM)} (hf : b_mo_parted_40_40 x1 x2 x3 M = some o) (hk : K_mo_parted_40 Q x1 x2 o) : mW mX12_parted 8 Q 40 [some (.ref 66), some (.int x1), some (.int x2), some (.int x3), none, none] [] M := by
  unfold b_mo_parted_40_40 at hf
  refine y_iload_n (i := 3) (n := 41) ⟨dX12_parted_40, rfl⟩ rfl ?_
  refine y_bipush (n := 43) (v := 8) ⟨dX12_parted_41, rfl⟩ kb_8 ?_
  refine y_icmp_ge (t := 59) (n := 46) ⟨dX12_parted_43, rfl, rfl⟩ (fun (hc : 8 ≤ x3) => ?_) (fun (hc : ¬ (8 ≤ x3)) => ?_)
  · replace hf := i_t hc hf
    cases hf
    exact y_wk (L2 := [some (.ref 66), some (.int x1), some (.int x2), none, none, none]) ⟨Or.inr rfl, Or.inr rfl, Or.inr rfl, Or.inl rfl, Or.inr rfl, Or.inr rfl, trivial⟩ hk
  · replace hf := i_f hc hf
    refine y_aload_n (i := 0) (n := 47) ⟨dX12_parted_46, rfl⟩ rfl ?_
    refine y_getR (n := 50) ⟨dX12_parted_47, rfl⟩ kfX12_198 l_66 rfl r_66_96 ?_
    refine y_iload_n (i := 3) (n := 51) ⟨dX12_parted_50, rfl⟩ rfl ?_
    refine y_iconst (n := 52) (v := 0) ⟨dX12_parted_51, rfl⟩ ki_0 ?_
    obtain ⟨hg1, hf⟩ := g_s hf
    refine y_iastore (n := 53) ⟨dX12_parted_52, rfl⟩ l_129 hg1 ?_
    refine y_iinc (i := 3) (n := 56) (b := (x3 + 1)) (L2 := [some (.ref 66), some (.int x1), some (.int x2), some (.int (x3 + 1)), none, none]) ⟨dX12_parted_53, rfl⟩ rfl (by rw [ki_1]) (by decide) rfl rfl ?_
    refine y_goto (t := 40) ⟨dX12_parted_56, rfl, rfl⟩ ?_
    cases hf
    exact y_wk (L2 := [some (.ref 66), some (.int x1), some (.int x2), some (.int (x3 + 1)), none, none]) ⟨Or.inr rfl, Or.inr rfl, Or.inr rfl, Or.inr rfl, Or.inr rfl, Or.inr rfl, trivial⟩ hk
theorem wl_mo_parted_40 (x1 : Int32) (x2 : Int32) (x3 : Int32) (M : dM) {Q : mz_P} {x : dM} (hf : l_mo_parted_40 x1 x2 x3 M = some x) (hk : K_mo_parted_40 Q x1 x2 (.inr x)) : mW mX12_parted 8 Q 40 [some (.ref 66), some (.int x1), some (.int x2), some (.int x3), none, none] [] M :=
  lpc_wp (σ := (Int32 × dM)) (ξ := dM) (s := (x3, M)) (Wh := fun s => mW mX12_parted 8 Q 40 [some (.ref 66), some (.int x1), some (.int x2), some (.int s.1), none, none] [] s.2) (K := K_mo_parted_40 Q x1 x2) (fun _ h => h) (fun s o hb hk => w_b_mo_parted_40_40 x1 x2 s.1 s.2 hb hk) hf hk
theorem w_b_mo_parted_86_135 (x1 : Int32) (x2 : Int32) (x3 : Int32) (x4 : Int32) (x5 : Int32) (y1 : Int32) (y2 : Int32) (y3 : Int32)  (M : dM) {Q : mz_P} {o : ((Int32 × dM) ⊕ dM)} (hf : b_mo_parted_86_135 x1 x2 x3 x4 x5 y1 y2 y3 M = some o) (hk : K_mo_parted_86 Q x1 x2 x3 x4 o) : mW mX12_parted 8 Q 135 [some (.ref 66), some (.int x1), some (.int x2), some (.int x3), some (.int x4), some (.int x5)] [.int y3, .int y2, .int y1, .ref 129] M := by
  unfold b_mo_parted_86_135 at hf
  refine y_iadd (n := 136) ⟨dX12_parted_135, rfl⟩ ?_
  obtain ⟨hg9, hf⟩ := g_s hf
  refine y_iastore (n := 137) ⟨dX12_parted_136, rfl⟩ l_129 hg9 ?_
  refine y_iinc (i := 5) (n := 140) (b := (x5 + 1)) (L2 := [some (.ref 66), some (.int x1), some (.int x2), some (.int x3), some (.int x4), some (.int (x5 + 1))]) ⟨dX12_parted_137, rfl⟩ rfl (by rw [ki_1]) (by decide) rfl rfl ?_
  refine y_goto (t := 86) ⟨dX12_parted_140, rfl, rfl⟩ ?_
  cases hf
  exact y_wk (L2 := [some (.ref 66), some (.int x1), some (.int x2), some (.int x3), some (.int x4), some (.int (x5 + 1))]) ⟨Or.inr rfl, Or.inr rfl, Or.inr rfl, Or.inr rfl, Or.inr rfl, Or.inr rfl, trivial⟩ hk
theorem w_b_mo_parted_86_86 (x1 : Int32) (x2 : Int32) (x3 : Int32) (x4 : Int32) (x5 : Int32)  (M : dM) {Q : mz_P} {o : ((Int32 × dM) ⊕ dM)} (hf : b_mo_parted_86_86 x1 x2 x3 x4 x5 M = some o) (hk : K_mo_parted_86 Q x1 x2 x3 x4 o) : mW mX12_parted 8 Q 86 [some (.ref 66), some (.int x1), some (.int x2), some (.int x3), some (.int x4), some (.int x5)] [] M := by
  unfold b_mo_parted_86_86 at hf
  refine y_iload (i := 5) (n := 88) ⟨dX12_parted_86, rfl⟩ rfl ?_
  refine y_bipush (n := 90) (v := 8) ⟨dX12_parted_88, rfl⟩ kb_8 ?_
  refine y_icmp_ge (t := 143) (n := 93) ⟨dX12_parted_90, rfl, rfl⟩ (fun (hc : 8 ≤ x5) => ?_) (fun (hc : ¬ (8 ≤ x5)) => ?_)
  · replace hf := i_t hc hf
    cases hf
    exact y_wk (L2 := [some (.ref 66), some (.int x1), some (.int x2), some (.int x3), some (.int x4), none]) ⟨Or.inr rfl, Or.inr rfl, Or.inr rfl, Or.inr rfl, Or.inr rfl, Or.inl rfl, trivial⟩ hk
  · replace hf := i_f hc hf
    refine y_aload_n (i := 0) (n := 94) ⟨dX12_parted_93, rfl⟩ rfl ?_
    refine y_getR (n := 97) ⟨dX12_parted_94, rfl⟩ kfX12_198 l_66 rfl r_66_96 ?_
    refine y_iload (i := 5) (n := 99) ⟨dX12_parted_97, rfl⟩ rfl ?_
    refine y_dup2 (n := 100) ⟨dX12_parted_99, rfl⟩ ?_
    obtain ⟨hg7, hf⟩ := g_s hf
    refine y_iaload (n := 101) ⟨dX12_parted_100, rfl⟩ l_129 hg7 ?_
    refine y_aload_n (i := 0) (n := 102) ⟨dX12_parted_101, rfl⟩ rfl ?_
    refine y_getR (n := 105) ⟨dX12_parted_102, rfl⟩ kfX12_180 l_66 rfl r_66_90 ?_
    refine y_iload (i := 4) (n := 107) ⟨dX12_parted_105, rfl⟩ rfl ?_
    obtain ⟨hg8, hf⟩ := g_s hf
    refine y_iaload (n := 108) ⟨dX12_parted_107, rfl⟩ l_123 hg8 ?_
    refine y_iload (i := 5) (n := 110) ⟨dX12_parted_108, rfl⟩ rfl ?_
    refine y_ishr (n := 111) ⟨dX12_parted_110, rfl⟩ ?_
    refine y_iconst (n := 112) (v := 1) ⟨dX12_parted_111, rfl⟩ ki_1 ?_
    refine y_iand (n := 113) ⟨dX12_parted_112, rfl⟩ ?_
    refine y_if_ne (t := 120) (n := 116) ⟨dX12_parted_113, rfl, rfl⟩ (fun (hc : ¬ ((((gI M 123 x4.toNatClampNeg) >>> (x5 &&& 31)) &&& 1) = 0)) => ?_) (fun (hc : (((gI M 123 x4.toNatClampNeg) >>> (x5 &&& 31)) &&& 1) = 0) => ?_)
    · replace hf := i_f hc hf
      refine y_aload_n (i := 0) (n := 121) ⟨dX12_parted_120, rfl⟩ rfl ?_
      refine y_getR (n := 124) ⟨dX12_parted_121, rfl⟩ kfX12_177 l_66 rfl r_66_89 ?_
      refine y_iload (i := 4) (n := 126) ⟨dX12_parted_124, rfl⟩ rfl ?_
      refine y_baload (n := 127) ⟨dX12_parted_126, rfl⟩ l_122 hg8 ?_
      refine y_if_eq (t := 134) (n := 130) ⟨dX12_parted_127, rfl, rfl⟩ (fun (hc : (gI M 122 x4.toNatClampNeg) = 0) => ?_) (fun (hc : ¬ ((gI M 122 x4.toNatClampNeg) = 0)) => ?_)
      · replace hf := i_t hc hf
        refine y_iconst (n := 135) (v := (-1)) ⟨dX12_parted_134, rfl⟩ ki_m1 ?_
        exact y_wk (L2 := [some (.ref 66), some (.int x1), some (.int x2), some (.int x3), some (.int x4), some (.int x5)]) ⟨Or.inr rfl, Or.inr rfl, Or.inr rfl, Or.inr rfl, Or.inr rfl, Or.inr rfl, trivial⟩ (w_b_mo_parted_86_135 x1 x2 x3 x4 x5 x5 (gI M 129 x5.toNatClampNeg) (-1) M hf hk)
      · replace hf := i_f hc hf
        refine y_iconst (n := 131) (v := 1) ⟨dX12_parted_130, rfl⟩ ki_1 ?_
        refine y_goto (t := 135) ⟨dX12_parted_131, rfl, rfl⟩ ?_
        exact y_wk (L2 := [some (.ref 66), some (.int x1), some (.int x2), some (.int x3), some (.int x4), some (.int x5)]) ⟨Or.inr rfl, Or.inr rfl, Or.inr rfl, Or.inr rfl, Or.inr rfl, Or.inr rfl, trivial⟩ (w_b_mo_parted_86_135 x1 x2 x3 x4 x5 x5 (gI M 129 x5.toNatClampNeg) 1 M hf hk)
    · replace hf := i_t hc hf
      refine y_iconst (n := 117) (v := 0) ⟨dX12_parted_116, rfl⟩ ki_0 ?_
      refine y_goto (t := 135) ⟨dX12_parted_117, rfl, rfl⟩ ?_
      exact y_wk (L2 := [some (.ref 66), some (.int x1), some (.int x2), some (.int x3), some (.int x4), some (.int x5)]) ⟨Or.inr rfl, Or.inr rfl, Or.inr rfl, Or.inr rfl, Or.inr rfl, Or.inr rfl, trivial⟩ (w_b_mo_parted_86_135 x1 x2 x3 x4 x5 x5 (gI M 129 x5.toNatClampNeg) 0 M hf hk)
theorem wl_mo_parted_86 (x1 : Int32) (x2 : Int32) (x3 : Int32) (x4 : Int32) (x5 : Int32) (M : dM) {Q : mz_P} {x : dM} (hf : l_mo_parted_86 x1 x2 x3 x4 x5 M = some x) (hk : K_mo_parted_86 Q x1 x2 x3 x4 (.inr x)) : mW mX12_parted 8 Q 86 [some (.ref 66), some (.int x1), some (.int x2), some (.int x3), some (.int x4), some (.int x5)] [] M :=
  lpc_wp (σ := (Int32 × dM)) (ξ := dM) (s := (x5, M)) (Wh := fun s => mW mX12_parted 8 Q 86 [some (.ref 66), some (.int x1), some (.int x2), some (.int x3), some (.int x4), some (.int s.1)] [] s.2) (K := K_mo_parted_86 Q x1 x2 x3 x4) (fun _ h => h) (fun s o hb hk => w_b_mo_parted_86_86 x1 x2 x3 x4 s.1 s.2 hb hk) hf hk
theorem w_b_mo_parted_74_74 (x1 : Int32) (x2 : Int32) (x3 : Int32) (x4 : Int32)  (M : dM) {Q : mz_P} {o : ((Int32 × dM) ⊕ dM)} (hf : b_mo_parted_74_74 x1 x2 x3 x4 M = some o) (hk : K_mo_parted_74 Q x1 x2 x3 o) : mW mX12_parted 8 Q 74 [some (.ref 66), some (.int x1), some (.int x2), some (.int x3), some (.int x4), none] [] M := by
  unfold b_mo_parted_74_74 at hf
  refine y_iload (i := 4) (n := 76) ⟨dX12_parted_74, rfl⟩ rfl ?_
  refine y_aload_n (i := 0) (n := 77) ⟨dX12_parted_76, rfl⟩ rfl ?_
  refine y_getI (n := 80) ⟨dX12_parted_77, rfl⟩ kfX12_568 l_66 rfl ?_
  refine y_icmp_ge (t := 149) (n := 83) ⟨dX12_parted_80, rfl, rfl⟩ (fun (hc : (gI M 66 88) ≤ x4) => ?_) (fun (hc : ¬ ((gI M 66 88) ≤ x4)) => ?_)
  · replace hf := i_t hc hf
    cases hf
    exact y_wk (L2 := [some (.ref 66), some (.int x1), some (.int x2), some (.int x3), none, none]) ⟨Or.inr rfl, Or.inr rfl, Or.inr rfl, Or.inr rfl, Or.inl rfl, Or.inr rfl, trivial⟩ hk
  · replace hf := i_f hc hf
    refine y_iconst (n := 84) (v := 0) ⟨dX12_parted_83, rfl⟩ ki_0 ?_
    refine y_istore (i := 5) (n := 86) (L2 := [some (.ref 66), some (.int x1), some (.int x2), some (.int x3), some (.int x4), some (.int 0)]) ⟨dX12_parted_84, rfl⟩ (by decide) rfl rfl ?_
    obtain ⟨t10, hl11, hf⟩ := b_s hf
    refine y_wk (L2 := [some (.ref 66), some (.int x1), some (.int x2), some (.int x3), some (.int x4), some (.int 0)]) ⟨Or.inr rfl, Or.inr rfl, Or.inr rfl, Or.inr rfl, Or.inr rfl, Or.inr rfl, trivial⟩ (wl_mo_parted_86 x1 x2 x3 x4 0 M hl11 ?_)
    show mW mX12_parted 8 Q 143 [some (.ref 66), some (.int x1), some (.int x2), some (.int x3), some (.int x4), none] [] t10
    refine y_iinc (i := 4) (n := 146) (b := (x4 + 1)) (L2 := [some (.ref 66), some (.int x1), some (.int x2), some (.int x3), some (.int (x4 + 1)), none]) ⟨dX12_parted_143, rfl⟩ rfl (by rw [ki_1]) (by decide) rfl rfl ?_
    refine y_goto (t := 74) ⟨dX12_parted_146, rfl, rfl⟩ ?_
    cases hf
    exact y_wk (L2 := [some (.ref 66), some (.int x1), some (.int x2), some (.int x3), some (.int (x4 + 1)), none]) ⟨Or.inr rfl, Or.inr rfl, Or.inr rfl, Or.inr rfl, Or.inr rfl, Or.inr rfl, trivial⟩ hk
theorem wl_mo_parted_74 (x1 : Int32) (x2 : Int32) (x3 : Int32) (x4 : Int32) (M : dM) {Q : mz_P} {x : dM} (hf : l_mo_parted_74 x1 x2 x3 x4 M = some x) (hk : K_mo_parted_74 Q x1 x2 x3 (.inr x)) : mW mX12_parted 8 Q 74 [some (.ref 66), some (.int x1), some (.int x2), some (.int x3), some (.int x4), none] [] M :=
  lpc_wp (σ := (Int32 × dM)) (ξ := dM) (s := (x4, M)) (Wh := fun s => mW mX12_parted 8 Q 74 [some (.ref 66), some (.int x1), some (.int x2), some (.int x3), some (.int s.1), none] [] s.2) (K := K_mo_parted_74 Q x1 x2 x3) (fun _ h => h) (fun s o hb hk => w_b_mo_parted_74_74 x1 x2 x3 s.1 s.2 hb hk) hf hk
theorem w_b_mo_parted_61_61 (x1 : Int32) (x2 : Int32) (x3 : Int32)  (M : dM) {Q : mz_P} {o : ((Int32 × dM) ⊕ dM)} (hf : b_mo_parted_61_61 x1 x2 x3 M = some o) (hk : K_mo_parted_61 Q x1 x2 o) : mW mX12_parted 8 Q 61 [some (.ref 66), some (.int x1), some (.int x2), some (.int x3), none, none] [] M := by
  unfold b_mo_parted_61_61 at hf
  refine y_iload_n (i := 3) (n := 62) ⟨dX12_parted_61, rfl⟩ rfl ?_
  refine y_iload_n (i := 1) (n := 63) ⟨dX12_parted_62, rfl⟩ rfl ?_
  refine y_icmp_ge (t := 155) (n := 66) ⟨dX12_parted_63, rfl, rfl⟩ (fun (hc : x1 ≤ x3) => ?_) (fun (hc : ¬ (x1 ≤ x3)) => ?_)
  · replace hf := i_t hc hf
    cases hf
    exact y_wk (L2 := [some (.ref 66), none, some (.int x2), none, none, none]) ⟨Or.inr rfl, Or.inl rfl, Or.inr rfl, Or.inl rfl, Or.inr rfl, Or.inr rfl, trivial⟩ hk
  · replace hf := i_f hc hf
    refine y_aload_n (i := 0) (n := 67) ⟨dX12_parted_66, rfl⟩ rfl ?_
    refine y_iload_n (i := 3) (n := 68) ⟨dX12_parted_67, rfl⟩ rfl ?_
    obtain ⟨q5, hv6, hf⟩ := b_s hf
    refine c_mo_runs x3 M (n := 71) ⟨dX12_parted_68, rfl⟩ klX12_584 hv6 (by decide) (Nat.le_of_ble_eq_true rfl) rfl rfl ?_
    refine y_iconst (n := 72) (v := 0) ⟨dX12_parted_71, rfl⟩ ki_0 ?_
    refine y_istore (i := 4) (n := 74) (L2 := [some (.ref 66), some (.int x1), some (.int x2), some (.int x3), some (.int 0), none]) ⟨dX12_parted_72, rfl⟩ (by decide) rfl rfl ?_
    obtain ⟨t13, hl14, hf⟩ := b_s hf
    refine y_wk (L2 := [some (.ref 66), some (.int x1), some (.int x2), some (.int x3), some (.int 0), none]) ⟨Or.inr rfl, Or.inr rfl, Or.inr rfl, Or.inr rfl, Or.inr rfl, Or.inr rfl, trivial⟩ (wl_mo_parted_74 x1 x2 x3 0 q5 hl14 ?_)
    show mW mX12_parted 8 Q 149 [some (.ref 66), some (.int x1), some (.int x2), some (.int x3), none, none] [] t13
    refine y_iinc (i := 3) (n := 152) (b := (x3 + 1)) (L2 := [some (.ref 66), some (.int x1), some (.int x2), some (.int (x3 + 1)), none, none]) ⟨dX12_parted_149, rfl⟩ rfl (by rw [ki_1]) (by decide) rfl rfl ?_
    refine y_goto (t := 61) ⟨dX12_parted_152, rfl, rfl⟩ ?_
    cases hf
    exact y_wk (L2 := [some (.ref 66), some (.int x1), some (.int x2), some (.int (x3 + 1)), none, none]) ⟨Or.inr rfl, Or.inr rfl, Or.inr rfl, Or.inr rfl, Or.inr rfl, Or.inr rfl, trivial⟩ hk
theorem wl_mo_parted_61 (x1 : Int32) (x2 : Int32) (x3 : Int32) (M : dM) {Q : mz_P} {x : dM} (hf : l_mo_parted_61 x1 x2 x3 M = some x) (hk : K_mo_parted_61 Q x1 x2 (.inr x)) : mW mX12_parted 8 Q 61 [some (.ref 66), some (.int x1), some (.int x2), some (.int x3), none, none] [] M :=
  lpc_wp (σ := (Int32 × dM)) (ξ := dM) (s := (x3, M)) (Wh := fun s => mW mX12_parted 8 Q 61 [some (.ref 66), some (.int x1), some (.int x2), some (.int s.1), none, none] [] s.2) (K := K_mo_parted_61 Q x1 x2) (fun _ h => h) (fun s o hb hk => w_b_mo_parted_61_61 x1 x2 s.1 s.2 hb hk) hf hk
theorem w_b_mo_parted_160_160 (x2 : Int32) (x3 : Int32) (x4 : Int32)  (M : dM) {Q : mz_P} {o : ((Int32 × Int32) ⊕ Int32)} (hf : b_mo_parted_160_160 x2 x3 x4 M = some o) (hk : K_mo_parted_160 Q x2 M o) : mW mX12_parted 8 Q 160 [some (.ref 66), none, some (.int x2), some (.int x3), some (.int x4), none] [] M := by
  unfold b_mo_parted_160_160 at hf
  refine y_iload (i := 4) (n := 162) ⟨dX12_parted_160, rfl⟩ rfl ?_
  refine y_bipush (n := 164) (v := 8) ⟨dX12_parted_162, rfl⟩ kb_8 ?_
  refine y_icmp_ge (t := 196) (n := 167) ⟨dX12_parted_164, rfl, rfl⟩ (fun (hc : 8 ≤ x4) => ?_) (fun (hc : ¬ (8 ≤ x4)) => ?_)
  · replace hf := i_t hc hf
    cases hf
    exact y_wk (L2 := [some (.ref 66), none, some (.int x2), some (.int x3), none, none]) ⟨Or.inr rfl, Or.inr rfl, Or.inr rfl, Or.inr rfl, Or.inl rfl, Or.inr rfl, trivial⟩ hk
  · replace hf := i_f hc hf
    refine y_aload_n (i := 0) (n := 168) ⟨dX12_parted_167, rfl⟩ rfl ?_
    refine y_getR (n := 171) ⟨dX12_parted_168, rfl⟩ kfX12_198 l_66 rfl r_66_96 ?_
    refine y_iload (i := 4) (n := 173) ⟨dX12_parted_171, rfl⟩ rfl ?_
    obtain ⟨hg19, hf⟩ := g_s hf
    refine y_iaload (n := 174) ⟨dX12_parted_173, rfl⟩ l_129 hg19 ?_
    refine y_aload_n (i := 0) (n := 175) ⟨dX12_parted_174, rfl⟩ rfl ?_
    refine y_getR (n := 178) ⟨dX12_parted_175, rfl⟩ kfX12_198 l_66 rfl r_66_96 ?_
    refine y_iload_n (i := 3) (n := 179) ⟨dX12_parted_178, rfl⟩ rfl ?_
    obtain ⟨hg20, hf⟩ := g_s hf
    refine y_iaload (n := 180) ⟨dX12_parted_179, rfl⟩ l_129 hg20 ?_
    refine y_icmp_le (t := 188) (n := 183) ⟨dX12_parted_180, rfl, rfl⟩ (fun (hc : (gI M 129 x4.toNatClampNeg) ≤ (gI M 129 x3.toNatClampNeg)) => ?_) (fun (hc : ¬ ((gI M 129 x4.toNatClampNeg) ≤ (gI M 129 x3.toNatClampNeg))) => ?_)
    · replace hf := i_t hc hf
      refine y_iload_n (i := 3) (n := 189) ⟨dX12_parted_188, rfl⟩ rfl ?_
      refine y_istore_n (i := 3) (n := 190) (L2 := [some (.ref 66), none, some (.int x2), some (.int x3), some (.int x4), none]) ⟨dX12_parted_189, rfl⟩ (by decide) rfl rfl ?_
      refine y_iinc (i := 4) (n := 193) (b := (x4 + 1)) (L2 := [some (.ref 66), none, some (.int x2), some (.int x3), some (.int (x4 + 1)), none]) ⟨dX12_parted_190, rfl⟩ rfl (by rw [ki_1]) (by decide) rfl rfl ?_
      refine y_goto (t := 160) ⟨dX12_parted_193, rfl, rfl⟩ ?_
      cases hf
      exact y_wk (L2 := [some (.ref 66), none, some (.int x2), some (.int x3), some (.int (x4 + 1)), none]) ⟨Or.inr rfl, Or.inr rfl, Or.inr rfl, Or.inr rfl, Or.inr rfl, Or.inr rfl, trivial⟩ hk
    · replace hf := i_f hc hf
      refine y_iload (i := 4) (n := 185) ⟨dX12_parted_183, rfl⟩ rfl ?_
      refine y_goto (t := 189) ⟨dX12_parted_185, rfl, rfl⟩ ?_
      refine y_istore_n (i := 3) (n := 190) (L2 := [some (.ref 66), none, some (.int x2), some (.int x4), some (.int x4), none]) ⟨dX12_parted_189, rfl⟩ (by decide) rfl rfl ?_
      refine y_iinc (i := 4) (n := 193) (b := (x4 + 1)) (L2 := [some (.ref 66), none, some (.int x2), some (.int x4), some (.int (x4 + 1)), none]) ⟨dX12_parted_190, rfl⟩ rfl (by rw [ki_1]) (by decide) rfl rfl ?_
      refine y_goto (t := 160) ⟨dX12_parted_193, rfl, rfl⟩ ?_
      cases hf
      exact y_wk (L2 := [some (.ref 66), none, some (.int x2), some (.int x4), some (.int (x4 + 1)), none]) ⟨Or.inr rfl, Or.inr rfl, Or.inr rfl, Or.inr rfl, Or.inr rfl, Or.inr rfl, trivial⟩ hk
theorem wl_mo_parted_160 (x2 : Int32) (x3 : Int32) (x4 : Int32) (M : dM) {Q : mz_P} {x : Int32} (hf : l_mo_parted_160 x2 x3 x4 M = some x) (hk : K_mo_parted_160 Q x2 M (.inr x)) : mW mX12_parted 8 Q 160 [some (.ref 66), none, some (.int x2), some (.int x3), some (.int x4), none] [] M :=
  lpc_wp (σ := (Int32 × Int32)) (ξ := Int32) (s := (x3, x4)) (Wh := fun s => mW mX12_parted 8 Q 160 [some (.ref 66), none, some (.int x2), some (.int s.1), some (.int s.2), none] [] M) (K := K_mo_parted_160 Q x2 M) (fun _ h => h) (fun s o hb hk => w_b_mo_parted_160_160 x2 s.1 s.2 M hb hk) hf hk
theorem w_t_mo_parted_25 (x1 : Int32) (x2 : Int32) (y1 : Int32) (M : dM) {Q : mz_P} {o : (Int32 × dM)} (hf : t_mo_parted_25 x1 x2 y1 M = some o) (hk : mR Q (some (.int o.1)) o.2) : mW mX12_parted 8 Q 25 [some (.ref 66), some (.int x1), some (.int x2), none, none, none] [.int y1, .ref 66] M := by
  unfold t_mo_parted_25 at hf
  refine y_putI (n := 28) ⟨dX12_parted_25, rfl⟩ kfX12_214 l_66 (by decide +kernel) rfl ?_
  refine y_aload_n (i := 0) (n := 29) ⟨dX12_parted_28, rfl⟩ rfl ?_
  refine y_getI (n := 32) ⟨dX12_parted_29, rfl⟩ kfX12_214 l_66 rfl ?_
  refine y_iconst (n := 33) (v := 1) ⟨dX12_parted_32, rfl⟩ ki_1 ?_
  refine y_icmp_ne (t := 38) (n := 36) ⟨dX12_parted_33, rfl, rfl⟩ (fun (hc : ¬ ((gI (sI M 66 0 y1) 66 0) = 1)) => ?_) (fun (hc : (gI (sI M 66 0 y1) 66 0) = 1) => ?_)
  · replace hf := i_f hc hf
    refine y_iconst (n := 39) (v := 0) ⟨dX12_parted_38, rfl⟩ ki_0 ?_
    refine y_istore_n (i := 3) (n := 40) (L2 := [some (.ref 66), some (.int x1), some (.int x2), some (.int 0), none, none]) ⟨dX12_parted_39, rfl⟩ (by decide) rfl rfl ?_
    obtain ⟨t2, hl3, hf⟩ := b_s hf
    refine y_wk (L2 := [some (.ref 66), some (.int x1), some (.int x2), some (.int 0), none, none]) ⟨Or.inr rfl, Or.inr rfl, Or.inr rfl, Or.inr rfl, Or.inr rfl, Or.inr rfl, trivial⟩ (wl_mo_parted_40 x1 x2 0 (sI M 66 0 y1) hl3 ?_)
    show mW mX12_parted 8 Q 59 [some (.ref 66), some (.int x1), some (.int x2), none, none, none] [] t2
    refine y_iconst (n := 60) (v := 0) ⟨dX12_parted_59, rfl⟩ ki_0 ?_
    refine y_istore_n (i := 3) (n := 61) (L2 := [some (.ref 66), some (.int x1), some (.int x2), some (.int 0), none, none]) ⟨dX12_parted_60, rfl⟩ (by decide) rfl rfl ?_
    obtain ⟨t16, hl17, hf⟩ := b_s hf
    refine y_wk (L2 := [some (.ref 66), some (.int x1), some (.int x2), some (.int 0), none, none]) ⟨Or.inr rfl, Or.inr rfl, Or.inr rfl, Or.inr rfl, Or.inr rfl, Or.inr rfl, trivial⟩ (wl_mo_parted_61 x1 x2 0 t2 hl17 ?_)
    show mW mX12_parted 8 Q 155 [some (.ref 66), none, some (.int x2), none, none, none] [] t16
    refine y_iconst (n := 156) (v := 0) ⟨dX12_parted_155, rfl⟩ ki_0 ?_
    refine y_istore_n (i := 3) (n := 157) (L2 := [some (.ref 66), none, some (.int x2), some (.int 0), none, none]) ⟨dX12_parted_156, rfl⟩ (by decide) rfl rfl ?_
    refine y_iconst (n := 158) (v := 1) ⟨dX12_parted_157, rfl⟩ ki_1 ?_
    refine y_istore (i := 4) (n := 160) (L2 := [some (.ref 66), none, some (.int x2), some (.int 0), some (.int 1), none]) ⟨dX12_parted_158, rfl⟩ (by decide) rfl rfl ?_
    obtain ⟨t21, hl22, hf⟩ := b_s hf
    refine y_wk (L2 := [some (.ref 66), none, some (.int x2), some (.int 0), some (.int 1), none]) ⟨Or.inr rfl, Or.inr rfl, Or.inr rfl, Or.inr rfl, Or.inr rfl, Or.inr rfl, trivial⟩ (wl_mo_parted_160 x2 0 1 t16 hl22 ?_)
    show mW mX12_parted 8 Q 196 [some (.ref 66), none, some (.int x2), some (.int t21), none, none] [] t16
    refine y_iload_n (i := 2) (n := 197) ⟨dX12_parted_196, rfl⟩ rfl ?_
    refine y_if_ne (t := 204) (n := 200) ⟨dX12_parted_197, rfl, rfl⟩ (fun (hc : ¬ (x2 = 0)) => ?_) (fun (hc : x2 = 0) => ?_)
    · replace hf := i_f hc hf
      refine y_aload_n (i := 0) (n := 205) ⟨dX12_parted_204, rfl⟩ rfl ?_
      refine y_getR (n := 208) ⟨dX12_parted_205, rfl⟩ kfX12_198 l_66 rfl r_66_96 ?_
      refine y_iload_n (i := 3) (n := 209) ⟨dX12_parted_208, rfl⟩ rfl ?_
      obtain ⟨hg24, hf⟩ := g_s hf
      refine y_iaload (n := 210) ⟨dX12_parted_209, rfl⟩ l_129 hg24 ?_
      cases hf
      exact y_ireturn (n := 211) ⟨dX12_parted_210, rfl⟩ rfl rfl hk
    · replace hf := i_t hc hf
      refine y_iload_n (i := 3) (n := 201) ⟨dX12_parted_200, rfl⟩ rfl ?_
      refine y_goto (t := 210) ⟨dX12_parted_201, rfl, rfl⟩ ?_
      cases hf
      exact y_ireturn (n := 211) ⟨dX12_parted_210, rfl⟩ rfl rfl hk
  · replace hf := i_t hc hf
    refine y_iconst (n := 37) (v := 0) ⟨dX12_parted_36, rfl⟩ ki_0 ?_
    cases hf
    exact y_ireturn (n := 38) ⟨dX12_parted_37, rfl⟩ rfl rfl hk
theorem w_t_mo_parted_24 (x1 : Int32) (x2 : Int32) (M : dM) {Q : mz_P} {o : (Int32 × dM)} (hf : t_mo_parted_24 x1 x2 M = some o) (hk : mR Q (some (.int o.1)) o.2) : mW mX12_parted 8 Q 24 [some (.ref 66), some (.int x1), some (.int x2), none, none, none] [.ref 66] M := by
  unfold t_mo_parted_24 at hf
  refine y_iconst (n := 25) (v := 1) ⟨dX12_parted_24, rfl⟩ ki_1 ?_
  exact y_wk (L2 := [some (.ref 66), some (.int x1), some (.int x2), none, none, none]) ⟨Or.inr rfl, Or.inr rfl, Or.inr rfl, Or.inr rfl, Or.inr rfl, Or.inr rfl, trivial⟩ (w_t_mo_parted_25 x1 x2 1 M hf hk)
theorem ok_mo_parted (a1 : Int32) (a2 : Int32) (M : dM) {o : (Int32 × dM)} (hf : f_mo_parted a1 a2 M = some o) : mO mX12_parted 8 [.ref 66, .int a1, .int a2] M (some (.int o.1)) o.2 := by
  refine y_ok (by decide +kernel) (Nat.le_of_ble_eq_true rfl) (L0 := [some (.ref 66), some (.int a1), some (.int a2), none, none, none]) rfl ?_
  have hk := mR_mQ (some (.int o.1)) o.2
  generalize mQ _ _ = Q at hk ⊢
  unfold f_mo_parted at hf
  refine y_aload_n (i := 0) (n := 1) ⟨dX12_parted_0, rfl⟩ rfl ?_
  refine y_iload_n (i := 1) (n := 2) ⟨dX12_parted_1, rfl⟩ rfl ?_
  refine y_iconst (n := 3) (v := 1) ⟨dX12_parted_2, rfl⟩ ki_1 ?_
  refine y_bipush (n := 5) (v := 20) ⟨dX12_parted_3, rfl⟩ kb_20 ?_
  refine c_mo_within a1 1 20 M (n := 8) ⟨dX12_parted_5, rfl⟩ klX12_221 rfl (by decide) (Nat.le_of_ble_eq_true rfl) rfl rfl ?_
  refine y_if_eq (t := 24) (n := 11) ⟨dX12_parted_8, rfl, rfl⟩ (fun h0 => ?_) (fun h0 => ?_)
  · have hc := bI_0 h0
    replace hf := i_f hc hf
    exact y_wk (L2 := [some (.ref 66), some (.int a1), some (.int a2), none, none, none]) ⟨Or.inr rfl, Or.inr rfl, Or.inr rfl, Or.inr rfl, Or.inr rfl, Or.inr rfl, trivial⟩ (w_t_mo_parted_24 a1 a2 M hf hk)
  · have hc := bI_1 h0
    replace hf := i_t hc hf
    refine y_iload_n (i := 2) (n := 12) ⟨dX12_parted_11, rfl⟩ rfl ?_
    refine y_iconst (n := 13) (v := 0) ⟨dX12_parted_12, rfl⟩ ki_0 ?_
    refine y_iconst (n := 14) (v := 1) ⟨dX12_parted_13, rfl⟩ ki_1 ?_
    refine c_mo_within a2 0 1 M (n := 17) ⟨dX12_parted_14, rfl⟩ klX12_221 rfl (by decide) (Nat.le_of_ble_eq_true rfl) rfl rfl ?_
    refine y_if_eq (t := 24) (n := 20) ⟨dX12_parted_17, rfl, rfl⟩ (fun h0 => ?_) (fun h0 => ?_)
    · have hc := bI_0 h0
      replace hf := i_f hc hf
      exact y_wk (L2 := [some (.ref 66), some (.int a1), some (.int a2), none, none, none]) ⟨Or.inr rfl, Or.inr rfl, Or.inr rfl, Or.inr rfl, Or.inr rfl, Or.inr rfl, trivial⟩ (w_t_mo_parted_24 a1 a2 M hf hk)
    · have hc := bI_1 h0
      replace hf := i_t hc hf
      refine y_iconst (n := 21) (v := 0) ⟨dX12_parted_20, rfl⟩ ki_0 ?_
      refine y_goto (t := 25) ⟨dX12_parted_21, rfl, rfl⟩ ?_
      exact y_wk (L2 := [some (.ref 66), some (.int a1), some (.int a2), none, none, none]) ⟨Or.inr rfl, Or.inr rfl, Or.inr rfl, Or.inr rfl, Or.inr rfl, Or.inr rfl, trivial⟩ (w_t_mo_parted_25 a1 a2 0 M hf hk)
theorem c_mo_parted (a1 : Int32) (a2 : Int32) (M : dM) {o : (Int32 × dM)} {y : mz_M} {d : Nat} {Q : mz_P} {pc n i : Nat} {L : List (Option Value)} {st : List Value} (h : mz_d y.2.1 pc n 3 (.invokevirtual i)) (hl : mz_ml y.1.cls i yX12_parted) (hf : f_mo_parted a1 a2 M = some o) (hd : 8 + 1 ≤ d) (hsm : (st.map (fun v => v.category)).sum ≤ 8) (hLr : mz_rL 133 L = true) (hSr : mz_rS 133 st = true) (kk : mW y d Q n L (.int o.1 :: st) o.2) : mW y d Q pc L (.int a2 :: .int a1 :: .ref 66 :: st) M :=
  y_callV kmX12_parted kvX12_parted l_66 (by decide +kernel) (by decide +kernel) h hl (ok_mo_parted a1 a2 M hf) (vs := [.int a1, .int a2]) rfl rfl hd hsm hLr hSr kk
def K_mo_mark_178 (Q : mz_P) (x1 : Int32) : ((Int32 × dM) ⊕ (Bool × dM)) → Prop
  | .inl s => mW mX12_mark 2 Q 178 [some (.ref 66), some (.int x1), none, none, some (.int s.1)] [] s.2
  | .inr r => mR Q (some (.int (bI r.1))) r.2
noncomputable def b_mo_mark_178_178 (x1 : Int32) (x4 : Int32) (M : dM) : Option ((Int32 × dM) ⊕ (Bool × dM)) :=
  if 4 ≤ x4 then
    some (.inr (true, M))
  else
    gd (vp_in x4 4) <|
    gd (vp_in x1 4) <|
    if (gI M 130 x4.toNatClampNeg) ≤ (gI M 130 x1.toNatClampNeg) then
      some (.inl ((x4 + 1), M))
    else
      some (.inl ((x4 + 1), (sI M 130 x4.toNatClampNeg 0)))
noncomputable def l_mo_mark_178 (x1 : Int32) (x4 : Int32) (M : dM) : Option (Bool × dM) := lpc (fun s => b_mo_mark_178_178 x1 s.1 s.2) (x4, M)
noncomputable def t_mo_mark_29 (x1 : Int32) (x2 : Int32) (M : dM) : Option (Bool × dM) :=
  if x2 = 0 then
    gd (vp_in x1 4) <|
    gd (vp_in (5 * x1) 20) <|
    gd (vp_in ((5 * x1) + 1) 20) <|
    gd (vp_in ((5 * x1) + 2) 20) <|
    gd (vp_in ((5 * x1) + 3) 20) <|
    gd (vp_in ((5 * x1) + 4) 20) <|
    some (true, (sI (sI (sI (sI (sI (sI (sI M 66 97 ((gI M 66 97) + 1)) 130 x1.toNatClampNeg (gI (sI M 66 97 ((gI M 66 97) + 1)) 66 97)) 131 (5 * x1).toNatClampNeg (gI (sI (sI M 66 97 ((gI M 66 97) + 1)) 130 x1.toNatClampNeg (gI (sI M 66 97 ((gI M 66 97) + 1)) 66 97)) 66 9)) 131 ((5 * x1) + 1).toNatClampNeg (gI (sI (sI (sI M 66 97 ((gI M 66 97) + 1)) 130 x1.toNatClampNeg (gI (sI M 66 97 ((gI M 66 97) + 1)) 66 97)) 131 (5 * x1).toNatClampNeg (gI (sI (sI M 66 97 ((gI M 66 97) + 1)) 130 x1.toNatClampNeg (gI (sI M 66 97 ((gI M 66 97) + 1)) 66 97)) 66 9)) 66 3)) 131 ((5 * x1) + 2).toNatClampNeg (gI (sI (sI (sI (sI M 66 97 ((gI M 66 97) + 1)) 130 x1.toNatClampNeg (gI (sI M 66 97 ((gI M 66 97) + 1)) 66 97)) 131 (5 * x1).toNatClampNeg (gI (sI (sI M 66 97 ((gI M 66 97) + 1)) 130 x1.toNatClampNeg (gI (sI M 66 97 ((gI M 66 97) + 1)) 66 97)) 66 9)) 131 ((5 * x1) + 1).toNatClampNeg (gI (sI (sI (sI M 66 97 ((gI M 66 97) + 1)) 130 x1.toNatClampNeg (gI (sI M 66 97 ((gI M 66 97) + 1)) 66 97)) 131 (5 * x1).toNatClampNeg (gI (sI (sI M 66 97 ((gI M 66 97) + 1)) 130 x1.toNatClampNeg (gI (sI M 66 97 ((gI M 66 97) + 1)) 66 97)) 66 9)) 66 3)) 66 55)) 131 ((5 * x1) + 3).toNatClampNeg (gI (sI (sI (sI (sI (sI M 66 97 ((gI M 66 97) + 1)) 130 x1.toNatClampNeg (gI (sI M 66 97 ((gI M 66 97) + 1)) 66 97)) 131 (5 * x1).toNatClampNeg (gI (sI (sI M 66 97 ((gI M 66 97) + 1)) 130 x1.toNatClampNeg (gI (sI M 66 97 ((gI M 66 97) + 1)) 66 97)) 66 9)) 131 ((5 * x1) + 1).toNatClampNeg (gI (sI (sI (sI M 66 97 ((gI M 66 97) + 1)) 130 x1.toNatClampNeg (gI (sI M 66 97 ((gI M 66 97) + 1)) 66 97)) 131 (5 * x1).toNatClampNeg (gI (sI (sI M 66 97 ((gI M 66 97) + 1)) 130 x1.toNatClampNeg (gI (sI M 66 97 ((gI M 66 97) + 1)) 66 97)) 66 9)) 66 3)) 131 ((5 * x1) + 2).toNatClampNeg (gI (sI (sI (sI (sI M 66 97 ((gI M 66 97) + 1)) 130 x1.toNatClampNeg (gI (sI M 66 97 ((gI M 66 97) + 1)) 66 97)) 131 (5 * x1).toNatClampNeg (gI (sI (sI M 66 97 ((gI M 66 97) + 1)) 130 x1.toNatClampNeg (gI (sI M 66 97 ((gI M 66 97) + 1)) 66 97)) 66 9)) 131 ((5 * x1) + 1).toNatClampNeg (gI (sI (sI (sI M 66 97 ((gI M 66 97) + 1)) 130 x1.toNatClampNeg (gI (sI M 66 97 ((gI M 66 97) + 1)) 66 97)) 131 (5 * x1).toNatClampNeg (gI (sI (sI M 66 97 ((gI M 66 97) + 1)) 130 x1.toNatClampNeg (gI (sI M 66 97 ((gI M 66 97) + 1)) 66 97)) 66 9)) 66 3)) 66 55)) 66 77)) 131 ((5 * x1) + 4).toNatClampNeg (gI (sI (sI (sI (sI (sI (sI M 66 97 ((gI M 66 97) + 1)) 130 x1.toNatClampNeg (gI (sI M 66 97 ((gI M 66 97) + 1)) 66 97)) 131 (5 * x1).toNatClampNeg (gI (sI (sI M 66 97 ((gI M 66 97) + 1)) 130 x1.toNatClampNeg (gI (sI M 66 97 ((gI M 66 97) + 1)) 66 97)) 66 9)) 131 ((5 * x1) + 1).toNatClampNeg (gI (sI (sI (sI M 66 97 ((gI M 66 97) + 1)) 130 x1.toNatClampNeg (gI (sI M 66 97 ((gI M 66 97) + 1)) 66 97)) 131 (5 * x1).toNatClampNeg (gI (sI (sI M 66 97 ((gI M 66 97) + 1)) 130 x1.toNatClampNeg (gI (sI M 66 97 ((gI M 66 97) + 1)) 66 97)) 66 9)) 66 3)) 131 ((5 * x1) + 2).toNatClampNeg (gI (sI (sI (sI (sI M 66 97 ((gI M 66 97) + 1)) 130 x1.toNatClampNeg (gI (sI M 66 97 ((gI M 66 97) + 1)) 66 97)) 131 (5 * x1).toNatClampNeg (gI (sI (sI M 66 97 ((gI M 66 97) + 1)) 130 x1.toNatClampNeg (gI (sI M 66 97 ((gI M 66 97) + 1)) 66 97)) 66 9)) 131 ((5 * x1) + 1).toNatClampNeg (gI (sI (sI (sI M 66 97 ((gI M 66 97) + 1)) 130 x1.toNatClampNeg (gI (sI M 66 97 ((gI M 66 97) + 1)) 66 97)) 131 (5 * x1).toNatClampNeg (gI (sI (sI M 66 97 ((gI M 66 97) + 1)) 130 x1.toNatClampNeg (gI (sI M 66 97 ((gI M 66 97) + 1)) 66 97)) 66 9)) 66 3)) 66 55)) 131 ((5 * x1) + 3).toNatClampNeg (gI (sI (sI (sI (sI (sI M 66 97 ((gI M 66 97) + 1)) 130 x1.toNatClampNeg (gI (sI M 66 97 ((gI M 66 97) + 1)) 66 97)) 131 (5 * x1).toNatClampNeg (gI (sI (sI M 66 97 ((gI M 66 97) + 1)) 130 x1.toNatClampNeg (gI (sI M 66 97 ((gI M 66 97) + 1)) 66 97)) 66 9)) 131 ((5 * x1) + 1).toNatClampNeg (gI (sI (sI (sI M 66 97 ((gI M 66 97) + 1)) 130 x1.toNatClampNeg (gI (sI M 66 97 ((gI M 66 97) + 1)) 66 97)) 131 (5 * x1).toNatClampNeg (gI (sI (sI M 66 97 ((gI M 66 97) + 1)) 130 x1.toNatClampNeg (gI (sI M 66 97 ((gI M 66 97) + 1)) 66 97)) 66 9)) 66 3)) 131 ((5 * x1) + 2).toNatClampNeg (gI (sI (sI (sI (sI M 66 97 ((gI M 66 97) + 1)) 130 x1.toNatClampNeg (gI (sI M 66 97 ((gI M 66 97) + 1)) 66 97)) 131 (5 * x1).toNatClampNeg (gI (sI (sI M 66 97 ((gI M 66 97) + 1)) 130 x1.toNatClampNeg (gI (sI M 66 97 ((gI M 66 97) + 1)) 66 97)) 66 9)) 131 ((5 * x1) + 1).toNatClampNeg (gI (sI (sI (sI M 66 97 ((gI M 66 97) + 1)) 130 x1.toNatClampNeg (gI (sI M 66 97 ((gI M 66 97) + 1)) 66 97)) 131 (5 * x1).toNatClampNeg (gI (sI (sI M 66 97 ((gI M 66 97) + 1)) 130 x1.toNatClampNeg (gI (sI M 66 97 ((gI M 66 97) + 1)) 66 97)) 66 9)) 66 3)) 66 55)) 66 77)) 66 69)))
  else
    gd (vp_in (5 * x1) 20) <|
    gd (vp_in ((5 * x1) + 1) 20) <|
    gd (vp_in ((5 * x1) + 2) 20) <|
    gd (vp_in ((5 * x1) + 3) 20) <|
    gd (vp_in ((5 * x1) + 4) 20) <|
    (l_mo_mark_178 x1 0 (sI (sI (sI (sI (sI M 66 9 (gI M 131 (5 * x1).toNatClampNeg)) 66 3 (gI (sI M 66 9 (gI M 131 (5 * x1).toNatClampNeg)) 131 ((5 * x1) + 1).toNatClampNeg)) 66 55 (gI (sI (sI M 66 9 (gI M 131 (5 * x1).toNatClampNeg)) 66 3 (gI (sI M 66 9 (gI M 131 (5 * x1).toNatClampNeg)) 131 ((5 * x1) + 1).toNatClampNeg)) 131 ((5 * x1) + 2).toNatClampNeg)) 66 77 (gI (sI (sI (sI M 66 9 (gI M 131 (5 * x1).toNatClampNeg)) 66 3 (gI (sI M 66 9 (gI M 131 (5 * x1).toNatClampNeg)) 131 ((5 * x1) + 1).toNatClampNeg)) 66 55 (gI (sI (sI M 66 9 (gI M 131 (5 * x1).toNatClampNeg)) 66 3 (gI (sI M 66 9 (gI M 131 (5 * x1).toNatClampNeg)) 131 ((5 * x1) + 1).toNatClampNeg)) 131 ((5 * x1) + 2).toNatClampNeg)) 131 ((5 * x1) + 3).toNatClampNeg)) 66 69 (gI (sI (sI (sI (sI M 66 9 (gI M 131 (5 * x1).toNatClampNeg)) 66 3 (gI (sI M 66 9 (gI M 131 (5 * x1).toNatClampNeg)) 131 ((5 * x1) + 1).toNatClampNeg)) 66 55 (gI (sI (sI M 66 9 (gI M 131 (5 * x1).toNatClampNeg)) 66 3 (gI (sI M 66 9 (gI M 131 (5 * x1).toNatClampNeg)) 131 ((5 * x1) + 1).toNatClampNeg)) 131 ((5 * x1) + 2).toNatClampNeg)) 66 77 (gI (sI (sI (sI M 66 9 (gI M 131 (5 * x1).toNatClampNeg)) 66 3 (gI (sI M 66 9 (gI M 131 (5 * x1).toNatClampNeg)) 131 ((5 * x1) + 1).toNatClampNeg)) 66 55 (gI (sI (sI M 66 9 (gI M 131 (5 * x1).toNatClampNeg)) 66 3 (gI (sI M 66 9 (gI M 131 (5 * x1).toNatClampNeg)) 131 ((5 * x1) + 1).toNatClampNeg)) 131 ((5 * x1) + 2).toNatClampNeg)) 131 ((5 * x1) + 3).toNatClampNeg)) 131 ((5 * x1) + 4).toNatClampNeg))).bind fun r10 => some r10
noncomputable def f_mo_mark (a1 : Int32) (a2 : Int32) (M : dM) : Option (Bool × dM) :=
  if (f_mo_within a1 0 3) = true then
    if a2 = 0 then
      t_mo_mark_29 a1 a2 (sI M 66 0 0)
    else
      gd (vp_in a1 4) <|
      if (gI (sI M 66 0 0) 130 a1.toNatClampNeg) = 0 then
        some (false, (sI M 66 0 0))
      else
        t_mo_mark_29 a1 a2 (sI M 66 0 0)
  else
    some (false, (sI M 66 0 0))
theorem w_b_mo_mark_178_178 (x1 : Int32) (x4 : Int32)  (M : dM) {Q : mz_P} {o : ((Int32 × dM) ⊕ (Bool × dM))} (hf : b_mo_mark_178_178 x1 x4 M = some o) (hk : K_mo_mark_178 Q x1 o) : mW mX12_mark 2 Q 178 [some (.ref 66), some (.int x1), none, none, some (.int x4)] [] M := by
  unfold b_mo_mark_178_178 at hf
  refine y_iload (i := 4) (n := 180) ⟨dX12_mark_178, rfl⟩ rfl ?_
  refine y_iconst (n := 181) (v := 4) ⟨dX12_mark_180, rfl⟩ ki_4 ?_
  refine y_icmp_ge (t := 214) (n := 184) ⟨dX12_mark_181, rfl, rfl⟩ (fun (hc : 4 ≤ x4) => ?_) (fun (hc : ¬ (4 ≤ x4)) => ?_)
  · replace hf := i_t hc hf
    refine y_iconst (n := 215) (v := 1) ⟨dX12_mark_214, rfl⟩ ki_1 ?_
    cases hf
    exact y_ireturn (n := 216) ⟨dX12_mark_215, rfl⟩ rfl rfl hk
  · replace hf := i_f hc hf
    refine y_aload_n (i := 0) (n := 185) ⟨dX12_mark_184, rfl⟩ rfl ?_
    refine y_getR (n := 188) ⟨dX12_mark_185, rfl⟩ kfX12_201 l_66 rfl r_66_98 ?_
    refine y_iload (i := 4) (n := 190) ⟨dX12_mark_188, rfl⟩ rfl ?_
    obtain ⟨hg6, hf⟩ := g_s hf
    refine y_iaload (n := 191) ⟨dX12_mark_190, rfl⟩ l_130 hg6 ?_
    refine y_aload_n (i := 0) (n := 192) ⟨dX12_mark_191, rfl⟩ rfl ?_
    refine y_getR (n := 195) ⟨dX12_mark_192, rfl⟩ kfX12_201 l_66 rfl r_66_98 ?_
    refine y_iload_n (i := 1) (n := 196) ⟨dX12_mark_195, rfl⟩ rfl ?_
    obtain ⟨hg7, hf⟩ := g_s hf
    refine y_iaload (n := 197) ⟨dX12_mark_196, rfl⟩ l_130 hg7 ?_
    refine y_icmp_le (t := 208) (n := 200) ⟨dX12_mark_197, rfl, rfl⟩ (fun (hc : (gI M 130 x4.toNatClampNeg) ≤ (gI M 130 x1.toNatClampNeg)) => ?_) (fun (hc : ¬ ((gI M 130 x4.toNatClampNeg) ≤ (gI M 130 x1.toNatClampNeg))) => ?_)
    · replace hf := i_t hc hf
      refine y_iinc (i := 4) (n := 211) (b := (x4 + 1)) (L2 := [some (.ref 66), some (.int x1), none, none, some (.int (x4 + 1))]) ⟨dX12_mark_208, rfl⟩ rfl (by rw [ki_1]) (by decide) rfl rfl ?_
      refine y_goto (t := 178) ⟨dX12_mark_211, rfl, rfl⟩ ?_
      cases hf
      exact y_wk (L2 := [some (.ref 66), some (.int x1), none, none, some (.int (x4 + 1))]) ⟨Or.inr rfl, Or.inr rfl, Or.inr rfl, Or.inr rfl, Or.inr rfl, trivial⟩ hk
    · replace hf := i_f hc hf
      refine y_aload_n (i := 0) (n := 201) ⟨dX12_mark_200, rfl⟩ rfl ?_
      refine y_getR (n := 204) ⟨dX12_mark_201, rfl⟩ kfX12_201 l_66 rfl r_66_98 ?_
      refine y_iload (i := 4) (n := 206) ⟨dX12_mark_204, rfl⟩ rfl ?_
      refine y_iconst (n := 207) (v := 0) ⟨dX12_mark_206, rfl⟩ ki_0 ?_
      refine y_iastore (n := 208) ⟨dX12_mark_207, rfl⟩ l_130 hg6 ?_
      refine y_iinc (i := 4) (n := 211) (b := (x4 + 1)) (L2 := [some (.ref 66), some (.int x1), none, none, some (.int (x4 + 1))]) ⟨dX12_mark_208, rfl⟩ rfl (by rw [ki_1]) (by decide) rfl rfl ?_
      refine y_goto (t := 178) ⟨dX12_mark_211, rfl, rfl⟩ ?_
      cases hf
      exact y_wk (L2 := [some (.ref 66), some (.int x1), none, none, some (.int (x4 + 1))]) ⟨Or.inr rfl, Or.inr rfl, Or.inr rfl, Or.inr rfl, Or.inr rfl, trivial⟩ hk
theorem wl_mo_mark_178 (x1 : Int32) (x4 : Int32) (M : dM) {Q : mz_P} {x : (Bool × dM)} (hf : l_mo_mark_178 x1 x4 M = some x) (hk : K_mo_mark_178 Q x1 (.inr x)) : mW mX12_mark 2 Q 178 [some (.ref 66), some (.int x1), none, none, some (.int x4)] [] M :=
  lpc_wp (σ := (Int32 × dM)) (ξ := (Bool × dM)) (s := (x4, M)) (Wh := fun s => mW mX12_mark 2 Q 178 [some (.ref 66), some (.int x1), none, none, some (.int s.1)] [] s.2) (K := K_mo_mark_178 Q x1) (fun _ h => h) (fun s o hb hk => w_b_mo_mark_178_178 x1 s.1 s.2 hb hk) hf hk
theorem w_t_mo_mark_29 (x1 : Int32) (x2 : Int32) (M : dM) {Q : mz_P} {o : (Bool × dM)} (hf : t_mo_mark_29 x1 x2 M = some o) (hk : mR Q (some (.int (bI o.1))) o.2) : mW mX12_mark 2 Q 29 [some (.ref 66), some (.int x1), some (.int x2), none, none] [] M := by
  unfold t_mo_mark_29 at hf
  refine y_iconst (n := 30) (v := 5) ⟨dX12_mark_29, rfl⟩ ki_5 ?_
  refine y_iload_n (i := 1) (n := 31) ⟨dX12_mark_30, rfl⟩ rfl ?_
  refine y_imul (n := 32) ⟨dX12_mark_31, rfl⟩ ?_
  refine y_istore_n (i := 3) (n := 33) (L2 := [some (.ref 66), some (.int x1), some (.int x2), some (.int (5 * x1)), none]) ⟨dX12_mark_32, rfl⟩ (by decide) rfl rfl ?_
  refine y_iload_n (i := 2) (n := 34) ⟨dX12_mark_33, rfl⟩ rfl ?_
  refine y_if_ne (t := 117) (n := 37) ⟨dX12_mark_34, rfl, rfl⟩ (fun (hc : ¬ (x2 = 0)) => ?_) (fun (hc : x2 = 0) => ?_)
  · replace hf := i_f hc hf
    refine y_aload_n (i := 0) (n := 118) ⟨dX12_mark_117, rfl⟩ rfl ?_
    refine y_aload_n (i := 0) (n := 119) ⟨dX12_mark_118, rfl⟩ rfl ?_
    refine y_getR (n := 122) ⟨dX12_mark_119, rfl⟩ kfX12_204 l_66 rfl r_66_99 ?_
    refine y_iload_n (i := 3) (n := 123) ⟨dX12_mark_122, rfl⟩ rfl ?_
    obtain ⟨hg1, hf⟩ := g_s hf
    refine y_iaload (n := 124) ⟨dX12_mark_123, rfl⟩ l_131 hg1 ?_
    refine y_putI (n := 127) ⟨dX12_mark_124, rfl⟩ kfX12_235 l_66 (by decide +kernel) rfl ?_
    refine y_aload_n (i := 0) (n := 128) ⟨dX12_mark_127, rfl⟩ rfl ?_
    refine y_aload_n (i := 0) (n := 129) ⟨dX12_mark_128, rfl⟩ rfl ?_
    refine y_getR (n := 132) ⟨dX12_mark_129, rfl⟩ kfX12_204 l_66 rfl r_66_99 ?_
    refine y_iload_n (i := 3) (n := 133) ⟨dX12_mark_132, rfl⟩ rfl ?_
    refine y_iconst (n := 134) (v := 1) ⟨dX12_mark_133, rfl⟩ ki_1 ?_
    refine y_iadd (n := 135) ⟨dX12_mark_134, rfl⟩ ?_
    obtain ⟨hg2, hf⟩ := g_s hf
    refine y_iaload (n := 136) ⟨dX12_mark_135, rfl⟩ l_131 hg2 ?_
    refine y_putI (n := 139) ⟨dX12_mark_136, rfl⟩ kfX12_228 l_66 (by decide +kernel) rfl ?_
    refine y_aload_n (i := 0) (n := 140) ⟨dX12_mark_139, rfl⟩ rfl ?_
    refine y_aload_n (i := 0) (n := 141) ⟨dX12_mark_140, rfl⟩ rfl ?_
    refine y_getR (n := 144) ⟨dX12_mark_141, rfl⟩ kfX12_204 l_66 rfl r_66_99 ?_
    refine y_iload_n (i := 3) (n := 145) ⟨dX12_mark_144, rfl⟩ rfl ?_
    refine y_iconst (n := 146) (v := 2) ⟨dX12_mark_145, rfl⟩ ki_2 ?_
    refine y_iadd (n := 147) ⟨dX12_mark_146, rfl⟩ ?_
    obtain ⟨hg3, hf⟩ := g_s hf
    refine y_iaload (n := 148) ⟨dX12_mark_147, rfl⟩ l_131 hg3 ?_
    refine y_putI (n := 151) ⟨dX12_mark_148, rfl⟩ kfX12_475 l_66 (by decide +kernel) rfl ?_
    refine y_aload_n (i := 0) (n := 152) ⟨dX12_mark_151, rfl⟩ rfl ?_
    refine y_aload_n (i := 0) (n := 153) ⟨dX12_mark_152, rfl⟩ rfl ?_
    refine y_getR (n := 156) ⟨dX12_mark_153, rfl⟩ kfX12_204 l_66 rfl r_66_99 ?_
    refine y_iload_n (i := 3) (n := 157) ⟨dX12_mark_156, rfl⟩ rfl ?_
    refine y_iconst (n := 158) (v := 3) ⟨dX12_mark_157, rfl⟩ ki_3 ?_
    refine y_iadd (n := 159) ⟨dX12_mark_158, rfl⟩ ?_
    obtain ⟨hg4, hf⟩ := g_s hf
    refine y_iaload (n := 160) ⟨dX12_mark_159, rfl⟩ l_131 hg4 ?_
    refine y_putI (n := 163) ⟨dX12_mark_160, rfl⟩ kfX12_545 l_66 (by decide +kernel) rfl ?_
    refine y_aload_n (i := 0) (n := 164) ⟨dX12_mark_163, rfl⟩ rfl ?_
    refine y_aload_n (i := 0) (n := 165) ⟨dX12_mark_164, rfl⟩ rfl ?_
    refine y_getR (n := 168) ⟨dX12_mark_165, rfl⟩ kfX12_204 l_66 rfl r_66_99 ?_
    refine y_iload_n (i := 3) (n := 169) ⟨dX12_mark_168, rfl⟩ rfl ?_
    refine y_iconst (n := 170) (v := 4) ⟨dX12_mark_169, rfl⟩ ki_4 ?_
    refine y_iadd (n := 171) ⟨dX12_mark_170, rfl⟩ ?_
    obtain ⟨hg5, hf⟩ := g_s hf
    refine y_iaload (n := 172) ⟨dX12_mark_171, rfl⟩ l_131 hg5 ?_
    refine y_putI (n := 175) ⟨dX12_mark_172, rfl⟩ kfX12_508 l_66 (by decide +kernel) rfl ?_
    refine y_iconst (n := 176) (v := 0) ⟨dX12_mark_175, rfl⟩ ki_0 ?_
    refine y_istore (i := 4) (n := 178) (L2 := [some (.ref 66), some (.int x1), some (.int x2), some (.int (5 * x1)), some (.int 0)]) ⟨dX12_mark_176, rfl⟩ (by decide) rfl rfl ?_
    obtain ⟨r10, hl9, hf⟩ := b_s hf
    cases hf
    exact y_wk (L2 := [some (.ref 66), some (.int x1), none, none, some (.int 0)]) ⟨Or.inr rfl, Or.inr rfl, Or.inl rfl, Or.inl rfl, Or.inr rfl, trivial⟩ (wl_mo_mark_178 x1 0 (sI (sI (sI (sI (sI M 66 9 (gI M 131 (5 * x1).toNatClampNeg)) 66 3 (gI (sI M 66 9 (gI M 131 (5 * x1).toNatClampNeg)) 131 ((5 * x1) + 1).toNatClampNeg)) 66 55 (gI (sI (sI M 66 9 (gI M 131 (5 * x1).toNatClampNeg)) 66 3 (gI (sI M 66 9 (gI M 131 (5 * x1).toNatClampNeg)) 131 ((5 * x1) + 1).toNatClampNeg)) 131 ((5 * x1) + 2).toNatClampNeg)) 66 77 (gI (sI (sI (sI M 66 9 (gI M 131 (5 * x1).toNatClampNeg)) 66 3 (gI (sI M 66 9 (gI M 131 (5 * x1).toNatClampNeg)) 131 ((5 * x1) + 1).toNatClampNeg)) 66 55 (gI (sI (sI M 66 9 (gI M 131 (5 * x1).toNatClampNeg)) 66 3 (gI (sI M 66 9 (gI M 131 (5 * x1).toNatClampNeg)) 131 ((5 * x1) + 1).toNatClampNeg)) 131 ((5 * x1) + 2).toNatClampNeg)) 131 ((5 * x1) + 3).toNatClampNeg)) 66 69 (gI (sI (sI (sI (sI M 66 9 (gI M 131 (5 * x1).toNatClampNeg)) 66 3 (gI (sI M 66 9 (gI M 131 (5 * x1).toNatClampNeg)) 131 ((5 * x1) + 1).toNatClampNeg)) 66 55 (gI (sI (sI M 66 9 (gI M 131 (5 * x1).toNatClampNeg)) 66 3 (gI (sI M 66 9 (gI M 131 (5 * x1).toNatClampNeg)) 131 ((5 * x1) + 1).toNatClampNeg)) 131 ((5 * x1) + 2).toNatClampNeg)) 66 77 (gI (sI (sI (sI M 66 9 (gI M 131 (5 * x1).toNatClampNeg)) 66 3 (gI (sI M 66 9 (gI M 131 (5 * x1).toNatClampNeg)) 131 ((5 * x1) + 1).toNatClampNeg)) 66 55 (gI (sI (sI M 66 9 (gI M 131 (5 * x1).toNatClampNeg)) 66 3 (gI (sI M 66 9 (gI M 131 (5 * x1).toNatClampNeg)) 131 ((5 * x1) + 1).toNatClampNeg)) 131 ((5 * x1) + 2).toNatClampNeg)) 131 ((5 * x1) + 3).toNatClampNeg)) 131 ((5 * x1) + 4).toNatClampNeg)) hl9 hk)
  · replace hf := i_t hc hf
    refine y_aload_n (i := 0) (n := 38) ⟨dX12_mark_37, rfl⟩ rfl ?_
    refine y_dup_r (n := 39) ⟨dX12_mark_38, rfl⟩ ?_
    refine y_getI (n := 42) ⟨dX12_mark_39, rfl⟩ kfX12_590 l_66 rfl ?_
    refine y_iconst (n := 43) (v := 1) ⟨dX12_mark_42, rfl⟩ ki_1 ?_
    refine y_iadd (n := 44) ⟨dX12_mark_43, rfl⟩ ?_
    refine y_putI (n := 47) ⟨dX12_mark_44, rfl⟩ kfX12_590 l_66 (by decide +kernel) rfl ?_
    refine y_aload_n (i := 0) (n := 48) ⟨dX12_mark_47, rfl⟩ rfl ?_
    refine y_getR (n := 51) ⟨dX12_mark_48, rfl⟩ kfX12_201 l_66 rfl r_66_98 ?_
    refine y_iload_n (i := 1) (n := 52) ⟨dX12_mark_51, rfl⟩ rfl ?_
    refine y_aload_n (i := 0) (n := 53) ⟨dX12_mark_52, rfl⟩ rfl ?_
    refine y_getI (n := 56) ⟨dX12_mark_53, rfl⟩ kfX12_590 l_66 rfl ?_
    obtain ⟨hg11, hf⟩ := g_s hf
    refine y_iastore (n := 57) ⟨dX12_mark_56, rfl⟩ l_130 hg11 ?_
    refine y_aload_n (i := 0) (n := 58) ⟨dX12_mark_57, rfl⟩ rfl ?_
    refine y_getR (n := 61) ⟨dX12_mark_58, rfl⟩ kfX12_204 l_66 rfl r_66_99 ?_
    refine y_iload_n (i := 3) (n := 62) ⟨dX12_mark_61, rfl⟩ rfl ?_
    refine y_aload_n (i := 0) (n := 63) ⟨dX12_mark_62, rfl⟩ rfl ?_
    refine y_getI (n := 66) ⟨dX12_mark_63, rfl⟩ kfX12_235 l_66 rfl ?_
    obtain ⟨hg12, hf⟩ := g_s hf
    refine y_iastore (n := 67) ⟨dX12_mark_66, rfl⟩ l_131 hg12 ?_
    refine y_aload_n (i := 0) (n := 68) ⟨dX12_mark_67, rfl⟩ rfl ?_
    refine y_getR (n := 71) ⟨dX12_mark_68, rfl⟩ kfX12_204 l_66 rfl r_66_99 ?_
    refine y_iload_n (i := 3) (n := 72) ⟨dX12_mark_71, rfl⟩ rfl ?_
    refine y_iconst (n := 73) (v := 1) ⟨dX12_mark_72, rfl⟩ ki_1 ?_
    refine y_iadd (n := 74) ⟨dX12_mark_73, rfl⟩ ?_
    refine y_aload_n (i := 0) (n := 75) ⟨dX12_mark_74, rfl⟩ rfl ?_
    refine y_getI (n := 78) ⟨dX12_mark_75, rfl⟩ kfX12_228 l_66 rfl ?_
    obtain ⟨hg13, hf⟩ := g_s hf
    refine y_iastore (n := 79) ⟨dX12_mark_78, rfl⟩ l_131 hg13 ?_
    refine y_aload_n (i := 0) (n := 80) ⟨dX12_mark_79, rfl⟩ rfl ?_
    refine y_getR (n := 83) ⟨dX12_mark_80, rfl⟩ kfX12_204 l_66 rfl r_66_99 ?_
    refine y_iload_n (i := 3) (n := 84) ⟨dX12_mark_83, rfl⟩ rfl ?_
    refine y_iconst (n := 85) (v := 2) ⟨dX12_mark_84, rfl⟩ ki_2 ?_
    refine y_iadd (n := 86) ⟨dX12_mark_85, rfl⟩ ?_
    refine y_aload_n (i := 0) (n := 87) ⟨dX12_mark_86, rfl⟩ rfl ?_
    refine y_getI (n := 90) ⟨dX12_mark_87, rfl⟩ kfX12_475 l_66 rfl ?_
    obtain ⟨hg14, hf⟩ := g_s hf
    refine y_iastore (n := 91) ⟨dX12_mark_90, rfl⟩ l_131 hg14 ?_
    refine y_aload_n (i := 0) (n := 92) ⟨dX12_mark_91, rfl⟩ rfl ?_
    refine y_getR (n := 95) ⟨dX12_mark_92, rfl⟩ kfX12_204 l_66 rfl r_66_99 ?_
    refine y_iload_n (i := 3) (n := 96) ⟨dX12_mark_95, rfl⟩ rfl ?_
    refine y_iconst (n := 97) (v := 3) ⟨dX12_mark_96, rfl⟩ ki_3 ?_
    refine y_iadd (n := 98) ⟨dX12_mark_97, rfl⟩ ?_
    refine y_aload_n (i := 0) (n := 99) ⟨dX12_mark_98, rfl⟩ rfl ?_
    refine y_getI (n := 102) ⟨dX12_mark_99, rfl⟩ kfX12_545 l_66 rfl ?_
    obtain ⟨hg15, hf⟩ := g_s hf
    refine y_iastore (n := 103) ⟨dX12_mark_102, rfl⟩ l_131 hg15 ?_
    refine y_aload_n (i := 0) (n := 104) ⟨dX12_mark_103, rfl⟩ rfl ?_
    refine y_getR (n := 107) ⟨dX12_mark_104, rfl⟩ kfX12_204 l_66 rfl r_66_99 ?_
    refine y_iload_n (i := 3) (n := 108) ⟨dX12_mark_107, rfl⟩ rfl ?_
    refine y_iconst (n := 109) (v := 4) ⟨dX12_mark_108, rfl⟩ ki_4 ?_
    refine y_iadd (n := 110) ⟨dX12_mark_109, rfl⟩ ?_
    refine y_aload_n (i := 0) (n := 111) ⟨dX12_mark_110, rfl⟩ rfl ?_
    refine y_getI (n := 114) ⟨dX12_mark_111, rfl⟩ kfX12_508 l_66 rfl ?_
    obtain ⟨hg16, hf⟩ := g_s hf
    refine y_iastore (n := 115) ⟨dX12_mark_114, rfl⟩ l_131 hg16 ?_
    refine y_iconst (n := 116) (v := 1) ⟨dX12_mark_115, rfl⟩ ki_1 ?_
    cases hf
    exact y_ireturn (n := 117) ⟨dX12_mark_116, rfl⟩ rfl rfl hk
theorem ok_mo_mark (a1 : Int32) (a2 : Int32) (M : dM) {o : (Bool × dM)} (hf : f_mo_mark a1 a2 M = some o) : mO mX12_mark 2 [.ref 66, .int a1, .int a2] M (some (.int (bI o.1))) o.2 := by
  refine y_ok (by decide +kernel) (Nat.le_of_ble_eq_true rfl) (L0 := [some (.ref 66), some (.int a1), some (.int a2), none, none]) rfl ?_
  have hk := mR_mQ (some (.int (bI o.1))) o.2
  generalize mQ _ _ = Q at hk ⊢
  unfold f_mo_mark at hf
  refine y_aload_n (i := 0) (n := 1) ⟨dX12_mark_0, rfl⟩ rfl ?_
  refine y_iconst (n := 2) (v := 0) ⟨dX12_mark_1, rfl⟩ ki_0 ?_
  refine y_putI (n := 5) ⟨dX12_mark_2, rfl⟩ kfX12_214 l_66 (by decide +kernel) rfl ?_
  refine y_iload_n (i := 1) (n := 6) ⟨dX12_mark_5, rfl⟩ rfl ?_
  refine y_iconst (n := 7) (v := 0) ⟨dX12_mark_6, rfl⟩ ki_0 ?_
  refine y_iconst (n := 8) (v := 3) ⟨dX12_mark_7, rfl⟩ ki_3 ?_
  refine c_mo_within a1 0 3 (sI M 66 0 0) (n := 11) ⟨dX12_mark_8, rfl⟩ klX12_221 rfl (by decide) (Nat.le_of_ble_eq_true rfl) rfl rfl ?_
  refine y_if_eq (t := 27) (n := 14) ⟨dX12_mark_11, rfl, rfl⟩ (fun h0 => ?_) (fun h0 => ?_)
  · have hc := bI_0 h0
    replace hf := i_f hc hf
    refine y_iconst (n := 28) (v := 0) ⟨dX12_mark_27, rfl⟩ ki_0 ?_
    cases hf
    exact y_ireturn (n := 29) ⟨dX12_mark_28, rfl⟩ rfl rfl hk
  · have hc := bI_1 h0
    replace hf := i_t hc hf
    refine y_iload_n (i := 2) (n := 15) ⟨dX12_mark_14, rfl⟩ rfl ?_
    refine y_if_eq (t := 29) (n := 18) ⟨dX12_mark_15, rfl, rfl⟩ (fun (hc : a2 = 0) => ?_) (fun (hc : ¬ (a2 = 0)) => ?_)
    · replace hf := i_t hc hf
      exact y_wk (L2 := [some (.ref 66), some (.int a1), some (.int a2), none, none]) ⟨Or.inr rfl, Or.inr rfl, Or.inr rfl, Or.inr rfl, Or.inr rfl, trivial⟩ (w_t_mo_mark_29 a1 a2 (sI M 66 0 0) hf hk)
    · replace hf := i_f hc hf
      refine y_aload_n (i := 0) (n := 19) ⟨dX12_mark_18, rfl⟩ rfl ?_
      refine y_getR (n := 22) ⟨dX12_mark_19, rfl⟩ kfX12_201 l_66 rfl r_66_98 ?_
      refine y_iload_n (i := 1) (n := 23) ⟨dX12_mark_22, rfl⟩ rfl ?_
      obtain ⟨hg17, hf⟩ := g_s hf
      refine y_iaload (n := 24) ⟨dX12_mark_23, rfl⟩ l_130 hg17 ?_
      refine y_if_ne (t := 29) (n := 27) ⟨dX12_mark_24, rfl, rfl⟩ (fun (hc : ¬ ((gI (sI M 66 0 0) 130 a1.toNatClampNeg) = 0)) => ?_) (fun (hc : (gI (sI M 66 0 0) 130 a1.toNatClampNeg) = 0) => ?_)
      · replace hf := i_f hc hf
        exact y_wk (L2 := [some (.ref 66), some (.int a1), some (.int a2), none, none]) ⟨Or.inr rfl, Or.inr rfl, Or.inr rfl, Or.inr rfl, Or.inr rfl, trivial⟩ (w_t_mo_mark_29 a1 a2 (sI M 66 0 0) hf hk)
      · replace hf := i_t hc hf
        refine y_iconst (n := 28) (v := 0) ⟨dX12_mark_27, rfl⟩ ki_0 ?_
        cases hf
        exact y_ireturn (n := 29) ⟨dX12_mark_28, rfl⟩ rfl rfl hk
theorem c_mo_mark (a1 : Int32) (a2 : Int32) (M : dM) {o : (Bool × dM)} {y : mz_M} {d : Nat} {Q : mz_P} {pc n i : Nat} {L : List (Option Value)} {st : List Value} (h : mz_d y.2.1 pc n 3 (.invokevirtual i)) (hl : mz_ml y.1.cls i yX12_mark) (hf : f_mo_mark a1 a2 M = some o) (hd : 2 + 1 ≤ d) (hsm : (st.map (fun v => v.category)).sum ≤ 8) (hLr : mz_rL 133 L = true) (hSr : mz_rS 133 st = true) (kk : mW y d Q n L (.int (bI o.1) :: st) o.2) : mW y d Q pc L (.int a2 :: .int a1 :: .ref 66 :: st) M :=
  y_callV kmX12_mark kvX12_mark l_66 (by decide +kernel) (by decide +kernel) h hl (ok_mo_mark a1 a2 M hf) (vs := [.int a1, .int a2]) rfl rfl hd hsm hLr hSr kk
noncomputable def t_mo_count_56 (x1 : Int32) (x2 : Int32) (M : dM) : Option (Int32 × dM) :=
  if x1 = 7 then
    some (x2, M)
  else
    if x1 = 0 then
      some ((gI M 66 9), M)
    else
      if x1 = 1 then
        some ((gI M 66 3), M)
      else
        if x1 = 2 then
          some ((gI M 66 55), M)
        else
          if x1 = 3 then
            some ((gI M 66 77), M)
          else
            if x1 = 4 then
              some ((gI M 66 69), M)
            else
              if x1 = 5 then
                (f_mo_ruled M).bind fun v1 =>
                (f_mo_bits v1).bind fun v3 =>
                some (v3, M)
              else
                some ((gI M 66 17), M)
def K_mo_count_27 (Q : mz_P) (x1 : Int32) (M : dM) : ((Int32 × Int32) ⊕ Int32) → Prop
  | .inl s => mW mX12_count 2 Q 27 [some (.ref 66), some (.int x1), some (.int s.1), some (.int s.2)] [] M
  | .inr t => mW mX12_count 2 Q 56 [some (.ref 66), some (.int x1), some (.int t), none] [] M
noncomputable def b_mo_count_27_27 (x1 : Int32) (x2 : Int32) (x3 : Int32) (M : dM) : Option ((Int32 × Int32) ⊕ Int32) :=
  if 80 ≤ x3 then
    some (.inr x2)
  else
    gd (vp_in x3 80) <|
    if (gI M 67 x3.toNatClampNeg) < 0 then
      some (.inl ((x2 + 0), (x3 + 1)))
    else
      some (.inl ((x2 + 1), (x3 + 1)))
noncomputable def l_mo_count_27 (x1 : Int32) (x2 : Int32) (x3 : Int32) (M : dM) : Option Int32 := lpc (fun s => b_mo_count_27_27 x1 s.1 s.2 M) (x2, x3)
noncomputable def f_mo_count (a1 : Int32) (M : dM) : Option (Int32 × dM) :=
  if (f_mo_within a1 0 7) = true then
    if a1 = 7 then
      (l_mo_count_27 a1 0 0 (sI M 66 0 0)).bind fun t6 =>
        t_mo_count_56 a1 t6 (sI M 66 0 0)
    else
      t_mo_count_56 a1 0 (sI M 66 0 0)
  else
    some ((-1), (sI M 66 0 0))
theorem w_t_mo_count_56 (x1 : Int32) (x2 : Int32) (M : dM) {Q : mz_P} {o : (Int32 × dM)} (hf : t_mo_count_56 x1 x2 M = some o) (hk : mR Q (some (.int o.1)) o.2) : mW mX12_count 2 Q 56 [some (.ref 66), some (.int x1), some (.int x2), none] [] M := by
  unfold t_mo_count_56 at hf
  refine y_iload_n (i := 1) (n := 57) ⟨dX12_count_56, rfl⟩ rfl ?_
  refine y_bipush (n := 59) (v := 7) ⟨dX12_count_57, rfl⟩ kb_7 ?_
  refine y_icmp_ne (t := 64) (n := 62) ⟨dX12_count_59, rfl, rfl⟩ (fun (hc : ¬ (x1 = 7)) => ?_) (fun (hc : x1 = 7) => ?_)
  · replace hf := i_f hc hf
    refine y_iload_n (i := 1) (n := 65) ⟨dX12_count_64, rfl⟩ rfl ?_
    refine y_if_ne (t := 75) (n := 68) ⟨dX12_count_65, rfl, rfl⟩ (fun (hc : ¬ (x1 = 0)) => ?_) (fun (hc : x1 = 0) => ?_)
    · replace hf := i_f hc hf
      refine y_iload_n (i := 1) (n := 76) ⟨dX12_count_75, rfl⟩ rfl ?_
      refine y_iconst (n := 77) (v := 1) ⟨dX12_count_76, rfl⟩ ki_1 ?_
      refine y_icmp_ne (t := 87) (n := 80) ⟨dX12_count_77, rfl, rfl⟩ (fun (hc : ¬ (x1 = 1)) => ?_) (fun (hc : x1 = 1) => ?_)
      · replace hf := i_f hc hf
        refine y_iload_n (i := 1) (n := 88) ⟨dX12_count_87, rfl⟩ rfl ?_
        refine y_iconst (n := 89) (v := 2) ⟨dX12_count_88, rfl⟩ ki_2 ?_
        refine y_icmp_ne (t := 99) (n := 92) ⟨dX12_count_89, rfl, rfl⟩ (fun (hc : ¬ (x1 = 2)) => ?_) (fun (hc : x1 = 2) => ?_)
        · replace hf := i_f hc hf
          refine y_iload_n (i := 1) (n := 100) ⟨dX12_count_99, rfl⟩ rfl ?_
          refine y_iconst (n := 101) (v := 3) ⟨dX12_count_100, rfl⟩ ki_3 ?_
          refine y_icmp_ne (t := 111) (n := 104) ⟨dX12_count_101, rfl, rfl⟩ (fun (hc : ¬ (x1 = 3)) => ?_) (fun (hc : x1 = 3) => ?_)
          · replace hf := i_f hc hf
            refine y_iload_n (i := 1) (n := 112) ⟨dX12_count_111, rfl⟩ rfl ?_
            refine y_iconst (n := 113) (v := 4) ⟨dX12_count_112, rfl⟩ ki_4 ?_
            refine y_icmp_ne (t := 123) (n := 116) ⟨dX12_count_113, rfl, rfl⟩ (fun (hc : ¬ (x1 = 4)) => ?_) (fun (hc : x1 = 4) => ?_)
            · replace hf := i_f hc hf
              refine y_iload_n (i := 1) (n := 124) ⟨dX12_count_123, rfl⟩ rfl ?_
              refine y_iconst (n := 125) (v := 5) ⟨dX12_count_124, rfl⟩ ki_5 ?_
              refine y_icmp_ne (t := 138) (n := 128) ⟨dX12_count_125, rfl, rfl⟩ (fun (hc : ¬ (x1 = 5)) => ?_) (fun (hc : x1 = 5) => ?_)
              · replace hf := i_f hc hf
                refine y_aload_n (i := 0) (n := 139) ⟨dX12_count_138, rfl⟩ rfl ?_
                refine y_getI (n := 142) ⟨dX12_count_139, rfl⟩ kfX12_258 l_66 rfl ?_
                cases hf
                exact y_ireturn (n := 143) ⟨dX12_count_142, rfl⟩ rfl rfl hk
              · replace hf := i_t hc hf
                refine y_aload_n (i := 0) (n := 129) ⟨dX12_count_128, rfl⟩ rfl ?_
                obtain ⟨v1, hv2, hf⟩ := b_s hf
                refine c_mo_ruled M (n := 132) ⟨dX12_count_129, rfl⟩ klX12_539 hv2 (by decide) (Nat.le_of_ble_eq_true rfl) rfl rfl ?_
                obtain ⟨v3, hv4, hf⟩ := b_s hf
                refine c_mo_bits v1 M (n := 135) ⟨dX12_count_132, rfl⟩ klX12_242 hv4 (by decide) (Nat.le_of_ble_eq_true rfl) rfl rfl ?_
                refine y_goto (t := 142) ⟨dX12_count_135, rfl, rfl⟩ ?_
                cases hf
                exact y_ireturn (n := 143) ⟨dX12_count_142, rfl⟩ rfl rfl hk
            · replace hf := i_t hc hf
              refine y_aload_n (i := 0) (n := 117) ⟨dX12_count_116, rfl⟩ rfl ?_
              refine y_getI (n := 120) ⟨dX12_count_117, rfl⟩ kfX12_508 l_66 rfl ?_
              refine y_goto (t := 142) ⟨dX12_count_120, rfl, rfl⟩ ?_
              cases hf
              exact y_ireturn (n := 143) ⟨dX12_count_142, rfl⟩ rfl rfl hk
          · replace hf := i_t hc hf
            refine y_aload_n (i := 0) (n := 105) ⟨dX12_count_104, rfl⟩ rfl ?_
            refine y_getI (n := 108) ⟨dX12_count_105, rfl⟩ kfX12_545 l_66 rfl ?_
            refine y_goto (t := 142) ⟨dX12_count_108, rfl, rfl⟩ ?_
            cases hf
            exact y_ireturn (n := 143) ⟨dX12_count_142, rfl⟩ rfl rfl hk
        · replace hf := i_t hc hf
          refine y_aload_n (i := 0) (n := 93) ⟨dX12_count_92, rfl⟩ rfl ?_
          refine y_getI (n := 96) ⟨dX12_count_93, rfl⟩ kfX12_475 l_66 rfl ?_
          refine y_goto (t := 142) ⟨dX12_count_96, rfl, rfl⟩ ?_
          cases hf
          exact y_ireturn (n := 143) ⟨dX12_count_142, rfl⟩ rfl rfl hk
      · replace hf := i_t hc hf
        refine y_aload_n (i := 0) (n := 81) ⟨dX12_count_80, rfl⟩ rfl ?_
        refine y_getI (n := 84) ⟨dX12_count_81, rfl⟩ kfX12_228 l_66 rfl ?_
        refine y_goto (t := 142) ⟨dX12_count_84, rfl, rfl⟩ ?_
        cases hf
        exact y_ireturn (n := 143) ⟨dX12_count_142, rfl⟩ rfl rfl hk
    · replace hf := i_t hc hf
      refine y_aload_n (i := 0) (n := 69) ⟨dX12_count_68, rfl⟩ rfl ?_
      refine y_getI (n := 72) ⟨dX12_count_69, rfl⟩ kfX12_235 l_66 rfl ?_
      refine y_goto (t := 142) ⟨dX12_count_72, rfl, rfl⟩ ?_
      cases hf
      exact y_ireturn (n := 143) ⟨dX12_count_142, rfl⟩ rfl rfl hk
  · replace hf := i_t hc hf
    refine y_iload_n (i := 2) (n := 63) ⟨dX12_count_62, rfl⟩ rfl ?_
    cases hf
    exact y_ireturn (n := 64) ⟨dX12_count_63, rfl⟩ rfl rfl hk
theorem w_b_mo_count_27_27 (x1 : Int32) (x2 : Int32) (x3 : Int32)  (M : dM) {Q : mz_P} {o : ((Int32 × Int32) ⊕ Int32)} (hf : b_mo_count_27_27 x1 x2 x3 M = some o) (hk : K_mo_count_27 Q x1 M o) : mW mX12_count 2 Q 27 [some (.ref 66), some (.int x1), some (.int x2), some (.int x3)] [] M := by
  unfold b_mo_count_27_27 at hf
  refine y_iload_n (i := 3) (n := 28) ⟨dX12_count_27, rfl⟩ rfl ?_
  refine y_bipush (n := 30) (v := 80) ⟨dX12_count_28, rfl⟩ kb_80 ?_
  refine y_icmp_ge (t := 56) (n := 33) ⟨dX12_count_30, rfl, rfl⟩ (fun (hc : 80 ≤ x3) => ?_) (fun (hc : ¬ (80 ≤ x3)) => ?_)
  · replace hf := i_t hc hf
    cases hf
    exact y_wk (L2 := [some (.ref 66), some (.int x1), some (.int x2), none]) ⟨Or.inr rfl, Or.inr rfl, Or.inr rfl, Or.inl rfl, trivial⟩ hk
  · replace hf := i_f hc hf
    refine y_iload_n (i := 2) (n := 34) ⟨dX12_count_33, rfl⟩ rfl ?_
    refine y_aload_n (i := 0) (n := 35) ⟨dX12_count_34, rfl⟩ rfl ?_
    refine y_getR (n := 38) ⟨dX12_count_35, rfl⟩ kfX12_7 l_66 rfl r_66_1 ?_
    refine y_iload_n (i := 3) (n := 39) ⟨dX12_count_38, rfl⟩ rfl ?_
    obtain ⟨hg5, hf⟩ := g_s hf
    refine y_iaload (n := 40) ⟨dX12_count_39, rfl⟩ l_67 hg5 ?_
    refine y_if_lt (t := 47) (n := 43) ⟨dX12_count_40, rfl, rfl⟩ (fun (hc : (gI M 67 x3.toNatClampNeg) < 0) => ?_) (fun (hc : ¬ ((gI M 67 x3.toNatClampNeg) < 0)) => ?_)
    · replace hf := i_t hc hf
      refine y_iconst (n := 48) (v := 0) ⟨dX12_count_47, rfl⟩ ki_0 ?_
      refine y_iadd (n := 49) ⟨dX12_count_48, rfl⟩ ?_
      refine y_istore_n (i := 2) (n := 50) (L2 := [some (.ref 66), some (.int x1), some (.int (x2 + 0)), some (.int x3)]) ⟨dX12_count_49, rfl⟩ (by decide) rfl rfl ?_
      refine y_iinc (i := 3) (n := 53) (b := (x3 + 1)) (L2 := [some (.ref 66), some (.int x1), some (.int (x2 + 0)), some (.int (x3 + 1))]) ⟨dX12_count_50, rfl⟩ rfl (by rw [ki_1]) (by decide) rfl rfl ?_
      refine y_goto (t := 27) ⟨dX12_count_53, rfl, rfl⟩ ?_
      cases hf
      exact y_wk (L2 := [some (.ref 66), some (.int x1), some (.int (x2 + 0)), some (.int (x3 + 1))]) ⟨Or.inr rfl, Or.inr rfl, Or.inr rfl, Or.inr rfl, trivial⟩ hk
    · replace hf := i_f hc hf
      refine y_iconst (n := 44) (v := 1) ⟨dX12_count_43, rfl⟩ ki_1 ?_
      refine y_goto (t := 48) ⟨dX12_count_44, rfl, rfl⟩ ?_
      refine y_iadd (n := 49) ⟨dX12_count_48, rfl⟩ ?_
      refine y_istore_n (i := 2) (n := 50) (L2 := [some (.ref 66), some (.int x1), some (.int (x2 + 1)), some (.int x3)]) ⟨dX12_count_49, rfl⟩ (by decide) rfl rfl ?_
      refine y_iinc (i := 3) (n := 53) (b := (x3 + 1)) (L2 := [some (.ref 66), some (.int x1), some (.int (x2 + 1)), some (.int (x3 + 1))]) ⟨dX12_count_50, rfl⟩ rfl (by rw [ki_1]) (by decide) rfl rfl ?_
      refine y_goto (t := 27) ⟨dX12_count_53, rfl, rfl⟩ ?_
      cases hf
      exact y_wk (L2 := [some (.ref 66), some (.int x1), some (.int (x2 + 1)), some (.int (x3 + 1))]) ⟨Or.inr rfl, Or.inr rfl, Or.inr rfl, Or.inr rfl, trivial⟩ hk
theorem wl_mo_count_27 (x1 : Int32) (x2 : Int32) (x3 : Int32) (M : dM) {Q : mz_P} {x : Int32} (hf : l_mo_count_27 x1 x2 x3 M = some x) (hk : K_mo_count_27 Q x1 M (.inr x)) : mW mX12_count 2 Q 27 [some (.ref 66), some (.int x1), some (.int x2), some (.int x3)] [] M :=
  lpc_wp (σ := (Int32 × Int32)) (ξ := Int32) (s := (x2, x3)) (Wh := fun s => mW mX12_count 2 Q 27 [some (.ref 66), some (.int x1), some (.int s.1), some (.int s.2)] [] M) (K := K_mo_count_27 Q x1 M) (fun _ h => h) (fun s o hb hk => w_b_mo_count_27_27 x1 s.1 s.2 M hb hk) hf hk
theorem ok_mo_count (a1 : Int32) (M : dM) {o : (Int32 × dM)} (hf : f_mo_count a1 M = some o) : mO mX12_count 2 [.ref 66, .int a1] M (some (.int o.1)) o.2 := by
  refine y_ok (by decide +kernel) (Nat.le_of_ble_eq_true rfl) (L0 := [some (.ref 66), some (.int a1), none, none]) rfl ?_
  have hk := mR_mQ (some (.int o.1)) o.2
  generalize mQ _ _ = Q at hk ⊢
  unfold f_mo_count at hf
  refine y_aload_n (i := 0) (n := 1) ⟨dX12_count_0, rfl⟩ rfl ?_
  refine y_iconst (n := 2) (v := 0) ⟨dX12_count_1, rfl⟩ ki_0 ?_
  refine y_putI (n := 5) ⟨dX12_count_2, rfl⟩ kfX12_214 l_66 (by decide +kernel) rfl ?_
  refine y_iload_n (i := 1) (n := 6) ⟨dX12_count_5, rfl⟩ rfl ?_
  refine y_iconst (n := 7) (v := 0) ⟨dX12_count_6, rfl⟩ ki_0 ?_
  refine y_bipush (n := 9) (v := 7) ⟨dX12_count_7, rfl⟩ kb_7 ?_
  refine c_mo_within a1 0 7 (sI M 66 0 0) (n := 12) ⟨dX12_count_9, rfl⟩ klX12_221 rfl (by decide) (Nat.le_of_ble_eq_true rfl) rfl rfl ?_
  refine y_if_ne (t := 17) (n := 15) ⟨dX12_count_12, rfl, rfl⟩ (fun h0 => ?_) (fun h0 => ?_)
  · have hc := bI_1 h0
    replace hf := i_t hc hf
    refine y_iconst (n := 18) (v := 0) ⟨dX12_count_17, rfl⟩ ki_0 ?_
    refine y_istore_n (i := 2) (n := 19) (L2 := [some (.ref 66), some (.int a1), some (.int 0), none]) ⟨dX12_count_18, rfl⟩ (by decide) rfl rfl ?_
    refine y_iload_n (i := 1) (n := 20) ⟨dX12_count_19, rfl⟩ rfl ?_
    refine y_bipush (n := 22) (v := 7) ⟨dX12_count_20, rfl⟩ kb_7 ?_
    refine y_icmp_ne (t := 56) (n := 25) ⟨dX12_count_22, rfl, rfl⟩ (fun (hc : ¬ (a1 = 7)) => ?_) (fun (hc : a1 = 7) => ?_)
    · replace hf := i_f hc hf
      exact y_wk (L2 := [some (.ref 66), some (.int a1), some (.int 0), none]) ⟨Or.inr rfl, Or.inr rfl, Or.inr rfl, Or.inr rfl, trivial⟩ (w_t_mo_count_56 a1 0 (sI M 66 0 0) hf hk)
    · replace hf := i_t hc hf
      refine y_iconst (n := 26) (v := 0) ⟨dX12_count_25, rfl⟩ ki_0 ?_
      refine y_istore_n (i := 3) (n := 27) (L2 := [some (.ref 66), some (.int a1), some (.int 0), some (.int 0)]) ⟨dX12_count_26, rfl⟩ (by decide) rfl rfl ?_
      obtain ⟨t6, hl7, hf⟩ := b_s hf
      refine y_wk (L2 := [some (.ref 66), some (.int a1), some (.int 0), some (.int 0)]) ⟨Or.inr rfl, Or.inr rfl, Or.inr rfl, Or.inr rfl, trivial⟩ (wl_mo_count_27 a1 0 0 (sI M 66 0 0) hl7 ?_)
      show mW mX12_count 2 Q 56 [some (.ref 66), some (.int a1), some (.int t6), none] [] (sI M 66 0 0)
      exact y_wk (L2 := [some (.ref 66), some (.int a1), some (.int t6), none]) ⟨Or.inr rfl, Or.inr rfl, Or.inr rfl, Or.inr rfl, trivial⟩ (w_t_mo_count_56 a1 t6 (sI M 66 0 0) hf hk)
  · have hc := bI_0 h0
    replace hf := i_f hc hf
    refine y_iconst (n := 16) (v := (-1)) ⟨dX12_count_15, rfl⟩ ki_m1 ?_
    cases hf
    exact y_ireturn (n := 17) ⟨dX12_count_16, rfl⟩ rfl rfl hk
theorem c_mo_count (a1 : Int32) (M : dM) {o : (Int32 × dM)} {y : mz_M} {d : Nat} {Q : mz_P} {pc n i : Nat} {L : List (Option Value)} {st : List Value} (h : mz_d y.2.1 pc n 3 (.invokevirtual i)) (hl : mz_ml y.1.cls i yX12_count) (hf : f_mo_count a1 M = some o) (hd : 2 + 1 ≤ d) (hsm : (st.map (fun v => v.category)).sum ≤ 8) (hLr : mz_rL 133 L = true) (hSr : mz_rS 133 st = true) (kk : mW y d Q n L (.int o.1 :: st) o.2) : mW y d Q pc L (.int a1 :: .ref 66 :: st) M :=
  y_callV kmX12_count kvX12_count l_66 (by decide +kernel) (by decide +kernel) h hl (ok_mo_count a1 M hf) (vs := [.int a1]) rfl rfl hd hsm hLr hSr kk
