def K_la_valueOf_27_43_11 (Q : mz_P) (x1 : Int32) (x3 : Int32) : ((Int32 × Int32 × dM) ⊕ (Int32 × dM)) → Prop
  | .inl s => mW mX3_valueOf 2 Q 11 [some (.ref 27), some (.int x1), some (.ref 43), some (.int x3), some (.int s.1), some (.int s.2.1), none] [] s.2.2
  | .inr t => mW mX3_valueOf 2 Q 169 [some (.ref 27), none, none, none, some (.int t.1), none, none] [] t.2
noncomputable def b_la_valueOf_27_43_11_120 (x1 : Int32) (x3 : Int32) (x4 : Int32) (x5 : Int32) (y1 : Int32) (y2 : Int32) (M : dM) : Option ((Int32 × Int32 × dM) ⊕ (Int32 × dM)) :=
  gd (vp_in y1 32) <|
  some (.inl (x4, (x5 + 1), (sI M 31 y1.toNatClampNeg y2)))
noncomputable def b_la_valueOf_27_43_11_75 (x1 : Int32) (x3 : Int32) (x4 : Int32) (x5 : Int32) (y1 : Int32) (y2 : Int32) (M : dM) : Option ((Int32 × Int32 × dM) ⊕ (Int32 × dM)) :=
  gd (vp_in y1 32) <|
  some (.inl ((x4 + 1), (x5 + 1), (sI M 31 y1.toNatClampNeg y2)))
noncomputable def b_la_valueOf_27_43_11_11 (x1 : Int32) (x3 : Int32) (x4 : Int32) (x5 : Int32) (M : dM) : Option ((Int32 × Int32 × dM) ⊕ (Int32 × dM)) :=
  gd (vp_in x1 21) <|
  if (gI M 30 x1.toNatClampNeg) ≤ x5 then
    some (.inr (x4, M))
  else
    gd (vp_in x5 1000) <|
    if 20000 ≤ (gI M 28 x5.toNatClampNeg) then
      if (gI M 28 x5.toNatClampNeg) = 20000 then
        if x4 ≤ 0 then
          some (.inl (x4, (x5 + 1), M))
        else
          gd (vp_in (x4 - 1) 32) <|
          if (gI M 31 (x4 - 1).toNatClampNeg) = 0 then
            b_la_valueOf_27_43_11_120 x1 x3 x4 x5 (x4 - 1) 1 M
          else
            b_la_valueOf_27_43_11_120 x1 x3 x4 x5 (x4 - 1) 0 M
      else
        if x4 ≤ 1 then
          some (.inl (x4, (x5 + 1), M))
        else
          gd (vp_in ((x4 + (-1)) - 1) 32) <|
          gd (vp_in (x4 + (-1)) 32) <|
          some (.inl ((x4 + (-1)), (x5 + 1), (sI M 31 ((x4 + (-1)) - 1).toNatClampNeg (f_la_join (gI M 28 x5.toNatClampNeg) (gI M 31 ((x4 + (-1)) - 1).toNatClampNeg) (gI M 31 (x4 + (-1)).toNatClampNeg)))))
    else
      if 32 ≤ x4 then
        some (.inl (x4, (x5 + 1), M))
      else
        if 10000 ≤ (gI M 28 x5.toNatClampNeg) then
          gd (vp_in ((x3 + (gI M 28 x5.toNatClampNeg)) - 10000) 8) <|
          b_la_valueOf_27_43_11_75 x1 x3 x4 x5 x4 (gI M 43 ((x3 + (gI M 28 x5.toNatClampNeg)) - 10000).toNatClampNeg) M
        else
          b_la_valueOf_27_43_11_75 x1 x3 x4 x5 x4 (gI M 28 x5.toNatClampNeg) M
noncomputable def l_la_valueOf_27_43_11 (x1 : Int32) (x3 : Int32) (x4 : Int32) (x5 : Int32) (M : dM) : Option (Int32 × dM) := lpc (fun s => b_la_valueOf_27_43_11_11 x1 x3 s.1 s.2.1 s.2.2) (x4, x5, M)
noncomputable def f_la_valueOf_27_43 (a1 : Int32) (a3 : Int32) (M : dM) : Option (Int32 × dM) :=
  gd (vp_in a1 21) <|
  (l_la_valueOf_27_43_11 a1 a3 0 (gI M 29 a1.toNatClampNeg) M).bind fun t10 =>
    if t10.1 ≤ 0 then
      some (0, t10.2)
    else
      some ((gI t10.2 31 0), t10.2)
theorem w_b_la_valueOf_27_43_11_120 (x1 : Int32) (x3 : Int32) (x4 : Int32) (x5 : Int32) (y1 : Int32) (y2 : Int32)  (M : dM) {Q : mz_P} {o : ((Int32 × Int32 × dM) ⊕ (Int32 × dM))} (hf : b_la_valueOf_27_43_11_120 x1 x3 x4 x5 y1 y2 M = some o) (hk : K_la_valueOf_27_43_11 Q x1 x3 o) : mW mX3_valueOf 2 Q 120 [some (.ref 27), some (.int x1), some (.ref 43), some (.int x3), some (.int x4), some (.int x5), none] [.int y2, .int y1, .ref 31] M := by
  unfold b_la_valueOf_27_43_11_120 at hf
  obtain ⟨hg7, hf⟩ := g_s hf
  refine y_iastore (n := 121) ⟨dX3_valueOf_120, rfl⟩ l_31 hg7 ?_
  refine y_goto (t := 163) ⟨dX3_valueOf_121, rfl, rfl⟩ ?_
  refine y_iinc (i := 5) (n := 166) (b := (x5 + 1)) (L2 := [some (.ref 27), some (.int x1), some (.ref 43), some (.int x3), some (.int x4), some (.int (x5 + 1)), none]) ⟨dX3_valueOf_163, rfl⟩ rfl (by rw [ki_1]) (by decide) rfl rfl ?_
  refine y_goto (t := 11) ⟨dX3_valueOf_166, rfl, rfl⟩ ?_
  cases hf
  exact y_wk (L2 := [some (.ref 27), some (.int x1), some (.ref 43), some (.int x3), some (.int x4), some (.int (x5 + 1)), none]) ⟨Or.inr rfl, Or.inr rfl, Or.inr rfl, Or.inr rfl, Or.inr rfl, Or.inr rfl, Or.inr rfl, trivial⟩ hk
theorem w_b_la_valueOf_27_43_11_75 (x1 : Int32) (x3 : Int32) (x4 : Int32) (x5 : Int32) (y1 : Int32) (y2 : Int32)  (M : dM) {Q : mz_P} {o : ((Int32 × Int32 × dM) ⊕ (Int32 × dM))} (hf : b_la_valueOf_27_43_11_75 x1 x3 x4 x5 y1 y2 M = some o) (hk : K_la_valueOf_27_43_11 Q x1 x3 o) : mW mX3_valueOf 2 Q 75 [some (.ref 27), some (.int x1), some (.ref 43), some (.int x3), some (.int x4), some (.int x5), none] [.int y2, .int y1, .ref 31] M := by
  unfold b_la_valueOf_27_43_11_75 at hf
  obtain ⟨hg9, hf⟩ := g_s hf
  refine y_iastore (n := 76) ⟨dX3_valueOf_75, rfl⟩ l_31 hg9 ?_
  refine y_iinc (i := 4) (n := 79) (b := (x4 + 1)) (L2 := [some (.ref 27), some (.int x1), some (.ref 43), some (.int x3), some (.int (x4 + 1)), some (.int x5), none]) ⟨dX3_valueOf_76, rfl⟩ rfl (by rw [ki_1]) (by decide) rfl rfl ?_
  refine y_goto (t := 163) ⟨dX3_valueOf_79, rfl, rfl⟩ ?_
  refine y_iinc (i := 5) (n := 166) (b := (x5 + 1)) (L2 := [some (.ref 27), some (.int x1), some (.ref 43), some (.int x3), some (.int (x4 + 1)), some (.int (x5 + 1)), none]) ⟨dX3_valueOf_163, rfl⟩ rfl (by rw [ki_1]) (by decide) rfl rfl ?_
  refine y_goto (t := 11) ⟨dX3_valueOf_166, rfl, rfl⟩ ?_
  cases hf
  exact y_wk (L2 := [some (.ref 27), some (.int x1), some (.ref 43), some (.int x3), some (.int (x4 + 1)), some (.int (x5 + 1)), none]) ⟨Or.inr rfl, Or.inr rfl, Or.inr rfl, Or.inr rfl, Or.inr rfl, Or.inr rfl, Or.inr rfl, trivial⟩ hk
theorem w_b_la_valueOf_27_43_11_11 (x1 : Int32) (x3 : Int32) (x4 : Int32) (x5 : Int32)  (M : dM) {Q : mz_P} {o : ((Int32 × Int32 × dM) ⊕ (Int32 × dM))} (hf : b_la_valueOf_27_43_11_11 x1 x3 x4 x5 M = some o) (hk : K_la_valueOf_27_43_11 Q x1 x3 o) : mW mX3_valueOf 2 Q 11 [some (.ref 27), some (.int x1), some (.ref 43), some (.int x3), some (.int x4), some (.int x5), none] [] M := by
  unfold b_la_valueOf_27_43_11_11 at hf
  refine y_iload (i := 5) (n := 13) ⟨dX3_valueOf_11, rfl⟩ rfl ?_
  refine y_aload_n (i := 0) (n := 14) ⟨dX3_valueOf_13, rfl⟩ rfl ?_
  refine y_getR (n := 17) ⟨dX3_valueOf_14, rfl⟩ kfX3_18 l_27 rfl r_27_3 ?_
  refine y_iload_n (i := 1) (n := 18) ⟨dX3_valueOf_17, rfl⟩ rfl ?_
  obtain ⟨hg2, hf⟩ := g_s hf
  refine y_iaload (n := 19) ⟨dX3_valueOf_18, rfl⟩ l_30 hg2 ?_
  refine y_icmp_ge (t := 169) (n := 22) ⟨dX3_valueOf_19, rfl, rfl⟩ (fun (hc : (gI M 30 x1.toNatClampNeg) ≤ x5) => ?_) (fun (hc : ¬ ((gI M 30 x1.toNatClampNeg) ≤ x5)) => ?_)
  · replace hf := i_t hc hf
    cases hf
    exact y_wk (L2 := [some (.ref 27), none, none, none, some (.int x4), none, none]) ⟨Or.inr rfl, Or.inl rfl, Or.inl rfl, Or.inl rfl, Or.inr rfl, Or.inl rfl, Or.inr rfl, trivial⟩ hk
  · replace hf := i_f hc hf
    refine y_aload_n (i := 0) (n := 23) ⟨dX3_valueOf_22, rfl⟩ rfl ?_
    refine y_getR (n := 26) ⟨dX3_valueOf_23, rfl⟩ kfX3_11 l_27 rfl r_27_0 ?_
    refine y_iload (i := 5) (n := 28) ⟨dX3_valueOf_26, rfl⟩ rfl ?_
    obtain ⟨hg3, hf⟩ := g_s hf
    refine y_iaload (n := 29) ⟨dX3_valueOf_28, rfl⟩ l_28 hg3 ?_
    refine y_istore (i := 6) (n := 31) (L2 := [some (.ref 27), some (.int x1), some (.ref 43), some (.int x3), some (.int x4), some (.int x5), some (.int (gI M 28 x5.toNatClampNeg))]) ⟨dX3_valueOf_29, rfl⟩ (by decide) rfl rfl ?_
    refine y_iload (i := 6) (n := 33) ⟨dX3_valueOf_31, rfl⟩ rfl ?_
    refine y_sipush (n := 36) (v := 20000) ⟨dX3_valueOf_33, rfl⟩ ks_20000 ?_
    refine y_icmp_ge (t := 82) (n := 39) ⟨dX3_valueOf_36, rfl, rfl⟩ (fun (hc : 20000 ≤ (gI M 28 x5.toNatClampNeg)) => ?_) (fun (hc : ¬ (20000 ≤ (gI M 28 x5.toNatClampNeg))) => ?_)
    · replace hf := i_t hc hf
      refine y_iload (i := 6) (n := 84) ⟨dX3_valueOf_82, rfl⟩ rfl ?_
      refine y_sipush (n := 87) (v := 20000) ⟨dX3_valueOf_84, rfl⟩ ks_20000 ?_
      refine y_icmp_ne (t := 124) (n := 90) ⟨dX3_valueOf_87, rfl, rfl⟩ (fun (hc : ¬ ((gI M 28 x5.toNatClampNeg) = 20000)) => ?_) (fun (hc : (gI M 28 x5.toNatClampNeg) = 20000) => ?_)
      · replace hf := i_f hc hf
        refine y_iload (i := 4) (n := 126) ⟨dX3_valueOf_124, rfl⟩ rfl ?_
        refine y_iconst (n := 127) (v := 1) ⟨dX3_valueOf_126, rfl⟩ ki_1 ?_
        refine y_icmp_le (t := 163) (n := 130) ⟨dX3_valueOf_127, rfl, rfl⟩ (fun (hc : x4 ≤ 1) => ?_) (fun (hc : ¬ (x4 ≤ 1)) => ?_)
        · replace hf := i_t hc hf
          refine y_iinc (i := 5) (n := 166) (b := (x5 + 1)) (L2 := [some (.ref 27), some (.int x1), some (.ref 43), some (.int x3), some (.int x4), some (.int (x5 + 1)), some (.int (gI M 28 x5.toNatClampNeg))]) ⟨dX3_valueOf_163, rfl⟩ rfl (by rw [ki_1]) (by decide) rfl rfl ?_
          refine y_goto (t := 11) ⟨dX3_valueOf_166, rfl, rfl⟩ ?_
          cases hf
          exact y_wk (L2 := [some (.ref 27), some (.int x1), some (.ref 43), some (.int x3), some (.int x4), some (.int (x5 + 1)), none]) ⟨Or.inr rfl, Or.inr rfl, Or.inr rfl, Or.inr rfl, Or.inr rfl, Or.inr rfl, Or.inl rfl, trivial⟩ hk
        · replace hf := i_f hc hf
          refine y_iinc (i := 4) (n := 133) (b := (x4 + (-1))) (L2 := [some (.ref 27), some (.int x1), some (.ref 43), some (.int x3), some (.int (x4 + (-1))), some (.int x5), some (.int (gI M 28 x5.toNatClampNeg))]) ⟨dX3_valueOf_130, rfl⟩ rfl (by rw [ki_m1]) (by decide) rfl rfl ?_
          refine y_aload_n (i := 0) (n := 134) ⟨dX3_valueOf_133, rfl⟩ rfl ?_
          refine y_getR (n := 137) ⟨dX3_valueOf_134, rfl⟩ kfX3_28 l_27 rfl r_27_8 ?_
          refine y_iload (i := 4) (n := 139) ⟨dX3_valueOf_137, rfl⟩ rfl ?_
          refine y_iconst (n := 140) (v := 1) ⟨dX3_valueOf_139, rfl⟩ ki_1 ?_
          refine y_isub (n := 141) ⟨dX3_valueOf_140, rfl⟩ ?_
          refine y_iload (i := 6) (n := 143) ⟨dX3_valueOf_141, rfl⟩ rfl ?_
          refine y_aload_n (i := 0) (n := 144) ⟨dX3_valueOf_143, rfl⟩ rfl ?_
          refine y_getR (n := 147) ⟨dX3_valueOf_144, rfl⟩ kfX3_28 l_27 rfl r_27_8 ?_
          refine y_iload (i := 4) (n := 149) ⟨dX3_valueOf_147, rfl⟩ rfl ?_
          refine y_iconst (n := 150) (v := 1) ⟨dX3_valueOf_149, rfl⟩ ki_1 ?_
          refine y_isub (n := 151) ⟨dX3_valueOf_150, rfl⟩ ?_
          obtain ⟨hg4, hf⟩ := g_s hf
          refine y_iaload (n := 152) ⟨dX3_valueOf_151, rfl⟩ l_31 hg4 ?_
          refine y_aload_n (i := 0) (n := 153) ⟨dX3_valueOf_152, rfl⟩ rfl ?_
          refine y_getR (n := 156) ⟨dX3_valueOf_153, rfl⟩ kfX3_28 l_27 rfl r_27_8 ?_
          refine y_iload (i := 4) (n := 158) ⟨dX3_valueOf_156, rfl⟩ rfl ?_
          obtain ⟨hg5, hf⟩ := g_s hf
          refine y_iaload (n := 159) ⟨dX3_valueOf_158, rfl⟩ l_31 hg5 ?_
          refine c_la_join (gI M 28 x5.toNatClampNeg) (gI M 31 ((x4 + (-1)) - 1).toNatClampNeg) (gI M 31 (x4 + (-1)).toNatClampNeg) M (n := 162) ⟨dX3_valueOf_159, rfl⟩ klX3_60 rfl (by decide) (Nat.le_of_ble_eq_true rfl) rfl rfl ?_
          refine y_iastore (n := 163) ⟨dX3_valueOf_162, rfl⟩ l_31 hg4 ?_
          refine y_iinc (i := 5) (n := 166) (b := (x5 + 1)) (L2 := [some (.ref 27), some (.int x1), some (.ref 43), some (.int x3), some (.int (x4 + (-1))), some (.int (x5 + 1)), some (.int (gI M 28 x5.toNatClampNeg))]) ⟨dX3_valueOf_163, rfl⟩ rfl (by rw [ki_1]) (by decide) rfl rfl ?_
          refine y_goto (t := 11) ⟨dX3_valueOf_166, rfl, rfl⟩ ?_
          cases hf
          exact y_wk (L2 := [some (.ref 27), some (.int x1), some (.ref 43), some (.int x3), some (.int (x4 + (-1))), some (.int (x5 + 1)), none]) ⟨Or.inr rfl, Or.inr rfl, Or.inr rfl, Or.inr rfl, Or.inr rfl, Or.inr rfl, Or.inl rfl, trivial⟩ hk
      · replace hf := i_t hc hf
        refine y_iload (i := 4) (n := 92) ⟨dX3_valueOf_90, rfl⟩ rfl ?_
        refine y_if_le (t := 163) (n := 95) ⟨dX3_valueOf_92, rfl, rfl⟩ (fun (hc : x4 ≤ 0) => ?_) (fun (hc : ¬ (x4 ≤ 0)) => ?_)
        · replace hf := i_t hc hf
          refine y_iinc (i := 5) (n := 166) (b := (x5 + 1)) (L2 := [some (.ref 27), some (.int x1), some (.ref 43), some (.int x3), some (.int x4), some (.int (x5 + 1)), some (.int (gI M 28 x5.toNatClampNeg))]) ⟨dX3_valueOf_163, rfl⟩ rfl (by rw [ki_1]) (by decide) rfl rfl ?_
          refine y_goto (t := 11) ⟨dX3_valueOf_166, rfl, rfl⟩ ?_
          cases hf
          exact y_wk (L2 := [some (.ref 27), some (.int x1), some (.ref 43), some (.int x3), some (.int x4), some (.int (x5 + 1)), none]) ⟨Or.inr rfl, Or.inr rfl, Or.inr rfl, Or.inr rfl, Or.inr rfl, Or.inr rfl, Or.inl rfl, trivial⟩ hk
        · replace hf := i_f hc hf
          refine y_aload_n (i := 0) (n := 96) ⟨dX3_valueOf_95, rfl⟩ rfl ?_
          refine y_getR (n := 99) ⟨dX3_valueOf_96, rfl⟩ kfX3_28 l_27 rfl r_27_8 ?_
          refine y_iload (i := 4) (n := 101) ⟨dX3_valueOf_99, rfl⟩ rfl ?_
          refine y_iconst (n := 102) (v := 1) ⟨dX3_valueOf_101, rfl⟩ ki_1 ?_
          refine y_isub (n := 103) ⟨dX3_valueOf_102, rfl⟩ ?_
          refine y_aload_n (i := 0) (n := 104) ⟨dX3_valueOf_103, rfl⟩ rfl ?_
          refine y_getR (n := 107) ⟨dX3_valueOf_104, rfl⟩ kfX3_28 l_27 rfl r_27_8 ?_
          refine y_iload (i := 4) (n := 109) ⟨dX3_valueOf_107, rfl⟩ rfl ?_
          refine y_iconst (n := 110) (v := 1) ⟨dX3_valueOf_109, rfl⟩ ki_1 ?_
          refine y_isub (n := 111) ⟨dX3_valueOf_110, rfl⟩ ?_
          obtain ⟨hg6, hf⟩ := g_s hf
          refine y_iaload (n := 112) ⟨dX3_valueOf_111, rfl⟩ l_31 hg6 ?_
          refine y_if_ne (t := 119) (n := 115) ⟨dX3_valueOf_112, rfl, rfl⟩ (fun (hc : ¬ ((gI M 31 (x4 - 1).toNatClampNeg) = 0)) => ?_) (fun (hc : (gI M 31 (x4 - 1).toNatClampNeg) = 0) => ?_)
          · replace hf := i_f hc hf
            refine y_iconst (n := 120) (v := 0) ⟨dX3_valueOf_119, rfl⟩ ki_0 ?_
            exact y_wk (L2 := [some (.ref 27), some (.int x1), some (.ref 43), some (.int x3), some (.int x4), some (.int x5), none]) ⟨Or.inr rfl, Or.inr rfl, Or.inr rfl, Or.inr rfl, Or.inr rfl, Or.inr rfl, Or.inl rfl, trivial⟩ (w_b_la_valueOf_27_43_11_120 x1 x3 x4 x5 (x4 - 1) 0 M hf hk)
          · replace hf := i_t hc hf
            refine y_iconst (n := 116) (v := 1) ⟨dX3_valueOf_115, rfl⟩ ki_1 ?_
            refine y_goto (t := 120) ⟨dX3_valueOf_116, rfl, rfl⟩ ?_
            exact y_wk (L2 := [some (.ref 27), some (.int x1), some (.ref 43), some (.int x3), some (.int x4), some (.int x5), none]) ⟨Or.inr rfl, Or.inr rfl, Or.inr rfl, Or.inr rfl, Or.inr rfl, Or.inr rfl, Or.inl rfl, trivial⟩ (w_b_la_valueOf_27_43_11_120 x1 x3 x4 x5 (x4 - 1) 1 M hf hk)
    · replace hf := i_f hc hf
      refine y_iload (i := 4) (n := 41) ⟨dX3_valueOf_39, rfl⟩ rfl ?_
      refine y_bipush (n := 43) (v := 32) ⟨dX3_valueOf_41, rfl⟩ kb_32 ?_
      refine y_icmp_ge (t := 163) (n := 46) ⟨dX3_valueOf_43, rfl, rfl⟩ (fun (hc : 32 ≤ x4) => ?_) (fun (hc : ¬ (32 ≤ x4)) => ?_)
      · replace hf := i_t hc hf
        refine y_iinc (i := 5) (n := 166) (b := (x5 + 1)) (L2 := [some (.ref 27), some (.int x1), some (.ref 43), some (.int x3), some (.int x4), some (.int (x5 + 1)), some (.int (gI M 28 x5.toNatClampNeg))]) ⟨dX3_valueOf_163, rfl⟩ rfl (by rw [ki_1]) (by decide) rfl rfl ?_
        refine y_goto (t := 11) ⟨dX3_valueOf_166, rfl, rfl⟩ ?_
        cases hf
        exact y_wk (L2 := [some (.ref 27), some (.int x1), some (.ref 43), some (.int x3), some (.int x4), some (.int (x5 + 1)), none]) ⟨Or.inr rfl, Or.inr rfl, Or.inr rfl, Or.inr rfl, Or.inr rfl, Or.inr rfl, Or.inl rfl, trivial⟩ hk
      · replace hf := i_f hc hf
        refine y_aload_n (i := 0) (n := 47) ⟨dX3_valueOf_46, rfl⟩ rfl ?_
        refine y_getR (n := 50) ⟨dX3_valueOf_47, rfl⟩ kfX3_28 l_27 rfl r_27_8 ?_
        refine y_iload (i := 4) (n := 52) ⟨dX3_valueOf_50, rfl⟩ rfl ?_
        refine y_iload (i := 6) (n := 54) ⟨dX3_valueOf_52, rfl⟩ rfl ?_
        refine y_sipush (n := 57) (v := 10000) ⟨dX3_valueOf_54, rfl⟩ ks_10000 ?_
        refine y_icmp_ge (t := 65) (n := 60) ⟨dX3_valueOf_57, rfl, rfl⟩ (fun (hc : 10000 ≤ (gI M 28 x5.toNatClampNeg)) => ?_) (fun (hc : ¬ (10000 ≤ (gI M 28 x5.toNatClampNeg))) => ?_)
        · replace hf := i_t hc hf
          refine y_aload_n (i := 2) (n := 66) ⟨dX3_valueOf_65, rfl⟩ rfl ?_
          refine y_iload_n (i := 3) (n := 67) ⟨dX3_valueOf_66, rfl⟩ rfl ?_
          refine y_iload (i := 6) (n := 69) ⟨dX3_valueOf_67, rfl⟩ rfl ?_
          refine y_iadd (n := 70) ⟨dX3_valueOf_69, rfl⟩ ?_
          refine y_sipush (n := 73) (v := 10000) ⟨dX3_valueOf_70, rfl⟩ ks_10000 ?_
          refine y_isub (n := 74) ⟨dX3_valueOf_73, rfl⟩ ?_
          obtain ⟨hg8, hf⟩ := g_s hf
          refine y_iaload (n := 75) ⟨dX3_valueOf_74, rfl⟩ l_43 hg8 ?_
          exact y_wk (L2 := [some (.ref 27), some (.int x1), some (.ref 43), some (.int x3), some (.int x4), some (.int x5), none]) ⟨Or.inr rfl, Or.inr rfl, Or.inr rfl, Or.inr rfl, Or.inr rfl, Or.inr rfl, Or.inl rfl, trivial⟩ (w_b_la_valueOf_27_43_11_75 x1 x3 x4 x5 x4 (gI M 43 ((x3 + (gI M 28 x5.toNatClampNeg)) - 10000).toNatClampNeg) M hf hk)
        · replace hf := i_f hc hf
          refine y_iload (i := 6) (n := 62) ⟨dX3_valueOf_60, rfl⟩ rfl ?_
          refine y_goto (t := 75) ⟨dX3_valueOf_62, rfl, rfl⟩ ?_
          exact y_wk (L2 := [some (.ref 27), some (.int x1), some (.ref 43), some (.int x3), some (.int x4), some (.int x5), none]) ⟨Or.inr rfl, Or.inr rfl, Or.inr rfl, Or.inr rfl, Or.inr rfl, Or.inr rfl, Or.inl rfl, trivial⟩ (w_b_la_valueOf_27_43_11_75 x1 x3 x4 x5 x4 (gI M 28 x5.toNatClampNeg) M hf hk)
theorem wl_la_valueOf_27_43_11 (x1 : Int32) (x3 : Int32) (x4 : Int32) (x5 : Int32) (M : dM) {Q : mz_P} {x : (Int32 × dM)} (hf : l_la_valueOf_27_43_11 x1 x3 x4 x5 M = some x) (hk : K_la_valueOf_27_43_11 Q x1 x3 (.inr x)) : mW mX3_valueOf 2 Q 11 [some (.ref 27), some (.int x1), some (.ref 43), some (.int x3), some (.int x4), some (.int x5), none] [] M :=
  lpc_wp (σ := (Int32 × Int32 × dM)) (ξ := (Int32 × dM)) (s := (x4, x5, M)) (Wh := fun s => mW mX3_valueOf 2 Q 11 [some (.ref 27), some (.int x1), some (.ref 43), some (.int x3), some (.int s.1), some (.int s.2.1), none] [] s.2.2) (K := K_la_valueOf_27_43_11 Q x1 x3) (fun _ h => h) (fun s o hb hk => w_b_la_valueOf_27_43_11_11 x1 x3 s.1 s.2.1 s.2.2 hb hk) hf hk
theorem ok_la_valueOf_27_43 (a1 : Int32) (a3 : Int32) (M : dM) {o : (Int32 × dM)} (hf : f_la_valueOf_27_43 a1 a3 M = some o) : mO mX3_valueOf 2 [.ref 27, .int a1, .ref 43, .int a3] M (some (.int o.1)) o.2 := by
  refine y_ok (by decide +kernel) (Nat.le_of_ble_eq_true rfl) (L0 := [some (.ref 27), some (.int a1), some (.ref 43), some (.int a3), none, none, none]) rfl ?_
  have hk := mR_mQ (some (.int o.1)) o.2
  generalize mQ _ _ = Q at hk ⊢
  unfold f_la_valueOf_27_43 at hf
  refine y_iconst (n := 1) (v := 0) ⟨dX3_valueOf_0, rfl⟩ ki_0 ?_
  refine y_istore (i := 4) (n := 3) (L2 := [some (.ref 27), some (.int a1), some (.ref 43), some (.int a3), some (.int 0), none, none]) ⟨dX3_valueOf_1, rfl⟩ (by decide) rfl rfl ?_
  refine y_aload_n (i := 0) (n := 4) ⟨dX3_valueOf_3, rfl⟩ rfl ?_
  refine y_getR (n := 7) ⟨dX3_valueOf_4, rfl⟩ kfX3_15 l_27 rfl r_27_2 ?_
  refine y_iload_n (i := 1) (n := 8) ⟨dX3_valueOf_7, rfl⟩ rfl ?_
  obtain ⟨hg1, hf⟩ := g_s hf
  refine y_iaload (n := 9) ⟨dX3_valueOf_8, rfl⟩ l_29 hg1 ?_
  refine y_istore (i := 5) (n := 11) (L2 := [some (.ref 27), some (.int a1), some (.ref 43), some (.int a3), some (.int 0), some (.int (gI M 29 a1.toNatClampNeg)), none]) ⟨dX3_valueOf_9, rfl⟩ (by decide) rfl rfl ?_
  obtain ⟨t10, hl11, hf⟩ := b_s hf
  refine y_wk (L2 := [some (.ref 27), some (.int a1), some (.ref 43), some (.int a3), some (.int 0), some (.int (gI M 29 a1.toNatClampNeg)), none]) ⟨Or.inr rfl, Or.inr rfl, Or.inr rfl, Or.inr rfl, Or.inr rfl, Or.inr rfl, Or.inr rfl, trivial⟩ (wl_la_valueOf_27_43_11 a1 a3 0 (gI M 29 a1.toNatClampNeg) M hl11 ?_)
  show mW mX3_valueOf 2 Q 169 [some (.ref 27), none, none, none, some (.int t10.1), none, none] [] t10.2
  refine y_iload (i := 4) (n := 171) ⟨dX3_valueOf_169, rfl⟩ rfl ?_
  refine y_if_le (t := 183) (n := 174) ⟨dX3_valueOf_171, rfl, rfl⟩ (fun (hc : t10.1 ≤ 0) => ?_) (fun (hc : ¬ (t10.1 ≤ 0)) => ?_)
  · replace hf := i_t hc hf
    refine y_iconst (n := 184) (v := 0) ⟨dX3_valueOf_183, rfl⟩ ki_0 ?_
    cases hf
    exact y_ireturn (n := 185) ⟨dX3_valueOf_184, rfl⟩ rfl rfl hk
  · replace hf := i_f hc hf
    refine y_aload_n (i := 0) (n := 175) ⟨dX3_valueOf_174, rfl⟩ rfl ?_
    refine y_getR (n := 178) ⟨dX3_valueOf_175, rfl⟩ kfX3_28 l_27 rfl r_27_8 ?_
    refine y_iconst (n := 179) (v := 0) ⟨dX3_valueOf_178, rfl⟩ ki_0 ?_
    refine y_iaload (n := 180) ⟨dX3_valueOf_179, rfl⟩ l_31 (by unfold vp_in; decide) ?_
    refine y_goto (t := 184) ⟨dX3_valueOf_180, rfl, rfl⟩ ?_
    cases hf
    exact y_ireturn (n := 185) ⟨dX3_valueOf_184, rfl⟩ rfl rfl hk
theorem c_la_valueOf_27_43 (a1 : Int32) (a3 : Int32) (M : dM) {o : (Int32 × dM)} {y : mz_M} {d : Nat} {Q : mz_P} {pc n i : Nat} {L : List (Option Value)} {st : List Value} (h : mz_d y.2.1 pc n 3 (.invokevirtual i)) (hl : mz_ml y.1.cls i yX3_valueOf) (hf : f_la_valueOf_27_43 a1 a3 M = some o) (hd : 2 + 1 ≤ d) (hsm : (st.map (fun v => v.category)).sum ≤ 8) (hLr : mz_rL 133 L = true) (hSr : mz_rS 133 st = true) (kk : mW y d Q n L (.int o.1 :: st) o.2) : mW y d Q pc L (.int a3 :: .ref 43 :: .int a1 :: .ref 27 :: st) M :=
  y_callV kmX3_valueOf kvX3_valueOf l_27 (by decide +kernel) (by decide +kernel) h hl (ok_la_valueOf_27_43 a1 a3 M hf) (vs := [.int a1, .ref 43, .int a3]) rfl rfl hd hsm hLr hSr kk
def K_ju_seekDay_20 (Q : mz_P)  : ((Int32 × Int32 × dM) ⊕ (Int32 × dM)) → Prop
  | .inl s => mW mX2_seekDay 3 Q 20 [some (.ref 39), some (.int s.1), some (.int s.2.1)] [] s.2.2
  | .inr r => mR Q (some (.int r.1)) r.2
def K_ju_seekDay_27 (Q : mz_P) (x2 : Int32) : ((Int32 × dM) ⊕ (Int32 × dM)) → Prop
  | .inl s => mW mX2_seekDay 3 Q 27 [some (.ref 39), some (.int s.1), some (.int x2)] [] s.2
  | .inr t => mW mX2_seekDay 3 Q 62 [some (.ref 39), some (.int t.1), some (.int x2)] [] t.2
noncomputable def b_ju_seekDay_27_27 (x1 : Int32) (x2 : Int32) (M : dM) : Option ((Int32 × dM) ⊕ (Int32 × dM)) :=
  if (gI M 12 7) ≤ x1 then
    some (.inr (x1, M))
  else
    gd (vp_in x1 40) <|
    if x2 < (gI M 15 x1.toNatClampNeg) then
      some (.inr (x1, M))
    else
      (f_ju_addToDay x1 M).bind fun q6 =>
      some (.inl ((x1 + 1), q6))
noncomputable def l_ju_seekDay_27 (x1 : Int32) (x2 : Int32) (M : dM) : Option (Int32 × dM) := lpc (fun s => b_ju_seekDay_27_27 s.1 x2 s.2) (x1, M)
noncomputable def b_ju_seekDay_20_62 (x1 : Int32) (x2 : Int32) (M : dM) : Option ((Int32 × Int32 × dM) ⊕ (Int32 × dM)) :=
  (f_to_papersUpTo x2 (sI M 43 0 x2)).bind fun v11 =>
  (f_la_valueOf_27_43 20 0 (sI (sI M 43 0 x2) 43 7 v11)).bind fun q13 =>
  if q13.1 = 0 then
    some (.inl (x1, (x2 + 1), q13.2))
  else
    some (.inr (x2, q13.2))
noncomputable def b_ju_seekDay_20_20 (x1 : Int32) (x2 : Int32) (M : dM) : Option ((Int32 × Int32 × dM) ⊕ (Int32 × dM)) :=
  if 1000 ≤ x2 then
    some (.inr ((-1), M))
  else
    (l_ju_seekDay_27 x1 x2 M).bind fun t8 =>
      b_ju_seekDay_20_62 t8.1 x2 t8.2
noncomputable def l_ju_seekDay_20 (x1 : Int32) (x2 : Int32) (M : dM) : Option (Int32 × dM) := lpc (fun s => b_ju_seekDay_20_20 s.1 s.2.1 s.2.2) (x1, x2, M)
noncomputable def f_ju_seekDay (M : dM) : Option (Int32 × dM) :=
  (f_jd_fill_43 0 M).bind fun q1 =>
  (f_jd_fill_44 0 q1).bind fun q3 =>
  (l_ju_seekDay_20 0 0 q3).bind fun r17 => some r17
theorem w_b_ju_seekDay_27_27 (x1 : Int32) (x2 : Int32)  (M : dM) {Q : mz_P} {o : ((Int32 × dM) ⊕ (Int32 × dM))} (hf : b_ju_seekDay_27_27 x1 x2 M = some o) (hk : K_ju_seekDay_27 Q x2 o) : mW mX2_seekDay 3 Q 27 [some (.ref 39), some (.int x1), some (.int x2)] [] M := by
  unfold b_ju_seekDay_27_27 at hf
  refine y_iload_n (i := 1) (n := 28) ⟨dX2_seekDay_27, rfl⟩ rfl ?_
  refine y_aload_n (i := 0) (n := 29) ⟨dX2_seekDay_28, rfl⟩ rfl ?_
  refine y_getR (n := 32) ⟨dX2_seekDay_29, rfl⟩ kfX2_40 l_39 rfl r_39_2 ?_
  refine y_getI (n := 35) ⟨dX2_seekDay_32, rfl⟩ kfX2_51 l_12 rfl ?_
  refine y_icmp_ge (t := 62) (n := 38) ⟨dX2_seekDay_35, rfl, rfl⟩ (fun (hc : (gI M 12 7) ≤ x1) => ?_) (fun (hc : ¬ ((gI M 12 7) ≤ x1)) => ?_)
  · replace hf := i_t hc hf
    cases hf
    exact y_wk (L2 := [some (.ref 39), some (.int x1), some (.int x2)]) ⟨Or.inr rfl, Or.inr rfl, Or.inr rfl, trivial⟩ hk
  · replace hf := i_f hc hf
    refine y_aload_n (i := 0) (n := 39) ⟨dX2_seekDay_38, rfl⟩ rfl ?_
    refine y_getR (n := 42) ⟨dX2_seekDay_39, rfl⟩ kfX2_40 l_39 rfl r_39_2 ?_
    refine y_getR (n := 45) ⟨dX2_seekDay_42, rfl⟩ kfX2_59 l_12 rfl r_12_2 ?_
    refine y_iload_n (i := 1) (n := 46) ⟨dX2_seekDay_45, rfl⟩ rfl ?_
    obtain ⟨hg5, hf⟩ := g_s hf
    refine y_iaload (n := 47) ⟨dX2_seekDay_46, rfl⟩ l_15 hg5 ?_
    refine y_iload_n (i := 2) (n := 48) ⟨dX2_seekDay_47, rfl⟩ rfl ?_
    refine y_icmp_gt (t := 62) (n := 51) ⟨dX2_seekDay_48, rfl, rfl⟩ (fun (hc : x2 < (gI M 15 x1.toNatClampNeg)) => ?_) (fun (hc : ¬ (x2 < (gI M 15 x1.toNatClampNeg))) => ?_)
    · replace hf := i_t hc hf
      cases hf
      exact y_wk (L2 := [some (.ref 39), some (.int x1), some (.int x2)]) ⟨Or.inr rfl, Or.inr rfl, Or.inr rfl, trivial⟩ hk
    · replace hf := i_f hc hf
      refine y_aload_n (i := 0) (n := 52) ⟨dX2_seekDay_51, rfl⟩ rfl ?_
      refine y_iload_n (i := 1) (n := 53) ⟨dX2_seekDay_52, rfl⟩ rfl ?_
      obtain ⟨q6, hv7, hf⟩ := b_s hf
      refine c_ju_addToDay x1 M (n := 56) ⟨dX2_seekDay_53, rfl⟩ klX2_160 hv7 (by decide) (Nat.le_of_ble_eq_true rfl) rfl rfl ?_
      refine y_iinc (i := 1) (n := 59) (b := (x1 + 1)) (L2 := [some (.ref 39), some (.int (x1 + 1)), some (.int x2)]) ⟨dX2_seekDay_56, rfl⟩ rfl (by rw [ki_1]) (by decide) rfl rfl ?_
      refine y_goto (t := 27) ⟨dX2_seekDay_59, rfl, rfl⟩ ?_
      cases hf
      exact y_wk (L2 := [some (.ref 39), some (.int (x1 + 1)), some (.int x2)]) ⟨Or.inr rfl, Or.inr rfl, Or.inr rfl, trivial⟩ hk
theorem wl_ju_seekDay_27 (x1 : Int32) (x2 : Int32) (M : dM) {Q : mz_P} {x : (Int32 × dM)} (hf : l_ju_seekDay_27 x1 x2 M = some x) (hk : K_ju_seekDay_27 Q x2 (.inr x)) : mW mX2_seekDay 3 Q 27 [some (.ref 39), some (.int x1), some (.int x2)] [] M :=
  lpc_wp (σ := (Int32 × dM)) (ξ := (Int32 × dM)) (s := (x1, M)) (Wh := fun s => mW mX2_seekDay 3 Q 27 [some (.ref 39), some (.int s.1), some (.int x2)] [] s.2) (K := K_ju_seekDay_27 Q x2) (fun _ h => h) (fun s o hb hk => w_b_ju_seekDay_27_27 s.1 x2 s.2 hb hk) hf hk
theorem w_b_ju_seekDay_20_62 (x1 : Int32) (x2 : Int32)  (M : dM) {Q : mz_P} {o : ((Int32 × Int32 × dM) ⊕ (Int32 × dM))} (hf : b_ju_seekDay_20_62 x1 x2 M = some o) (hk : K_ju_seekDay_20 Q  o) : mW mX2_seekDay 3 Q 62 [some (.ref 39), some (.int x1), some (.int x2)] [] M := by
  unfold b_ju_seekDay_20_62 at hf
  refine y_aload_n (i := 0) (n := 63) ⟨dX2_seekDay_62, rfl⟩ rfl ?_
  refine y_getR (n := 66) ⟨dX2_seekDay_63, rfl⟩ kfX2_22 l_39 rfl r_39_7 ?_
  refine y_iconst (n := 67) (v := 0) ⟨dX2_seekDay_66, rfl⟩ ki_0 ?_
  refine y_iload_n (i := 2) (n := 68) ⟨dX2_seekDay_67, rfl⟩ rfl ?_
  refine y_iastore (n := 69) ⟨dX2_seekDay_68, rfl⟩ l_43 (by unfold vp_in; decide) ?_
  refine y_aload_n (i := 0) (n := 70) ⟨dX2_seekDay_69, rfl⟩ rfl ?_
  refine y_getR (n := 73) ⟨dX2_seekDay_70, rfl⟩ kfX2_22 l_39 rfl r_39_7 ?_
  refine y_bipush (n := 75) (v := 7) ⟨dX2_seekDay_73, rfl⟩ kb_7 ?_
  refine y_aload_n (i := 0) (n := 76) ⟨dX2_seekDay_75, rfl⟩ rfl ?_
  refine y_getR (n := 79) ⟨dX2_seekDay_76, rfl⟩ kfX2_40 l_39 rfl r_39_2 ?_
  refine y_iload_n (i := 2) (n := 80) ⟨dX2_seekDay_79, rfl⟩ rfl ?_
  obtain ⟨v11, hv12, hf⟩ := b_s hf
  refine c_to_papersUpTo x2 (sI M 43 0 x2) (n := 83) ⟨dX2_seekDay_80, rfl⟩ klX2_164 hv12 (by decide) (Nat.le_of_ble_eq_true rfl) rfl rfl ?_
  refine y_iastore (n := 84) ⟨dX2_seekDay_83, rfl⟩ l_43 (by unfold vp_in; decide) ?_
  refine y_aload_n (i := 0) (n := 85) ⟨dX2_seekDay_84, rfl⟩ rfl ?_
  refine y_getR (n := 88) ⟨dX2_seekDay_85, rfl⟩ kfX2_44 l_39 rfl r_39_3 ?_
  refine y_bipush (n := 90) (v := 20) ⟨dX2_seekDay_88, rfl⟩ kb_20 ?_
  refine y_aload_n (i := 0) (n := 91) ⟨dX2_seekDay_90, rfl⟩ rfl ?_
  refine y_getR (n := 94) ⟨dX2_seekDay_91, rfl⟩ kfX2_22 l_39 rfl r_39_7 ?_
  refine y_iconst (n := 95) (v := 0) ⟨dX2_seekDay_94, rfl⟩ ki_0 ?_
  obtain ⟨q13, hv14, hf⟩ := b_s hf
  refine c_la_valueOf_27_43 20 0 (sI (sI M 43 0 x2) 43 7 v11) (n := 98) ⟨dX2_seekDay_95, rfl⟩ klX2_138 hv14 (by decide) (Nat.le_of_ble_eq_true rfl) rfl rfl ?_
  refine y_if_eq (t := 103) (n := 101) ⟨dX2_seekDay_98, rfl, rfl⟩ (fun (hc : q13.1 = 0) => ?_) (fun (hc : ¬ (q13.1 = 0)) => ?_)
  · replace hf := i_t hc hf
    refine y_iinc (i := 2) (n := 106) (b := (x2 + 1)) (L2 := [some (.ref 39), some (.int x1), some (.int (x2 + 1))]) ⟨dX2_seekDay_103, rfl⟩ rfl (by rw [ki_1]) (by decide) rfl rfl ?_
    refine y_goto (t := 20) ⟨dX2_seekDay_106, rfl, rfl⟩ ?_
    cases hf
    exact y_wk (L2 := [some (.ref 39), some (.int x1), some (.int (x2 + 1))]) ⟨Or.inr rfl, Or.inr rfl, Or.inr rfl, trivial⟩ hk
  · replace hf := i_f hc hf
    refine y_iload_n (i := 2) (n := 102) ⟨dX2_seekDay_101, rfl⟩ rfl ?_
    cases hf
    exact y_ireturn (n := 103) ⟨dX2_seekDay_102, rfl⟩ rfl rfl hk
theorem w_b_ju_seekDay_20_20 (x1 : Int32) (x2 : Int32)  (M : dM) {Q : mz_P} {o : ((Int32 × Int32 × dM) ⊕ (Int32 × dM))} (hf : b_ju_seekDay_20_20 x1 x2 M = some o) (hk : K_ju_seekDay_20 Q  o) : mW mX2_seekDay 3 Q 20 [some (.ref 39), some (.int x1), some (.int x2)] [] M := by
  unfold b_ju_seekDay_20_20 at hf
  refine y_iload_n (i := 2) (n := 21) ⟨dX2_seekDay_20, rfl⟩ rfl ?_
  refine y_sipush (n := 24) (v := 1000) ⟨dX2_seekDay_21, rfl⟩ ks_1000 ?_
  refine y_icmp_ge (t := 109) (n := 27) ⟨dX2_seekDay_24, rfl, rfl⟩ (fun (hc : 1000 ≤ x2) => ?_) (fun (hc : ¬ (1000 ≤ x2)) => ?_)
  · replace hf := i_t hc hf
    refine y_iconst (n := 110) (v := (-1)) ⟨dX2_seekDay_109, rfl⟩ ki_m1 ?_
    cases hf
    exact y_ireturn (n := 111) ⟨dX2_seekDay_110, rfl⟩ rfl rfl hk
  · replace hf := i_f hc hf
    obtain ⟨t8, hl9, hf⟩ := b_s hf
    refine y_wk (L2 := [some (.ref 39), some (.int x1), some (.int x2)]) ⟨Or.inr rfl, Or.inr rfl, Or.inr rfl, trivial⟩ (wl_ju_seekDay_27 x1 x2 M hl9 ?_)
    show mW mX2_seekDay 3 Q 62 [some (.ref 39), some (.int t8.1), some (.int x2)] [] t8.2
    exact y_wk (L2 := [some (.ref 39), some (.int t8.1), some (.int x2)]) ⟨Or.inr rfl, Or.inr rfl, Or.inr rfl, trivial⟩ (w_b_ju_seekDay_20_62 t8.1 x2 t8.2 hf hk)
theorem wl_ju_seekDay_20 (x1 : Int32) (x2 : Int32) (M : dM) {Q : mz_P} {x : (Int32 × dM)} (hf : l_ju_seekDay_20 x1 x2 M = some x) (hk : K_ju_seekDay_20 Q  (.inr x)) : mW mX2_seekDay 3 Q 20 [some (.ref 39), some (.int x1), some (.int x2)] [] M :=
  lpc_wp (σ := (Int32 × Int32 × dM)) (ξ := (Int32 × dM)) (s := (x1, x2, M)) (Wh := fun s => mW mX2_seekDay 3 Q 20 [some (.ref 39), some (.int s.1), some (.int s.2.1)] [] s.2.2) (K := K_ju_seekDay_20 Q ) (fun _ h => h) (fun s o hb hk => w_b_ju_seekDay_20_20 s.1 s.2.1 s.2.2 hb hk) hf hk
theorem ok_ju_seekDay  (M : dM) {o : (Int32 × dM)} (hf : f_ju_seekDay M = some o) : mO mX2_seekDay 3 [.ref 39] M (some (.int o.1)) o.2 := by
  refine y_ok (by decide +kernel) (Nat.le_of_ble_eq_true rfl) (L0 := [some (.ref 39), none, none]) rfl ?_
  have hk := mR_mQ (some (.int o.1)) o.2
  generalize mQ _ _ = Q at hk ⊢
  unfold f_ju_seekDay at hf
  refine y_aload_n (i := 0) (n := 1) ⟨dX2_seekDay_0, rfl⟩ rfl ?_
  refine y_getR (n := 4) ⟨dX2_seekDay_1, rfl⟩ kfX2_22 l_39 rfl r_39_7 ?_
  refine y_iconst (n := 5) (v := 0) ⟨dX2_seekDay_4, rfl⟩ ki_0 ?_
  obtain ⟨q1, hv2, hf⟩ := b_s hf
  refine c_jd_fill_43 0 M (n := 8) ⟨dX2_seekDay_5, rfl⟩ klX2_154 hv2 (by decide) (Nat.le_of_ble_eq_true rfl) rfl rfl ?_
  refine y_aload_n (i := 0) (n := 9) ⟨dX2_seekDay_8, rfl⟩ rfl ?_
  refine y_getR (n := 12) ⟨dX2_seekDay_9, rfl⟩ kfX2_25 l_39 rfl r_39_8 ?_
  refine y_iconst (n := 13) (v := 0) ⟨dX2_seekDay_12, rfl⟩ ki_0 ?_
  obtain ⟨q3, hv4, hf⟩ := b_s hf
  refine c_jd_fill_44 0 q1 (n := 16) ⟨dX2_seekDay_13, rfl⟩ klX2_154 hv4 (by decide) (Nat.le_of_ble_eq_true rfl) rfl rfl ?_
  refine y_iconst (n := 17) (v := 0) ⟨dX2_seekDay_16, rfl⟩ ki_0 ?_
  refine y_istore_n (i := 1) (n := 18) (L2 := [some (.ref 39), some (.int 0), none]) ⟨dX2_seekDay_17, rfl⟩ (by decide) rfl rfl ?_
  refine y_iconst (n := 19) (v := 0) ⟨dX2_seekDay_18, rfl⟩ ki_0 ?_
  refine y_istore_n (i := 2) (n := 20) (L2 := [some (.ref 39), some (.int 0), some (.int 0)]) ⟨dX2_seekDay_19, rfl⟩ (by decide) rfl rfl ?_
  obtain ⟨r17, hl16, hf⟩ := b_s hf
  cases hf
  exact y_wk (L2 := [some (.ref 39), some (.int 0), some (.int 0)]) ⟨Or.inr rfl, Or.inr rfl, Or.inr rfl, trivial⟩ (wl_ju_seekDay_20 0 0 q3 hl16 hk)
theorem c_ju_seekDay  (M : dM) {o : (Int32 × dM)} {y : mz_M} {d : Nat} {Q : mz_P} {pc n i : Nat} {L : List (Option Value)} {st : List Value} (h : mz_d y.2.1 pc n 3 (.invokevirtual i)) (hl : mz_ml y.1.cls i yX2_seekDay) (hf : f_ju_seekDay M = some o) (hd : 3 + 1 ≤ d) (hsm : (st.map (fun v => v.category)).sum ≤ 8) (hLr : mz_rL 133 L = true) (hSr : mz_rS 133 st = true) (kk : mW y d Q n L (.int o.1 :: st) o.2) : mW y d Q pc L (.ref 39 :: st) M :=
  y_callV kmX2_seekDay kvX2_seekDay l_39 (by decide +kernel) (by decide +kernel) h hl (ok_ju_seekDay  M hf) (vs := []) rfl rfl hd hsm hLr hSr kk
noncomputable def t_ju_dayOfEnough_30 (y1 : Int32) (M : dM) : Option (Int32 × dM) :=
  some ((gI (sI M 39 9 y1) 39 9), (sI M 39 9 y1))
noncomputable def f_ju_dayOfEnough (M : dM) : Option (Int32 × dM) :=
  if (gI M 39 9) = (-2) then
    (f_la_isTold_27 20 M).bind fun v1 =>
    if v1 = true then
      (f_ju_seekDay M).bind fun q3 =>
      t_ju_dayOfEnough_30 q3.1 q3.2
    else
      t_ju_dayOfEnough_30 (-1) M
  else
    some ((gI M 39 9), M)
theorem w_t_ju_dayOfEnough_30 (y1 : Int32) (M : dM) {Q : mz_P} {o : (Int32 × dM)} (hf : t_ju_dayOfEnough_30 y1 M = some o) (hk : mR Q (some (.int o.1)) o.2) : mW mX2_dayOfEnough 4 Q 30 [some (.ref 39)] [.int y1, .ref 39] M := by
  unfold t_ju_dayOfEnough_30 at hf
  refine y_putI (n := 33) ⟨dX2_dayOfEnough_30, rfl⟩ kfX2_28 l_39 (by decide +kernel) rfl ?_
  refine y_aload_n (i := 0) (n := 34) ⟨dX2_dayOfEnough_33, rfl⟩ rfl ?_
  refine y_getI (n := 37) ⟨dX2_dayOfEnough_34, rfl⟩ kfX2_28 l_39 rfl ?_
  cases hf
  exact y_ireturn (n := 38) ⟨dX2_dayOfEnough_37, rfl⟩ rfl rfl hk
theorem ok_ju_dayOfEnough  (M : dM) {o : (Int32 × dM)} (hf : f_ju_dayOfEnough M = some o) : mO mX2_dayOfEnough 4 [.ref 39] M (some (.int o.1)) o.2 := by
  refine y_ok (by decide +kernel) (Nat.le_of_ble_eq_true rfl) (L0 := [some (.ref 39)]) rfl ?_
  have hk := mR_mQ (some (.int o.1)) o.2
  generalize mQ _ _ = Q at hk ⊢
  unfold f_ju_dayOfEnough at hf
  refine y_aload_n (i := 0) (n := 1) ⟨dX2_dayOfEnough_0, rfl⟩ rfl ?_
  refine y_getI (n := 4) ⟨dX2_dayOfEnough_1, rfl⟩ kfX2_28 l_39 rfl ?_
  refine y_bipush (n := 6) (v := (-2)) ⟨dX2_dayOfEnough_4, rfl⟩ kb_m2 ?_
  refine y_icmp_ne (t := 33) (n := 9) ⟨dX2_dayOfEnough_6, rfl, rfl⟩ (fun (hc : ¬ ((gI M 39 9) = (-2))) => ?_) (fun (hc : (gI M 39 9) = (-2)) => ?_)
  · replace hf := i_f hc hf
    refine y_aload_n (i := 0) (n := 34) ⟨dX2_dayOfEnough_33, rfl⟩ rfl ?_
    refine y_getI (n := 37) ⟨dX2_dayOfEnough_34, rfl⟩ kfX2_28 l_39 rfl ?_
    cases hf
    exact y_ireturn (n := 38) ⟨dX2_dayOfEnough_37, rfl⟩ rfl rfl hk
  · replace hf := i_t hc hf
    refine y_aload_n (i := 0) (n := 10) ⟨dX2_dayOfEnough_9, rfl⟩ rfl ?_
    refine y_aload_n (i := 0) (n := 11) ⟨dX2_dayOfEnough_10, rfl⟩ rfl ?_
    refine y_getR (n := 14) ⟨dX2_dayOfEnough_11, rfl⟩ kfX2_44 l_39 rfl r_39_3 ?_
    refine y_bipush (n := 16) (v := 20) ⟨dX2_dayOfEnough_14, rfl⟩ kb_20 ?_
    obtain ⟨v1, hv2, hf⟩ := b_s hf
    refine c_la_isTold_27 20 M (n := 19) ⟨dX2_dayOfEnough_16, rfl⟩ klX2_146 hv2 (by decide) (Nat.le_of_ble_eq_true rfl) rfl rfl ?_
    refine y_if_eq (t := 29) (n := 22) ⟨dX2_dayOfEnough_19, rfl, rfl⟩ (fun h0 => ?_) (fun h0 => ?_)
    · have hc := bI_0 h0
      replace hf := i_f hc hf
      refine y_iconst (n := 30) (v := (-1)) ⟨dX2_dayOfEnough_29, rfl⟩ ki_m1 ?_
      exact y_wk (L2 := [some (.ref 39)]) ⟨Or.inr rfl, trivial⟩ (w_t_ju_dayOfEnough_30 (-1) M hf hk)
    · have hc := bI_1 h0
      replace hf := i_t hc hf
      refine y_aload_n (i := 0) (n := 23) ⟨dX2_dayOfEnough_22, rfl⟩ rfl ?_
      obtain ⟨q3, hv4, hf⟩ := b_s hf
      refine c_ju_seekDay M (n := 26) ⟨dX2_dayOfEnough_23, rfl⟩ klX2_150 hv4 (by decide) (Nat.le_of_ble_eq_true rfl) rfl rfl ?_
      refine y_goto (t := 30) ⟨dX2_dayOfEnough_26, rfl, rfl⟩ ?_
      exact y_wk (L2 := [some (.ref 39)]) ⟨Or.inr rfl, trivial⟩ (w_t_ju_dayOfEnough_30 q3.1 q3.2 hf hk)
theorem c_ju_dayOfEnough  (M : dM) {o : (Int32 × dM)} {y : mz_M} {d : Nat} {Q : mz_P} {pc n i : Nat} {L : List (Option Value)} {st : List Value} (h : mz_d y.2.1 pc n 3 (.invokevirtual i)) (hl : mz_ml y.1.cls i yX2_dayOfEnough) (hf : f_ju_dayOfEnough M = some o) (hd : 4 + 1 ≤ d) (hsm : (st.map (fun v => v.category)).sum ≤ 8) (hLr : mz_rL 133 L = true) (hSr : mz_rS 133 st = true) (kk : mW y d Q n L (.int o.1 :: st) o.2) : mW y d Q pc L (.ref 39 :: st) M :=
  y_callV kmX2_dayOfEnough kvX2_dayOfEnough l_39 (by decide +kernel) (by decide +kernel) h hl (ok_ju_dayOfEnough  M hf) (vs := []) rfl rfl hd hsm hLr hSr kk
noncomputable def f_ax_enough (M : dM) : Option (Int32 × dM) :=
  (f_ax_study 1 M).bind fun q1 =>
  (f_ju_dayOfEnough q1).bind fun q3 =>
  some (q3.1, q3.2)
theorem ok_ax_enough  (M : dM) {o : (Int32 × dM)} (hf : f_ax_enough M = some o) : mO mX11_enough 6 [.ref 0] M (some (.int o.1)) o.2 := by
  refine y_ok (by decide +kernel) (Nat.le_of_ble_eq_true rfl) (L0 := [some (.ref 0)]) rfl ?_
  have hk := mR_mQ (some (.int o.1)) o.2
  generalize mQ _ _ = Q at hk ⊢
  unfold f_ax_enough at hf
  refine y_aload_n (i := 0) (n := 1) ⟨dX11_enough_0, rfl⟩ rfl ?_
  refine y_iconst (n := 2) (v := 1) ⟨dX11_enough_1, rfl⟩ ki_1 ?_
  obtain ⟨q1, hv2, hf⟩ := b_s hf
  refine c_ax_study 1 M (n := 5) ⟨dX11_enough_2, rfl⟩ klX11_156 hv2 (by decide) (Nat.le_of_ble_eq_true rfl) rfl rfl ?_
  refine y_aload_n (i := 0) (n := 6) ⟨dX11_enough_5, rfl⟩ rfl ?_
  refine y_getR (n := 9) ⟨dX11_enough_6, rfl⟩ kfX11_56 l_0 rfl r_0_6 ?_
  obtain ⟨q3, hv4, hf⟩ := b_s hf
  refine c_ju_dayOfEnough q1 (n := 12) ⟨dX11_enough_9, rfl⟩ klX11_291 hv4 (by decide) (Nat.le_of_ble_eq_true rfl) rfl rfl ?_
  cases hf
  exact y_ireturn (n := 13) ⟨dX11_enough_12, rfl⟩ rfl rfl hk
theorem c_ax_enough  (M : dM) {o : (Int32 × dM)} {y : mz_M} {d : Nat} {Q : mz_P} {pc n i : Nat} {L : List (Option Value)} {st : List Value} (h : mz_d y.2.1 pc n 3 (.invokevirtual i)) (hl : mz_ml y.1.cls i yX11_enough) (hf : f_ax_enough M = some o) (hd : 6 + 1 ≤ d) (hsm : (st.map (fun v => v.category)).sum ≤ 8) (hLr : mz_rL 133 L = true) (hSr : mz_rS 133 st = true) (kk : mW y d Q n L (.int o.1 :: st) o.2) : mW y d Q pc L (.ref 0 :: st) M :=
  y_callV kmX11_enough kvX11_enough l_0 (by decide +kernel) (by decide +kernel) h hl (ok_ax_enough  M hf) (vs := []) rfl rfl hd hsm hLr hSr kk
noncomputable def f_pl_lay (a1 : Int32) (a3 : Int32) (a4 : Int32) (M : dM) : Option dM :=
  gd (vp_in ((a1 * 5) + 0) 20) <|
  gd (vp_in ((a1 * 5) + 1) 20) <|
  gd (vp_in ((a1 * 5) + 2) 20) <|
  gd (vp_in ((a1 * 5) + 3) 20) <|
  gd (vp_in ((a1 * 5) + 4) 20) <|
  gd (vp_in a1 4) <|
  some (sI (sI (sI (sI (sI (sI (sI M 25 ((a1 * 5) + 0).toNatClampNeg (gI M 12 7)) 25 ((a1 * 5) + 1).toNatClampNeg a3) 25 ((a1 * 5) + 2).toNatClampNeg (gI (sI (sI M 25 ((a1 * 5) + 0).toNatClampNeg (gI M 12 7)) 25 ((a1 * 5) + 1).toNatClampNeg a3) 12 11)) 25 ((a1 * 5) + 3).toNatClampNeg (gI (sI (sI (sI M 25 ((a1 * 5) + 0).toNatClampNeg (gI M 12 7)) 25 ((a1 * 5) + 1).toNatClampNeg a3) 25 ((a1 * 5) + 2).toNatClampNeg (gI (sI (sI M 25 ((a1 * 5) + 0).toNatClampNeg (gI M 12 7)) 25 ((a1 * 5) + 1).toNatClampNeg a3) 12 11)) 12 13)) 25 ((a1 * 5) + 4).toNatClampNeg a4) 24 2 ((gI (sI (sI (sI (sI (sI M 25 ((a1 * 5) + 0).toNatClampNeg (gI M 12 7)) 25 ((a1 * 5) + 1).toNatClampNeg a3) 25 ((a1 * 5) + 2).toNatClampNeg (gI (sI (sI M 25 ((a1 * 5) + 0).toNatClampNeg (gI M 12 7)) 25 ((a1 * 5) + 1).toNatClampNeg a3) 12 11)) 25 ((a1 * 5) + 3).toNatClampNeg (gI (sI (sI (sI M 25 ((a1 * 5) + 0).toNatClampNeg (gI M 12 7)) 25 ((a1 * 5) + 1).toNatClampNeg a3) 25 ((a1 * 5) + 2).toNatClampNeg (gI (sI (sI M 25 ((a1 * 5) + 0).toNatClampNeg (gI M 12 7)) 25 ((a1 * 5) + 1).toNatClampNeg a3) 12 11)) 12 13)) 25 ((a1 * 5) + 4).toNatClampNeg a4) 24 2) + 1)) 26 a1.toNatClampNeg (gI (sI (sI (sI (sI (sI (sI M 25 ((a1 * 5) + 0).toNatClampNeg (gI M 12 7)) 25 ((a1 * 5) + 1).toNatClampNeg a3) 25 ((a1 * 5) + 2).toNatClampNeg (gI (sI (sI M 25 ((a1 * 5) + 0).toNatClampNeg (gI M 12 7)) 25 ((a1 * 5) + 1).toNatClampNeg a3) 12 11)) 25 ((a1 * 5) + 3).toNatClampNeg (gI (sI (sI (sI M 25 ((a1 * 5) + 0).toNatClampNeg (gI M 12 7)) 25 ((a1 * 5) + 1).toNatClampNeg a3) 25 ((a1 * 5) + 2).toNatClampNeg (gI (sI (sI M 25 ((a1 * 5) + 0).toNatClampNeg (gI M 12 7)) 25 ((a1 * 5) + 1).toNatClampNeg a3) 12 11)) 12 13)) 25 ((a1 * 5) + 4).toNatClampNeg a4) 24 2 ((gI (sI (sI (sI (sI (sI M 25 ((a1 * 5) + 0).toNatClampNeg (gI M 12 7)) 25 ((a1 * 5) + 1).toNatClampNeg a3) 25 ((a1 * 5) + 2).toNatClampNeg (gI (sI (sI M 25 ((a1 * 5) + 0).toNatClampNeg (gI M 12 7)) 25 ((a1 * 5) + 1).toNatClampNeg a3) 12 11)) 25 ((a1 * 5) + 3).toNatClampNeg (gI (sI (sI (sI M 25 ((a1 * 5) + 0).toNatClampNeg (gI M 12 7)) 25 ((a1 * 5) + 1).toNatClampNeg a3) 25 ((a1 * 5) + 2).toNatClampNeg (gI (sI (sI M 25 ((a1 * 5) + 0).toNatClampNeg (gI M 12 7)) 25 ((a1 * 5) + 1).toNatClampNeg a3) 12 11)) 12 13)) 25 ((a1 * 5) + 4).toNatClampNeg a4) 24 2) + 1)) 24 2))
theorem ok_pl_lay (a1 : Int32) (a3 : Int32) (a4 : Int32) (M : dM) {o : dM} (hf : f_pl_lay a1 a3 a4 M = some o) : mO mX5_lay 1 [.ref 24, .int a1, .ref 12, .int a3, .int a4] M none o := by
  refine y_ok (by decide +kernel) (Nat.le_of_ble_eq_true rfl) (L0 := [some (.ref 24), some (.int a1), some (.ref 12), some (.int a3), some (.int a4), none]) rfl ?_
  have hk := mR_mQ none o
  generalize mQ _ _ = Q at hk ⊢
  unfold f_pl_lay at hf
  refine y_iload_n (i := 1) (n := 1) ⟨dX5_lay_0, rfl⟩ rfl ?_
  refine y_iconst (n := 2) (v := 5) ⟨dX5_lay_1, rfl⟩ ki_5 ?_
  refine y_imul (n := 3) ⟨dX5_lay_2, rfl⟩ ?_
  refine y_istore (i := 5) (n := 5) (L2 := [some (.ref 24), some (.int a1), some (.ref 12), some (.int a3), some (.int a4), some (.int (a1 * 5))]) ⟨dX5_lay_3, rfl⟩ (by decide) rfl rfl ?_
  refine y_aload_n (i := 0) (n := 6) ⟨dX5_lay_5, rfl⟩ rfl ?_
  refine y_getR (n := 9) ⟨dX5_lay_6, rfl⟩ kfX5_11 l_24 rfl r_24_0 ?_
  refine y_iload (i := 5) (n := 11) ⟨dX5_lay_9, rfl⟩ rfl ?_
  refine y_iconst (n := 12) (v := 0) ⟨dX5_lay_11, rfl⟩ ki_0 ?_
  refine y_iadd (n := 13) ⟨dX5_lay_12, rfl⟩ ?_
  refine y_aload_n (i := 2) (n := 14) ⟨dX5_lay_13, rfl⟩ rfl ?_
  refine y_getI (n := 17) ⟨dX5_lay_14, rfl⟩ kfX5_18 l_12 rfl ?_
  obtain ⟨hg1, hf⟩ := g_s hf
  refine y_iastore (n := 18) ⟨dX5_lay_17, rfl⟩ l_25 hg1 ?_
  refine y_aload_n (i := 0) (n := 19) ⟨dX5_lay_18, rfl⟩ rfl ?_
  refine y_getR (n := 22) ⟨dX5_lay_19, rfl⟩ kfX5_11 l_24 rfl r_24_0 ?_
  refine y_iload (i := 5) (n := 24) ⟨dX5_lay_22, rfl⟩ rfl ?_
  refine y_iconst (n := 25) (v := 1) ⟨dX5_lay_24, rfl⟩ ki_1 ?_
  refine y_iadd (n := 26) ⟨dX5_lay_25, rfl⟩ ?_
  refine y_iload_n (i := 3) (n := 27) ⟨dX5_lay_26, rfl⟩ rfl ?_
  obtain ⟨hg2, hf⟩ := g_s hf
  refine y_iastore (n := 28) ⟨dX5_lay_27, rfl⟩ l_25 hg2 ?_
  refine y_aload_n (i := 0) (n := 29) ⟨dX5_lay_28, rfl⟩ rfl ?_
  refine y_getR (n := 32) ⟨dX5_lay_29, rfl⟩ kfX5_11 l_24 rfl r_24_0 ?_
  refine y_iload (i := 5) (n := 34) ⟨dX5_lay_32, rfl⟩ rfl ?_
  refine y_iconst (n := 35) (v := 2) ⟨dX5_lay_34, rfl⟩ ki_2 ?_
  refine y_iadd (n := 36) ⟨dX5_lay_35, rfl⟩ ?_
  refine y_aload_n (i := 2) (n := 37) ⟨dX5_lay_36, rfl⟩ rfl ?_
  refine y_getI (n := 40) ⟨dX5_lay_37, rfl⟩ kfX5_24 l_12 rfl ?_
  obtain ⟨hg3, hf⟩ := g_s hf
  refine y_iastore (n := 41) ⟨dX5_lay_40, rfl⟩ l_25 hg3 ?_
  refine y_aload_n (i := 0) (n := 42) ⟨dX5_lay_41, rfl⟩ rfl ?_
  refine y_getR (n := 45) ⟨dX5_lay_42, rfl⟩ kfX5_11 l_24 rfl r_24_0 ?_
  refine y_iload (i := 5) (n := 47) ⟨dX5_lay_45, rfl⟩ rfl ?_
  refine y_iconst (n := 48) (v := 3) ⟨dX5_lay_47, rfl⟩ ki_3 ?_
  refine y_iadd (n := 49) ⟨dX5_lay_48, rfl⟩ ?_
  refine y_aload_n (i := 2) (n := 50) ⟨dX5_lay_49, rfl⟩ rfl ?_
  refine y_getI (n := 53) ⟨dX5_lay_50, rfl⟩ kfX5_27 l_12 rfl ?_
  obtain ⟨hg4, hf⟩ := g_s hf
  refine y_iastore (n := 54) ⟨dX5_lay_53, rfl⟩ l_25 hg4 ?_
  refine y_aload_n (i := 0) (n := 55) ⟨dX5_lay_54, rfl⟩ rfl ?_
  refine y_getR (n := 58) ⟨dX5_lay_55, rfl⟩ kfX5_11 l_24 rfl r_24_0 ?_
  refine y_iload (i := 5) (n := 60) ⟨dX5_lay_58, rfl⟩ rfl ?_
  refine y_iconst (n := 61) (v := 4) ⟨dX5_lay_60, rfl⟩ ki_4 ?_
  refine y_iadd (n := 62) ⟨dX5_lay_61, rfl⟩ ?_
  refine y_iload (i := 4) (n := 64) ⟨dX5_lay_62, rfl⟩ rfl ?_
  obtain ⟨hg5, hf⟩ := g_s hf
  refine y_iastore (n := 65) ⟨dX5_lay_64, rfl⟩ l_25 hg5 ?_
  refine y_aload_n (i := 0) (n := 66) ⟨dX5_lay_65, rfl⟩ rfl ?_
  refine y_dup_r (n := 67) ⟨dX5_lay_66, rfl⟩ ?_
  refine y_getI (n := 70) ⟨dX5_lay_67, rfl⟩ kfX5_30 l_24 rfl ?_
  refine y_iconst (n := 71) (v := 1) ⟨dX5_lay_70, rfl⟩ ki_1 ?_
  refine y_iadd (n := 72) ⟨dX5_lay_71, rfl⟩ ?_
  refine y_putI (n := 75) ⟨dX5_lay_72, rfl⟩ kfX5_30 l_24 (by decide +kernel) rfl ?_
  refine y_aload_n (i := 0) (n := 76) ⟨dX5_lay_75, rfl⟩ rfl ?_
  refine y_getR (n := 79) ⟨dX5_lay_76, rfl⟩ kfX5_15 l_24 rfl r_24_1 ?_
  refine y_iload_n (i := 1) (n := 80) ⟨dX5_lay_79, rfl⟩ rfl ?_
  refine y_aload_n (i := 0) (n := 81) ⟨dX5_lay_80, rfl⟩ rfl ?_
  refine y_getI (n := 84) ⟨dX5_lay_81, rfl⟩ kfX5_30 l_24 rfl ?_
  obtain ⟨hg6, hf⟩ := g_s hf
  refine y_iastore (n := 85) ⟨dX5_lay_84, rfl⟩ l_26 hg6 ?_
  cases hf
  exact y_return (n := 86) ⟨dX5_lay_85, rfl⟩ rfl hk
theorem c_pl_lay (a1 : Int32) (a3 : Int32) (a4 : Int32) (M : dM) {o : dM} {y : mz_M} {d : Nat} {Q : mz_P} {pc n i : Nat} {L : List (Option Value)} {st : List Value} (h : mz_d y.2.1 pc n 3 (.invokevirtual i)) (hl : mz_ml y.1.cls i yX5_lay) (hf : f_pl_lay a1 a3 a4 M = some o) (hd : 1 + 1 ≤ d) (hsm : (st.map (fun v => v.category)).sum ≤ 8) (hLr : mz_rL 133 L = true) (hSr : mz_rS 133 st = true) (kk : mW y d Q n L st o) : mW y d Q pc L (.int a4 :: .int a3 :: .ref 12 :: .int a1 :: .ref 24 :: st) M :=
  y_callV kmX5_lay kvX5_lay l_24 (by decide +kernel) (by decide +kernel) h hl (ok_pl_lay a1 a3 a4 M hf) (vs := [.int a1, .ref 12, .int a3, .int a4]) rfl rfl hd hsm hLr hSr kk
def K_pl_goBack_13 (Q : mz_P) (x1 : Int32) : ((Int32 × dM) ⊕ (Bool × dM)) → Prop
  | .inl s => mW mX5_goBack 1 Q 13 [some (.ref 24), some (.int x1), some (.int s.1)] [] s.2
  | .inr r => mR Q (some (.int (bI r.1))) r.2
noncomputable def b_pl_goBack_13_13 (x1 : Int32) (x2 : Int32) (M : dM) : Option ((Int32 × dM) ⊕ (Bool × dM)) :=
  if 4 ≤ x2 then
    some (.inr (true, M))
  else
    gd (vp_in x2 4) <|
    gd (vp_in x1 4) <|
    if (gI M 26 x2.toNatClampNeg) ≤ (gI M 26 x1.toNatClampNeg) then
      some (.inl ((x2 + 1), M))
    else
      some (.inl ((x2 + 1), (sI M 26 x2.toNatClampNeg 0)))
noncomputable def l_pl_goBack_13 (x1 : Int32) (x2 : Int32) (M : dM) : Option (Bool × dM) := lpc (fun s => b_pl_goBack_13_13 x1 s.1 s.2) (x2, M)
noncomputable def f_pl_goBack (a1 : Int32) (M : dM) : Option (Bool × dM) :=
  gd (vp_in a1 4) <|
  if (gI M 26 a1.toNatClampNeg) = 0 then
    some (false, M)
  else
    (l_pl_goBack_13 a1 0 M).bind fun r6 => some r6
theorem w_b_pl_goBack_13_13 (x1 : Int32) (x2 : Int32)  (M : dM) {Q : mz_P} {o : ((Int32 × dM) ⊕ (Bool × dM))} (hf : b_pl_goBack_13_13 x1 x2 M = some o) (hk : K_pl_goBack_13 Q x1 o) : mW mX5_goBack 1 Q 13 [some (.ref 24), some (.int x1), some (.int x2)] [] M := by
  unfold b_pl_goBack_13_13 at hf
  refine y_iload_n (i := 2) (n := 14) ⟨dX5_goBack_13, rfl⟩ rfl ?_
  refine y_iconst (n := 15) (v := 4) ⟨dX5_goBack_14, rfl⟩ ki_4 ?_
  refine y_icmp_ge (t := 46) (n := 18) ⟨dX5_goBack_15, rfl, rfl⟩ (fun (hc : 4 ≤ x2) => ?_) (fun (hc : ¬ (4 ≤ x2)) => ?_)
  · replace hf := i_t hc hf
    refine y_iconst (n := 47) (v := 1) ⟨dX5_goBack_46, rfl⟩ ki_1 ?_
    cases hf
    exact y_ireturn (n := 48) ⟨dX5_goBack_47, rfl⟩ rfl rfl hk
  · replace hf := i_f hc hf
    refine y_aload_n (i := 0) (n := 19) ⟨dX5_goBack_18, rfl⟩ rfl ?_
    refine y_getR (n := 22) ⟨dX5_goBack_19, rfl⟩ kfX5_15 l_24 rfl r_24_1 ?_
    refine y_iload_n (i := 2) (n := 23) ⟨dX5_goBack_22, rfl⟩ rfl ?_
    obtain ⟨hg2, hf⟩ := g_s hf
    refine y_iaload (n := 24) ⟨dX5_goBack_23, rfl⟩ l_26 hg2 ?_
    refine y_aload_n (i := 0) (n := 25) ⟨dX5_goBack_24, rfl⟩ rfl ?_
    refine y_getR (n := 28) ⟨dX5_goBack_25, rfl⟩ kfX5_15 l_24 rfl r_24_1 ?_
    refine y_iload_n (i := 1) (n := 29) ⟨dX5_goBack_28, rfl⟩ rfl ?_
    obtain ⟨hg3, hf⟩ := g_s hf
    refine y_iaload (n := 30) ⟨dX5_goBack_29, rfl⟩ l_26 hg3 ?_
    refine y_icmp_le (t := 40) (n := 33) ⟨dX5_goBack_30, rfl, rfl⟩ (fun (hc : (gI M 26 x2.toNatClampNeg) ≤ (gI M 26 x1.toNatClampNeg)) => ?_) (fun (hc : ¬ ((gI M 26 x2.toNatClampNeg) ≤ (gI M 26 x1.toNatClampNeg))) => ?_)
    · replace hf := i_t hc hf
      refine y_iinc (i := 2) (n := 43) (b := (x2 + 1)) (L2 := [some (.ref 24), some (.int x1), some (.int (x2 + 1))]) ⟨dX5_goBack_40, rfl⟩ rfl (by rw [ki_1]) (by decide) rfl rfl ?_
      refine y_goto (t := 13) ⟨dX5_goBack_43, rfl, rfl⟩ ?_
      cases hf
      exact y_wk (L2 := [some (.ref 24), some (.int x1), some (.int (x2 + 1))]) ⟨Or.inr rfl, Or.inr rfl, Or.inr rfl, trivial⟩ hk
    · replace hf := i_f hc hf
      refine y_aload_n (i := 0) (n := 34) ⟨dX5_goBack_33, rfl⟩ rfl ?_
      refine y_getR (n := 37) ⟨dX5_goBack_34, rfl⟩ kfX5_15 l_24 rfl r_24_1 ?_
      refine y_iload_n (i := 2) (n := 38) ⟨dX5_goBack_37, rfl⟩ rfl ?_
      refine y_iconst (n := 39) (v := 0) ⟨dX5_goBack_38, rfl⟩ ki_0 ?_
      refine y_iastore (n := 40) ⟨dX5_goBack_39, rfl⟩ l_26 hg2 ?_
      refine y_iinc (i := 2) (n := 43) (b := (x2 + 1)) (L2 := [some (.ref 24), some (.int x1), some (.int (x2 + 1))]) ⟨dX5_goBack_40, rfl⟩ rfl (by rw [ki_1]) (by decide) rfl rfl ?_
      refine y_goto (t := 13) ⟨dX5_goBack_43, rfl, rfl⟩ ?_
      cases hf
      exact y_wk (L2 := [some (.ref 24), some (.int x1), some (.int (x2 + 1))]) ⟨Or.inr rfl, Or.inr rfl, Or.inr rfl, trivial⟩ hk
theorem wl_pl_goBack_13 (x1 : Int32) (x2 : Int32) (M : dM) {Q : mz_P} {x : (Bool × dM)} (hf : l_pl_goBack_13 x1 x2 M = some x) (hk : K_pl_goBack_13 Q x1 (.inr x)) : mW mX5_goBack 1 Q 13 [some (.ref 24), some (.int x1), some (.int x2)] [] M :=
  lpc_wp (σ := (Int32 × dM)) (ξ := (Bool × dM)) (s := (x2, M)) (Wh := fun s => mW mX5_goBack 1 Q 13 [some (.ref 24), some (.int x1), some (.int s.1)] [] s.2) (K := K_pl_goBack_13 Q x1) (fun _ h => h) (fun s o hb hk => w_b_pl_goBack_13_13 x1 s.1 s.2 hb hk) hf hk
theorem ok_pl_goBack (a1 : Int32) (M : dM) {o : (Bool × dM)} (hf : f_pl_goBack a1 M = some o) : mO mX5_goBack 1 [.ref 24, .int a1] M (some (.int (bI o.1))) o.2 := by
  refine y_ok (by decide +kernel) (Nat.le_of_ble_eq_true rfl) (L0 := [some (.ref 24), some (.int a1), none]) rfl ?_
  have hk := mR_mQ (some (.int (bI o.1))) o.2
  generalize mQ _ _ = Q at hk ⊢
  unfold f_pl_goBack at hf
  refine y_aload_n (i := 0) (n := 1) ⟨dX5_goBack_0, rfl⟩ rfl ?_
  refine y_getR (n := 4) ⟨dX5_goBack_1, rfl⟩ kfX5_15 l_24 rfl r_24_1 ?_
  refine y_iload_n (i := 1) (n := 5) ⟨dX5_goBack_4, rfl⟩ rfl ?_
  obtain ⟨hg1, hf⟩ := g_s hf
  refine y_iaload (n := 6) ⟨dX5_goBack_5, rfl⟩ l_26 hg1 ?_
  refine y_if_ne (t := 11) (n := 9) ⟨dX5_goBack_6, rfl, rfl⟩ (fun (hc : ¬ ((gI M 26 a1.toNatClampNeg) = 0)) => ?_) (fun (hc : (gI M 26 a1.toNatClampNeg) = 0) => ?_)
  · replace hf := i_f hc hf
    refine y_iconst (n := 12) (v := 0) ⟨dX5_goBack_11, rfl⟩ ki_0 ?_
    refine y_istore_n (i := 2) (n := 13) (L2 := [some (.ref 24), some (.int a1), some (.int 0)]) ⟨dX5_goBack_12, rfl⟩ (by decide) rfl rfl ?_
    obtain ⟨r6, hl5, hf⟩ := b_s hf
    cases hf
    exact y_wk (L2 := [some (.ref 24), some (.int a1), some (.int 0)]) ⟨Or.inr rfl, Or.inr rfl, Or.inr rfl, trivial⟩ (wl_pl_goBack_13 a1 0 M hl5 hk)
  · replace hf := i_t hc hf
    refine y_iconst (n := 10) (v := 0) ⟨dX5_goBack_9, rfl⟩ ki_0 ?_
    cases hf
    exact y_ireturn (n := 11) ⟨dX5_goBack_10, rfl⟩ rfl rfl hk
theorem c_pl_goBack (a1 : Int32) (M : dM) {o : (Bool × dM)} {y : mz_M} {d : Nat} {Q : mz_P} {pc n i : Nat} {L : List (Option Value)} {st : List Value} (h : mz_d y.2.1 pc n 3 (.invokevirtual i)) (hl : mz_ml y.1.cls i yX5_goBack) (hf : f_pl_goBack a1 M = some o) (hd : 1 + 1 ≤ d) (hsm : (st.map (fun v => v.category)).sum ≤ 8) (hLr : mz_rL 133 L = true) (hSr : mz_rS 133 st = true) (kk : mW y d Q n L (.int (bI o.1) :: st) o.2) : mW y d Q pc L (.int a1 :: .ref 24 :: st) M :=
  y_callV kmX5_goBack kvX5_goBack l_24 (by decide +kernel) (by decide +kernel) h hl (ok_pl_goBack a1 M hf) (vs := [.int a1]) rfl rfl hd hsm hLr hSr kk
noncomputable def f_pl_kept (a1 : Int32) (a2 : Int32) (M : dM) : Option Int32 :=
  gd (vp_in ((a1 * 5) + a2) 20) <|
  some (gI M 25 ((a1 * 5) + a2).toNatClampNeg)
theorem ok_pl_kept (a1 : Int32) (a2 : Int32) (M : dM) {o : Int32} (hf : f_pl_kept a1 a2 M = some o) : mO mX5_kept 1 [.ref 24, .int a1, .int a2] M (some (.int o)) M := by
  refine y_ok (by decide +kernel) (Nat.le_of_ble_eq_true rfl) (L0 := [some (.ref 24), some (.int a1), some (.int a2)]) rfl ?_
  have hk := mR_mQ (some (.int o)) M
  generalize mQ _ _ = Q at hk ⊢
  unfold f_pl_kept at hf
  refine y_aload_n (i := 0) (n := 1) ⟨dX5_kept_0, rfl⟩ rfl ?_
  refine y_getR (n := 4) ⟨dX5_kept_1, rfl⟩ kfX5_11 l_24 rfl r_24_0 ?_
  refine y_iload_n (i := 1) (n := 5) ⟨dX5_kept_4, rfl⟩ rfl ?_
  refine y_iconst (n := 6) (v := 5) ⟨dX5_kept_5, rfl⟩ ki_5 ?_
  refine y_imul (n := 7) ⟨dX5_kept_6, rfl⟩ ?_
  refine y_iload_n (i := 2) (n := 8) ⟨dX5_kept_7, rfl⟩ rfl ?_
  refine y_iadd (n := 9) ⟨dX5_kept_8, rfl⟩ ?_
  obtain ⟨hg1, hf⟩ := g_s hf
  refine y_iaload (n := 10) ⟨dX5_kept_9, rfl⟩ l_25 hg1 ?_
  cases hf
  exact y_ireturn (n := 11) ⟨dX5_kept_10, rfl⟩ rfl rfl hk
theorem c_pl_kept (a1 : Int32) (a2 : Int32) (M : dM) {o : Int32} {y : mz_M} {d : Nat} {Q : mz_P} {pc n i : Nat} {L : List (Option Value)} {st : List Value} (h : mz_d y.2.1 pc n 3 (.invokevirtual i)) (hl : mz_ml y.1.cls i yX5_kept) (hf : f_pl_kept a1 a2 M = some o) (hd : 1 + 1 ≤ d) (hsm : (st.map (fun v => v.category)).sum ≤ 8) (hLr : mz_rL 133 L = true) (hSr : mz_rS 133 st = true) (kk : mW y d Q n L (.int o :: st) M) : mW y d Q pc L (.int a2 :: .int a1 :: .ref 24 :: st) M :=
  y_callV kmX5_kept kvX5_kept l_24 (by decide +kernel) (by decide +kernel) h hl (ok_pl_kept a1 a2 M hf) (vs := [.int a1, .int a2]) rfl rfl hd hsm hLr hSr kk
noncomputable def f_li_keepFirst (a1 : Int32) (M : dM) : Option dM :=
  some (sI (sI M 6 5 a1) 6 6 0)
theorem ok_li_keepFirst (a1 : Int32) (M : dM) {o : dM} (hf : f_li_keepFirst a1 M = some o) : mO mX4_keepFirst 1 [.ref 6, .int a1] M none o := by
  refine y_ok (by decide +kernel) (Nat.le_of_ble_eq_true rfl) (L0 := [some (.ref 6), some (.int a1)]) rfl ?_
  have hk := mR_mQ none o
  generalize mQ _ _ = Q at hk ⊢
  unfold f_li_keepFirst at hf
  refine y_aload_n (i := 0) (n := 1) ⟨dX4_keepFirst_0, rfl⟩ rfl ?_
  refine y_iload_n (i := 1) (n := 2) ⟨dX4_keepFirst_1, rfl⟩ rfl ?_
  refine y_putI (n := 5) ⟨dX4_keepFirst_2, rfl⟩ kfX4_27 l_6 (by decide +kernel) rfl ?_
  refine y_aload_n (i := 0) (n := 6) ⟨dX4_keepFirst_5, rfl⟩ rfl ?_
  refine y_iconst (n := 7) (v := 0) ⟨dX4_keepFirst_6, rfl⟩ ki_0 ?_
  refine y_putZ (n := 10) ⟨dX4_keepFirst_7, rfl⟩ kfX4_35 l_6 (by decide +kernel) rfl (by decide) ?_
  cases hf
  exact y_return (n := 11) ⟨dX4_keepFirst_10, rfl⟩ rfl hk
theorem c_li_keepFirst (a1 : Int32) (M : dM) {o : dM} {y : mz_M} {d : Nat} {Q : mz_P} {pc n i : Nat} {L : List (Option Value)} {st : List Value} (h : mz_d y.2.1 pc n 3 (.invokevirtual i)) (hl : mz_ml y.1.cls i yX4_keepFirst) (hf : f_li_keepFirst a1 M = some o) (hd : 1 + 1 ≤ d) (hsm : (st.map (fun v => v.category)).sum ≤ 8) (hLr : mz_rL 133 L = true) (hSr : mz_rS 133 st = true) (kk : mW y d Q n L st o) : mW y d Q pc L (.int a1 :: .ref 6 :: st) M :=
  y_callV kmX4_keepFirst kvX4_keepFirst l_6 (by decide +kernel) (by decide +kernel) h hl (ok_li_keepFirst a1 M hf) (vs := [.int a1]) rfl rfl hd hsm hLr hSr kk
noncomputable def f_ax_mark (a1 : Int32) (a2 : Int32) (M : dM) : Option (Bool × dM) :=
  if (f_ax_within a1 4) = true then
    if a2 = 0 then
      (f_pl_lay a1 (gI M 6 5) (gI M 50 4) M).bind fun q16 =>
      some (true, q16)
    else
      (f_pl_goBack a1 M).bind fun q1 =>
      if q1.1 = true then
        (f_pl_kept a1 0 q1.2).bind fun v3 =>
        (f_pl_kept a1 2 (sI q1.2 12 7 v3)).bind fun v5 =>
        (f_pl_kept a1 3 (sI (sI q1.2 12 7 v3) 12 11 v5)).bind fun v7 =>
        (f_pl_kept a1 1 (sI (sI (sI q1.2 12 7 v3) 12 11 v5) 12 13 v7)).bind fun v9 =>
        (f_li_keepFirst v9 (sI (sI (sI q1.2 12 7 v3) 12 11 v5) 12 13 v7)).bind fun q11 =>
        (f_pl_kept a1 4 q11).bind fun v13 =>
        some (true, (f_ax_changed (sI q11 50 4 v13)))
      else
        some (false, q1.2)
  else
    some (false, M)
theorem ok_ax_mark (a1 : Int32) (a2 : Int32) (M : dM) {o : (Bool × dM)} (hf : f_ax_mark a1 a2 M = some o) : mO mX11_mark 3 [.ref 0, .int a1, .int a2] M (some (.int (bI o.1))) o.2 := by
  refine y_ok (by decide +kernel) (Nat.le_of_ble_eq_true rfl) (L0 := [some (.ref 0), some (.int a1), some (.int a2)]) rfl ?_
  have hk := mR_mQ (some (.int (bI o.1))) o.2
  generalize mQ _ _ = Q at hk ⊢
  unfold f_ax_mark at hf
  refine y_iload_n (i := 1) (n := 1) ⟨dX11_mark_0, rfl⟩ rfl ?_
  refine y_iconst (n := 2) (v := 4) ⟨dX11_mark_1, rfl⟩ ki_4 ?_
  refine c_ax_within a1 4 M (n := 5) ⟨dX11_mark_2, rfl⟩ klX11_91 rfl (by decide) (Nat.le_of_ble_eq_true rfl) rfl rfl ?_
  refine y_if_ne (t := 10) (n := 8) ⟨dX11_mark_5, rfl, rfl⟩ (fun h0 => ?_) (fun h0 => ?_)
  · have hc := bI_1 h0
    replace hf := i_t hc hf
    refine y_iload_n (i := 2) (n := 11) ⟨dX11_mark_10, rfl⟩ rfl ?_
    refine y_if_ne (t := 42) (n := 14) ⟨dX11_mark_11, rfl, rfl⟩ (fun (hc : ¬ (a2 = 0)) => ?_) (fun (hc : a2 = 0) => ?_)
    · replace hf := i_f hc hf
      refine y_aload_n (i := 0) (n := 43) ⟨dX11_mark_42, rfl⟩ rfl ?_
      refine y_getR (n := 46) ⟨dX11_mark_43, rfl⟩ kfX11_33 l_0 rfl r_0_3 ?_
      refine y_iload_n (i := 1) (n := 47) ⟨dX11_mark_46, rfl⟩ rfl ?_
      obtain ⟨q1, hv2, hf⟩ := b_s hf
      refine c_pl_goBack a1 M (n := 50) ⟨dX11_mark_47, rfl⟩ klX11_300 hv2 (by decide) (Nat.le_of_ble_eq_true rfl) rfl rfl ?_
      refine y_if_ne (t := 55) (n := 53) ⟨dX11_mark_50, rfl, rfl⟩ (fun h0 => ?_) (fun h0 => ?_)
      · have hc := bI_1 h0
        replace hf := i_t hc hf
        refine y_aload_n (i := 0) (n := 56) ⟨dX11_mark_55, rfl⟩ rfl ?_
        refine y_getR (n := 59) ⟨dX11_mark_56, rfl⟩ kfX11_26 l_0 rfl r_0_2 ?_
        refine y_aload_n (i := 0) (n := 60) ⟨dX11_mark_59, rfl⟩ rfl ?_
        refine y_getR (n := 63) ⟨dX11_mark_60, rfl⟩ kfX11_33 l_0 rfl r_0_3 ?_
        refine y_iload_n (i := 1) (n := 64) ⟨dX11_mark_63, rfl⟩ rfl ?_
        refine y_iconst (n := 65) (v := 0) ⟨dX11_mark_64, rfl⟩ ki_0 ?_
        obtain ⟨v3, hv4, hf⟩ := b_s hf
        refine c_pl_kept a1 0 q1.2 (n := 68) ⟨dX11_mark_65, rfl⟩ klX11_303 hv4 (by decide) (Nat.le_of_ble_eq_true rfl) rfl rfl ?_
        refine y_putI (n := 71) ⟨dX11_mark_68, rfl⟩ kfX11_146 l_12 (by decide +kernel) rfl ?_
        refine y_aload_n (i := 0) (n := 72) ⟨dX11_mark_71, rfl⟩ rfl ?_
        refine y_getR (n := 75) ⟨dX11_mark_72, rfl⟩ kfX11_26 l_0 rfl r_0_2 ?_
        refine y_aload_n (i := 0) (n := 76) ⟨dX11_mark_75, rfl⟩ rfl ?_
        refine y_getR (n := 79) ⟨dX11_mark_76, rfl⟩ kfX11_33 l_0 rfl r_0_3 ?_
        refine y_iload_n (i := 1) (n := 80) ⟨dX11_mark_79, rfl⟩ rfl ?_
        refine y_iconst (n := 81) (v := 2) ⟨dX11_mark_80, rfl⟩ ki_2 ?_
        obtain ⟨v5, hv6, hf⟩ := b_s hf
        refine c_pl_kept a1 2 (sI q1.2 12 7 v3) (n := 84) ⟨dX11_mark_81, rfl⟩ klX11_303 hv6 (by decide) (Nat.le_of_ble_eq_true rfl) rfl rfl ?_
        refine y_putI (n := 87) ⟨dX11_mark_84, rfl⟩ kfX11_306 l_12 (by decide +kernel) rfl ?_
        refine y_aload_n (i := 0) (n := 88) ⟨dX11_mark_87, rfl⟩ rfl ?_
        refine y_getR (n := 91) ⟨dX11_mark_88, rfl⟩ kfX11_26 l_0 rfl r_0_2 ?_
        refine y_aload_n (i := 0) (n := 92) ⟨dX11_mark_91, rfl⟩ rfl ?_
        refine y_getR (n := 95) ⟨dX11_mark_92, rfl⟩ kfX11_33 l_0 rfl r_0_3 ?_
        refine y_iload_n (i := 1) (n := 96) ⟨dX11_mark_95, rfl⟩ rfl ?_
        refine y_iconst (n := 97) (v := 3) ⟨dX11_mark_96, rfl⟩ ki_3 ?_
        obtain ⟨v7, hv8, hf⟩ := b_s hf
        refine c_pl_kept a1 3 (sI (sI q1.2 12 7 v3) 12 11 v5) (n := 100) ⟨dX11_mark_97, rfl⟩ klX11_303 hv8 (by decide) (Nat.le_of_ble_eq_true rfl) rfl rfl ?_
        refine y_putI (n := 103) ⟨dX11_mark_100, rfl⟩ kfX11_309 l_12 (by decide +kernel) rfl ?_
        refine y_aload_n (i := 0) (n := 104) ⟨dX11_mark_103, rfl⟩ rfl ?_
        refine y_getR (n := 107) ⟨dX11_mark_104, rfl⟩ kfX11_19 l_0 rfl r_0_1 ?_
        refine y_aload_n (i := 0) (n := 108) ⟨dX11_mark_107, rfl⟩ rfl ?_
        refine y_getR (n := 111) ⟨dX11_mark_108, rfl⟩ kfX11_33 l_0 rfl r_0_3 ?_
        refine y_iload_n (i := 1) (n := 112) ⟨dX11_mark_111, rfl⟩ rfl ?_
        refine y_iconst (n := 113) (v := 1) ⟨dX11_mark_112, rfl⟩ ki_1 ?_
        obtain ⟨v9, hv10, hf⟩ := b_s hf
        refine c_pl_kept a1 1 (sI (sI (sI q1.2 12 7 v3) 12 11 v5) 12 13 v7) (n := 116) ⟨dX11_mark_113, rfl⟩ klX11_303 hv10 (by decide) (Nat.le_of_ble_eq_true rfl) rfl rfl ?_
        obtain ⟨q11, hv12, hf⟩ := b_s hf
        refine c_li_keepFirst v9 (sI (sI (sI q1.2 12 7 v3) 12 11 v5) 12 13 v7) (n := 119) ⟨dX11_mark_116, rfl⟩ klX11_312 hv12 (by decide) (Nat.le_of_ble_eq_true rfl) rfl rfl ?_
        refine y_aload_n (i := 0) (n := 120) ⟨dX11_mark_119, rfl⟩ rfl ?_
        refine y_getR (n := 123) ⟨dX11_mark_120, rfl⟩ kfX11_74 l_0 rfl r_0_8 ?_
        refine y_aload_n (i := 0) (n := 124) ⟨dX11_mark_123, rfl⟩ rfl ?_
        refine y_getR (n := 127) ⟨dX11_mark_124, rfl⟩ kfX11_33 l_0 rfl r_0_3 ?_
        refine y_iload_n (i := 1) (n := 128) ⟨dX11_mark_127, rfl⟩ rfl ?_
        refine y_iconst (n := 129) (v := 4) ⟨dX11_mark_128, rfl⟩ ki_4 ?_
        obtain ⟨v13, hv14, hf⟩ := b_s hf
        refine c_pl_kept a1 4 q11 (n := 132) ⟨dX11_mark_129, rfl⟩ klX11_303 hv14 (by decide) (Nat.le_of_ble_eq_true rfl) rfl rfl ?_
        refine y_putI (n := 135) ⟨dX11_mark_132, rfl⟩ kfX11_295 l_50 (by decide +kernel) rfl ?_
        refine y_aload_n (i := 0) (n := 136) ⟨dX11_mark_135, rfl⟩ rfl ?_
        refine c_ax_changed (sI q11 50 4 v13) (n := 139) ⟨dX11_mark_136, rfl⟩ klX11_99 rfl (by decide) (Nat.le_of_ble_eq_true rfl) rfl rfl ?_
        refine y_iconst (n := 140) (v := 1) ⟨dX11_mark_139, rfl⟩ ki_1 ?_
        cases hf
        exact y_ireturn (n := 141) ⟨dX11_mark_140, rfl⟩ rfl rfl hk
      · have hc := bI_0 h0
        replace hf := i_f hc hf
        refine y_iconst (n := 54) (v := 0) ⟨dX11_mark_53, rfl⟩ ki_0 ?_
        cases hf
        exact y_ireturn (n := 55) ⟨dX11_mark_54, rfl⟩ rfl rfl hk
    · replace hf := i_t hc hf
      refine y_aload_n (i := 0) (n := 15) ⟨dX11_mark_14, rfl⟩ rfl ?_
      refine y_getR (n := 18) ⟨dX11_mark_15, rfl⟩ kfX11_33 l_0 rfl r_0_3 ?_
      refine y_iload_n (i := 1) (n := 19) ⟨dX11_mark_18, rfl⟩ rfl ?_
      refine y_aload_n (i := 0) (n := 20) ⟨dX11_mark_19, rfl⟩ rfl ?_
      refine y_getR (n := 23) ⟨dX11_mark_20, rfl⟩ kfX11_26 l_0 rfl r_0_2 ?_
      refine y_aload_n (i := 0) (n := 24) ⟨dX11_mark_23, rfl⟩ rfl ?_
      refine y_getR (n := 27) ⟨dX11_mark_24, rfl⟩ kfX11_19 l_0 rfl r_0_1 ?_
      refine y_getI (n := 30) ⟨dX11_mark_27, rfl⟩ kfX11_294 l_6 rfl ?_
      refine y_aload_n (i := 0) (n := 31) ⟨dX11_mark_30, rfl⟩ rfl ?_
      refine y_getR (n := 34) ⟨dX11_mark_31, rfl⟩ kfX11_74 l_0 rfl r_0_8 ?_
      refine y_getI (n := 37) ⟨dX11_mark_34, rfl⟩ kfX11_295 l_50 rfl ?_
      obtain ⟨q16, hv17, hf⟩ := b_s hf
      refine c_pl_lay a1 (gI M 6 5) (gI M 50 4) M (n := 40) ⟨dX11_mark_37, rfl⟩ klX11_296 hv17 (by decide) (Nat.le_of_ble_eq_true rfl) rfl rfl ?_
      refine y_iconst (n := 41) (v := 1) ⟨dX11_mark_40, rfl⟩ ki_1 ?_
      cases hf
      exact y_ireturn (n := 42) ⟨dX11_mark_41, rfl⟩ rfl rfl hk
  · have hc := bI_0 h0
    replace hf := i_f hc hf
    refine y_iconst (n := 9) (v := 0) ⟨dX11_mark_8, rfl⟩ ki_0 ?_
    cases hf
    exact y_ireturn (n := 10) ⟨dX11_mark_9, rfl⟩ rfl rfl hk
theorem c_ax_mark (a1 : Int32) (a2 : Int32) (M : dM) {o : (Bool × dM)} {y : mz_M} {d : Nat} {Q : mz_P} {pc n i : Nat} {L : List (Option Value)} {st : List Value} (h : mz_d y.2.1 pc n 3 (.invokevirtual i)) (hl : mz_ml y.1.cls i yX11_mark) (hf : f_ax_mark a1 a2 M = some o) (hd : 3 + 1 ≤ d) (hsm : (st.map (fun v => v.category)).sum ≤ 8) (hLr : mz_rL 133 L = true) (hSr : mz_rS 133 st = true) (kk : mW y d Q n L (.int (bI o.1) :: st) o.2) : mW y d Q pc L (.int a2 :: .int a1 :: .ref 0 :: st) M :=
  y_callV kmX11_mark kvX11_mark l_0 (by decide +kernel) (by decide +kernel) h hl (ok_ax_mark a1 a2 M hf) (vs := [.int a1, .int a2]) rfl rfl hd hsm hLr hSr kk
noncomputable def f_ax_skill (a1 : Int32) (a2 : Int32) (a3 : Int32) (M : dM) : Option (Bool × dM) :=
  if (f_ax_within a1 10) = true then
    if (f_ax_within a2 10) = true then
      if (f_ax_within a3 10) = true then
        gd (vp_in a1 10) <|
        some (true, (f_ax_changed (sI (sI M 57 a1.toNatClampNeg a2) 58 a1.toNatClampNeg a3)))
      else
        some (false, M)
    else
      some (false, M)
  else
    some (false, M)
theorem ok_ax_skill (a1 : Int32) (a2 : Int32) (a3 : Int32) (M : dM) {o : (Bool × dM)} (hf : f_ax_skill a1 a2 a3 M = some o) : mO mX11_skill 3 [.ref 0, .int a1, .int a2, .int a3] M (some (.int (bI o.1))) o.2 := by
  refine y_ok (by decide +kernel) (Nat.le_of_ble_eq_true rfl) (L0 := [some (.ref 0), some (.int a1), some (.int a2), some (.int a3)]) rfl ?_
  have hk := mR_mQ (some (.int (bI o.1))) o.2
  generalize mQ _ _ = Q at hk ⊢
  unfold f_ax_skill at hf
  refine y_iload_n (i := 1) (n := 1) ⟨dX11_skill_0, rfl⟩ rfl ?_
  refine y_bipush (n := 3) (v := 10) ⟨dX11_skill_1, rfl⟩ kb_10 ?_
  refine c_ax_within a1 10 M (n := 6) ⟨dX11_skill_3, rfl⟩ klX11_91 rfl (by decide) (Nat.le_of_ble_eq_true rfl) rfl rfl ?_
  refine y_if_eq (t := 27) (n := 9) ⟨dX11_skill_6, rfl, rfl⟩ (fun h0 => ?_) (fun h0 => ?_)
  · have hc := bI_0 h0
    replace hf := i_f hc hf
    refine y_iconst (n := 28) (v := 0) ⟨dX11_skill_27, rfl⟩ ki_0 ?_
    cases hf
    exact y_ireturn (n := 29) ⟨dX11_skill_28, rfl⟩ rfl rfl hk
  · have hc := bI_1 h0
    replace hf := i_t hc hf
    refine y_iload_n (i := 2) (n := 10) ⟨dX11_skill_9, rfl⟩ rfl ?_
    refine y_bipush (n := 12) (v := 10) ⟨dX11_skill_10, rfl⟩ kb_10 ?_
    refine c_ax_within a2 10 M (n := 15) ⟨dX11_skill_12, rfl⟩ klX11_91 rfl (by decide) (Nat.le_of_ble_eq_true rfl) rfl rfl ?_
    refine y_if_eq (t := 27) (n := 18) ⟨dX11_skill_15, rfl, rfl⟩ (fun h0 => ?_) (fun h0 => ?_)
    · have hc := bI_0 h0
      replace hf := i_f hc hf
      refine y_iconst (n := 28) (v := 0) ⟨dX11_skill_27, rfl⟩ ki_0 ?_
      cases hf
      exact y_ireturn (n := 29) ⟨dX11_skill_28, rfl⟩ rfl rfl hk
    · have hc := bI_1 h0
      replace hf := i_t hc hf
      refine y_iload_n (i := 3) (n := 19) ⟨dX11_skill_18, rfl⟩ rfl ?_
      refine y_bipush (n := 21) (v := 10) ⟨dX11_skill_19, rfl⟩ kb_10 ?_
      refine c_ax_within a3 10 M (n := 24) ⟨dX11_skill_21, rfl⟩ klX11_91 rfl (by decide) (Nat.le_of_ble_eq_true rfl) rfl rfl ?_
      refine y_if_ne (t := 29) (n := 27) ⟨dX11_skill_24, rfl, rfl⟩ (fun h0 => ?_) (fun h0 => ?_)
      · have hc := bI_1 h0
        replace hf := i_t hc hf
        refine y_aload_n (i := 0) (n := 30) ⟨dX11_skill_29, rfl⟩ rfl ?_
        refine y_getR (n := 33) ⟨dX11_skill_30, rfl⟩ kfX11_83 l_0 rfl r_0_9 ?_
        refine y_getR (n := 36) ⟨dX11_skill_33, rfl⟩ kfX11_315 l_56 rfl r_56_3 ?_
        refine y_iload_n (i := 1) (n := 37) ⟨dX11_skill_36, rfl⟩ rfl ?_
        refine y_iload_n (i := 2) (n := 38) ⟨dX11_skill_37, rfl⟩ rfl ?_
        obtain ⟨hg1, hf⟩ := g_s hf
        refine y_iastore (n := 39) ⟨dX11_skill_38, rfl⟩ l_57 hg1 ?_
        refine y_aload_n (i := 0) (n := 40) ⟨dX11_skill_39, rfl⟩ rfl ?_
        refine y_getR (n := 43) ⟨dX11_skill_40, rfl⟩ kfX11_83 l_0 rfl r_0_9 ?_
        refine y_getR (n := 46) ⟨dX11_skill_43, rfl⟩ kfX11_318 l_56 rfl r_56_4 ?_
        refine y_iload_n (i := 1) (n := 47) ⟨dX11_skill_46, rfl⟩ rfl ?_
        refine y_iload_n (i := 3) (n := 48) ⟨dX11_skill_47, rfl⟩ rfl ?_
        refine y_iastore (n := 49) ⟨dX11_skill_48, rfl⟩ l_58 hg1 ?_
        refine y_aload_n (i := 0) (n := 50) ⟨dX11_skill_49, rfl⟩ rfl ?_
        refine c_ax_changed (sI (sI M 57 a1.toNatClampNeg a2) 58 a1.toNatClampNeg a3) (n := 53) ⟨dX11_skill_50, rfl⟩ klX11_99 rfl (by decide) (Nat.le_of_ble_eq_true rfl) rfl rfl ?_
        refine y_iconst (n := 54) (v := 1) ⟨dX11_skill_53, rfl⟩ ki_1 ?_
        cases hf
        exact y_ireturn (n := 55) ⟨dX11_skill_54, rfl⟩ rfl rfl hk
      · have hc := bI_0 h0
        replace hf := i_f hc hf
        refine y_iconst (n := 28) (v := 0) ⟨dX11_skill_27, rfl⟩ ki_0 ?_
        cases hf
        exact y_ireturn (n := 29) ⟨dX11_skill_28, rfl⟩ rfl rfl hk
theorem c_ax_skill (a1 : Int32) (a2 : Int32) (a3 : Int32) (M : dM) {o : (Bool × dM)} {y : mz_M} {d : Nat} {Q : mz_P} {pc n i : Nat} {L : List (Option Value)} {st : List Value} (h : mz_d y.2.1 pc n 3 (.invokevirtual i)) (hl : mz_ml y.1.cls i yX11_skill) (hf : f_ax_skill a1 a2 a3 M = some o) (hd : 3 + 1 ≤ d) (hsm : (st.map (fun v => v.category)).sum ≤ 8) (hLr : mz_rL 133 L = true) (hSr : mz_rS 133 st = true) (kk : mW y d Q n L (.int (bI o.1) :: st) o.2) : mW y d Q pc L (.int a3 :: .int a2 :: .int a1 :: .ref 0 :: st) M :=
  y_callV kmX11_skill kvX11_skill l_0 (by decide +kernel) (by decide +kernel) h hl (ok_ax_skill a1 a2 a3 M hf) (vs := [.int a1, .int a2, .int a3]) rfl rfl hd hsm hLr hSr kk
noncomputable def f_ax_wealth (a1 : Int32) (a2 : Int32) (a3 : Int32) (M : dM) : Option (Bool × dM) :=
  if (f_ax_within a1 8) = true then
    if (f_ax_within a2 10) = true then
      if (f_ax_within a3 10) = true then
        (f_si_isTold a1 a2 M).bind fun v1 =>
        if v1 = true then
          gd (vp_in ((a1 * 10) + a2) 80) <|
          some (true, (f_ax_changed (sI M 3 ((a1 * 10) + a2).toNatClampNeg a3)))
        else
          some (false, M)
      else
        some (false, M)
    else
      some (false, M)
  else
    some (false, M)
theorem ok_ax_wealth (a1 : Int32) (a2 : Int32) (a3 : Int32) (M : dM) {o : (Bool × dM)} (hf : f_ax_wealth a1 a2 a3 M = some o) : mO mX11_wealth 3 [.ref 0, .int a1, .int a2, .int a3] M (some (.int (bI o.1))) o.2 := by
  refine y_ok (by decide +kernel) (Nat.le_of_ble_eq_true rfl) (L0 := [some (.ref 0), some (.int a1), some (.int a2), some (.int a3)]) rfl ?_
  have hk := mR_mQ (some (.int (bI o.1))) o.2
  generalize mQ _ _ = Q at hk ⊢
  unfold f_ax_wealth at hf
  refine y_iload_n (i := 1) (n := 1) ⟨dX11_wealth_0, rfl⟩ rfl ?_
  refine y_bipush (n := 3) (v := 8) ⟨dX11_wealth_1, rfl⟩ kb_8 ?_
  refine c_ax_within a1 8 M (n := 6) ⟨dX11_wealth_3, rfl⟩ klX11_91 rfl (by decide) (Nat.le_of_ble_eq_true rfl) rfl rfl ?_
  refine y_if_eq (t := 27) (n := 9) ⟨dX11_wealth_6, rfl, rfl⟩ (fun h0 => ?_) (fun h0 => ?_)
  · have hc := bI_0 h0
    replace hf := i_f hc hf
    refine y_iconst (n := 28) (v := 0) ⟨dX11_wealth_27, rfl⟩ ki_0 ?_
    cases hf
    exact y_ireturn (n := 29) ⟨dX11_wealth_28, rfl⟩ rfl rfl hk
  · have hc := bI_1 h0
    replace hf := i_t hc hf
    refine y_iload_n (i := 2) (n := 10) ⟨dX11_wealth_9, rfl⟩ rfl ?_
    refine y_bipush (n := 12) (v := 10) ⟨dX11_wealth_10, rfl⟩ kb_10 ?_
    refine c_ax_within a2 10 M (n := 15) ⟨dX11_wealth_12, rfl⟩ klX11_91 rfl (by decide) (Nat.le_of_ble_eq_true rfl) rfl rfl ?_
    refine y_if_eq (t := 27) (n := 18) ⟨dX11_wealth_15, rfl, rfl⟩ (fun h0 => ?_) (fun h0 => ?_)
    · have hc := bI_0 h0
      replace hf := i_f hc hf
      refine y_iconst (n := 28) (v := 0) ⟨dX11_wealth_27, rfl⟩ ki_0 ?_
      cases hf
      exact y_ireturn (n := 29) ⟨dX11_wealth_28, rfl⟩ rfl rfl hk
    · have hc := bI_1 h0
      replace hf := i_t hc hf
      refine y_iload_n (i := 3) (n := 19) ⟨dX11_wealth_18, rfl⟩ rfl ?_
      refine y_bipush (n := 21) (v := 10) ⟨dX11_wealth_19, rfl⟩ kb_10 ?_
      refine c_ax_within a3 10 M (n := 24) ⟨dX11_wealth_21, rfl⟩ klX11_91 rfl (by decide) (Nat.le_of_ble_eq_true rfl) rfl rfl ?_
      refine y_if_ne (t := 29) (n := 27) ⟨dX11_wealth_24, rfl, rfl⟩ (fun h0 => ?_) (fun h0 => ?_)
      · have hc := bI_1 h0
        replace hf := i_t hc hf
        refine y_aload_n (i := 0) (n := 30) ⟨dX11_wealth_29, rfl⟩ rfl ?_
        refine y_getR (n := 33) ⟨dX11_wealth_30, rfl⟩ kfX11_10 l_0 rfl r_0_0 ?_
        refine y_iload_n (i := 1) (n := 34) ⟨dX11_wealth_33, rfl⟩ rfl ?_
        refine y_iload_n (i := 2) (n := 35) ⟨dX11_wealth_34, rfl⟩ rfl ?_
        obtain ⟨v1, hv2, hf⟩ := b_s hf
        refine c_si_isTold a1 a2 M (n := 38) ⟨dX11_wealth_35, rfl⟩ klX11_113 hv2 (by decide) (Nat.le_of_ble_eq_true rfl) rfl rfl ?_
        refine y_if_ne (t := 43) (n := 41) ⟨dX11_wealth_38, rfl, rfl⟩ (fun h0 => ?_) (fun h0 => ?_)
        · have hc := bI_1 h0
          replace hf := i_t hc hf
          refine y_aload_n (i := 0) (n := 44) ⟨dX11_wealth_43, rfl⟩ rfl ?_
          refine y_getR (n := 47) ⟨dX11_wealth_44, rfl⟩ kfX11_10 l_0 rfl r_0_0 ?_
          refine y_getR (n := 50) ⟨dX11_wealth_47, rfl⟩ kfX11_321 l_1 rfl r_1_1 ?_
          refine y_iload_n (i := 1) (n := 51) ⟨dX11_wealth_50, rfl⟩ rfl ?_
          refine y_bipush (n := 53) (v := 10) ⟨dX11_wealth_51, rfl⟩ kb_10 ?_
          refine y_imul (n := 54) ⟨dX11_wealth_53, rfl⟩ ?_
          refine y_iload_n (i := 2) (n := 55) ⟨dX11_wealth_54, rfl⟩ rfl ?_
          refine y_iadd (n := 56) ⟨dX11_wealth_55, rfl⟩ ?_
          refine y_iload_n (i := 3) (n := 57) ⟨dX11_wealth_56, rfl⟩ rfl ?_
          obtain ⟨hg3, hf⟩ := g_s hf
          refine y_iastore (n := 58) ⟨dX11_wealth_57, rfl⟩ l_3 hg3 ?_
          refine y_aload_n (i := 0) (n := 59) ⟨dX11_wealth_58, rfl⟩ rfl ?_
          refine c_ax_changed (sI M 3 ((a1 * 10) + a2).toNatClampNeg a3) (n := 62) ⟨dX11_wealth_59, rfl⟩ klX11_99 rfl (by decide) (Nat.le_of_ble_eq_true rfl) rfl rfl ?_
          refine y_iconst (n := 63) (v := 1) ⟨dX11_wealth_62, rfl⟩ ki_1 ?_
          cases hf
          exact y_ireturn (n := 64) ⟨dX11_wealth_63, rfl⟩ rfl rfl hk
        · have hc := bI_0 h0
          replace hf := i_f hc hf
          refine y_iconst (n := 42) (v := 0) ⟨dX11_wealth_41, rfl⟩ ki_0 ?_
          cases hf
          exact y_ireturn (n := 43) ⟨dX11_wealth_42, rfl⟩ rfl rfl hk
      · have hc := bI_0 h0
        replace hf := i_f hc hf
        refine y_iconst (n := 28) (v := 0) ⟨dX11_wealth_27, rfl⟩ ki_0 ?_
        cases hf
        exact y_ireturn (n := 29) ⟨dX11_wealth_28, rfl⟩ rfl rfl hk
theorem c_ax_wealth (a1 : Int32) (a2 : Int32) (a3 : Int32) (M : dM) {o : (Bool × dM)} {y : mz_M} {d : Nat} {Q : mz_P} {pc n i : Nat} {L : List (Option Value)} {st : List Value} (h : mz_d y.2.1 pc n 3 (.invokevirtual i)) (hl : mz_ml y.1.cls i yX11_wealth) (hf : f_ax_wealth a1 a2 a3 M = some o) (hd : 3 + 1 ≤ d) (hsm : (st.map (fun v => v.category)).sum ≤ 8) (hLr : mz_rL 133 L = true) (hSr : mz_rS 133 st = true) (kk : mW y d Q n L (.int (bI o.1) :: st) o.2) : mW y d Q pc L (.int a3 :: .int a2 :: .int a1 :: .ref 0 :: st) M :=
  y_callV kmX11_wealth kvX11_wealth l_0 (by decide +kernel) (by decide +kernel) h hl (ok_ax_wealth a1 a2 a3 M hf) (vs := [.int a1, .int a2, .int a3]) rfl rfl hd hsm hLr hSr kk
noncomputable def f_ax_shows (a1 : Int32) (a2 : Int32) (a3 : Int32) (M : dM) : Option (Bool × dM) :=
  if (f_ax_within a1 8) = true then
    if (f_ax_within a2 10) = true then
      if (f_ax_within a3 10) = true then
        gd (vp_in a1 16) <|
        gd (vp_in (8 + a1) 16) <|
        some (true, (f_ax_changed (sI (sI M 59 a1.toNatClampNeg a2) 59 (8 + a1).toNatClampNeg a3)))
      else
        some (false, M)
    else
      some (false, M)
  else
    some (false, M)
theorem ok_ax_shows (a1 : Int32) (a2 : Int32) (a3 : Int32) (M : dM) {o : (Bool × dM)} (hf : f_ax_shows a1 a2 a3 M = some o) : mO mX11_shows 3 [.ref 0, .int a1, .int a2, .int a3] M (some (.int (bI o.1))) o.2 := by
  refine y_ok (by decide +kernel) (Nat.le_of_ble_eq_true rfl) (L0 := [some (.ref 0), some (.int a1), some (.int a2), some (.int a3)]) rfl ?_
  have hk := mR_mQ (some (.int (bI o.1))) o.2
  generalize mQ _ _ = Q at hk ⊢
  unfold f_ax_shows at hf
  refine y_iload_n (i := 1) (n := 1) ⟨dX11_shows_0, rfl⟩ rfl ?_
  refine y_bipush (n := 3) (v := 8) ⟨dX11_shows_1, rfl⟩ kb_8 ?_
  refine c_ax_within a1 8 M (n := 6) ⟨dX11_shows_3, rfl⟩ klX11_91 rfl (by decide) (Nat.le_of_ble_eq_true rfl) rfl rfl ?_
  refine y_if_eq (t := 27) (n := 9) ⟨dX11_shows_6, rfl, rfl⟩ (fun h0 => ?_) (fun h0 => ?_)
  · have hc := bI_0 h0
    replace hf := i_f hc hf
    refine y_iconst (n := 28) (v := 0) ⟨dX11_shows_27, rfl⟩ ki_0 ?_
    cases hf
    exact y_ireturn (n := 29) ⟨dX11_shows_28, rfl⟩ rfl rfl hk
  · have hc := bI_1 h0
    replace hf := i_t hc hf
    refine y_iload_n (i := 2) (n := 10) ⟨dX11_shows_9, rfl⟩ rfl ?_
    refine y_bipush (n := 12) (v := 10) ⟨dX11_shows_10, rfl⟩ kb_10 ?_
    refine c_ax_within a2 10 M (n := 15) ⟨dX11_shows_12, rfl⟩ klX11_91 rfl (by decide) (Nat.le_of_ble_eq_true rfl) rfl rfl ?_
    refine y_if_eq (t := 27) (n := 18) ⟨dX11_shows_15, rfl, rfl⟩ (fun h0 => ?_) (fun h0 => ?_)
    · have hc := bI_0 h0
      replace hf := i_f hc hf
      refine y_iconst (n := 28) (v := 0) ⟨dX11_shows_27, rfl⟩ ki_0 ?_
      cases hf
      exact y_ireturn (n := 29) ⟨dX11_shows_28, rfl⟩ rfl rfl hk
    · have hc := bI_1 h0
      replace hf := i_t hc hf
      refine y_iload_n (i := 3) (n := 19) ⟨dX11_shows_18, rfl⟩ rfl ?_
      refine y_bipush (n := 21) (v := 10) ⟨dX11_shows_19, rfl⟩ kb_10 ?_
      refine c_ax_within a3 10 M (n := 24) ⟨dX11_shows_21, rfl⟩ klX11_91 rfl (by decide) (Nat.le_of_ble_eq_true rfl) rfl rfl ?_
      refine y_if_ne (t := 29) (n := 27) ⟨dX11_shows_24, rfl, rfl⟩ (fun h0 => ?_) (fun h0 => ?_)
      · have hc := bI_1 h0
        replace hf := i_t hc hf
        refine y_aload_n (i := 0) (n := 30) ⟨dX11_shows_29, rfl⟩ rfl ?_
        refine y_getR (n := 33) ⟨dX11_shows_30, rfl⟩ kfX11_83 l_0 rfl r_0_9 ?_
        refine y_getR (n := 36) ⟨dX11_shows_33, rfl⟩ kfX11_324 l_56 rfl r_56_5 ?_
        refine y_iload_n (i := 1) (n := 37) ⟨dX11_shows_36, rfl⟩ rfl ?_
        refine y_iload_n (i := 2) (n := 38) ⟨dX11_shows_37, rfl⟩ rfl ?_
        obtain ⟨hg1, hf⟩ := g_s hf
        refine y_iastore (n := 39) ⟨dX11_shows_38, rfl⟩ l_59 hg1 ?_
        refine y_aload_n (i := 0) (n := 40) ⟨dX11_shows_39, rfl⟩ rfl ?_
        refine y_getR (n := 43) ⟨dX11_shows_40, rfl⟩ kfX11_83 l_0 rfl r_0_9 ?_
        refine y_getR (n := 46) ⟨dX11_shows_43, rfl⟩ kfX11_324 l_56 rfl r_56_5 ?_
        refine y_bipush (n := 48) (v := 8) ⟨dX11_shows_46, rfl⟩ kb_8 ?_
        refine y_iload_n (i := 1) (n := 49) ⟨dX11_shows_48, rfl⟩ rfl ?_
        refine y_iadd (n := 50) ⟨dX11_shows_49, rfl⟩ ?_
        refine y_iload_n (i := 3) (n := 51) ⟨dX11_shows_50, rfl⟩ rfl ?_
        obtain ⟨hg2, hf⟩ := g_s hf
        refine y_iastore (n := 52) ⟨dX11_shows_51, rfl⟩ l_59 hg2 ?_
        refine y_aload_n (i := 0) (n := 53) ⟨dX11_shows_52, rfl⟩ rfl ?_
        refine c_ax_changed (sI (sI M 59 a1.toNatClampNeg a2) 59 (8 + a1).toNatClampNeg a3) (n := 56) ⟨dX11_shows_53, rfl⟩ klX11_99 rfl (by decide) (Nat.le_of_ble_eq_true rfl) rfl rfl ?_
        refine y_iconst (n := 57) (v := 1) ⟨dX11_shows_56, rfl⟩ ki_1 ?_
        cases hf
        exact y_ireturn (n := 58) ⟨dX11_shows_57, rfl⟩ rfl rfl hk
      · have hc := bI_0 h0
        replace hf := i_f hc hf
        refine y_iconst (n := 28) (v := 0) ⟨dX11_shows_27, rfl⟩ ki_0 ?_
        cases hf
        exact y_ireturn (n := 29) ⟨dX11_shows_28, rfl⟩ rfl rfl hk
theorem c_ax_shows (a1 : Int32) (a2 : Int32) (a3 : Int32) (M : dM) {o : (Bool × dM)} {y : mz_M} {d : Nat} {Q : mz_P} {pc n i : Nat} {L : List (Option Value)} {st : List Value} (h : mz_d y.2.1 pc n 3 (.invokevirtual i)) (hl : mz_ml y.1.cls i yX11_shows) (hf : f_ax_shows a1 a2 a3 M = some o) (hd : 3 + 1 ≤ d) (hsm : (st.map (fun v => v.category)).sum ≤ 8) (hLr : mz_rL 133 L = true) (hSr : mz_rS 133 st = true) (kk : mW y d Q n L (.int (bI o.1) :: st) o.2) : mW y d Q pc L (.int a3 :: .int a2 :: .int a1 :: .ref 0 :: st) M :=
  y_callV kmX11_shows kvX11_shows l_0 (by decide +kernel) (by decide +kernel) h hl (ok_ax_shows a1 a2 a3 M hf) (vs := [.int a1, .int a2, .int a3]) rfl rfl hd hsm hLr hSr kk
def K_jd_fill_61_5 (Q : mz_P) (x1 : Int32) (x3 : Int32) : ((Int32 × dM) ⊕ dM) → Prop
  | .inl s => mW mJ7_fill_53178 1 Q 5 [some (.ref 61), some (.int x1), some (.int s.1), some (.int x3)] [] s.2
  | .inr r => mR Q none r
noncomputable def b_jd_fill_61_5_5 (x1 : Int32) (x2 : Int32) (x3 : Int32) (M : dM) : Option ((Int32 × dM) ⊕ dM) :=
  if x3 ≤ x2 then
    some (.inr M)
  else
    gd (vp_in x2 8) <|
    some (.inl ((x2 + 1), (sI M 61 x2.toNatClampNeg x1)))
noncomputable def l_jd_fill_61_5 (x1 : Int32) (x2 : Int32) (x3 : Int32) (M : dM) : Option dM := lpc (fun s => b_jd_fill_61_5_5 x1 s.1 x3 s.2) (x2, M)
noncomputable def f_jd_fill_61 (a2 : Int32) (M : dM) : Option dM :=
  (l_jd_fill_61_5 a2 0 8 M).bind fun r4 => some r4
theorem w_b_jd_fill_61_5_5 (x1 : Int32) (x2 : Int32) (x3 : Int32)  (M : dM) {Q : mz_P} {o : ((Int32 × dM) ⊕ dM)} (hf : b_jd_fill_61_5_5 x1 x2 x3 M = some o) (hk : K_jd_fill_61_5 Q x1 x3 o) : mW mJ7_fill_53178 1 Q 5 [some (.ref 61), some (.int x1), some (.int x2), some (.int x3)] [] M := by
  unfold b_jd_fill_61_5_5 at hf
  refine y_iload_n (i := 2) (n := 6) ⟨dJ7_fill_53178_5, rfl⟩ rfl ?_
  refine y_iload_n (i := 3) (n := 7) ⟨dJ7_fill_53178_6, rfl⟩ rfl ?_
  refine y_icmp_ge (t := 20) (n := 10) ⟨dJ7_fill_53178_7, rfl, rfl⟩ (fun (hc : x3 ≤ x2) => ?_) (fun (hc : ¬ (x3 ≤ x2)) => ?_)
  · replace hf := i_t hc hf
    cases hf
    exact y_return (n := 21) ⟨dJ7_fill_53178_20, rfl⟩ rfl hk
  · replace hf := i_f hc hf
    refine y_aload_n (i := 0) (n := 11) ⟨dJ7_fill_53178_10, rfl⟩ rfl ?_
    refine y_iload_n (i := 2) (n := 12) ⟨dJ7_fill_53178_11, rfl⟩ rfl ?_
    refine y_iload_n (i := 1) (n := 13) ⟨dJ7_fill_53178_12, rfl⟩ rfl ?_
    obtain ⟨hg1, hf⟩ := g_s hf
    refine y_iastore (n := 14) ⟨dJ7_fill_53178_13, rfl⟩ l_61 hg1 ?_
    refine y_iinc (i := 2) (n := 17) (b := (x2 + 1)) (L2 := [some (.ref 61), some (.int x1), some (.int (x2 + 1)), some (.int x3)]) ⟨dJ7_fill_53178_14, rfl⟩ rfl (by rw [ki_1]) (by decide) rfl rfl ?_
    refine y_goto (t := 5) ⟨dJ7_fill_53178_17, rfl, rfl⟩ ?_
    cases hf
    exact y_wk (L2 := [some (.ref 61), some (.int x1), some (.int (x2 + 1)), some (.int x3)]) ⟨Or.inr rfl, Or.inr rfl, Or.inr rfl, Or.inr rfl, trivial⟩ hk
theorem wl_jd_fill_61_5 (x1 : Int32) (x2 : Int32) (x3 : Int32) (M : dM) {Q : mz_P} {x : dM} (hf : l_jd_fill_61_5 x1 x2 x3 M = some x) (hk : K_jd_fill_61_5 Q x1 x3 (.inr x)) : mW mJ7_fill_53178 1 Q 5 [some (.ref 61), some (.int x1), some (.int x2), some (.int x3)] [] M :=
  lpc_wp (σ := (Int32 × dM)) (ξ := dM) (s := (x2, M)) (Wh := fun s => mW mJ7_fill_53178 1 Q 5 [some (.ref 61), some (.int x1), some (.int s.1), some (.int x3)] [] s.2) (K := K_jd_fill_61_5 Q x1 x3) (fun _ h => h) (fun s o hb hk => w_b_jd_fill_61_5_5 x1 s.1 x3 s.2 hb hk) hf hk
theorem ok_jd_fill_61 (a2 : Int32) (M : dM) {o : dM} (hf : f_jd_fill_61 a2 M = some o) : mO mJ7_fill_53178 1 [.ref 61, .int a2] M none o := by
  refine y_ok (by decide +kernel) (Nat.le_of_ble_eq_true rfl) (L0 := [some (.ref 61), some (.int a2), none, none]) rfl ?_
  have hk := mR_mQ none o
  generalize mQ _ _ = Q at hk ⊢
  unfold f_jd_fill_61 at hf
  refine y_iconst (n := 1) (v := 0) ⟨dJ7_fill_53178_0, rfl⟩ ki_0 ?_
  refine y_istore_n (i := 2) (n := 2) (L2 := [some (.ref 61), some (.int a2), some (.int 0), none]) ⟨dJ7_fill_53178_1, rfl⟩ (by decide) rfl rfl ?_
  refine y_aload_n (i := 0) (n := 3) ⟨dJ7_fill_53178_2, rfl⟩ rfl ?_
  refine y_alen (n := 4) (v := 8) ⟨dJ7_fill_53178_3, rfl⟩ l_61 (fun _ => rfl) (by decide) ?_
  refine y_istore_n (i := 3) (n := 5) (L2 := [some (.ref 61), some (.int a2), some (.int 0), some (.int 8)]) ⟨dJ7_fill_53178_4, rfl⟩ (by decide) rfl rfl ?_
  obtain ⟨r4, hl3, hf⟩ := b_s hf
  cases hf
  exact y_wk (L2 := [some (.ref 61), some (.int a2), some (.int 0), some (.int 8)]) ⟨Or.inr rfl, Or.inr rfl, Or.inr rfl, Or.inr rfl, trivial⟩ (wl_jd_fill_61_5 a2 0 8 M hl3 hk)
theorem c_jd_fill_61 (a2 : Int32) (M : dM) {o : dM} {y : mz_M} {d : Nat} {Q : mz_P} {pc n i : Nat} {L : List (Option Value)} {st : List Value} (h : mz_d y.2.1 pc n 3 (.invokestatic i)) (hl : mz_ml y.1.cls i yJ7_fill_53178) (hf : f_jd_fill_61 a2 M = some o) (hd : 1 + 1 ≤ d) (hsm : (st.map (fun v => v.category)).sum ≤ 8) (hLr : mz_rL 133 L = true) (hSr : mz_rS 133 st = true) (kk : mW y d Q n L st o) : mW y d Q pc L (.int a2 :: .ref 61 :: st) M :=
  y_callS kmJ7_fill_53178 ksJ7_fill_53178 h hl (ok_jd_fill_61 a2 M hf) (vs := [.ref 61, .int a2]) rfl rfl hd hsm hLr hSr kk
def K_jd_fill_63_5 (Q : mz_P) (x1 : Int32) (x3 : Int32) : ((Int32 × dM) ⊕ dM) → Prop
  | .inl s => mW mJ7_fill_53178 1 Q 5 [some (.ref 63), some (.int x1), some (.int s.1), some (.int x3)] [] s.2
  | .inr r => mR Q none r
noncomputable def b_jd_fill_63_5_5 (x1 : Int32) (x2 : Int32) (x3 : Int32) (M : dM) : Option ((Int32 × dM) ⊕ dM) :=
  if x3 ≤ x2 then
    some (.inr M)
  else
    gd (vp_in x2 14) <|
    some (.inl ((x2 + 1), (sI M 63 x2.toNatClampNeg x1)))
noncomputable def l_jd_fill_63_5 (x1 : Int32) (x2 : Int32) (x3 : Int32) (M : dM) : Option dM := lpc (fun s => b_jd_fill_63_5_5 x1 s.1 x3 s.2) (x2, M)
noncomputable def f_jd_fill_63 (a2 : Int32) (M : dM) : Option dM :=
  (l_jd_fill_63_5 a2 0 14 M).bind fun r4 => some r4
theorem w_b_jd_fill_63_5_5 (x1 : Int32) (x2 : Int32) (x3 : Int32)  (M : dM) {Q : mz_P} {o : ((Int32 × dM) ⊕ dM)} (hf : b_jd_fill_63_5_5 x1 x2 x3 M = some o) (hk : K_jd_fill_63_5 Q x1 x3 o) : mW mJ7_fill_53178 1 Q 5 [some (.ref 63), some (.int x1), some (.int x2), some (.int x3)] [] M := by
  unfold b_jd_fill_63_5_5 at hf
  refine y_iload_n (i := 2) (n := 6) ⟨dJ7_fill_53178_5, rfl⟩ rfl ?_
  refine y_iload_n (i := 3) (n := 7) ⟨dJ7_fill_53178_6, rfl⟩ rfl ?_
  refine y_icmp_ge (t := 20) (n := 10) ⟨dJ7_fill_53178_7, rfl, rfl⟩ (fun (hc : x3 ≤ x2) => ?_) (fun (hc : ¬ (x3 ≤ x2)) => ?_)
  · replace hf := i_t hc hf
    cases hf
    exact y_return (n := 21) ⟨dJ7_fill_53178_20, rfl⟩ rfl hk
  · replace hf := i_f hc hf
    refine y_aload_n (i := 0) (n := 11) ⟨dJ7_fill_53178_10, rfl⟩ rfl ?_
    refine y_iload_n (i := 2) (n := 12) ⟨dJ7_fill_53178_11, rfl⟩ rfl ?_
    refine y_iload_n (i := 1) (n := 13) ⟨dJ7_fill_53178_12, rfl⟩ rfl ?_
    obtain ⟨hg1, hf⟩ := g_s hf
    refine y_iastore (n := 14) ⟨dJ7_fill_53178_13, rfl⟩ l_63 hg1 ?_
    refine y_iinc (i := 2) (n := 17) (b := (x2 + 1)) (L2 := [some (.ref 63), some (.int x1), some (.int (x2 + 1)), some (.int x3)]) ⟨dJ7_fill_53178_14, rfl⟩ rfl (by rw [ki_1]) (by decide) rfl rfl ?_
    refine y_goto (t := 5) ⟨dJ7_fill_53178_17, rfl, rfl⟩ ?_
    cases hf
    exact y_wk (L2 := [some (.ref 63), some (.int x1), some (.int (x2 + 1)), some (.int x3)]) ⟨Or.inr rfl, Or.inr rfl, Or.inr rfl, Or.inr rfl, trivial⟩ hk
theorem wl_jd_fill_63_5 (x1 : Int32) (x2 : Int32) (x3 : Int32) (M : dM) {Q : mz_P} {x : dM} (hf : l_jd_fill_63_5 x1 x2 x3 M = some x) (hk : K_jd_fill_63_5 Q x1 x3 (.inr x)) : mW mJ7_fill_53178 1 Q 5 [some (.ref 63), some (.int x1), some (.int x2), some (.int x3)] [] M :=
  lpc_wp (σ := (Int32 × dM)) (ξ := dM) (s := (x2, M)) (Wh := fun s => mW mJ7_fill_53178 1 Q 5 [some (.ref 63), some (.int x1), some (.int s.1), some (.int x3)] [] s.2) (K := K_jd_fill_63_5 Q x1 x3) (fun _ h => h) (fun s o hb hk => w_b_jd_fill_63_5_5 x1 s.1 x3 s.2 hb hk) hf hk
theorem ok_jd_fill_63 (a2 : Int32) (M : dM) {o : dM} (hf : f_jd_fill_63 a2 M = some o) : mO mJ7_fill_53178 1 [.ref 63, .int a2] M none o := by
  refine y_ok (by decide +kernel) (Nat.le_of_ble_eq_true rfl) (L0 := [some (.ref 63), some (.int a2), none, none]) rfl ?_
  have hk := mR_mQ none o
  generalize mQ _ _ = Q at hk ⊢
  unfold f_jd_fill_63 at hf
  refine y_iconst (n := 1) (v := 0) ⟨dJ7_fill_53178_0, rfl⟩ ki_0 ?_
  refine y_istore_n (i := 2) (n := 2) (L2 := [some (.ref 63), some (.int a2), some (.int 0), none]) ⟨dJ7_fill_53178_1, rfl⟩ (by decide) rfl rfl ?_
  refine y_aload_n (i := 0) (n := 3) ⟨dJ7_fill_53178_2, rfl⟩ rfl ?_
  refine y_alen (n := 4) (v := 14) ⟨dJ7_fill_53178_3, rfl⟩ l_63 (fun _ => rfl) (by decide) ?_
  refine y_istore_n (i := 3) (n := 5) (L2 := [some (.ref 63), some (.int a2), some (.int 0), some (.int 14)]) ⟨dJ7_fill_53178_4, rfl⟩ (by decide) rfl rfl ?_
  obtain ⟨r4, hl3, hf⟩ := b_s hf
  cases hf
  exact y_wk (L2 := [some (.ref 63), some (.int a2), some (.int 0), some (.int 14)]) ⟨Or.inr rfl, Or.inr rfl, Or.inr rfl, Or.inr rfl, trivial⟩ (wl_jd_fill_63_5 a2 0 14 M hl3 hk)
theorem c_jd_fill_63 (a2 : Int32) (M : dM) {o : dM} {y : mz_M} {d : Nat} {Q : mz_P} {pc n i : Nat} {L : List (Option Value)} {st : List Value} (h : mz_d y.2.1 pc n 3 (.invokestatic i)) (hl : mz_ml y.1.cls i yJ7_fill_53178) (hf : f_jd_fill_63 a2 M = some o) (hd : 1 + 1 ≤ d) (hsm : (st.map (fun v => v.category)).sum ≤ 8) (hLr : mz_rL 133 L = true) (hSr : mz_rS 133 st = true) (kk : mW y d Q n L st o) : mW y d Q pc L (.int a2 :: .ref 63 :: st) M :=
  y_callS kmJ7_fill_53178 ksJ7_fill_53178 h hl (ok_jd_fill_63 a2 M hf) (vs := [.ref 63, .int a2]) rfl rfl hd hsm hLr hSr kk
def K_jd_fill_64_5 (Q : mz_P) (x1 : Int32) (x3 : Int32) : ((Int32 × dM) ⊕ dM) → Prop
  | .inl s => mW mJ7_fill_53178 1 Q 5 [some (.ref 64), some (.int x1), some (.int s.1), some (.int x3)] [] s.2
  | .inr r => mR Q none r
noncomputable def b_jd_fill_64_5_5 (x1 : Int32) (x2 : Int32) (x3 : Int32) (M : dM) : Option ((Int32 × dM) ⊕ dM) :=
  if x3 ≤ x2 then
    some (.inr M)
  else
    gd (vp_in x2 10) <|
    some (.inl ((x2 + 1), (sI M 64 x2.toNatClampNeg x1)))
noncomputable def l_jd_fill_64_5 (x1 : Int32) (x2 : Int32) (x3 : Int32) (M : dM) : Option dM := lpc (fun s => b_jd_fill_64_5_5 x1 s.1 x3 s.2) (x2, M)
noncomputable def f_jd_fill_64 (a2 : Int32) (M : dM) : Option dM :=
  (l_jd_fill_64_5 a2 0 10 M).bind fun r4 => some r4
theorem w_b_jd_fill_64_5_5 (x1 : Int32) (x2 : Int32) (x3 : Int32)  (M : dM) {Q : mz_P} {o : ((Int32 × dM) ⊕ dM)} (hf : b_jd_fill_64_5_5 x1 x2 x3 M = some o) (hk : K_jd_fill_64_5 Q x1 x3 o) : mW mJ7_fill_53178 1 Q 5 [some (.ref 64), some (.int x1), some (.int x2), some (.int x3)] [] M := by
  unfold b_jd_fill_64_5_5 at hf
  refine y_iload_n (i := 2) (n := 6) ⟨dJ7_fill_53178_5, rfl⟩ rfl ?_
  refine y_iload_n (i := 3) (n := 7) ⟨dJ7_fill_53178_6, rfl⟩ rfl ?_
  refine y_icmp_ge (t := 20) (n := 10) ⟨dJ7_fill_53178_7, rfl, rfl⟩ (fun (hc : x3 ≤ x2) => ?_) (fun (hc : ¬ (x3 ≤ x2)) => ?_)
  · replace hf := i_t hc hf
    cases hf
    exact y_return (n := 21) ⟨dJ7_fill_53178_20, rfl⟩ rfl hk
  · replace hf := i_f hc hf
    refine y_aload_n (i := 0) (n := 11) ⟨dJ7_fill_53178_10, rfl⟩ rfl ?_
    refine y_iload_n (i := 2) (n := 12) ⟨dJ7_fill_53178_11, rfl⟩ rfl ?_
    refine y_iload_n (i := 1) (n := 13) ⟨dJ7_fill_53178_12, rfl⟩ rfl ?_
    obtain ⟨hg1, hf⟩ := g_s hf
    refine y_iastore (n := 14) ⟨dJ7_fill_53178_13, rfl⟩ l_64 hg1 ?_
    refine y_iinc (i := 2) (n := 17) (b := (x2 + 1)) (L2 := [some (.ref 64), some (.int x1), some (.int (x2 + 1)), some (.int x3)]) ⟨dJ7_fill_53178_14, rfl⟩ rfl (by rw [ki_1]) (by decide) rfl rfl ?_
    refine y_goto (t := 5) ⟨dJ7_fill_53178_17, rfl, rfl⟩ ?_
    cases hf
    exact y_wk (L2 := [some (.ref 64), some (.int x1), some (.int (x2 + 1)), some (.int x3)]) ⟨Or.inr rfl, Or.inr rfl, Or.inr rfl, Or.inr rfl, trivial⟩ hk
theorem wl_jd_fill_64_5 (x1 : Int32) (x2 : Int32) (x3 : Int32) (M : dM) {Q : mz_P} {x : dM} (hf : l_jd_fill_64_5 x1 x2 x3 M = some x) (hk : K_jd_fill_64_5 Q x1 x3 (.inr x)) : mW mJ7_fill_53178 1 Q 5 [some (.ref 64), some (.int x1), some (.int x2), some (.int x3)] [] M :=
  lpc_wp (σ := (Int32 × dM)) (ξ := dM) (s := (x2, M)) (Wh := fun s => mW mJ7_fill_53178 1 Q 5 [some (.ref 64), some (.int x1), some (.int s.1), some (.int x3)] [] s.2) (K := K_jd_fill_64_5 Q x1 x3) (fun _ h => h) (fun s o hb hk => w_b_jd_fill_64_5_5 x1 s.1 x3 s.2 hb hk) hf hk
theorem ok_jd_fill_64 (a2 : Int32) (M : dM) {o : dM} (hf : f_jd_fill_64 a2 M = some o) : mO mJ7_fill_53178 1 [.ref 64, .int a2] M none o := by
  refine y_ok (by decide +kernel) (Nat.le_of_ble_eq_true rfl) (L0 := [some (.ref 64), some (.int a2), none, none]) rfl ?_
  have hk := mR_mQ none o
  generalize mQ _ _ = Q at hk ⊢
  unfold f_jd_fill_64 at hf
  refine y_iconst (n := 1) (v := 0) ⟨dJ7_fill_53178_0, rfl⟩ ki_0 ?_
  refine y_istore_n (i := 2) (n := 2) (L2 := [some (.ref 64), some (.int a2), some (.int 0), none]) ⟨dJ7_fill_53178_1, rfl⟩ (by decide) rfl rfl ?_
  refine y_aload_n (i := 0) (n := 3) ⟨dJ7_fill_53178_2, rfl⟩ rfl ?_
  refine y_alen (n := 4) (v := 10) ⟨dJ7_fill_53178_3, rfl⟩ l_64 (fun _ => rfl) (by decide) ?_
  refine y_istore_n (i := 3) (n := 5) (L2 := [some (.ref 64), some (.int a2), some (.int 0), some (.int 10)]) ⟨dJ7_fill_53178_4, rfl⟩ (by decide) rfl rfl ?_
  obtain ⟨r4, hl3, hf⟩ := b_s hf
  cases hf
  exact y_wk (L2 := [some (.ref 64), some (.int a2), some (.int 0), some (.int 10)]) ⟨Or.inr rfl, Or.inr rfl, Or.inr rfl, Or.inr rfl, trivial⟩ (wl_jd_fill_64_5 a2 0 10 M hl3 hk)
theorem c_jd_fill_64 (a2 : Int32) (M : dM) {o : dM} {y : mz_M} {d : Nat} {Q : mz_P} {pc n i : Nat} {L : List (Option Value)} {st : List Value} (h : mz_d y.2.1 pc n 3 (.invokestatic i)) (hl : mz_ml y.1.cls i yJ7_fill_53178) (hf : f_jd_fill_64 a2 M = some o) (hd : 1 + 1 ≤ d) (hsm : (st.map (fun v => v.category)).sum ≤ 8) (hLr : mz_rL 133 L = true) (hSr : mz_rS 133 st = true) (kk : mW y d Q n L st o) : mW y d Q pc L (.int a2 :: .ref 64 :: st) M :=
  y_callS kmJ7_fill_53178 ksJ7_fill_53178 h hl (ok_jd_fill_64 a2 M hf) (vs := [.ref 64, .int a2]) rfl rfl hd hsm hLr hSr kk
noncomputable def f_wo_draw (M : dM) : Option (Int32 × dM) :=
  some ((((gJ (sJ M 56 8 ((((gJ M 56 8) * 1103515245) + 12345) &&& 2147483647)) 56 8) / 65536) - ((gJ (sJ M 56 8 ((((gJ M 56 8) * 1103515245) + 12345) &&& 2147483647)) 56 8) / 65536) / 10 * 10).toInt32, (sJ M 56 8 ((((gJ M 56 8) * 1103515245) + 12345) &&& 2147483647)))
theorem ok_wo_draw  (M : dM) {o : (Int32 × dM)} (hf : f_wo_draw M = some o) : mO mX10_draw 1 [.ref 56] M (some (.int o.1)) o.2 := by
  refine y_ok (by decide +kernel) (Nat.le_of_ble_eq_true rfl) (L0 := [some (.ref 56)]) rfl ?_
  have hk := mR_mQ (some (.int o.1)) o.2
  generalize mQ _ _ = Q at hk ⊢
  unfold f_wo_draw at hf
  refine y_aload_n (i := 0) (n := 1) ⟨dX10_draw_0, rfl⟩ rfl ?_
  refine y_aload_n (i := 0) (n := 2) ⟨dX10_draw_1, rfl⟩ rfl ?_
  refine y_getJ (n := 5) ⟨dX10_draw_2, rfl⟩ kfX10_77 l_56 rfl ?_
  refine y_ldc2 (n := 8) ⟨dX10_draw_5, rfl⟩ kcX10_115 ?_
  refine y_lmul (n := 9) ⟨dX10_draw_8, rfl⟩ ?_
  refine y_ldc2 (n := 12) ⟨dX10_draw_9, rfl⟩ kcX10_117 ?_
  refine y_ladd (n := 13) ⟨dX10_draw_12, rfl⟩ ?_
  refine y_ldc2 (n := 16) ⟨dX10_draw_13, rfl⟩ kcX10_119 ?_
  refine y_land (n := 17) ⟨dX10_draw_16, rfl⟩ ?_
  refine y_putJ (n := 20) ⟨dX10_draw_17, rfl⟩ kfX10_77 l_56 (by decide +kernel) rfl ?_
  refine y_aload_n (i := 0) (n := 21) ⟨dX10_draw_20, rfl⟩ rfl ?_
  refine y_getJ (n := 24) ⟨dX10_draw_21, rfl⟩ kfX10_77 l_56 rfl ?_
  refine y_ldc2 (n := 27) ⟨dX10_draw_24, rfl⟩ kcX10_121 ?_
  refine y_ldiv (n := 28) ⟨dX10_draw_27, rfl⟩ (by decide) ?_
  refine y_ldc2 (n := 31) ⟨dX10_draw_28, rfl⟩ kcX10_123 ?_
  refine y_lrem (n := 32) ⟨dX10_draw_31, rfl⟩ (by decide) ?_
  refine y_l2i (n := 33) ⟨dX10_draw_32, rfl⟩ ?_
  cases hf
  exact y_ireturn (n := 34) ⟨dX10_draw_33, rfl⟩ rfl rfl hk
theorem c_wo_draw  (M : dM) {o : (Int32 × dM)} {y : mz_M} {d : Nat} {Q : mz_P} {pc n i : Nat} {L : List (Option Value)} {st : List Value} (h : mz_d y.2.1 pc n 3 (.invokevirtual i)) (hl : mz_ml y.1.cls i yX10_draw) (hf : f_wo_draw M = some o) (hd : 1 + 1 ≤ d) (hsm : (st.map (fun v => v.category)).sum ≤ 8) (hLr : mz_rL 133 L = true) (hSr : mz_rS 133 st = true) (kk : mW y d Q n L (.int o.1 :: st) o.2) : mW y d Q pc L (.ref 56 :: st) M :=
  y_callV kmX10_draw kvX10_draw l_56 (by decide +kernel) (by decide +kernel) h hl (ok_wo_draw  M hf) (vs := []) rfl rfl hd hsm hLr hSr kk
noncomputable def f_si_layersAt (a1 : Int32) (M : dM) : Option Int32 :=
  gd (vp_in a1 8) <|
  some (f_jd_bitCount_0f7a4 (gI M 4 a1.toNatClampNeg))
theorem ok_si_layersAt (a1 : Int32) (M : dM) {o : Int32} (hf : f_si_layersAt a1 M = some o) : mO mX7_layersAt 2 [.ref 1, .int a1] M (some (.int o)) M := by
  refine y_ok (by decide +kernel) (Nat.le_of_ble_eq_true rfl) (L0 := [some (.ref 1), some (.int a1)]) rfl ?_
  have hk := mR_mQ (some (.int o)) M
  generalize mQ _ _ = Q at hk ⊢
  unfold f_si_layersAt at hf
  refine y_aload_n (i := 0) (n := 1) ⟨dX7_layersAt_0, rfl⟩ rfl ?_
  refine y_getR (n := 4) ⟨dX7_layersAt_1, rfl⟩ kfX7_18 l_1 rfl r_1_2 ?_
  refine y_iload_n (i := 1) (n := 5) ⟨dX7_layersAt_4, rfl⟩ rfl ?_
  obtain ⟨hg1, hf⟩ := g_s hf
  refine y_iaload (n := 6) ⟨dX7_layersAt_5, rfl⟩ l_4 hg1 ?_
  refine c_jd_bitCount_0f7a4 (gI M 4 a1.toNatClampNeg) M (n := 9) ⟨dX7_layersAt_6, rfl⟩ klX7_28 rfl (by decide) (Nat.le_of_ble_eq_true rfl) rfl rfl ?_
  cases hf
  exact y_ireturn (n := 10) ⟨dX7_layersAt_9, rfl⟩ rfl rfl hk
theorem c_si_layersAt (a1 : Int32) (M : dM) {o : Int32} {y : mz_M} {d : Nat} {Q : mz_P} {pc n i : Nat} {L : List (Option Value)} {st : List Value} (h : mz_d y.2.1 pc n 3 (.invokevirtual i)) (hl : mz_ml y.1.cls i yX7_layersAt) (hf : f_si_layersAt a1 M = some o) (hd : 2 + 1 ≤ d) (hsm : (st.map (fun v => v.category)).sum ≤ 8) (hLr : mz_rL 133 L = true) (hSr : mz_rS 133 st = true) (kk : mW y d Q n L (.int o :: st) M) : mW y d Q pc L (.int a1 :: .ref 1 :: st) M :=
  y_callV kmX7_layersAt kvX7_layersAt l_1 (by decide +kernel) (by decide +kernel) h hl (ok_si_layersAt a1 M hf) (vs := [.int a1]) rfl rfl hd hsm hLr hSr kk
def K_si_layerOfNumber_5 (Q : mz_P) (x1 : Int32) (x2 : Int32) (M : dM) : ((Int32 × Int32) ⊕ Int32) → Prop
  | .inl s => mW mX7_layerOfNumber 3 Q 5 [some (.ref 1), some (.int x1), some (.int x2), some (.int s.1), some (.int s.2)] [] M
  | .inr r => mR Q (some (.int r)) M
noncomputable def b_si_layerOfNumber_5_5 (x1 : Int32) (x2 : Int32) (x3 : Int32) (x4 : Int32) (M : dM) : Option ((Int32 × Int32) ⊕ Int32) :=
  if 10 ≤ x4 then
    some (.inr 0)
  else
    (f_si_isTold x1 x4 M).bind fun v1 =>
    if v1 = true then
      if x3 = x2 then
        some (.inr x4)
      else
        some (.inl ((x3 + 1), (x4 + 1)))
    else
      some (.inl (x3, (x4 + 1)))
noncomputable def l_si_layerOfNumber_5 (x1 : Int32) (x2 : Int32) (x3 : Int32) (x4 : Int32) (M : dM) : Option Int32 := lpc (fun s => b_si_layerOfNumber_5_5 x1 x2 s.1 s.2 M) (x3, x4)
noncomputable def f_si_layerOfNumber (a1 : Int32) (a2 : Int32) (M : dM) : Option Int32 :=
  (l_si_layerOfNumber_5 a1 a2 0 0 M).bind fun r5 => some r5
theorem w_b_si_layerOfNumber_5_5 (x1 : Int32) (x2 : Int32) (x3 : Int32) (x4 : Int32)  (M : dM) {Q : mz_P} {o : ((Int32 × Int32) ⊕ Int32)} (hf : b_si_layerOfNumber_5_5 x1 x2 x3 x4 M = some o) (hk : K_si_layerOfNumber_5 Q x1 x2 M o) : mW mX7_layerOfNumber 3 Q 5 [some (.ref 1), some (.int x1), some (.int x2), some (.int x3), some (.int x4)] [] M := by
  unfold b_si_layerOfNumber_5_5 at hf
  refine y_iload (i := 4) (n := 7) ⟨dX7_layerOfNumber_5, rfl⟩ rfl ?_
  refine y_bipush (n := 9) (v := 10) ⟨dX7_layerOfNumber_7, rfl⟩ kb_10 ?_
  refine y_icmp_ge (t := 39) (n := 12) ⟨dX7_layerOfNumber_9, rfl, rfl⟩ (fun (hc : 10 ≤ x4) => ?_) (fun (hc : ¬ (10 ≤ x4)) => ?_)
  · replace hf := i_t hc hf
    refine y_iconst (n := 40) (v := 0) ⟨dX7_layerOfNumber_39, rfl⟩ ki_0 ?_
    cases hf
    exact y_ireturn (n := 41) ⟨dX7_layerOfNumber_40, rfl⟩ rfl rfl hk
  · replace hf := i_f hc hf
    refine y_aload_n (i := 0) (n := 13) ⟨dX7_layerOfNumber_12, rfl⟩ rfl ?_
    refine y_iload_n (i := 1) (n := 14) ⟨dX7_layerOfNumber_13, rfl⟩ rfl ?_
    refine y_iload (i := 4) (n := 16) ⟨dX7_layerOfNumber_14, rfl⟩ rfl ?_
    obtain ⟨v1, hv2, hf⟩ := b_s hf
    refine c_si_isTold x1 x4 M (n := 19) ⟨dX7_layerOfNumber_16, rfl⟩ klX7_37 hv2 (by decide) (Nat.le_of_ble_eq_true rfl) rfl rfl ?_
    refine y_if_eq (t := 33) (n := 22) ⟨dX7_layerOfNumber_19, rfl, rfl⟩ (fun h0 => ?_) (fun h0 => ?_)
    · have hc := bI_0 h0
      replace hf := i_f hc hf
      refine y_iinc (i := 4) (n := 36) (b := (x4 + 1)) (L2 := [some (.ref 1), some (.int x1), some (.int x2), some (.int x3), some (.int (x4 + 1))]) ⟨dX7_layerOfNumber_33, rfl⟩ rfl (by rw [ki_1]) (by decide) rfl rfl ?_
      refine y_goto (t := 5) ⟨dX7_layerOfNumber_36, rfl, rfl⟩ ?_
      cases hf
      exact y_wk (L2 := [some (.ref 1), some (.int x1), some (.int x2), some (.int x3), some (.int (x4 + 1))]) ⟨Or.inr rfl, Or.inr rfl, Or.inr rfl, Or.inr rfl, Or.inr rfl, trivial⟩ hk
    · have hc := bI_1 h0
      replace hf := i_t hc hf
      refine y_iload_n (i := 3) (n := 23) ⟨dX7_layerOfNumber_22, rfl⟩ rfl ?_
      refine y_iload_n (i := 2) (n := 24) ⟨dX7_layerOfNumber_23, rfl⟩ rfl ?_
      refine y_icmp_ne (t := 30) (n := 27) ⟨dX7_layerOfNumber_24, rfl, rfl⟩ (fun (hc : ¬ (x3 = x2)) => ?_) (fun (hc : x3 = x2) => ?_)
      · replace hf := i_f hc hf
        refine y_iinc (i := 3) (n := 33) (b := (x3 + 1)) (L2 := [some (.ref 1), some (.int x1), some (.int x2), some (.int (x3 + 1)), some (.int x4)]) ⟨dX7_layerOfNumber_30, rfl⟩ rfl (by rw [ki_1]) (by decide) rfl rfl ?_
        refine y_iinc (i := 4) (n := 36) (b := (x4 + 1)) (L2 := [some (.ref 1), some (.int x1), some (.int x2), some (.int (x3 + 1)), some (.int (x4 + 1))]) ⟨dX7_layerOfNumber_33, rfl⟩ rfl (by rw [ki_1]) (by decide) rfl rfl ?_
        refine y_goto (t := 5) ⟨dX7_layerOfNumber_36, rfl, rfl⟩ ?_
        cases hf
        exact y_wk (L2 := [some (.ref 1), some (.int x1), some (.int x2), some (.int (x3 + 1)), some (.int (x4 + 1))]) ⟨Or.inr rfl, Or.inr rfl, Or.inr rfl, Or.inr rfl, Or.inr rfl, trivial⟩ hk
      · replace hf := i_t hc hf
        refine y_iload (i := 4) (n := 29) ⟨dX7_layerOfNumber_27, rfl⟩ rfl ?_
        cases hf
        exact y_ireturn (n := 30) ⟨dX7_layerOfNumber_29, rfl⟩ rfl rfl hk
theorem wl_si_layerOfNumber_5 (x1 : Int32) (x2 : Int32) (x3 : Int32) (x4 : Int32) (M : dM) {Q : mz_P} {x : Int32} (hf : l_si_layerOfNumber_5 x1 x2 x3 x4 M = some x) (hk : K_si_layerOfNumber_5 Q x1 x2 M (.inr x)) : mW mX7_layerOfNumber 3 Q 5 [some (.ref 1), some (.int x1), some (.int x2), some (.int x3), some (.int x4)] [] M :=
  lpc_wp (σ := (Int32 × Int32)) (ξ := Int32) (s := (x3, x4)) (Wh := fun s => mW mX7_layerOfNumber 3 Q 5 [some (.ref 1), some (.int x1), some (.int x2), some (.int s.1), some (.int s.2)] [] M) (K := K_si_layerOfNumber_5 Q x1 x2 M) (fun _ h => h) (fun s o hb hk => w_b_si_layerOfNumber_5_5 x1 x2 s.1 s.2 M hb hk) hf hk
theorem ok_si_layerOfNumber (a1 : Int32) (a2 : Int32) (M : dM) {o : Int32} (hf : f_si_layerOfNumber a1 a2 M = some o) : mO mX7_layerOfNumber 3 [.ref 1, .int a1, .int a2] M (some (.int o)) M := by
  refine y_ok (by decide +kernel) (Nat.le_of_ble_eq_true rfl) (L0 := [some (.ref 1), some (.int a1), some (.int a2), none, none]) rfl ?_
  have hk := mR_mQ (some (.int o)) M
  generalize mQ _ _ = Q at hk ⊢
  unfold f_si_layerOfNumber at hf
  refine y_iconst (n := 1) (v := 0) ⟨dX7_layerOfNumber_0, rfl⟩ ki_0 ?_
  refine y_istore_n (i := 3) (n := 2) (L2 := [some (.ref 1), some (.int a1), some (.int a2), some (.int 0), none]) ⟨dX7_layerOfNumber_1, rfl⟩ (by decide) rfl rfl ?_
  refine y_iconst (n := 3) (v := 0) ⟨dX7_layerOfNumber_2, rfl⟩ ki_0 ?_
  refine y_istore (i := 4) (n := 5) (L2 := [some (.ref 1), some (.int a1), some (.int a2), some (.int 0), some (.int 0)]) ⟨dX7_layerOfNumber_3, rfl⟩ (by decide) rfl rfl ?_
  obtain ⟨r5, hl4, hf⟩ := b_s hf
  cases hf
  exact y_wk (L2 := [some (.ref 1), some (.int a1), some (.int a2), some (.int 0), some (.int 0)]) ⟨Or.inr rfl, Or.inr rfl, Or.inr rfl, Or.inr rfl, Or.inr rfl, trivial⟩ (wl_si_layerOfNumber_5 a1 a2 0 0 M hl4 hk)
theorem c_si_layerOfNumber (a1 : Int32) (a2 : Int32) (M : dM) {o : Int32} {y : mz_M} {d : Nat} {Q : mz_P} {pc n i : Nat} {L : List (Option Value)} {st : List Value} (h : mz_d y.2.1 pc n 3 (.invokevirtual i)) (hl : mz_ml y.1.cls i yX7_layerOfNumber) (hf : f_si_layerOfNumber a1 a2 M = some o) (hd : 3 + 1 ≤ d) (hsm : (st.map (fun v => v.category)).sum ≤ 8) (hLr : mz_rL 133 L = true) (hSr : mz_rS 133 st = true) (kk : mW y d Q n L (.int o :: st) M) : mW y d Q pc L (.int a2 :: .int a1 :: .ref 1 :: st) M :=
  y_callV kmX7_layerOfNumber kvX7_layerOfNumber l_1 (by decide +kernel) (by decide +kernel) h hl (ok_si_layerOfNumber a1 a2 M hf) (vs := [.int a1, .int a2]) rfl rfl hd hsm hLr hSr kk
noncomputable def f_wo_drawLayer (a1 : Int32) (M : dM) : Option (Int32 × dM) :=
  (f_si_layersAt a1 M).bind fun v1 =>
  if v1 ≤ 0 then
    some ((-1), M)
  else
    (f_wo_draw M).bind fun q3 =>
    gd (¬ v1 = 0) <|
    (f_si_layerOfNumber a1 (q3.1 - q3.1 / v1 * v1) q3.2).bind fun v6 =>
    some (v6, q3.2)
theorem ok_wo_drawLayer (a1 : Int32) (M : dM) {o : (Int32 × dM)} (hf : f_wo_drawLayer a1 M = some o) : mO mX10_drawLayer 4 [.ref 56, .int a1] M (some (.int o.1)) o.2 := by
  refine y_ok (by decide +kernel) (Nat.le_of_ble_eq_true rfl) (L0 := [some (.ref 56), some (.int a1), none]) rfl ?_
  have hk := mR_mQ (some (.int o.1)) o.2
  generalize mQ _ _ = Q at hk ⊢
  unfold f_wo_drawLayer at hf
  refine y_aload_n (i := 0) (n := 1) ⟨dX10_drawLayer_0, rfl⟩ rfl ?_
  refine y_getR (n := 4) ⟨dX10_drawLayer_1, rfl⟩ kfX10_43 l_56 rfl r_56_0 ?_
  refine y_iload_n (i := 1) (n := 5) ⟨dX10_drawLayer_4, rfl⟩ rfl ?_
  obtain ⟨v1, hv2, hf⟩ := b_s hf
  refine c_si_layersAt a1 M (n := 8) ⟨dX10_drawLayer_5, rfl⟩ klX10_125 hv2 (by decide) (Nat.le_of_ble_eq_true rfl) rfl rfl ?_
  refine y_istore_n (i := 2) (n := 9) (L2 := [some (.ref 56), some (.int a1), some (.int v1)]) ⟨dX10_drawLayer_8, rfl⟩ (by decide) rfl rfl ?_
  refine y_iload_n (i := 2) (n := 10) ⟨dX10_drawLayer_9, rfl⟩ rfl ?_
  refine y_if_le (t := 30) (n := 13) ⟨dX10_drawLayer_10, rfl, rfl⟩ (fun (hc : v1 ≤ 0) => ?_) (fun (hc : ¬ (v1 ≤ 0)) => ?_)
  · replace hf := i_t hc hf
    refine y_iconst (n := 31) (v := (-1)) ⟨dX10_drawLayer_30, rfl⟩ ki_m1 ?_
    cases hf
    exact y_ireturn (n := 32) ⟨dX10_drawLayer_31, rfl⟩ rfl rfl hk
  · replace hf := i_f hc hf
    refine y_aload_n (i := 0) (n := 14) ⟨dX10_drawLayer_13, rfl⟩ rfl ?_
    refine y_getR (n := 17) ⟨dX10_drawLayer_14, rfl⟩ kfX10_43 l_56 rfl r_56_0 ?_
    refine y_iload_n (i := 1) (n := 18) ⟨dX10_drawLayer_17, rfl⟩ rfl ?_
    refine y_aload_n (i := 0) (n := 19) ⟨dX10_drawLayer_18, rfl⟩ rfl ?_
    obtain ⟨q3, hv4, hf⟩ := b_s hf
    refine c_wo_draw M (n := 22) ⟨dX10_drawLayer_19, rfl⟩ klX10_130 hv4 (by decide) (Nat.le_of_ble_eq_true rfl) rfl rfl ?_
    refine y_iload_n (i := 2) (n := 23) ⟨dX10_drawLayer_22, rfl⟩ rfl ?_
    obtain ⟨hg5, hf⟩ := g_s hf
    refine y_irem (n := 24) ⟨dX10_drawLayer_23, rfl⟩ hg5 ?_
    obtain ⟨v6, hv7, hf⟩ := b_s hf
    refine c_si_layerOfNumber a1 (q3.1 - q3.1 / v1 * v1) q3.2 (n := 27) ⟨dX10_drawLayer_24, rfl⟩ klX10_134 hv7 (by decide) (Nat.le_of_ble_eq_true rfl) rfl rfl ?_
    refine y_goto (t := 31) ⟨dX10_drawLayer_27, rfl, rfl⟩ ?_
    cases hf
    exact y_ireturn (n := 32) ⟨dX10_drawLayer_31, rfl⟩ rfl rfl hk
theorem c_wo_drawLayer (a1 : Int32) (M : dM) {o : (Int32 × dM)} {y : mz_M} {d : Nat} {Q : mz_P} {pc n i : Nat} {L : List (Option Value)} {st : List Value} (h : mz_d y.2.1 pc n 3 (.invokevirtual i)) (hl : mz_ml y.1.cls i yX10_drawLayer) (hf : f_wo_drawLayer a1 M = some o) (hd : 4 + 1 ≤ d) (hsm : (st.map (fun v => v.category)).sum ≤ 8) (hLr : mz_rL 133 L = true) (hSr : mz_rS 133 st = true) (kk : mW y d Q n L (.int o.1 :: st) o.2) : mW y d Q pc L (.int a1 :: .ref 56 :: st) M :=
  y_callV kmX10_drawLayer kvX10_drawLayer l_56 (by decide +kernel) (by decide +kernel) h hl (ok_wo_drawLayer a1 M hf) (vs := [.int a1]) rfl rfl hd hsm hLr hSr kk
noncomputable def f_wo_putOne (a1 : Int32) (a2 : Int32) (M : dM) : Option dM :=
  gd (vp_in a1 80) <|
  if (f_ax_hasBit ((gI M 11 a1.toNatClampNeg).toInt64) a2) = true then
    (f_wo_draw M).bind fun q2 =>
    gd (vp_in (gI q2.2 7 a1.toNatClampNeg) 10) <|
    if (gI q2.2 58 (gI q2.2 7 a1.toNatClampNeg).toNatClampNeg) ≤ q2.1 then
      some q2.2
    else
      gd (vp_in (gI M 8 a1.toNatClampNeg) 8) <|
      if 9 ≤ (gI q2.2 61 (gI M 8 a1.toNatClampNeg).toNatClampNeg) then
        some q2.2
      else
        (f_wo_drawLayer (gI M 8 a1.toNatClampNeg) q2.2).bind fun q6 =>
        if q6.1 = (-1) then
          some q6.2
        else
          gd (vp_in (((gI M 8 a1.toNatClampNeg) * 9) + (gI q6.2 61 (gI M 8 a1.toNatClampNeg).toNatClampNeg)) 72) <|
          some (sI (sI q6.2 60 (((gI M 8 a1.toNatClampNeg) * 9) + (gI q6.2 61 (gI M 8 a1.toNatClampNeg).toNatClampNeg)).toNatClampNeg q6.1) 61 (gI M 8 a1.toNatClampNeg).toNatClampNeg ((gI (sI q6.2 60 (((gI M 8 a1.toNatClampNeg) * 9) + (gI q6.2 61 (gI M 8 a1.toNatClampNeg).toNatClampNeg)).toNatClampNeg q6.1) 61 (gI M 8 a1.toNatClampNeg).toNatClampNeg) + 1))
  else
    some M
theorem ok_wo_putOne (a1 : Int32) (a2 : Int32) (M : dM) {o : dM} (hf : f_wo_putOne a1 a2 M = some o) : mO mX10_putOne 5 [.ref 56, .int a1, .int a2] M none o := by
  refine y_ok (by decide +kernel) (Nat.le_of_ble_eq_true rfl) (L0 := [some (.ref 56), some (.int a1), some (.int a2), none, none]) rfl ?_
  have hk := mR_mQ none o
  generalize mQ _ _ = Q at hk ⊢
  unfold f_wo_putOne at hf
  refine y_aload_n (i := 0) (n := 1) ⟨dX10_putOne_0, rfl⟩ rfl ?_
  refine y_getR (n := 4) ⟨dX10_putOne_1, rfl⟩ kfX10_47 l_56 rfl r_56_1 ?_
  refine y_getR (n := 7) ⟨dX10_putOne_4, rfl⟩ kfX10_138 l_6 rfl r_6_4 ?_
  refine y_iload_n (i := 1) (n := 8) ⟨dX10_putOne_7, rfl⟩ rfl ?_
  obtain ⟨hg1, hf⟩ := g_s hf
  refine y_iaload (n := 9) ⟨dX10_putOne_8, rfl⟩ l_11 hg1 ?_
  refine y_i2l (n := 10) ⟨dX10_putOne_9, rfl⟩ ?_
  refine y_iload_n (i := 2) (n := 11) ⟨dX10_putOne_10, rfl⟩ rfl ?_
  refine c_ax_hasBit ((gI M 11 a1.toNatClampNeg).toInt64) a2 M (n := 14) ⟨dX10_putOne_11, rfl⟩ klX10_58 rfl (by decide) (Nat.le_of_ble_eq_true rfl) rfl rfl ?_
  refine y_if_ne (t := 18) (n := 17) ⟨dX10_putOne_14, rfl, rfl⟩ (fun h0 => ?_) (fun h0 => ?_)
  · have hc := bI_1 h0
    replace hf := i_t hc hf
    refine y_aload_n (i := 0) (n := 19) ⟨dX10_putOne_18, rfl⟩ rfl ?_
    refine y_getR (n := 22) ⟨dX10_putOne_19, rfl⟩ kfX10_47 l_56 rfl r_56_1 ?_
    refine y_getR (n := 25) ⟨dX10_putOne_22, rfl⟩ kfX10_101 l_6 rfl r_6_1 ?_
    refine y_iload_n (i := 1) (n := 26) ⟨dX10_putOne_25, rfl⟩ rfl ?_
    refine y_iaload (n := 27) ⟨dX10_putOne_26, rfl⟩ l_8 hg1 ?_
    refine y_istore_n (i := 3) (n := 28) (L2 := [some (.ref 56), some (.int a1), some (.int a2), some (.int (gI M 8 a1.toNatClampNeg)), none]) ⟨dX10_putOne_27, rfl⟩ (by decide) rfl rfl ?_
    refine y_aload_n (i := 0) (n := 29) ⟨dX10_putOne_28, rfl⟩ rfl ?_
    obtain ⟨q2, hv3, hf⟩ := b_s hf
    refine c_wo_draw M (n := 32) ⟨dX10_putOne_29, rfl⟩ klX10_130 hv3 (by decide) (Nat.le_of_ble_eq_true rfl) rfl rfl ?_
    refine y_aload_n (i := 0) (n := 33) ⟨dX10_putOne_32, rfl⟩ rfl ?_
    refine y_getR (n := 36) ⟨dX10_putOne_33, rfl⟩ kfX10_15 l_56 rfl r_56_4 ?_
    refine y_aload_n (i := 0) (n := 37) ⟨dX10_putOne_36, rfl⟩ rfl ?_
    refine y_getR (n := 40) ⟨dX10_putOne_37, rfl⟩ kfX10_47 l_56 rfl r_56_1 ?_
    refine y_getR (n := 43) ⟨dX10_putOne_40, rfl⟩ kfX10_141 l_6 rfl r_6_0 ?_
    refine y_iload_n (i := 1) (n := 44) ⟨dX10_putOne_43, rfl⟩ rfl ?_
    refine y_iaload (n := 45) ⟨dX10_putOne_44, rfl⟩ l_7 hg1 ?_
    obtain ⟨hg4, hf⟩ := g_s hf
    refine y_iaload (n := 46) ⟨dX10_putOne_45, rfl⟩ l_58 hg4 ?_
    refine y_icmp_ge (t := 101) (n := 49) ⟨dX10_putOne_46, rfl, rfl⟩ (fun (hc : (gI q2.2 58 (gI q2.2 7 a1.toNatClampNeg).toNatClampNeg) ≤ q2.1) => ?_) (fun (hc : ¬ ((gI q2.2 58 (gI q2.2 7 a1.toNatClampNeg).toNatClampNeg) ≤ q2.1)) => ?_)
    · replace hf := i_t hc hf
      cases hf
      exact y_return (n := 102) ⟨dX10_putOne_101, rfl⟩ rfl hk
    · replace hf := i_f hc hf
      refine y_aload_n (i := 0) (n := 50) ⟨dX10_putOne_49, rfl⟩ rfl ?_
      refine y_getR (n := 53) ⟨dX10_putOne_50, rfl⟩ kfX10_24 l_56 rfl r_56_7 ?_
      refine y_iload_n (i := 3) (n := 54) ⟨dX10_putOne_53, rfl⟩ rfl ?_
      obtain ⟨hg5, hf⟩ := g_s hf
      refine y_iaload (n := 55) ⟨dX10_putOne_54, rfl⟩ l_61 hg5 ?_
      refine y_bipush (n := 57) (v := 9) ⟨dX10_putOne_55, rfl⟩ kb_9 ?_
      refine y_icmp_ge (t := 101) (n := 60) ⟨dX10_putOne_57, rfl, rfl⟩ (fun (hc : 9 ≤ (gI q2.2 61 (gI M 8 a1.toNatClampNeg).toNatClampNeg)) => ?_) (fun (hc : ¬ (9 ≤ (gI q2.2 61 (gI M 8 a1.toNatClampNeg).toNatClampNeg))) => ?_)
      · replace hf := i_t hc hf
        cases hf
        exact y_return (n := 102) ⟨dX10_putOne_101, rfl⟩ rfl hk
      · replace hf := i_f hc hf
        refine y_aload_n (i := 0) (n := 61) ⟨dX10_putOne_60, rfl⟩ rfl ?_
        refine y_iload_n (i := 3) (n := 62) ⟨dX10_putOne_61, rfl⟩ rfl ?_
        obtain ⟨q6, hv7, hf⟩ := b_s hf
        refine c_wo_drawLayer (gI M 8 a1.toNatClampNeg) q2.2 (n := 65) ⟨dX10_putOne_62, rfl⟩ klX10_144 hv7 (by decide) (Nat.le_of_ble_eq_true rfl) rfl rfl ?_
        refine y_istore (i := 4) (n := 67) (L2 := [some (.ref 56), some (.int a1), some (.int a2), some (.int (gI M 8 a1.toNatClampNeg)), some (.int q6.1)]) ⟨dX10_putOne_65, rfl⟩ (by decide) rfl rfl ?_
        refine y_iload (i := 4) (n := 69) ⟨dX10_putOne_67, rfl⟩ rfl ?_
        refine y_iconst (n := 70) (v := (-1)) ⟨dX10_putOne_69, rfl⟩ ki_m1 ?_
        refine y_icmp_eq (t := 101) (n := 73) ⟨dX10_putOne_70, rfl, rfl⟩ (fun (hc : q6.1 = (-1)) => ?_) (fun (hc : ¬ (q6.1 = (-1))) => ?_)
        · replace hf := i_t hc hf
          cases hf
          exact y_return (n := 102) ⟨dX10_putOne_101, rfl⟩ rfl hk
        · replace hf := i_f hc hf
          refine y_aload_n (i := 0) (n := 74) ⟨dX10_putOne_73, rfl⟩ rfl ?_
          refine y_getR (n := 77) ⟨dX10_putOne_74, rfl⟩ kfX10_21 l_56 rfl r_56_6 ?_
          refine y_iload_n (i := 3) (n := 78) ⟨dX10_putOne_77, rfl⟩ rfl ?_
          refine y_bipush (n := 80) (v := 9) ⟨dX10_putOne_78, rfl⟩ kb_9 ?_
          refine y_imul (n := 81) ⟨dX10_putOne_80, rfl⟩ ?_
          refine y_aload_n (i := 0) (n := 82) ⟨dX10_putOne_81, rfl⟩ rfl ?_
          refine y_getR (n := 85) ⟨dX10_putOne_82, rfl⟩ kfX10_24 l_56 rfl r_56_7 ?_
          refine y_iload_n (i := 3) (n := 86) ⟨dX10_putOne_85, rfl⟩ rfl ?_
          refine y_iaload (n := 87) ⟨dX10_putOne_86, rfl⟩ l_61 hg5 ?_
          refine y_iadd (n := 88) ⟨dX10_putOne_87, rfl⟩ ?_
          refine y_iload (i := 4) (n := 90) ⟨dX10_putOne_88, rfl⟩ rfl ?_
          obtain ⟨hg8, hf⟩ := g_s hf
          refine y_iastore (n := 91) ⟨dX10_putOne_90, rfl⟩ l_60 hg8 ?_
          refine y_aload_n (i := 0) (n := 92) ⟨dX10_putOne_91, rfl⟩ rfl ?_
          refine y_getR (n := 95) ⟨dX10_putOne_92, rfl⟩ kfX10_24 l_56 rfl r_56_7 ?_
          refine y_iload_n (i := 3) (n := 96) ⟨dX10_putOne_95, rfl⟩ rfl ?_
          refine y_dup2 (n := 97) ⟨dX10_putOne_96, rfl⟩ ?_
          refine y_iaload (n := 98) ⟨dX10_putOne_97, rfl⟩ l_61 hg5 ?_
          refine y_iconst (n := 99) (v := 1) ⟨dX10_putOne_98, rfl⟩ ki_1 ?_
          refine y_iadd (n := 100) ⟨dX10_putOne_99, rfl⟩ ?_
          refine y_iastore (n := 101) ⟨dX10_putOne_100, rfl⟩ l_61 hg5 ?_
          cases hf
          exact y_return (n := 102) ⟨dX10_putOne_101, rfl⟩ rfl hk
  · have hc := bI_0 h0
    replace hf := i_f hc hf
    cases hf
    exact y_return (n := 18) ⟨dX10_putOne_17, rfl⟩ rfl hk
theorem c_wo_putOne (a1 : Int32) (a2 : Int32) (M : dM) {o : dM} {y : mz_M} {d : Nat} {Q : mz_P} {pc n i : Nat} {L : List (Option Value)} {st : List Value} (h : mz_d y.2.1 pc n 3 (.invokevirtual i)) (hl : mz_ml y.1.cls i yX10_putOne) (hf : f_wo_putOne a1 a2 M = some o) (hd : 5 + 1 ≤ d) (hsm : (st.map (fun v => v.category)).sum ≤ 8) (hLr : mz_rL 133 L = true) (hSr : mz_rS 133 st = true) (kk : mW y d Q n L st o) : mW y d Q pc L (.int a2 :: .int a1 :: .ref 56 :: st) M :=
  y_callV kmX10_putOne kvX10_putOne l_56 (by decide +kernel) (by decide +kernel) h hl (ok_wo_putOne a1 a2 M hf) (vs := [.int a1, .int a2]) rfl rfl hd hsm hLr hSr kk
noncomputable def f_wo_takeEarliest (a1 : Int32) (M : dM) : Option (Int32 × dM) :=
  gd (vp_in (a1 * 9) 72) <|
  gd (vp_in a1 8) <|
  gd ((¬ ((a1 * 9) + 1) < 0 ∧ ¬ (a1 * 9) < 0 ∧ ¬ (gI (sI M 61 a1.toNatClampNeg ((gI M 61 a1.toNatClampNeg) - 1)) 61 a1.toNatClampNeg) < 0) ∧ ((a1 * 9) + 1).toNatClampNeg + (gI (sI M 61 a1.toNatClampNeg ((gI M 61 a1.toNatClampNeg) - 1)) 61 a1.toNatClampNeg).toNatClampNeg ≤ 72 ∧ (a1 * 9).toNatClampNeg + (gI (sI M 61 a1.toNatClampNeg ((gI M 61 a1.toNatClampNeg) - 1)) 61 a1.toNatClampNeg).toNatClampNeg ≤ 72) <|
  some ((gI M 60 (a1 * 9).toNatClampNeg), (cI (sI M 61 a1.toNatClampNeg ((gI M 61 a1.toNatClampNeg) - 1)) 60 60 ((a1 * 9) + 1).toNatClampNeg (a1 * 9).toNatClampNeg (gI (sI M 61 a1.toNatClampNeg ((gI M 61 a1.toNatClampNeg) - 1)) 61 a1.toNatClampNeg).toNatClampNeg))
theorem ok_wo_takeEarliest (a1 : Int32) (M : dM) {o : (Int32 × dM)} (hf : f_wo_takeEarliest a1 M = some o) : mO mX10_takeEarliest 1 [.ref 56, .int a1] M (some (.int o.1)) o.2 := by
  refine y_ok (by decide +kernel) (Nat.le_of_ble_eq_true rfl) (L0 := [some (.ref 56), some (.int a1), none, none]) rfl ?_
  have hk := mR_mQ (some (.int o.1)) o.2
  generalize mQ _ _ = Q at hk ⊢
  unfold f_wo_takeEarliest at hf
  refine y_iload_n (i := 1) (n := 1) ⟨dX10_takeEarliest_0, rfl⟩ rfl ?_
  refine y_bipush (n := 3) (v := 9) ⟨dX10_takeEarliest_1, rfl⟩ kb_9 ?_
  refine y_imul (n := 4) ⟨dX10_takeEarliest_3, rfl⟩ ?_
  refine y_istore_n (i := 2) (n := 5) (L2 := [some (.ref 56), some (.int a1), some (.int (a1 * 9)), none]) ⟨dX10_takeEarliest_4, rfl⟩ (by decide) rfl rfl ?_
  refine y_aload_n (i := 0) (n := 6) ⟨dX10_takeEarliest_5, rfl⟩ rfl ?_
  refine y_getR (n := 9) ⟨dX10_takeEarliest_6, rfl⟩ kfX10_21 l_56 rfl r_56_6 ?_
  refine y_iload_n (i := 2) (n := 10) ⟨dX10_takeEarliest_9, rfl⟩ rfl ?_
  obtain ⟨hg1, hf⟩ := g_s hf
  refine y_iaload (n := 11) ⟨dX10_takeEarliest_10, rfl⟩ l_60 hg1 ?_
  refine y_istore_n (i := 3) (n := 12) (L2 := [some (.ref 56), some (.int a1), some (.int (a1 * 9)), some (.int (gI M 60 (a1 * 9).toNatClampNeg))]) ⟨dX10_takeEarliest_11, rfl⟩ (by decide) rfl rfl ?_
  refine y_aload_n (i := 0) (n := 13) ⟨dX10_takeEarliest_12, rfl⟩ rfl ?_
  refine y_getR (n := 16) ⟨dX10_takeEarliest_13, rfl⟩ kfX10_24 l_56 rfl r_56_7 ?_
  refine y_iload_n (i := 1) (n := 17) ⟨dX10_takeEarliest_16, rfl⟩ rfl ?_
  refine y_dup2 (n := 18) ⟨dX10_takeEarliest_17, rfl⟩ ?_
  obtain ⟨hg2, hf⟩ := g_s hf
  refine y_iaload (n := 19) ⟨dX10_takeEarliest_18, rfl⟩ l_61 hg2 ?_
  refine y_iconst (n := 20) (v := 1) ⟨dX10_takeEarliest_19, rfl⟩ ki_1 ?_
  refine y_isub (n := 21) ⟨dX10_takeEarliest_20, rfl⟩ ?_
  refine y_iastore (n := 22) ⟨dX10_takeEarliest_21, rfl⟩ l_61 hg2 ?_
  refine y_aload_n (i := 0) (n := 23) ⟨dX10_takeEarliest_22, rfl⟩ rfl ?_
  refine y_getR (n := 26) ⟨dX10_takeEarliest_23, rfl⟩ kfX10_21 l_56 rfl r_56_6 ?_
  refine y_iload_n (i := 2) (n := 27) ⟨dX10_takeEarliest_26, rfl⟩ rfl ?_
  refine y_iconst (n := 28) (v := 1) ⟨dX10_takeEarliest_27, rfl⟩ ki_1 ?_
  refine y_iadd (n := 29) ⟨dX10_takeEarliest_28, rfl⟩ ?_
  refine y_aload_n (i := 0) (n := 30) ⟨dX10_takeEarliest_29, rfl⟩ rfl ?_
  refine y_getR (n := 33) ⟨dX10_takeEarliest_30, rfl⟩ kfX10_21 l_56 rfl r_56_6 ?_
  refine y_iload_n (i := 2) (n := 34) ⟨dX10_takeEarliest_33, rfl⟩ rfl ?_
  refine y_aload_n (i := 0) (n := 35) ⟨dX10_takeEarliest_34, rfl⟩ rfl ?_
  refine y_getR (n := 38) ⟨dX10_takeEarliest_35, rfl⟩ kfX10_24 l_56 rfl r_56_7 ?_
  refine y_iload_n (i := 1) (n := 39) ⟨dX10_takeEarliest_38, rfl⟩ rfl ?_
  refine y_iaload (n := 40) ⟨dX10_takeEarliest_39, rfl⟩ l_61 hg2 ?_
  obtain ⟨hg3, hf⟩ := g_s hf
  refine y_copy (n := 43) ⟨dX10_takeEarliest_40, rfl⟩ (mz_in 1353 (by decide +kernel) (by decide +kernel)) kcopyN kcopyS kcopyI l_60 l_60 hg3.1.1 hg3.1.2.1 hg3.1.2.2 hg3.2.1 hg3.2.2 (by decide) (Nat.le_of_ble_eq_true rfl) ?_
  refine y_iload_n (i := 3) (n := 44) ⟨dX10_takeEarliest_43, rfl⟩ rfl ?_
  cases hf
  exact y_ireturn (n := 45) ⟨dX10_takeEarliest_44, rfl⟩ rfl rfl hk
theorem c_wo_takeEarliest (a1 : Int32) (M : dM) {o : (Int32 × dM)} {y : mz_M} {d : Nat} {Q : mz_P} {pc n i : Nat} {L : List (Option Value)} {st : List Value} (h : mz_d y.2.1 pc n 3 (.invokevirtual i)) (hl : mz_ml y.1.cls i yX10_takeEarliest) (hf : f_wo_takeEarliest a1 M = some o) (hd : 1 + 1 ≤ d) (hsm : (st.map (fun v => v.category)).sum ≤ 8) (hLr : mz_rL 133 L = true) (hSr : mz_rS 133 st = true) (kk : mW y d Q n L (.int o.1 :: st) o.2) : mW y d Q pc L (.int a1 :: .ref 56 :: st) M :=
  y_callV kmX10_takeEarliest kvX10_takeEarliest l_56 (by decide +kernel) (by decide +kernel) h hl (ok_wo_takeEarliest a1 M hf) (vs := [.int a1]) rfl rfl hd hsm hLr hSr kk
noncomputable def f_wo_seekPut (a1 : Int32) (M : dM) : Option (Int32 × dM) :=
  (f_wo_draw M).bind fun q1 =>
  gd (vp_in a1 80) <|
  gd (vp_in (gI q1.2 7 a1.toNatClampNeg) 10) <|
  if (gI q1.2 57 (gI q1.2 7 a1.toNatClampNeg).toNatClampNeg) ≤ q1.1 then
    some ((-1), q1.2)
  else
    (f_wo_takeEarliest (gI q1.2 8 a1.toNatClampNeg) q1.2).bind fun q5 =>
    some (q5.1, q5.2)
theorem ok_wo_seekPut (a1 : Int32) (M : dM) {o : (Int32 × dM)} (hf : f_wo_seekPut a1 M = some o) : mO mX10_seekPut 2 [.ref 56, .int a1] M (some (.int o.1)) o.2 := by
  refine y_ok (by decide +kernel) (Nat.le_of_ble_eq_true rfl) (L0 := [some (.ref 56), some (.int a1)]) rfl ?_
  have hk := mR_mQ (some (.int o.1)) o.2
  generalize mQ _ _ = Q at hk ⊢
  unfold f_wo_seekPut at hf
  refine y_aload_n (i := 0) (n := 1) ⟨dX10_seekPut_0, rfl⟩ rfl ?_
  obtain ⟨q1, hv2, hf⟩ := b_s hf
  refine c_wo_draw M (n := 4) ⟨dX10_seekPut_1, rfl⟩ klX10_130 hv2 (by decide) (Nat.le_of_ble_eq_true rfl) rfl rfl ?_
  refine y_aload_n (i := 0) (n := 5) ⟨dX10_seekPut_4, rfl⟩ rfl ?_
  refine y_getR (n := 8) ⟨dX10_seekPut_5, rfl⟩ kfX10_11 l_56 rfl r_56_3 ?_
  refine y_aload_n (i := 0) (n := 9) ⟨dX10_seekPut_8, rfl⟩ rfl ?_
  refine y_getR (n := 12) ⟨dX10_seekPut_9, rfl⟩ kfX10_47 l_56 rfl r_56_1 ?_
  refine y_getR (n := 15) ⟨dX10_seekPut_12, rfl⟩ kfX10_141 l_6 rfl r_6_0 ?_
  refine y_iload_n (i := 1) (n := 16) ⟨dX10_seekPut_15, rfl⟩ rfl ?_
  obtain ⟨hg3, hf⟩ := g_s hf
  refine y_iaload (n := 17) ⟨dX10_seekPut_16, rfl⟩ l_7 hg3 ?_
  obtain ⟨hg4, hf⟩ := g_s hf
  refine y_iaload (n := 18) ⟨dX10_seekPut_17, rfl⟩ l_57 hg4 ?_
  refine y_icmp_ge (t := 37) (n := 21) ⟨dX10_seekPut_18, rfl, rfl⟩ (fun (hc : (gI q1.2 57 (gI q1.2 7 a1.toNatClampNeg).toNatClampNeg) ≤ q1.1) => ?_) (fun (hc : ¬ ((gI q1.2 57 (gI q1.2 7 a1.toNatClampNeg).toNatClampNeg) ≤ q1.1)) => ?_)
  · replace hf := i_t hc hf
    refine y_iconst (n := 38) (v := (-1)) ⟨dX10_seekPut_37, rfl⟩ ki_m1 ?_
    cases hf
    exact y_ireturn (n := 39) ⟨dX10_seekPut_38, rfl⟩ rfl rfl hk
  · replace hf := i_f hc hf
    refine y_aload_n (i := 0) (n := 22) ⟨dX10_seekPut_21, rfl⟩ rfl ?_
    refine y_aload_n (i := 0) (n := 23) ⟨dX10_seekPut_22, rfl⟩ rfl ?_
    refine y_getR (n := 26) ⟨dX10_seekPut_23, rfl⟩ kfX10_47 l_56 rfl r_56_1 ?_
    refine y_getR (n := 29) ⟨dX10_seekPut_26, rfl⟩ kfX10_101 l_6 rfl r_6_1 ?_
    refine y_iload_n (i := 1) (n := 30) ⟨dX10_seekPut_29, rfl⟩ rfl ?_
    refine y_iaload (n := 31) ⟨dX10_seekPut_30, rfl⟩ l_8 hg3 ?_
    obtain ⟨q5, hv6, hf⟩ := b_s hf
    refine c_wo_takeEarliest (gI q1.2 8 a1.toNatClampNeg) q1.2 (n := 34) ⟨dX10_seekPut_31, rfl⟩ klX10_147 hv6 (by decide) (Nat.le_of_ble_eq_true rfl) rfl rfl ?_
    refine y_goto (t := 38) ⟨dX10_seekPut_34, rfl, rfl⟩ ?_
    cases hf
    exact y_ireturn (n := 39) ⟨dX10_seekPut_38, rfl⟩ rfl rfl hk
theorem c_wo_seekPut (a1 : Int32) (M : dM) {o : (Int32 × dM)} {y : mz_M} {d : Nat} {Q : mz_P} {pc n i : Nat} {L : List (Option Value)} {st : List Value} (h : mz_d y.2.1 pc n 3 (.invokevirtual i)) (hl : mz_ml y.1.cls i yX10_seekPut) (hf : f_wo_seekPut a1 M = some o) (hd : 2 + 1 ≤ d) (hsm : (st.map (fun v => v.category)).sum ≤ 8) (hLr : mz_rL 133 L = true) (hSr : mz_rS 133 st = true) (kk : mW y d Q n L (.int o.1 :: st) o.2) : mW y d Q pc L (.int a1 :: .ref 56 :: st) M :=
  y_callV kmX10_seekPut kvX10_seekPut l_56 (by decide +kernel) (by decide +kernel) h hl (ok_wo_seekPut a1 M hf) (vs := [.int a1]) rfl rfl hd hsm hLr hSr kk
noncomputable def f_ju_judgeFound (a1 : Int32) (a2 : Int32) (a3 : Int32) (a4 : Int32) (a5 : Int32) (a6 : Int32) (M : dM) : Option (Int32 × dM) :=
  gd (vp_in a1 80) <|
  (f_ju_placeFacts 680 (gI M 8 a1.toNatClampNeg) (gI M 9 a1.toNatClampNeg) a2 (gI M 7 a1.toNatClampNeg) M).bind fun q2 =>
  (f_ju_thingFacts 680 (gI M 8 a1.toNatClampNeg) a3 a4 a6 q2).bind fun q4 =>
  (f_la_judgeBy 680 (sI (sI q4.2 40 691 a5) 40 696 0)).bind fun q6 =>
  some (q6.1, q6.2)
theorem ok_ju_judgeFound (a1 : Int32) (a2 : Int32) (a3 : Int32) (a4 : Int32) (a5 : Int32) (a6 : Int32) (M : dM) {o : (Int32 × dM)} (hf : f_ju_judgeFound a1 a2 a3 a4 a5 a6 M = some o) : mO mX2_judgeFound 4 [.ref 39, .int a1, .int a2, .int a3, .int a4, .int a5, .int a6] M (some (.int o.1)) o.2 := by
  refine y_ok (by decide +kernel) (Nat.le_of_ble_eq_true rfl) (L0 := [some (.ref 39), some (.int a1), some (.int a2), some (.int a3), some (.int a4), some (.int a5), some (.int a6), none]) rfl ?_
  have hk := mR_mQ (some (.int o.1)) o.2
  generalize mQ _ _ = Q at hk ⊢
  unfold f_ju_judgeFound at hf
  refine y_aload_n (i := 0) (n := 1) ⟨dX2_judgeFound_0, rfl⟩ rfl ?_
  refine y_getR (n := 4) ⟨dX2_judgeFound_1, rfl⟩ kfX2_36 l_39 rfl r_39_1 ?_
  refine y_getR (n := 7) ⟨dX2_judgeFound_4, rfl⟩ kfX2_135 l_6 rfl r_6_1 ?_
  refine y_iload_n (i := 1) (n := 8) ⟨dX2_judgeFound_7, rfl⟩ rfl ?_
  obtain ⟨hg1, hf⟩ := g_s hf
  refine y_iaload (n := 9) ⟨dX2_judgeFound_8, rfl⟩ l_8 hg1 ?_
  refine y_istore (i := 7) (n := 11) (L2 := [some (.ref 39), some (.int a1), some (.int a2), some (.int a3), some (.int a4), some (.int a5), some (.int a6), some (.int (gI M 8 a1.toNatClampNeg))]) ⟨dX2_judgeFound_9, rfl⟩ (by decide) rfl rfl ?_
  refine y_aload_n (i := 0) (n := 12) ⟨dX2_judgeFound_11, rfl⟩ rfl ?_
  refine y_sipush (n := 15) (v := 680) ⟨dX2_judgeFound_12, rfl⟩ ks_680 ?_
  refine y_iload (i := 7) (n := 17) ⟨dX2_judgeFound_15, rfl⟩ rfl ?_
  refine y_aload_n (i := 0) (n := 18) ⟨dX2_judgeFound_17, rfl⟩ rfl ?_
  refine y_getR (n := 21) ⟨dX2_judgeFound_18, rfl⟩ kfX2_36 l_39 rfl r_39_1 ?_
  refine y_getR (n := 24) ⟨dX2_judgeFound_21, rfl⟩ kfX2_136 l_6 rfl r_6_2 ?_
  refine y_iload_n (i := 1) (n := 25) ⟨dX2_judgeFound_24, rfl⟩ rfl ?_
  refine y_iaload (n := 26) ⟨dX2_judgeFound_25, rfl⟩ l_9 hg1 ?_
  refine y_iload_n (i := 2) (n := 27) ⟨dX2_judgeFound_26, rfl⟩ rfl ?_
  refine y_aload_n (i := 0) (n := 28) ⟨dX2_judgeFound_27, rfl⟩ rfl ?_
  refine y_getR (n := 31) ⟨dX2_judgeFound_28, rfl⟩ kfX2_36 l_39 rfl r_39_1 ?_
  refine y_getR (n := 34) ⟨dX2_judgeFound_31, rfl⟩ kfX2_137 l_6 rfl r_6_0 ?_
  refine y_iload_n (i := 1) (n := 35) ⟨dX2_judgeFound_34, rfl⟩ rfl ?_
  refine y_iaload (n := 36) ⟨dX2_judgeFound_35, rfl⟩ l_7 hg1 ?_
  obtain ⟨q2, hv3, hf⟩ := b_s hf
  refine c_ju_placeFacts 680 (gI M 8 a1.toNatClampNeg) (gI M 9 a1.toNatClampNeg) a2 (gI M 7 a1.toNatClampNeg) M (n := 39) ⟨dX2_judgeFound_36, rfl⟩ klX2_68 hv3 (by decide) (Nat.le_of_ble_eq_true rfl) rfl rfl ?_
  refine y_aload_n (i := 0) (n := 40) ⟨dX2_judgeFound_39, rfl⟩ rfl ?_
  refine y_sipush (n := 43) (v := 680) ⟨dX2_judgeFound_40, rfl⟩ ks_680 ?_
  refine y_iload (i := 7) (n := 45) ⟨dX2_judgeFound_43, rfl⟩ rfl ?_
  refine y_iload_n (i := 3) (n := 46) ⟨dX2_judgeFound_45, rfl⟩ rfl ?_
  refine y_iload (i := 4) (n := 48) ⟨dX2_judgeFound_46, rfl⟩ rfl ?_
  refine y_iload (i := 6) (n := 50) ⟨dX2_judgeFound_48, rfl⟩ rfl ?_
  obtain ⟨q4, hv5, hf⟩ := b_s hf
  refine c_ju_thingFacts 680 (gI M 8 a1.toNatClampNeg) a3 a4 a6 q2 (n := 53) ⟨dX2_judgeFound_50, rfl⟩ klX2_78 hv5 (by decide) (Nat.le_of_ble_eq_true rfl) rfl rfl ?_
  refine y_pop_i (n := 54) ⟨dX2_judgeFound_53, rfl⟩ ?_
  refine y_aload_n (i := 0) (n := 55) ⟨dX2_judgeFound_54, rfl⟩ rfl ?_
  refine y_getR (n := 58) ⟨dX2_judgeFound_55, rfl⟩ kfX2_9 l_39 rfl r_39_4 ?_
  refine y_sipush (n := 61) (v := 691) ⟨dX2_judgeFound_58, rfl⟩ ks_691 ?_
  refine y_iload (i := 5) (n := 63) ⟨dX2_judgeFound_61, rfl⟩ rfl ?_
  refine y_iastore (n := 64) ⟨dX2_judgeFound_63, rfl⟩ l_40 (by unfold vp_in; decide) ?_
  refine y_aload_n (i := 0) (n := 65) ⟨dX2_judgeFound_64, rfl⟩ rfl ?_
  refine y_getR (n := 68) ⟨dX2_judgeFound_65, rfl⟩ kfX2_9 l_39 rfl r_39_4 ?_
  refine y_sipush (n := 71) (v := 696) ⟨dX2_judgeFound_68, rfl⟩ ks_696 ?_
  refine y_iconst (n := 72) (v := 0) ⟨dX2_judgeFound_71, rfl⟩ ki_0 ?_
  refine y_iastore (n := 73) ⟨dX2_judgeFound_72, rfl⟩ l_40 (by unfold vp_in; decide) ?_
  refine y_aload_n (i := 0) (n := 74) ⟨dX2_judgeFound_73, rfl⟩ rfl ?_
  refine y_getR (n := 77) ⟨dX2_judgeFound_74, rfl⟩ kfX2_44 l_39 rfl r_39_3 ?_
  refine y_aload_n (i := 0) (n := 78) ⟨dX2_judgeFound_77, rfl⟩ rfl ?_
  refine y_getR (n := 81) ⟨dX2_judgeFound_78, rfl⟩ kfX2_9 l_39 rfl r_39_4 ?_
  refine y_sipush (n := 84) (v := 680) ⟨dX2_judgeFound_81, rfl⟩ ks_680 ?_
  obtain ⟨q6, hv7, hf⟩ := b_s hf
  refine c_la_judgeBy 680 (sI (sI q4.2 40 691 a5) 40 696 0) (n := 87) ⟨dX2_judgeFound_84, rfl⟩ klX2_91 hv7 (by decide) (Nat.le_of_ble_eq_true rfl) rfl rfl ?_
  cases hf
  exact y_ireturn (n := 88) ⟨dX2_judgeFound_87, rfl⟩ rfl rfl hk
theorem c_ju_judgeFound (a1 : Int32) (a2 : Int32) (a3 : Int32) (a4 : Int32) (a5 : Int32) (a6 : Int32) (M : dM) {o : (Int32 × dM)} {y : mz_M} {d : Nat} {Q : mz_P} {pc n i : Nat} {L : List (Option Value)} {st : List Value} (h : mz_d y.2.1 pc n 3 (.invokevirtual i)) (hl : mz_ml y.1.cls i yX2_judgeFound) (hf : f_ju_judgeFound a1 a2 a3 a4 a5 a6 M = some o) (hd : 4 + 1 ≤ d) (hsm : (st.map (fun v => v.category)).sum ≤ 8) (hLr : mz_rL 133 L = true) (hSr : mz_rS 133 st = true) (kk : mW y d Q n L (.int o.1 :: st) o.2) : mW y d Q pc L (.int a6 :: .int a5 :: .int a4 :: .int a3 :: .int a2 :: .int a1 :: .ref 39 :: st) M :=
  y_callV kmX2_judgeFound kvX2_judgeFound l_39 (by decide +kernel) (by decide +kernel) h hl (ok_ju_judgeFound a1 a2 a3 a4 a5 a6 M hf) (vs := [.int a1, .int a2, .int a3, .int a4, .int a5, .int a6]) rfl rfl hd hsm hLr hSr kk
def K_wo_addToTally_69 (Q : mz_P) (x1 : Int32) (x3 : Int32) : ((Int32 × dM) ⊕ dM) → Prop
  | .inl s => mW mX10_addToTally 1 Q 69 [some (.ref 56), some (.int x1), none, some (.int x3), none, some (.int s.1), none] [] s.2
  | .inr r => mR Q none r
noncomputable def b_wo_addToTally_69_107 (x1 : Int32) (x3 : Int32) (x5 : Int32) (y1 : Int32) (y2 : Int32) (y3 : Int32) (M : dM) : Option ((Int32 × dM) ⊕ dM) :=
  gd (vp_in y1 14) <|
  some (.inl ((x5 + 1), (sI M 63 y1.toNatClampNeg (y2 + y3))))
noncomputable def b_wo_addToTally_69_69 (x1 : Int32) (x3 : Int32) (x5 : Int32) (M : dM) : Option ((Int32 × dM) ⊕ dM) :=
  if 8 ≤ x5 then
    some (.inr M)
  else
    gd (vp_in (6 + x5) 14) <|
    if x3 = 0 then
      b_wo_addToTally_69_107 x1 x3 x5 (6 + x5) (gI M 63 (6 + x5).toNatClampNeg) (-((x1 >>> (x5 &&& 31)) &&& 1)) M
    else
      b_wo_addToTally_69_107 x1 x3 x5 (6 + x5) (gI M 63 (6 + x5).toNatClampNeg) ((x1 >>> (x5 &&& 31)) &&& 1) M
noncomputable def l_wo_addToTally_69 (x1 : Int32) (x3 : Int32) (x5 : Int32) (M : dM) : Option dM := lpc (fun s => b_wo_addToTally_69_69 x1 x3 s.1 s.2) (x5, M)
noncomputable def t_wo_addToTally_64 (x1 : Int32) (x3 : Int32) (y1 : Int32) (y2 : Int32) (y3 : Int32) (M : dM) : Option dM :=
  gd (vp_in y1 14) <|
  (l_wo_addToTally_69 x1 x3 0 (sI M 63 y1.toNatClampNeg (y2 + y3))).bind fun r10 => some r10
noncomputable def t_wo_addToTally_42 (x1 : Int32) (x2 : Int32) (x3 : Int32) (x4 : Int32) (y1 : Int32) (y2 : Int32) (y3 : Int32) (M : dM) : Option dM :=
  gd (vp_in y1 14) <|
  gd (vp_in (x4 + 2) 14) <|
  if x2 = 1 then
    t_wo_addToTally_64 x1 x3 (x4 + 2) (gI (sI M 63 y1.toNatClampNeg (y2 + y3)) 63 (x4 + 2).toNatClampNeg) 1 (sI M 63 y1.toNatClampNeg (y2 + y3))
  else
    t_wo_addToTally_64 x1 x3 (x4 + 2) (gI (sI M 63 y1.toNatClampNeg (y2 + y3)) 63 (x4 + 2).toNatClampNeg) 0 (sI M 63 y1.toNatClampNeg (y2 + y3))
noncomputable def t_wo_addToTally_9 (x1 : Int32) (x2 : Int32) (x3 : Int32) (y0 : Int32) (M : dM) : Option dM :=
  gd (vp_in y0 14) <|
  gd (vp_in (y0 + 1) 14) <|
  if x2 = 2 then
    t_wo_addToTally_42 x1 x2 x3 y0 (y0 + 1) (gI (sI M 63 y0.toNatClampNeg ((gI M 63 y0.toNatClampNeg) + 1)) 63 (y0 + 1).toNatClampNeg) 1 (sI M 63 y0.toNatClampNeg ((gI M 63 y0.toNatClampNeg) + 1))
  else
    t_wo_addToTally_42 x1 x2 x3 y0 (y0 + 1) (gI (sI M 63 y0.toNatClampNeg ((gI M 63 y0.toNatClampNeg) + 1)) 63 (y0 + 1).toNatClampNeg) 0 (sI M 63 y0.toNatClampNeg ((gI M 63 y0.toNatClampNeg) + 1))
noncomputable def f_wo_addToTally (a1 : Int32) (a2 : Int32) (a3 : Int32) (M : dM) : Option dM :=
  if a3 = 0 then
    t_wo_addToTally_9 a1 a2 a3 0 M
  else
    t_wo_addToTally_9 a1 a2 a3 3 M
theorem w_b_wo_addToTally_69_107 (x1 : Int32) (x3 : Int32) (x5 : Int32) (y1 : Int32) (y2 : Int32) (y3 : Int32)  (M : dM) {Q : mz_P} {o : ((Int32 × dM) ⊕ dM)} (hf : b_wo_addToTally_69_107 x1 x3 x5 y1 y2 y3 M = some o) (hk : K_wo_addToTally_69 Q x1 x3 o) : mW mX10_addToTally 1 Q 107 [some (.ref 56), some (.int x1), none, some (.int x3), none, some (.int x5), none] [.int y3, .int y2, .int y1, .ref 63] M := by
  unfold b_wo_addToTally_69_107 at hf
  refine y_iadd (n := 108) ⟨dX10_addToTally_107, rfl⟩ ?_
  obtain ⟨hg7, hf⟩ := g_s hf
  refine y_iastore (n := 109) ⟨dX10_addToTally_108, rfl⟩ l_63 hg7 ?_
  refine y_iinc (i := 5) (n := 112) (b := (x5 + 1)) (L2 := [some (.ref 56), some (.int x1), none, some (.int x3), none, some (.int (x5 + 1)), none]) ⟨dX10_addToTally_109, rfl⟩ rfl (by rw [ki_1]) (by decide) rfl rfl ?_
  refine y_goto (t := 69) ⟨dX10_addToTally_112, rfl, rfl⟩ ?_
  cases hf
  exact y_wk (L2 := [some (.ref 56), some (.int x1), none, some (.int x3), none, some (.int (x5 + 1)), none]) ⟨Or.inr rfl, Or.inr rfl, Or.inr rfl, Or.inr rfl, Or.inr rfl, Or.inr rfl, Or.inr rfl, trivial⟩ hk
theorem w_b_wo_addToTally_69_69 (x1 : Int32) (x3 : Int32) (x5 : Int32)  (M : dM) {Q : mz_P} {o : ((Int32 × dM) ⊕ dM)} (hf : b_wo_addToTally_69_69 x1 x3 x5 M = some o) (hk : K_wo_addToTally_69 Q x1 x3 o) : mW mX10_addToTally 1 Q 69 [some (.ref 56), some (.int x1), none, some (.int x3), none, some (.int x5), none] [] M := by
  unfold b_wo_addToTally_69_69 at hf
  refine y_iload (i := 5) (n := 71) ⟨dX10_addToTally_69, rfl⟩ rfl ?_
  refine y_bipush (n := 73) (v := 8) ⟨dX10_addToTally_71, rfl⟩ kb_8 ?_
  refine y_icmp_ge (t := 115) (n := 76) ⟨dX10_addToTally_73, rfl, rfl⟩ (fun (hc : 8 ≤ x5) => ?_) (fun (hc : ¬ (8 ≤ x5)) => ?_)
  · replace hf := i_t hc hf
    cases hf
    exact y_return (n := 116) ⟨dX10_addToTally_115, rfl⟩ rfl hk
  · replace hf := i_f hc hf
    refine y_iload_n (i := 1) (n := 77) ⟨dX10_addToTally_76, rfl⟩ rfl ?_
    refine y_iload (i := 5) (n := 79) ⟨dX10_addToTally_77, rfl⟩ rfl ?_
    refine y_ishr (n := 80) ⟨dX10_addToTally_79, rfl⟩ ?_
    refine y_iconst (n := 81) (v := 1) ⟨dX10_addToTally_80, rfl⟩ ki_1 ?_
    refine y_iand (n := 82) ⟨dX10_addToTally_81, rfl⟩ ?_
    refine y_istore (i := 6) (n := 84) (L2 := [some (.ref 56), some (.int x1), none, some (.int x3), none, some (.int x5), some (.int ((x1 >>> (x5 &&& 31)) &&& 1))]) ⟨dX10_addToTally_82, rfl⟩ (by decide) rfl rfl ?_
    refine y_aload_n (i := 0) (n := 85) ⟨dX10_addToTally_84, rfl⟩ rfl ?_
    refine y_getR (n := 88) ⟨dX10_addToTally_85, rfl⟩ kfX10_30 l_56 rfl r_56_11 ?_
    refine y_bipush (n := 90) (v := 6) ⟨dX10_addToTally_88, rfl⟩ kb_6 ?_
    refine y_iload (i := 5) (n := 92) ⟨dX10_addToTally_90, rfl⟩ rfl ?_
    refine y_iadd (n := 93) ⟨dX10_addToTally_92, rfl⟩ ?_
    refine y_dup2 (n := 94) ⟨dX10_addToTally_93, rfl⟩ ?_
    obtain ⟨hg6, hf⟩ := g_s hf
    refine y_iaload (n := 95) ⟨dX10_addToTally_94, rfl⟩ l_63 hg6 ?_
    refine y_iload_n (i := 3) (n := 96) ⟨dX10_addToTally_95, rfl⟩ rfl ?_
    refine y_if_eq (t := 104) (n := 99) ⟨dX10_addToTally_96, rfl, rfl⟩ (fun (hc : x3 = 0) => ?_) (fun (hc : ¬ (x3 = 0)) => ?_)
    · replace hf := i_t hc hf
      refine y_iload (i := 6) (n := 106) ⟨dX10_addToTally_104, rfl⟩ rfl ?_
      refine y_ineg (n := 107) ⟨dX10_addToTally_106, rfl⟩ ?_
      exact y_wk (L2 := [some (.ref 56), some (.int x1), none, some (.int x3), none, some (.int x5), none]) ⟨Or.inr rfl, Or.inr rfl, Or.inr rfl, Or.inr rfl, Or.inr rfl, Or.inr rfl, Or.inl rfl, trivial⟩ (w_b_wo_addToTally_69_107 x1 x3 x5 (6 + x5) (gI M 63 (6 + x5).toNatClampNeg) (-((x1 >>> (x5 &&& 31)) &&& 1)) M hf hk)
    · replace hf := i_f hc hf
      refine y_iload (i := 6) (n := 101) ⟨dX10_addToTally_99, rfl⟩ rfl ?_
      refine y_goto (t := 107) ⟨dX10_addToTally_101, rfl, rfl⟩ ?_
      exact y_wk (L2 := [some (.ref 56), some (.int x1), none, some (.int x3), none, some (.int x5), none]) ⟨Or.inr rfl, Or.inr rfl, Or.inr rfl, Or.inr rfl, Or.inr rfl, Or.inr rfl, Or.inl rfl, trivial⟩ (w_b_wo_addToTally_69_107 x1 x3 x5 (6 + x5) (gI M 63 (6 + x5).toNatClampNeg) ((x1 >>> (x5 &&& 31)) &&& 1) M hf hk)
theorem wl_wo_addToTally_69 (x1 : Int32) (x3 : Int32) (x5 : Int32) (M : dM) {Q : mz_P} {x : dM} (hf : l_wo_addToTally_69 x1 x3 x5 M = some x) (hk : K_wo_addToTally_69 Q x1 x3 (.inr x)) : mW mX10_addToTally 1 Q 69 [some (.ref 56), some (.int x1), none, some (.int x3), none, some (.int x5), none] [] M :=
  lpc_wp (σ := (Int32 × dM)) (ξ := dM) (s := (x5, M)) (Wh := fun s => mW mX10_addToTally 1 Q 69 [some (.ref 56), some (.int x1), none, some (.int x3), none, some (.int s.1), none] [] s.2) (K := K_wo_addToTally_69 Q x1 x3) (fun _ h => h) (fun s o hb hk => w_b_wo_addToTally_69_69 x1 x3 s.1 s.2 hb hk) hf hk
theorem w_t_wo_addToTally_64 (x1 : Int32) (x3 : Int32) (y1 : Int32) (y2 : Int32) (y3 : Int32) (M : dM) {Q : mz_P} {o : dM} (hf : t_wo_addToTally_64 x1 x3 y1 y2 y3 M = some o) (hk : mR Q none o) : mW mX10_addToTally 1 Q 64 [some (.ref 56), some (.int x1), none, some (.int x3), none, none, none] [.int y3, .int y2, .int y1, .ref 63] M := by
  unfold t_wo_addToTally_64 at hf
  refine y_iadd (n := 65) ⟨dX10_addToTally_64, rfl⟩ ?_
  obtain ⟨hg5, hf⟩ := g_s hf
  refine y_iastore (n := 66) ⟨dX10_addToTally_65, rfl⟩ l_63 hg5 ?_
  refine y_iconst (n := 67) (v := 0) ⟨dX10_addToTally_66, rfl⟩ ki_0 ?_
  refine y_istore (i := 5) (n := 69) (L2 := [some (.ref 56), some (.int x1), none, some (.int x3), none, some (.int 0), none]) ⟨dX10_addToTally_67, rfl⟩ (by decide) rfl rfl ?_
  obtain ⟨r10, hl9, hf⟩ := b_s hf
  cases hf
  exact y_wk (L2 := [some (.ref 56), some (.int x1), none, some (.int x3), none, some (.int 0), none]) ⟨Or.inr rfl, Or.inr rfl, Or.inr rfl, Or.inr rfl, Or.inr rfl, Or.inr rfl, Or.inr rfl, trivial⟩ (wl_wo_addToTally_69 x1 x3 0 (sI M 63 y1.toNatClampNeg (y2 + y3)) hl9 hk)
theorem w_t_wo_addToTally_42 (x1 : Int32) (x2 : Int32) (x3 : Int32) (x4 : Int32) (y1 : Int32) (y2 : Int32) (y3 : Int32) (M : dM) {Q : mz_P} {o : dM} (hf : t_wo_addToTally_42 x1 x2 x3 x4 y1 y2 y3 M = some o) (hk : mR Q none o) : mW mX10_addToTally 1 Q 42 [some (.ref 56), some (.int x1), some (.int x2), some (.int x3), some (.int x4), none, none] [.int y3, .int y2, .int y1, .ref 63] M := by
  unfold t_wo_addToTally_42 at hf
  refine y_iadd (n := 43) ⟨dX10_addToTally_42, rfl⟩ ?_
  obtain ⟨hg3, hf⟩ := g_s hf
  refine y_iastore (n := 44) ⟨dX10_addToTally_43, rfl⟩ l_63 hg3 ?_
  refine y_aload_n (i := 0) (n := 45) ⟨dX10_addToTally_44, rfl⟩ rfl ?_
  refine y_getR (n := 48) ⟨dX10_addToTally_45, rfl⟩ kfX10_30 l_56 rfl r_56_11 ?_
  refine y_iload (i := 4) (n := 50) ⟨dX10_addToTally_48, rfl⟩ rfl ?_
  refine y_iconst (n := 51) (v := 2) ⟨dX10_addToTally_50, rfl⟩ ki_2 ?_
  refine y_iadd (n := 52) ⟨dX10_addToTally_51, rfl⟩ ?_
  refine y_dup2 (n := 53) ⟨dX10_addToTally_52, rfl⟩ ?_
  obtain ⟨hg4, hf⟩ := g_s hf
  refine y_iaload (n := 54) ⟨dX10_addToTally_53, rfl⟩ l_63 hg4 ?_
  refine y_iload_n (i := 2) (n := 55) ⟨dX10_addToTally_54, rfl⟩ rfl ?_
  refine y_iconst (n := 56) (v := 1) ⟨dX10_addToTally_55, rfl⟩ ki_1 ?_
  refine y_icmp_ne (t := 63) (n := 59) ⟨dX10_addToTally_56, rfl, rfl⟩ (fun (hc : ¬ (x2 = 1)) => ?_) (fun (hc : x2 = 1) => ?_)
  · replace hf := i_f hc hf
    refine y_iconst (n := 64) (v := 0) ⟨dX10_addToTally_63, rfl⟩ ki_0 ?_
    exact y_wk (L2 := [some (.ref 56), some (.int x1), none, some (.int x3), none, none, none]) ⟨Or.inr rfl, Or.inr rfl, Or.inl rfl, Or.inr rfl, Or.inl rfl, Or.inr rfl, Or.inr rfl, trivial⟩ (w_t_wo_addToTally_64 x1 x3 (x4 + 2) (gI (sI M 63 y1.toNatClampNeg (y2 + y3)) 63 (x4 + 2).toNatClampNeg) 0 (sI M 63 y1.toNatClampNeg (y2 + y3)) hf hk)
  · replace hf := i_t hc hf
    refine y_iconst (n := 60) (v := 1) ⟨dX10_addToTally_59, rfl⟩ ki_1 ?_
    refine y_goto (t := 64) ⟨dX10_addToTally_60, rfl, rfl⟩ ?_
    exact y_wk (L2 := [some (.ref 56), some (.int x1), none, some (.int x3), none, none, none]) ⟨Or.inr rfl, Or.inr rfl, Or.inl rfl, Or.inr rfl, Or.inl rfl, Or.inr rfl, Or.inr rfl, trivial⟩ (w_t_wo_addToTally_64 x1 x3 (x4 + 2) (gI (sI M 63 y1.toNatClampNeg (y2 + y3)) 63 (x4 + 2).toNatClampNeg) 1 (sI M 63 y1.toNatClampNeg (y2 + y3)) hf hk)
theorem w_t_wo_addToTally_9 (x1 : Int32) (x2 : Int32) (x3 : Int32) (y0 : Int32) (M : dM) {Q : mz_P} {o : dM} (hf : t_wo_addToTally_9 x1 x2 x3 y0 M = some o) (hk : mR Q none o) : mW mX10_addToTally 1 Q 9 [some (.ref 56), some (.int x1), some (.int x2), some (.int x3), none, none, none] [.int y0] M := by
  unfold t_wo_addToTally_9 at hf
  refine y_istore (i := 4) (n := 11) (L2 := [some (.ref 56), some (.int x1), some (.int x2), some (.int x3), some (.int y0), none, none]) ⟨dX10_addToTally_9, rfl⟩ (by decide) rfl rfl ?_
  refine y_aload_n (i := 0) (n := 12) ⟨dX10_addToTally_11, rfl⟩ rfl ?_
  refine y_getR (n := 15) ⟨dX10_addToTally_12, rfl⟩ kfX10_30 l_56 rfl r_56_11 ?_
  refine y_iload (i := 4) (n := 17) ⟨dX10_addToTally_15, rfl⟩ rfl ?_
  refine y_dup2 (n := 18) ⟨dX10_addToTally_17, rfl⟩ ?_
  obtain ⟨hg1, hf⟩ := g_s hf
  refine y_iaload (n := 19) ⟨dX10_addToTally_18, rfl⟩ l_63 hg1 ?_
  refine y_iconst (n := 20) (v := 1) ⟨dX10_addToTally_19, rfl⟩ ki_1 ?_
  refine y_iadd (n := 21) ⟨dX10_addToTally_20, rfl⟩ ?_
  refine y_iastore (n := 22) ⟨dX10_addToTally_21, rfl⟩ l_63 hg1 ?_
  refine y_aload_n (i := 0) (n := 23) ⟨dX10_addToTally_22, rfl⟩ rfl ?_
  refine y_getR (n := 26) ⟨dX10_addToTally_23, rfl⟩ kfX10_30 l_56 rfl r_56_11 ?_
  refine y_iload (i := 4) (n := 28) ⟨dX10_addToTally_26, rfl⟩ rfl ?_
  refine y_iconst (n := 29) (v := 1) ⟨dX10_addToTally_28, rfl⟩ ki_1 ?_
  refine y_iadd (n := 30) ⟨dX10_addToTally_29, rfl⟩ ?_
  refine y_dup2 (n := 31) ⟨dX10_addToTally_30, rfl⟩ ?_
  obtain ⟨hg2, hf⟩ := g_s hf
  refine y_iaload (n := 32) ⟨dX10_addToTally_31, rfl⟩ l_63 hg2 ?_
  refine y_iload_n (i := 2) (n := 33) ⟨dX10_addToTally_32, rfl⟩ rfl ?_
  refine y_iconst (n := 34) (v := 2) ⟨dX10_addToTally_33, rfl⟩ ki_2 ?_
  refine y_icmp_ne (t := 41) (n := 37) ⟨dX10_addToTally_34, rfl, rfl⟩ (fun (hc : ¬ (x2 = 2)) => ?_) (fun (hc : x2 = 2) => ?_)
  · replace hf := i_f hc hf
    refine y_iconst (n := 42) (v := 0) ⟨dX10_addToTally_41, rfl⟩ ki_0 ?_
    exact y_wk (L2 := [some (.ref 56), some (.int x1), some (.int x2), some (.int x3), some (.int y0), none, none]) ⟨Or.inr rfl, Or.inr rfl, Or.inr rfl, Or.inr rfl, Or.inr rfl, Or.inr rfl, Or.inr rfl, trivial⟩ (w_t_wo_addToTally_42 x1 x2 x3 y0 (y0 + 1) (gI (sI M 63 y0.toNatClampNeg ((gI M 63 y0.toNatClampNeg) + 1)) 63 (y0 + 1).toNatClampNeg) 0 (sI M 63 y0.toNatClampNeg ((gI M 63 y0.toNatClampNeg) + 1)) hf hk)
  · replace hf := i_t hc hf
    refine y_iconst (n := 38) (v := 1) ⟨dX10_addToTally_37, rfl⟩ ki_1 ?_
    refine y_goto (t := 42) ⟨dX10_addToTally_38, rfl, rfl⟩ ?_
    exact y_wk (L2 := [some (.ref 56), some (.int x1), some (.int x2), some (.int x3), some (.int y0), none, none]) ⟨Or.inr rfl, Or.inr rfl, Or.inr rfl, Or.inr rfl, Or.inr rfl, Or.inr rfl, Or.inr rfl, trivial⟩ (w_t_wo_addToTally_42 x1 x2 x3 y0 (y0 + 1) (gI (sI M 63 y0.toNatClampNeg ((gI M 63 y0.toNatClampNeg) + 1)) 63 (y0 + 1).toNatClampNeg) 1 (sI M 63 y0.toNatClampNeg ((gI M 63 y0.toNatClampNeg) + 1)) hf hk)
theorem ok_wo_addToTally (a1 : Int32) (a2 : Int32) (a3 : Int32) (M : dM) {o : dM} (hf : f_wo_addToTally a1 a2 a3 M = some o) : mO mX10_addToTally 1 [.ref 56, .int a1, .int a2, .int a3] M none o := by
  refine y_ok (by decide +kernel) (Nat.le_of_ble_eq_true rfl) (L0 := [some (.ref 56), some (.int a1), some (.int a2), some (.int a3), none, none, none]) rfl ?_
  have hk := mR_mQ none o
  generalize mQ _ _ = Q at hk ⊢
  unfold f_wo_addToTally at hf
  refine y_iload_n (i := 3) (n := 1) ⟨dX10_addToTally_0, rfl⟩ rfl ?_
  refine y_if_eq (t := 8) (n := 4) ⟨dX10_addToTally_1, rfl, rfl⟩ (fun (hc : a3 = 0) => ?_) (fun (hc : ¬ (a3 = 0)) => ?_)
  · replace hf := i_t hc hf
    refine y_iconst (n := 9) (v := 0) ⟨dX10_addToTally_8, rfl⟩ ki_0 ?_
    exact y_wk (L2 := [some (.ref 56), some (.int a1), some (.int a2), some (.int a3), none, none, none]) ⟨Or.inr rfl, Or.inr rfl, Or.inr rfl, Or.inr rfl, Or.inr rfl, Or.inr rfl, Or.inr rfl, trivial⟩ (w_t_wo_addToTally_9 a1 a2 a3 0 M hf hk)
  · replace hf := i_f hc hf
    refine y_iconst (n := 5) (v := 3) ⟨dX10_addToTally_4, rfl⟩ ki_3 ?_
    refine y_goto (t := 9) ⟨dX10_addToTally_5, rfl, rfl⟩ ?_
    exact y_wk (L2 := [some (.ref 56), some (.int a1), some (.int a2), some (.int a3), none, none, none]) ⟨Or.inr rfl, Or.inr rfl, Or.inr rfl, Or.inr rfl, Or.inr rfl, Or.inr rfl, Or.inr rfl, trivial⟩ (w_t_wo_addToTally_9 a1 a2 a3 3 M hf hk)
theorem c_wo_addToTally (a1 : Int32) (a2 : Int32) (a3 : Int32) (M : dM) {o : dM} {y : mz_M} {d : Nat} {Q : mz_P} {pc n i : Nat} {L : List (Option Value)} {st : List Value} (h : mz_d y.2.1 pc n 3 (.invokevirtual i)) (hl : mz_ml y.1.cls i yX10_addToTally) (hf : f_wo_addToTally a1 a2 a3 M = some o) (hd : 1 + 1 ≤ d) (hsm : (st.map (fun v => v.category)).sum ≤ 8) (hLr : mz_rL 133 L = true) (hSr : mz_rS 133 st = true) (kk : mW y d Q n L st o) : mW y d Q pc L (.int a3 :: .int a2 :: .int a1 :: .ref 56 :: st) M :=
  y_callV kmX10_addToTally kvX10_addToTally l_56 (by decide +kernel) (by decide +kernel) h hl (ok_wo_addToTally a1 a2 a3 M hf) (vs := [.int a1, .int a2, .int a3]) rfl rfl hd hsm hLr hSr kk
def K_wo_take_6 (Q : mz_P) (x1 : Int32) (x2 : Int32) (x3 : Int32) (x4 : Int32) : ((Int32 × Int32 × dM) ⊕ (Int32 × dM)) → Prop
  | .inl s => mW mX10_take 5 Q 6 [some (.ref 56), some (.int x1), some (.int x2), some (.int x3), some (.int x4), some (.int s.1), some (.int s.2.1), none, none, none] [] s.2.2
  | .inr t => mW mX10_take 5 Q 55 [some (.ref 56), some (.int x1), some (.int x2), some (.int x3), some (.int x4), some (.int t.1), none, none, none, none] [] t.2
noncomputable def b_wo_take_6_36 (x1 : Int32) (x2 : Int32) (x3 : Int32) (x4 : Int32) (x5 : Int32) (x6 : Int32) (y0 : Int32) (y2 : Int32) (M : dM) : Option ((Int32 × Int32 × dM) ⊕ (Int32 × dM)) :=
  gd (vp_in y2 16) <|
  if (gI M 59 y2.toNatClampNeg) ≤ y0 then
    some (.inl (x5, (x6 + 1), M))
  else
    some (.inl ((x5 ||| ((1 : Int32) <<< (x6 &&& 31))), (x6 + 1), M))
noncomputable def b_wo_take_6_6 (x1 : Int32) (x2 : Int32) (x3 : Int32) (x4 : Int32) (x5 : Int32) (x6 : Int32) (M : dM) : Option ((Int32 × Int32 × dM) ⊕ (Int32 × dM)) :=
  if 8 ≤ x6 then
    some (.inr (x5, M))
  else
    (f_wo_draw M).bind fun q1 =>
    if x4 = 0 then
      b_wo_take_6_36 x1 x2 x3 x4 x5 x6 q1.1 x6 q1.2
    else
      b_wo_take_6_36 x1 x2 x3 x4 x5 x6 q1.1 (8 + x6) q1.2
noncomputable def l_wo_take_6 (x1 : Int32) (x2 : Int32) (x3 : Int32) (x4 : Int32) (x5 : Int32) (x6 : Int32) (M : dM) : Option (Int32 × dM) := lpc (fun s => b_wo_take_6_6 x1 x2 x3 x4 s.1 s.2.1 s.2.2) (x5, x6, M)
noncomputable def t_wo_take_183 (x3 : Int32) (x5 : Int32) (x7 : Int32) (x8 : Int32) (x9 : Int32) (y1 : Int32) (y2 : Int32) (M : dM) : Option dM :=
  gd (vp_in y1 1920) <|
  some (sI (sI M 62 y1.toNatClampNeg (((((y2 ||| (x5 <<< ((1 : Int32) &&& 31))) ||| (x3 <<< ((9 : Int32) &&& 31))) ||| (x9 <<< ((13 : Int32) &&& 31))) ||| (x7 <<< ((17 : Int32) &&& 31))) ||| (x8 <<< ((24 : Int32) &&& 31)))) 56 10 ((gI (sI M 62 y1.toNatClampNeg (((((y2 ||| (x5 <<< ((1 : Int32) &&& 31))) ||| (x3 <<< ((9 : Int32) &&& 31))) ||| (x9 <<< ((13 : Int32) &&& 31))) ||| (x7 <<< ((17 : Int32) &&& 31))) ||| (x8 <<< ((24 : Int32) &&& 31)))) 56 10) + 1))
noncomputable def f_wo_take (a1 : Int32) (a2 : Int32) (a3 : Int32) (a4 : Int32) (M : dM) : Option dM :=
  (l_wo_take_6 a1 a2 a3 a4 0 0 M).bind fun t4 =>
    (f_wo_draw t4.2).bind fun q7 =>
    (f_wo_draw q7.2).bind fun q9 =>
    (f_ju_judgeFound a1 a2 a3 t4.1 ((q7.1 * 10) + q9.1) (gI q9.2 56 13) q9.2).bind fun q11 =>
    gd (vp_in a1 80) <|
    (f_si_ageOf (gI q11.2 8 a1.toNatClampNeg) a3 q11.2).bind fun v14 =>
    gd (vp_in (gI q11.2 7 a1.toNatClampNeg) 10) <|
    (f_wo_addToTally t4.1 q11.1 a4 (sI (sI q11.2 56 13 (if (gI q11.2 56 13) < v14 then v14 else (gI q11.2 56 13))) 64 (gI q11.2 7 a1.toNatClampNeg).toNatClampNeg ((gI (sI q11.2 56 13 (if (gI q11.2 56 13) < v14 then v14 else (gI q11.2 56 13))) 64 (gI q11.2 7 a1.toNatClampNeg).toNatClampNeg) + 1))).bind fun q17 =>
    if (1920 : Int32) ≤ (gI q17 56 10) then
      some q17
    else
      if a4 = 0 then
        t_wo_take_183 a3 t4.1 ((q7.1 * 10) + q9.1) q11.1 (gI q11.2 7 a1.toNatClampNeg) (gI q17 56 10) 0 q17
      else
        t_wo_take_183 a3 t4.1 ((q7.1 * 10) + q9.1) q11.1 (gI q11.2 7 a1.toNatClampNeg) (gI q17 56 10) 1 q17
theorem w_b_wo_take_6_36 (x1 : Int32) (x2 : Int32) (x3 : Int32) (x4 : Int32) (x5 : Int32) (x6 : Int32) (y0 : Int32) (y2 : Int32)  (M : dM) {Q : mz_P} {o : ((Int32 × Int32 × dM) ⊕ (Int32 × dM))} (hf : b_wo_take_6_36 x1 x2 x3 x4 x5 x6 y0 y2 M = some o) (hk : K_wo_take_6 Q x1 x2 x3 x4 o) : mW mX10_take 5 Q 36 [some (.ref 56), some (.int x1), some (.int x2), some (.int x3), some (.int x4), some (.int x5), some (.int x6), none, none, none] [.int y2, .ref 59, .int y0] M := by
  unfold b_wo_take_6_36 at hf
  obtain ⟨hg3, hf⟩ := g_s hf
  refine y_iaload (n := 37) ⟨dX10_take_36, rfl⟩ l_59 hg3 ?_
  refine y_icmp_ge (t := 49) (n := 40) ⟨dX10_take_37, rfl, rfl⟩ (fun (hc : (gI M 59 y2.toNatClampNeg) ≤ y0) => ?_) (fun (hc : ¬ ((gI M 59 y2.toNatClampNeg) ≤ y0)) => ?_)
  · replace hf := i_t hc hf
    refine y_iinc (i := 6) (n := 52) (b := (x6 + 1)) (L2 := [some (.ref 56), some (.int x1), some (.int x2), some (.int x3), some (.int x4), some (.int x5), some (.int (x6 + 1)), none, none, none]) ⟨dX10_take_49, rfl⟩ rfl (by rw [ki_1]) (by decide) rfl rfl ?_
    refine y_goto (t := 6) ⟨dX10_take_52, rfl, rfl⟩ ?_
    cases hf
    exact y_wk (L2 := [some (.ref 56), some (.int x1), some (.int x2), some (.int x3), some (.int x4), some (.int x5), some (.int (x6 + 1)), none, none, none]) ⟨Or.inr rfl, Or.inr rfl, Or.inr rfl, Or.inr rfl, Or.inr rfl, Or.inr rfl, Or.inr rfl, Or.inr rfl, Or.inr rfl, Or.inr rfl, trivial⟩ hk
  · replace hf := i_f hc hf
    refine y_iload (i := 5) (n := 42) ⟨dX10_take_40, rfl⟩ rfl ?_
    refine y_iconst (n := 43) (v := 1) ⟨dX10_take_42, rfl⟩ ki_1 ?_
    refine y_iload (i := 6) (n := 45) ⟨dX10_take_43, rfl⟩ rfl ?_
    refine y_ishl (n := 46) ⟨dX10_take_45, rfl⟩ ?_
    refine y_ior (n := 47) ⟨dX10_take_46, rfl⟩ ?_
    refine y_istore (i := 5) (n := 49) (L2 := [some (.ref 56), some (.int x1), some (.int x2), some (.int x3), some (.int x4), some (.int (x5 ||| ((1 : Int32) <<< (x6 &&& 31)))), some (.int x6), none, none, none]) ⟨dX10_take_47, rfl⟩ (by decide) rfl rfl ?_
    refine y_iinc (i := 6) (n := 52) (b := (x6 + 1)) (L2 := [some (.ref 56), some (.int x1), some (.int x2), some (.int x3), some (.int x4), some (.int (x5 ||| ((1 : Int32) <<< (x6 &&& 31)))), some (.int (x6 + 1)), none, none, none]) ⟨dX10_take_49, rfl⟩ rfl (by rw [ki_1]) (by decide) rfl rfl ?_
    refine y_goto (t := 6) ⟨dX10_take_52, rfl, rfl⟩ ?_
    cases hf
    exact y_wk (L2 := [some (.ref 56), some (.int x1), some (.int x2), some (.int x3), some (.int x4), some (.int (x5 ||| ((1 : Int32) <<< (x6 &&& 31)))), some (.int (x6 + 1)), none, none, none]) ⟨Or.inr rfl, Or.inr rfl, Or.inr rfl, Or.inr rfl, Or.inr rfl, Or.inr rfl, Or.inr rfl, Or.inr rfl, Or.inr rfl, Or.inr rfl, trivial⟩ hk
theorem w_b_wo_take_6_6 (x1 : Int32) (x2 : Int32) (x3 : Int32) (x4 : Int32) (x5 : Int32) (x6 : Int32)  (M : dM) {Q : mz_P} {o : ((Int32 × Int32 × dM) ⊕ (Int32 × dM))} (hf : b_wo_take_6_6 x1 x2 x3 x4 x5 x6 M = some o) (hk : K_wo_take_6 Q x1 x2 x3 x4 o) : mW mX10_take 5 Q 6 [some (.ref 56), some (.int x1), some (.int x2), some (.int x3), some (.int x4), some (.int x5), some (.int x6), none, none, none] [] M := by
  unfold b_wo_take_6_6 at hf
  refine y_iload (i := 6) (n := 8) ⟨dX10_take_6, rfl⟩ rfl ?_
  refine y_bipush (n := 10) (v := 8) ⟨dX10_take_8, rfl⟩ kb_8 ?_
  refine y_icmp_ge (t := 55) (n := 13) ⟨dX10_take_10, rfl, rfl⟩ (fun (hc : 8 ≤ x6) => ?_) (fun (hc : ¬ (8 ≤ x6)) => ?_)
  · replace hf := i_t hc hf
    cases hf
    exact y_wk (L2 := [some (.ref 56), some (.int x1), some (.int x2), some (.int x3), some (.int x4), some (.int x5), none, none, none, none]) ⟨Or.inr rfl, Or.inr rfl, Or.inr rfl, Or.inr rfl, Or.inr rfl, Or.inr rfl, Or.inl rfl, Or.inr rfl, Or.inr rfl, Or.inr rfl, trivial⟩ hk
  · replace hf := i_f hc hf
    refine y_aload_n (i := 0) (n := 14) ⟨dX10_take_13, rfl⟩ rfl ?_
    obtain ⟨q1, hv2, hf⟩ := b_s hf
    refine c_wo_draw M (n := 17) ⟨dX10_take_14, rfl⟩ klX10_130 hv2 (by decide) (Nat.le_of_ble_eq_true rfl) rfl rfl ?_
    refine y_aload_n (i := 0) (n := 18) ⟨dX10_take_17, rfl⟩ rfl ?_
    refine y_getR (n := 21) ⟨dX10_take_18, rfl⟩ kfX10_18 l_56 rfl r_56_5 ?_
    refine y_iload (i := 4) (n := 23) ⟨dX10_take_21, rfl⟩ rfl ?_
    refine y_if_eq (t := 34) (n := 26) ⟨dX10_take_23, rfl, rfl⟩ (fun (hc : x4 = 0) => ?_) (fun (hc : ¬ (x4 = 0)) => ?_)
    · replace hf := i_t hc hf
      refine y_iload (i := 6) (n := 36) ⟨dX10_take_34, rfl⟩ rfl ?_
      exact y_wk (L2 := [some (.ref 56), some (.int x1), some (.int x2), some (.int x3), some (.int x4), some (.int x5), some (.int x6), none, none, none]) ⟨Or.inr rfl, Or.inr rfl, Or.inr rfl, Or.inr rfl, Or.inr rfl, Or.inr rfl, Or.inr rfl, Or.inr rfl, Or.inr rfl, Or.inr rfl, trivial⟩ (w_b_wo_take_6_36 x1 x2 x3 x4 x5 x6 q1.1 x6 q1.2 hf hk)
    · replace hf := i_f hc hf
      refine y_bipush (n := 28) (v := 8) ⟨dX10_take_26, rfl⟩ kb_8 ?_
      refine y_iload (i := 6) (n := 30) ⟨dX10_take_28, rfl⟩ rfl ?_
      refine y_iadd (n := 31) ⟨dX10_take_30, rfl⟩ ?_
      refine y_goto (t := 36) ⟨dX10_take_31, rfl, rfl⟩ ?_
      exact y_wk (L2 := [some (.ref 56), some (.int x1), some (.int x2), some (.int x3), some (.int x4), some (.int x5), some (.int x6), none, none, none]) ⟨Or.inr rfl, Or.inr rfl, Or.inr rfl, Or.inr rfl, Or.inr rfl, Or.inr rfl, Or.inr rfl, Or.inr rfl, Or.inr rfl, Or.inr rfl, trivial⟩ (w_b_wo_take_6_36 x1 x2 x3 x4 x5 x6 q1.1 (8 + x6) q1.2 hf hk)
theorem wl_wo_take_6 (x1 : Int32) (x2 : Int32) (x3 : Int32) (x4 : Int32) (x5 : Int32) (x6 : Int32) (M : dM) {Q : mz_P} {x : (Int32 × dM)} (hf : l_wo_take_6 x1 x2 x3 x4 x5 x6 M = some x) (hk : K_wo_take_6 Q x1 x2 x3 x4 (.inr x)) : mW mX10_take 5 Q 6 [some (.ref 56), some (.int x1), some (.int x2), some (.int x3), some (.int x4), some (.int x5), some (.int x6), none, none, none] [] M :=
  lpc_wp (σ := (Int32 × Int32 × dM)) (ξ := (Int32 × dM)) (s := (x5, x6, M)) (Wh := fun s => mW mX10_take 5 Q 6 [some (.ref 56), some (.int x1), some (.int x2), some (.int x3), some (.int x4), some (.int s.1), some (.int s.2.1), none, none, none] [] s.2.2) (K := K_wo_take_6 Q x1 x2 x3 x4) (fun _ h => h) (fun s o hb hk => w_b_wo_take_6_6 x1 x2 x3 x4 s.1 s.2.1 s.2.2 hb hk) hf hk
theorem w_t_wo_take_183 (x3 : Int32) (x5 : Int32) (x7 : Int32) (x8 : Int32) (x9 : Int32) (y1 : Int32) (y2 : Int32) (M : dM) {Q : mz_P} {o : dM} (hf : t_wo_take_183 x3 x5 x7 x8 x9 y1 y2 M = some o) (hk : mR Q none o) : mW mX10_take 5 Q 183 [some (.ref 56), none, none, some (.int x3), none, some (.int x5), none, some (.int x7), some (.int x8), some (.int x9)] [.int y2, .int y1, .ref 62] M := by
  unfold t_wo_take_183 at hf
  refine y_iload (i := 5) (n := 185) ⟨dX10_take_183, rfl⟩ rfl ?_
  refine y_iconst (n := 186) (v := 1) ⟨dX10_take_185, rfl⟩ ki_1 ?_
  refine y_ishl (n := 187) ⟨dX10_take_186, rfl⟩ ?_
  refine y_ior (n := 188) ⟨dX10_take_187, rfl⟩ ?_
  refine y_iload_n (i := 3) (n := 189) ⟨dX10_take_188, rfl⟩ rfl ?_
  refine y_bipush (n := 191) (v := 9) ⟨dX10_take_189, rfl⟩ kb_9 ?_
  refine y_ishl (n := 192) ⟨dX10_take_191, rfl⟩ ?_
  refine y_ior (n := 193) ⟨dX10_take_192, rfl⟩ ?_
  refine y_iload (i := 9) (n := 195) ⟨dX10_take_193, rfl⟩ rfl ?_
  refine y_bipush (n := 197) (v := 13) ⟨dX10_take_195, rfl⟩ kb_13 ?_
  refine y_ishl (n := 198) ⟨dX10_take_197, rfl⟩ ?_
  refine y_ior (n := 199) ⟨dX10_take_198, rfl⟩ ?_
  refine y_iload (i := 7) (n := 201) ⟨dX10_take_199, rfl⟩ rfl ?_
  refine y_bipush (n := 203) (v := 17) ⟨dX10_take_201, rfl⟩ kb_17 ?_
  refine y_ishl (n := 204) ⟨dX10_take_203, rfl⟩ ?_
  refine y_ior (n := 205) ⟨dX10_take_204, rfl⟩ ?_
  refine y_iload (i := 8) (n := 207) ⟨dX10_take_205, rfl⟩ rfl ?_
  refine y_bipush (n := 209) (v := 24) ⟨dX10_take_207, rfl⟩ kb_24 ?_
  refine y_ishl (n := 210) ⟨dX10_take_209, rfl⟩ ?_
  refine y_ior (n := 211) ⟨dX10_take_210, rfl⟩ ?_
  obtain ⟨hg19, hf⟩ := g_s hf
  refine y_iastore (n := 212) ⟨dX10_take_211, rfl⟩ l_62 hg19 ?_
  refine y_aload_n (i := 0) (n := 213) ⟨dX10_take_212, rfl⟩ rfl ?_
  refine y_dup_r (n := 214) ⟨dX10_take_213, rfl⟩ ?_
  refine y_getI (n := 217) ⟨dX10_take_214, rfl⟩ kfX10_81 l_56 rfl ?_
  refine y_iconst (n := 218) (v := 1) ⟨dX10_take_217, rfl⟩ ki_1 ?_
  refine y_iadd (n := 219) ⟨dX10_take_218, rfl⟩ ?_
  refine y_putI (n := 222) ⟨dX10_take_219, rfl⟩ kfX10_81 l_56 (by decide +kernel) rfl ?_
  cases hf
  exact y_return (n := 223) ⟨dX10_take_222, rfl⟩ rfl hk
theorem ok_wo_take (a1 : Int32) (a2 : Int32) (a3 : Int32) (a4 : Int32) (M : dM) {o : dM} (hf : f_wo_take a1 a2 a3 a4 M = some o) : mO mX10_take 5 [.ref 56, .int a1, .int a2, .int a3, .int a4] M none o := by
  refine y_ok (by decide +kernel) (Nat.le_of_ble_eq_true rfl) (L0 := [some (.ref 56), some (.int a1), some (.int a2), some (.int a3), some (.int a4), none, none, none, none, none]) rfl ?_
  have hk := mR_mQ none o
  generalize mQ _ _ = Q at hk ⊢
  unfold f_wo_take at hf
  refine y_iconst (n := 1) (v := 0) ⟨dX10_take_0, rfl⟩ ki_0 ?_
  refine y_istore (i := 5) (n := 3) (L2 := [some (.ref 56), some (.int a1), some (.int a2), some (.int a3), some (.int a4), some (.int 0), none, none, none, none]) ⟨dX10_take_1, rfl⟩ (by decide) rfl rfl ?_
  refine y_iconst (n := 4) (v := 0) ⟨dX10_take_3, rfl⟩ ki_0 ?_
  refine y_istore (i := 6) (n := 6) (L2 := [some (.ref 56), some (.int a1), some (.int a2), some (.int a3), some (.int a4), some (.int 0), some (.int 0), none, none, none]) ⟨dX10_take_4, rfl⟩ (by decide) rfl rfl ?_
  obtain ⟨t4, hl5, hf⟩ := b_s hf
  refine y_wk (L2 := [some (.ref 56), some (.int a1), some (.int a2), some (.int a3), some (.int a4), some (.int 0), some (.int 0), none, none, none]) ⟨Or.inr rfl, Or.inr rfl, Or.inr rfl, Or.inr rfl, Or.inr rfl, Or.inr rfl, Or.inr rfl, Or.inr rfl, Or.inr rfl, Or.inr rfl, trivial⟩ (wl_wo_take_6 a1 a2 a3 a4 0 0 M hl5 ?_)
  show mW mX10_take 5 Q 55 [some (.ref 56), some (.int a1), some (.int a2), some (.int a3), some (.int a4), some (.int t4.1), none, none, none, none] [] t4.2
  refine y_aload_n (i := 0) (n := 56) ⟨dX10_take_55, rfl⟩ rfl ?_
  obtain ⟨q7, hv8, hf⟩ := b_s hf
  refine c_wo_draw t4.2 (n := 59) ⟨dX10_take_56, rfl⟩ klX10_130 hv8 (by decide) (Nat.le_of_ble_eq_true rfl) rfl rfl ?_
  refine y_istore (i := 6) (n := 61) (L2 := [some (.ref 56), some (.int a1), some (.int a2), some (.int a3), some (.int a4), some (.int t4.1), some (.int q7.1), none, none, none]) ⟨dX10_take_59, rfl⟩ (by decide) rfl rfl ?_
  refine y_iload (i := 6) (n := 63) ⟨dX10_take_61, rfl⟩ rfl ?_
  refine y_bipush (n := 65) (v := 10) ⟨dX10_take_63, rfl⟩ kb_10 ?_
  refine y_imul (n := 66) ⟨dX10_take_65, rfl⟩ ?_
  refine y_aload_n (i := 0) (n := 67) ⟨dX10_take_66, rfl⟩ rfl ?_
  obtain ⟨q9, hv10, hf⟩ := b_s hf
  refine c_wo_draw q7.2 (n := 70) ⟨dX10_take_67, rfl⟩ klX10_130 hv10 (by decide) (Nat.le_of_ble_eq_true rfl) rfl rfl ?_
  refine y_iadd (n := 71) ⟨dX10_take_70, rfl⟩ ?_
  refine y_istore (i := 7) (n := 73) (L2 := [some (.ref 56), some (.int a1), some (.int a2), some (.int a3), some (.int a4), some (.int t4.1), some (.int q7.1), some (.int ((q7.1 * 10) + q9.1)), none, none]) ⟨dX10_take_71, rfl⟩ (by decide) rfl rfl ?_
  refine y_aload_n (i := 0) (n := 74) ⟨dX10_take_73, rfl⟩ rfl ?_
  refine y_getR (n := 77) ⟨dX10_take_74, rfl⟩ kfX10_51 l_56 rfl r_56_2 ?_
  refine y_iload_n (i := 1) (n := 78) ⟨dX10_take_77, rfl⟩ rfl ?_
  refine y_iload_n (i := 2) (n := 79) ⟨dX10_take_78, rfl⟩ rfl ?_
  refine y_iload_n (i := 3) (n := 80) ⟨dX10_take_79, rfl⟩ rfl ?_
  refine y_iload (i := 5) (n := 82) ⟨dX10_take_80, rfl⟩ rfl ?_
  refine y_iload (i := 7) (n := 84) ⟨dX10_take_82, rfl⟩ rfl ?_
  refine y_aload_n (i := 0) (n := 85) ⟨dX10_take_84, rfl⟩ rfl ?_
  refine y_getI (n := 88) ⟨dX10_take_85, rfl⟩ kfX10_84 l_56 rfl ?_
  obtain ⟨q11, hv12, hf⟩ := b_s hf
  refine c_ju_judgeFound a1 a2 a3 t4.1 ((q7.1 * 10) + q9.1) (gI q9.2 56 13) q9.2 (n := 91) ⟨dX10_take_88, rfl⟩ klX10_153 hv12 (by decide) (Nat.le_of_ble_eq_true rfl) rfl rfl ?_
  refine y_istore (i := 8) (n := 93) (L2 := [some (.ref 56), some (.int a1), some (.int a2), some (.int a3), some (.int a4), some (.int t4.1), some (.int q7.1), some (.int ((q7.1 * 10) + q9.1)), some (.int q11.1), none]) ⟨dX10_take_91, rfl⟩ (by decide) rfl rfl ?_
  refine y_aload_n (i := 0) (n := 94) ⟨dX10_take_93, rfl⟩ rfl ?_
  refine y_getR (n := 97) ⟨dX10_take_94, rfl⟩ kfX10_47 l_56 rfl r_56_1 ?_
  refine y_getR (n := 100) ⟨dX10_take_97, rfl⟩ kfX10_141 l_6 rfl r_6_0 ?_
  refine y_iload_n (i := 1) (n := 101) ⟨dX10_take_100, rfl⟩ rfl ?_
  obtain ⟨hg13, hf⟩ := g_s hf
  refine y_iaload (n := 102) ⟨dX10_take_101, rfl⟩ l_7 hg13 ?_
  refine y_istore (i := 9) (n := 104) (L2 := [some (.ref 56), some (.int a1), some (.int a2), some (.int a3), some (.int a4), some (.int t4.1), some (.int q7.1), some (.int ((q7.1 * 10) + q9.1)), some (.int q11.1), some (.int (gI q11.2 7 a1.toNatClampNeg))]) ⟨dX10_take_102, rfl⟩ (by decide) rfl rfl ?_
  refine y_aload_n (i := 0) (n := 105) ⟨dX10_take_104, rfl⟩ rfl ?_
  refine y_aload_n (i := 0) (n := 106) ⟨dX10_take_105, rfl⟩ rfl ?_
  refine y_getI (n := 109) ⟨dX10_take_106, rfl⟩ kfX10_84 l_56 rfl ?_
  refine y_aload_n (i := 0) (n := 110) ⟨dX10_take_109, rfl⟩ rfl ?_
  refine y_getR (n := 113) ⟨dX10_take_110, rfl⟩ kfX10_43 l_56 rfl r_56_0 ?_
  refine y_aload_n (i := 0) (n := 114) ⟨dX10_take_113, rfl⟩ rfl ?_
  refine y_getR (n := 117) ⟨dX10_take_114, rfl⟩ kfX10_47 l_56 rfl r_56_1 ?_
  refine y_getR (n := 120) ⟨dX10_take_117, rfl⟩ kfX10_101 l_6 rfl r_6_1 ?_
  refine y_iload_n (i := 1) (n := 121) ⟨dX10_take_120, rfl⟩ rfl ?_
  refine y_iaload (n := 122) ⟨dX10_take_121, rfl⟩ l_8 hg13 ?_
  refine y_iload_n (i := 3) (n := 123) ⟨dX10_take_122, rfl⟩ rfl ?_
  obtain ⟨v14, hv15, hf⟩ := b_s hf
  refine c_si_ageOf (gI q11.2 8 a1.toNatClampNeg) a3 q11.2 (n := 126) ⟨dX10_take_123, rfl⟩ klX10_159 hv15 (by decide) (Nat.le_of_ble_eq_true rfl) rfl rfl ?_
  refine y_mmax kcmax ksmax kiMath (n := 129) ⟨dX10_take_126, rfl⟩ (mz_in 1367 (by decide +kernel) (by decide +kernel)) (by decide) (Nat.le_of_ble_eq_true rfl) ?_
  refine y_putI (n := 132) ⟨dX10_take_129, rfl⟩ kfX10_84 l_56 (by decide +kernel) rfl ?_
  refine y_aload_n (i := 0) (n := 133) ⟨dX10_take_132, rfl⟩ rfl ?_
  refine y_getR (n := 136) ⟨dX10_take_133, rfl⟩ kfX10_33 l_56 rfl r_56_12 ?_
  refine y_iload (i := 9) (n := 138) ⟨dX10_take_136, rfl⟩ rfl ?_
  refine y_dup2 (n := 139) ⟨dX10_take_138, rfl⟩ ?_
  obtain ⟨hg16, hf⟩ := g_s hf
  refine y_iaload (n := 140) ⟨dX10_take_139, rfl⟩ l_64 hg16 ?_
  refine y_iconst (n := 141) (v := 1) ⟨dX10_take_140, rfl⟩ ki_1 ?_
  refine y_iadd (n := 142) ⟨dX10_take_141, rfl⟩ ?_
  refine y_iastore (n := 143) ⟨dX10_take_142, rfl⟩ l_64 hg16 ?_
  refine y_aload_n (i := 0) (n := 144) ⟨dX10_take_143, rfl⟩ rfl ?_
  refine y_iload (i := 5) (n := 146) ⟨dX10_take_144, rfl⟩ rfl ?_
  refine y_iload (i := 8) (n := 148) ⟨dX10_take_146, rfl⟩ rfl ?_
  refine y_iload (i := 4) (n := 150) ⟨dX10_take_148, rfl⟩ rfl ?_
  obtain ⟨q17, hv18, hf⟩ := b_s hf
  refine c_wo_addToTally t4.1 q11.1 a4 (sI (sI q11.2 56 13 (if (gI q11.2 56 13) < v14 then v14 else (gI q11.2 56 13))) 64 (gI q11.2 7 a1.toNatClampNeg).toNatClampNeg ((gI (sI q11.2 56 13 (if (gI q11.2 56 13) < v14 then v14 else (gI q11.2 56 13))) 64 (gI q11.2 7 a1.toNatClampNeg).toNatClampNeg) + 1)) (n := 153) ⟨dX10_take_150, rfl⟩ klX10_167 hv18 (by decide) (Nat.le_of_ble_eq_true rfl) rfl rfl ?_
  refine y_aload_n (i := 0) (n := 154) ⟨dX10_take_153, rfl⟩ rfl ?_
  refine y_getI (n := 157) ⟨dX10_take_154, rfl⟩ kfX10_81 l_56 rfl ?_
  refine y_aload_n (i := 0) (n := 158) ⟨dX10_take_157, rfl⟩ rfl ?_
  refine y_getR (n := 161) ⟨dX10_take_158, rfl⟩ kfX10_27 l_56 rfl r_56_9 ?_
  refine y_alen (n := 162) (v := 1920) ⟨dX10_take_161, rfl⟩ l_62 (fun _ => rfl) (by decide) ?_
  refine y_icmp_ge (t := 222) (n := 165) ⟨dX10_take_162, rfl, rfl⟩ (fun (hc : (1920 : Int32) ≤ (gI q17 56 10)) => ?_) (fun (hc : ¬ ((1920 : Int32) ≤ (gI q17 56 10))) => ?_)
  · replace hf := i_t hc hf
    cases hf
    exact y_return (n := 223) ⟨dX10_take_222, rfl⟩ rfl hk
  · replace hf := i_f hc hf
    refine y_aload_n (i := 0) (n := 166) ⟨dX10_take_165, rfl⟩ rfl ?_
    refine y_getR (n := 169) ⟨dX10_take_166, rfl⟩ kfX10_27 l_56 rfl r_56_9 ?_
    refine y_aload_n (i := 0) (n := 170) ⟨dX10_take_169, rfl⟩ rfl ?_
    refine y_getI (n := 173) ⟨dX10_take_170, rfl⟩ kfX10_81 l_56 rfl ?_
    refine y_iload (i := 4) (n := 175) ⟨dX10_take_173, rfl⟩ rfl ?_
    refine y_if_eq (t := 182) (n := 178) ⟨dX10_take_175, rfl, rfl⟩ (fun (hc : a4 = 0) => ?_) (fun (hc : ¬ (a4 = 0)) => ?_)
    · replace hf := i_t hc hf
      refine y_iconst (n := 183) (v := 0) ⟨dX10_take_182, rfl⟩ ki_0 ?_
      exact y_wk (L2 := [some (.ref 56), none, none, some (.int a3), none, some (.int t4.1), none, some (.int ((q7.1 * 10) + q9.1)), some (.int q11.1), some (.int (gI q11.2 7 a1.toNatClampNeg))]) ⟨Or.inr rfl, Or.inl rfl, Or.inl rfl, Or.inr rfl, Or.inl rfl, Or.inr rfl, Or.inl rfl, Or.inr rfl, Or.inr rfl, Or.inr rfl, trivial⟩ (w_t_wo_take_183 a3 t4.1 ((q7.1 * 10) + q9.1) q11.1 (gI q11.2 7 a1.toNatClampNeg) (gI q17 56 10) 0 q17 hf hk)
    · replace hf := i_f hc hf
      refine y_iconst (n := 179) (v := 1) ⟨dX10_take_178, rfl⟩ ki_1 ?_
      refine y_goto (t := 183) ⟨dX10_take_179, rfl, rfl⟩ ?_
      exact y_wk (L2 := [some (.ref 56), none, none, some (.int a3), none, some (.int t4.1), none, some (.int ((q7.1 * 10) + q9.1)), some (.int q11.1), some (.int (gI q11.2 7 a1.toNatClampNeg))]) ⟨Or.inr rfl, Or.inl rfl, Or.inl rfl, Or.inr rfl, Or.inl rfl, Or.inr rfl, Or.inl rfl, Or.inr rfl, Or.inr rfl, Or.inr rfl, trivial⟩ (w_t_wo_take_183 a3 t4.1 ((q7.1 * 10) + q9.1) q11.1 (gI q11.2 7 a1.toNatClampNeg) (gI q17 56 10) 1 q17 hf hk)
theorem c_wo_take (a1 : Int32) (a2 : Int32) (a3 : Int32) (a4 : Int32) (M : dM) {o : dM} {y : mz_M} {d : Nat} {Q : mz_P} {pc n i : Nat} {L : List (Option Value)} {st : List Value} (h : mz_d y.2.1 pc n 3 (.invokevirtual i)) (hl : mz_ml y.1.cls i yX10_take) (hf : f_wo_take a1 a2 a3 a4 M = some o) (hd : 5 + 1 ≤ d) (hsm : (st.map (fun v => v.category)).sum ≤ 8) (hLr : mz_rL 133 L = true) (hSr : mz_rS 133 st = true) (kk : mW y d Q n L st o) : mW y d Q pc L (.int a4 :: .int a3 :: .int a2 :: .int a1 :: .ref 56 :: st) M :=
  y_callV kmX10_take kvX10_take l_56 (by decide +kernel) (by decide +kernel) h hl (ok_wo_take a1 a2 a3 a4 M hf) (vs := [.int a1, .int a2, .int a3, .int a4]) rfl rfl hd hsm hLr hSr kk
