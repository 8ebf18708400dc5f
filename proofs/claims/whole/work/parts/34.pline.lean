/-! ===== a line's E ===== -/
abbrev sQ : Type := Nat → Option (Nat × List Nat × Nat × List Nat × gD)
def chX (S : List Nat) (M M' : dM) : Prop := ∀ k j, S.contains (ky k j) = false → gI M' k j = gI M k j ∧ gJ M' k j = gJ M k j
theorem chX.refl (S : List Nat) (M : dM) : chX S M M := fun _ _ _ => ⟨rfl, rfl⟩
theorem chX.trans {S : List Nat} {M M' M'' : dM} (h : chX S M M') (h' : chX S M' M'') : chX S M M'' := fun k j hp => ⟨((h' k j hp).1).trans (h k j hp).1, ((h' k j hp).2).trans (h k j hp).2⟩
theorem chS.x {S S' : List Nat} {M M' : dM} (h : chS S M M') (hs : S.all (fun x => S'.contains x) = true) : chX S' M M' := (h.mono hs).1
theorem chX.mono {S S' : List Nat} {M M' : dM} (h : chX S M M') (hs : S.all (fun x => S'.contains x) = true) : chX S' M M' := (chS.mono (M := M) (M' := sW M' M.2.2) ⟨h, rfl⟩ hs).1
theorem G_ne {K cat d : Nat} {c r : List Nat} {D : gD} (g : G K cat d c r D) : 0 < r.length := by
  refine g (fun _ _ _ r _ => 0 < r.length) ⟨?_, ?_, ?_, ?_, ?_, ?_, ?_, ?_, ?_, ?_, ?_, ?_⟩
  · intros; exact Nat.one_pos
  · intros; exact Nat.one_pos
  · intro _ _ r _ _ h; rw [List.length_append]; omega
  · intro _ _ _ _ _ h; exact h
  · intro _ _ _ _ h; exact h
  · intro _ _ r _ _ _ _ h _; rw [List.length_append]; omega
  · intro _ _ _ _ h; exact h
  · intro _ _ _ r _ _ _ _ _ h _; rw [List.length_append]; omega
  · intro _ _ _ _ h; exact h
  · intro _ _ _ r _ _ _ _ _ h _; rw [List.length_append]; omega
  · intro _ _ _ _ h; exact h
  · intro _ _ _ r _ _ _ _ _ h _; rw [List.length_append]; omega
def pc0 (T : Nat → Nat) (n s p : Nat) (M : dM) : Prop := tpc T n M ∧ tkc T n p M ∧ gI M 34 1 = nI s
def rs0 (T : Nat → Nat) (n q p : Nat) (M : dM) : Prop := tpm T n M ∧ tkm T n p M ∧ gI M 66 37 = nI (1000 + q)
def eL (l : Nat) : Nat := if l = 20 then 1 else 0
theorem eL_lt (l : Nat) : eL l < 2 := by unfold eL; split <;> omega
def kC : List Nat := kP ++ [36, 37]
def kM : List Nat := kR ++ [7638, 85, 86, 87]
theorem readsE_eq {l : Nat} (hl : l < 21) (M : dM) : f_mo_readsE (nI l) M = (mE (nI 0, nI 1, sI (sI (sI M 66 38 (nI (eL l))) 86 l (gI M 66 37)) 90 0 (nI 0))).bind fun q3 => if q3.1 = true then some (true, sI (sI q3.2 87 l (gI q3.2 66 37)) 85 l (nI 1)) else some (false, q3.2) := by
  have key : ∀ y : Nat, y = 0 ∨ y = 1 → t_mo_readsE_12 (nI l) (nI y) M = (mE (nI 0, nI 1, sI (sI (sI M 66 38 (nI y)) 86 l (gI M 66 37)) 90 0 (nI 0))).bind fun q3 => if q3.1 = true then some (true, sI (sI q3.2 87 l (gI q3.2 66 37)) 85 l (nI 1)) else some (false, q3.2) := fun y hy => by
    unfold t_mo_readsE_12
    rw [z_gd (eq_true (show nI y = 0 ∨ nI y = 1 from by rcases hy with rfl | rfl; exact Or.inl rfl; exact Or.inr rfl)), z_gd (z_in (n := l) hl (by decide)), z_cl (n := l) (by omega), gI_sI, if_neg (by omega)]
    rfl
  unfold f_mo_readsE eL
  by_cases h : l = 20
  · rw [if_pos h, if_pos (show nI l = (20 : Int32) from by rw [h]; rfl)]
    exact key 1 (Or.inr rfl)
  · rw [if_neg h, if_neg (show ¬ nI l = (20 : Int32) from z_ne (b := 20) (by omega) (by omega) h)]
    exact key 0 (Or.inl rfl)
def wOK (T : Nat → Nat) (n l p q s : Nat) (fR : dM → Option (Bool × dM)) (M : dM) (o : Option (Bool × dM)) (p' : Nat) (c r : List Nat) (D : gD) (M1 : dM) : Prop :=
  o = some (true, M1) ∧ G (eK (eL l)) 0 0 c r D ∧ p < p' ∧ c.length ≤ p' - p ∧ r.length ≤ p' - p ∧ pc0 T n (s + r.length) p' M1 ∧ hold M1 35 s r ∧ gI M1 32 7 = gI M 32 7 ∧ gI M1 36 l = nI s ∧ gI M1 37 l = nI (s + r.length) ∧ chX kC M M1 ∧ (∀ j, j < s → gI M1 35 j = gI M 35 j) ∧ (∀ j, j ≠ l → gI M1 36 j = gI M 36 j ∧ gI M1 37 j = gI M 37 j) ∧
  ∀ Mr, rs0 T n q p Mr → ∃ M', fR Mr = some (true, M') ∧ rs0 T n (q + c.length) p' M' ∧ hold M' 88 (1000 + q) c ∧ gI M' 85 l = nI 1 ∧ gI M' 86 l = nI (1000 + q) ∧ gI M' 87 l = nI (1000 + q + c.length) ∧ chS kM Mr M' ∧ (∀ j, j < 1000 + q → gI M' 88 j = gI Mr 88 j) ∧ ∀ j, j ≠ l → gI M' 85 j = gI Mr 85 j ∧ gI M' 86 j = gI Mr 86 j ∧ gI M' 87 j = gI Mr 87 j
def wBad (T : Nat → Nat) (n p q : Nat) (fR : dM → Option (Bool × dM)) (M : dM) (o : Option (Bool × dM)) (x : Nat) (M1 : dM) : Prop :=
  0 < x ∧ x < 100000 ∧ o = some (false, M1) ∧ gI M1 32 7 = nI x ∧ chX kC M M1 ∧ ∀ Mr, rs0 T n q p Mr → ∃ M', fR Mr = some (false, M') ∧ gI M' 66 25 = nI x ∧ chS kM Mr M' ∧ (∀ j, j < 1000 + q → gI M' 88 j = gI Mr 88 j)
theorem tie_W {T : Nat → Nat} {n l p q s : Nat} {M : dM} (hl : l < 21) (hM : pc0 T n s p M) (hs : s ≤ p) (hq : q ≤ p) : (∃ p' c r D M1, wOK T n l p q s (f_mo_readsE (nI l)) M (f_re_wholeE (nI l) (eL l) M) p' c r D M1) ∨ ∃ x M1, wBad T n p q (f_mo_readsE (nI l)) M (f_re_wholeE (nI l) (eL l) M) x M1 := by
  have he := eL_lt l
  have hn : n ≤ 1000 := hM.1.1
  have hpn : p ≤ n := hM.2.1.1
  have c0 : chS [36] (sW M (eL l)) (sI (sW M (eL l)) 36 l (nI s)) := chS_sI _ 36 l _ rfl
  have c0x : chX kC M (sI (sW M (eL l)) 36 l (nI s)) := c0.x (by decide)
  generalize hX : sI (sW M (eL l)) 36 l (nI s) = X at c0 c0x
  have kX : pcs T n (eL l) s p X := ⟨tpc_ch (M := sW M (eL l)) hM.1 c0 (by decide), tkc_ch (M := sW M (eL l)) hM.2.1 c0 (by decide), c0.2, (c0.I 34 1 rfl).trans hM.2.2⟩
  have x36 : ∀ j, gI X 36 j = if j = l then nI s else gI M 36 j := fun j => by
    rw [← hX, gI_sI]
    simp only [true_and]
    rfl
  have hW : f_re_wholeE (nI l) (eL l) M = (f_re_expression (fr_re_part 8) (nI 0) X).bind fun q2 => if q2.1 = true then (f_re_takeSign (nI 59) (sI q2.2 37 l (gI q2.2 34 1))).bind fun q4 => some (q4.1, q4.2) else some (false, q2.2) := by
    unfold f_re_wholeE
    rw [z_gd (z_in (n := l) hl (by decide)), z_cl (n := l) (by omega), show gI (sW M (eL l)) 34 1 = nI s from hM.2.2, hX]
    rfl
  have rin : ∀ Mr, rs0 T n q p Mr → ∃ Y, Y = sI (sI (sI Mr 66 38 (nI (eL l))) 86 l (nI (1000 + q))) 90 0 (nI 0) ∧ rst T n (eL l) q p Y ∧ chS [7638, 86, 90] Mr Y ∧ f_mo_readsE (nI l) Mr = ((mE (nI 0, nI 1, Y)).bind fun q3 => if q3.1 = true then some (true, sI (sI q3.2 87 l (gI q3.2 66 37)) 85 l (nI 1)) else some (false, q3.2)) ∧ rPre 0 0 Y := by
    intro Mr hr
    have cY : chS [7638, 86, 90] Mr (sI (sI (sI Mr 66 38 (nI (eL l))) 86 l (nI (1000 + q))) 90 0 (nI 0)) := (((chS.refl _ Mr).sI 66 38 _ rfl).sI 86 l _ rfl).sI 90 0 _ rfl
    refine ⟨_, rfl, ⟨tpm_ch hr.1 cY (by decide), tkm_ch hr.2.1 cY (by decide), ?_, (cY.I 66 37 rfl).trans hr.2.2⟩, cY, ?_, fun _ => rfl, fun _ => ?_⟩
    · rw [gI_sI, if_neg (by omega), gI_sI, if_neg (by omega), gI_sI, if_pos ⟨rfl, rfl⟩]
    · rw [readsE_eq hl, hr.2.2]
    · rw [gI_sI, if_pos ⟨rfl, rfl⟩]
  rw [hW]
  rcases tie_E he kX hs with ⟨p2, c, r, D, M1, f1, f2, f3⟩ | ⟨x, M3, x0, x1, f1, f2, f3, f4⟩
  · obtain ⟨y0, y1, y2, y3, y4, y5, y6, y7, y8, y9⟩ := f2
    rw [f1, Option.bind_some, if_pos rfl]
    have e34 : gI M1 34 1 = nI (s + r.length) := y5.2.2.2
    rw [show gI (true, M1).2 34 1 = nI (s + r.length) from e34]
    have c1 : chS [37] M1 (sI M1 37 l (nI (s + r.length))) := chS_sI _ 37 l _ rfl
    have h37 : ∀ j, gI (sI M1 37 l (nI (s + r.length))) 37 j = if j = l then nI (s + r.length) else gI M 37 j := fun j => by
      rw [gI_sI, y7.I 37 j rfl, c0.I 37 j rfl]
      simp only [true_and]
      rfl
    generalize sI M1 37 l (nI (s + r.length)) = Y1 at c1 h37
    have kY : pcs T n (eL l) (s + r.length) p2 Y1 := ⟨tpc_ch y5.1 c1 (by decide), tkc_ch y5.2.1 c1 (by decide), c1.2.trans y5.2.2.1, (c1.I 34 1 rfl).trans e34⟩
    have cXY : chX kC M Y1 := (c0x.trans (y7.x (by decide))).trans (c1.x (by decide))
    by_cases g59 : isS T n p2 59 = true
    · have hp2 := isS_lt g59
      have hnp := np_gt (T := T) hp2
      obtain ⟨M4, h1, h2, h3⟩ := (c_takeSign (a := 59) kY (by decide)).1 g59
      have h1' : f_re_takeSign (nI 59) Y1 = some (true, M4) := h1
      rw [h1', Option.bind_some]
      refine Or.inl ⟨np T n p2, c, r, D, M4, rfl, y0, by omega, by omega, by omega, ⟨h2.1, h2.2.1, h2.2.2.2⟩, hold_keep y6 (fun j _ => ?_), ?_, ?_, ?_, cXY.trans (h3.x (by decide)), fun j hj => ?_, fun j hj => ⟨?_, ?_⟩, fun Mr hr => ?_⟩
      · rw [h3.I 35 j rfl, c1.I 35 j rfl]
      · rw [h3.I 32 7 rfl, c1.I 32 7 rfl, y7.I 32 7 rfl, c0.I 32 7 rfl]
        rfl
      · rw [h3.I 36 l rfl, c1.I 36 l rfl, y7.I 36 l rfl, x36, if_pos rfl]
      · rw [h3.I 37 l rfl, h37, if_pos rfl]
      · rw [h3.I 35 j rfl, c1.I 35 j rfl, y8 j hj, c0.I 35 j rfl]
        rfl
      · rw [h3.I 36 j rfl, c1.I 36 j rfl, y7.I 36 j rfl, x36, if_neg hj]
      · rw [h3.I 37 j rfl, h37, if_neg hj]
      · obtain ⟨Y, hY, r1, r2, r3, r4⟩ := rin Mr hr
        obtain ⟨Ma, a1, a2, a3, a4, a5, a6⟩ := y9 q Y r1 hq r4
        have st : stE T n 0 p2 Ma := ⟨f3.1 (by decide), (f3.2.1 (by decide)).1, (f3.2.1 (by decide)).2, f3.2.2 rfl, fun z => a6 (by decide) z⟩
        obtain ⟨Mb, b1, b2, b3⟩ := m_next (T := T) (n := n) a2.1 (nx_le a2.2.1.1).2 a2.2.1.2.2.1
        have e1 : mE (nI 0, nI 1, Y) = some (true, Mb) := mE_comes a1 (by
          show mE (nI 0, nI 0, Ma) = _
          rw [m_semi a2 st g59, b1]; rfl)
        have b37 : gI Mb 66 37 = nI (1000 + (q + c.length)) := (b3.I 66 37 rfl).trans a2.2.2.2
        have cZ : chS [87, 85] Mb (sI (sI Mb 87 l (nI (1000 + (q + c.length)))) 85 l (nI 1)) := ((chS.refl _ Mb).sI 87 l _ rfl).sI 85 l _ rfl
        refine ⟨sI (sI Mb 87 l (nI (1000 + (q + c.length)))) 85 l (nI 1), ?_, ⟨tpm_ch (tpm_ch a2.1 b3 (by decide)) cZ (by decide), tkm_ch b2 cZ (by decide), (cZ.I 66 37 rfl).trans b37⟩, hold_keep a3 (fun j _ => ?_), ?_, ?_, ?_, (r2.mono (by decide)).trans ((a4.1.mono (by decide)).trans ((b3.mono (by decide)).trans (cZ.mono (by decide)))), fun j hj => ?_, fun j hj => ⟨?_, ?_, ?_⟩⟩
        · rw [r3, e1, Option.bind_some, if_pos rfl]
          show some (true, sI (sI Mb 87 l (gI Mb 66 37)) 85 l (nI 1)) = _
          rw [b37]
        · rw [cZ.I 88 j rfl, b3.I 88 j rfl]
        · rw [gI_sI, if_pos ⟨rfl, rfl⟩]
        · rw [cZ.I 86 l rfl, b3.I 86 l rfl, a4.1.I 86 l rfl, hY, gI_sI, if_neg (by omega), gI_sI, if_pos ⟨rfl, rfl⟩]
        · rw [gI_sI, if_neg (by omega), gI_sI, if_pos ⟨rfl, rfl⟩, Nat.add_assoc]
        · rw [cZ.I 88 j rfl, b3.I 88 j rfl, a4.2.1 j hj, r2.I 88 j rfl]
        · rw [gI_sI, if_neg (by omega), gI_sI, if_neg (by omega), b3.I 85 j rfl, a4.1.I 85 j rfl, r2.I 85 j rfl]
        · rw [cZ.I 86 j rfl, b3.I 86 j rfl, a4.1.I 86 j rfl, hY, gI_sI, if_neg (by omega), gI_sI, if_neg (by omega), gI_sI, if_neg (by omega)]
        · rw [gI_sI, if_neg (by omega), gI_sI, if_neg (by omega), b3.I 87 j rfl, a4.1.I 87 j rfl, r2.I 87 j rfl]
    · have g59' := Bool.eq_false_iff.mpr g59
      obtain ⟨M4, h1, h2, h3⟩ := (c_takeSign (a := 59) kY (by decide)).2 g59'
      have h1' : f_re_takeSign (nI 59) Y1 = some (false, M4) := h1
      rw [h1', Option.bind_some]
      refine Or.inr ⟨1 + 16 * p2, M4, by omega, by omega, rfl, h2, cXY.trans (h3.x (by decide)), fun Mr hr => ?_⟩
      obtain ⟨Y, hY, r1, r2, r3, r4⟩ := rin Mr hr
      obtain ⟨Ma, a1, a2, a3, a4, a5, a6⟩ := y9 q Y r1 hq r4
      have st : stE T n 0 p2 Ma := ⟨f3.1 (by decide), (f3.2.1 (by decide)).1, (f3.2.1 (by decide)).2, f3.2.2 rfl, fun z => a6 (by decide) z⟩
      obtain ⟨w1, w2, w3⟩ := m_fails (k := 1) a2
      have e1 : mE (nI 0, nI 1, Y) = some (f_mo_fails (nI 1) Ma) := mE_comes (y := f_mo_fails (nI 1) Ma) a1 (m_bad (d := 0) a2 (by decide) st (Or.inr ⟨rfl, g59'⟩))
      refine ⟨(f_mo_fails (nI 1) Ma).2, ?_, w2, (r2.mono (by decide)).trans ((a4.1.mono (by decide)).trans ((w3 q 0).1.mono (by decide))), fun j hj => ?_⟩
      · rw [r3, e1, Option.bind_some, if_neg (show ¬ (f_mo_fails (nI 1) Ma).1 = true from Bool.false_ne_true)]
      · rw [(w3 q 0).2.1 j hj, a4.2.1 j hj, r2.I 88 j rfl]
  · rw [f1, Option.bind_some, if_neg Bool.false_ne_true]
    refine Or.inr ⟨x, M3, x0, x1, rfl, f2, c0x.trans (f3.x (by decide)), fun Mr hr => ?_⟩
    obtain ⟨Y, hY, r1, r2, r3, r4⟩ := rin Mr hr
    obtain ⟨Ma, a1, a2, a3⟩ := f4 q Y r1 hq r4
    refine ⟨Ma, ?_, a2, (r2.mono (by decide)).trans (a3.1.mono (by decide)), fun j hj => ?_⟩
    · rw [r3, a1, Option.bind_some, if_neg Bool.false_ne_true]
    · rw [a3.2.1 j hj, r2.I 88 j rfl]
