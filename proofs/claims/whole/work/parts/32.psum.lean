/-! a sum -/
theorem sum_41 {T : Nat → Nat} {n e d t p' s o : Nat} {rec : Int32 → dM → Option (Bool × dM)} {M1 : dM} (k1 : pcs T n e s p' M1) (ht : t < 1000) (ho : (o = 0 ∧ isS T n p' 43 = true) ∨ (o = 1 ∧ isS T n p' 45 = true)) : b_re_sum_12_12 rec (nI d) (nI t) M1 = (f_re_advance M1).bind fun q5 => (f_re_product rec (nI d) q5).bind fun q7 => if q7.1 = true then (f_la_addStep (nI (20005 + o)) q7.2).bind fun q9 => some (.inl (nI (t + 1), q9)) else some (.inr (false, q7.2)) := by
  have i43 : f_re_isSign 43 M1 = some (isS T n p' 43) := c_isSign k1.1 k1.2.1 (a := 43) (by decide)
  have i45 : f_re_isSign 45 M1 = some (isS T n p' 45) := c_isSign k1.1 k1.2.1 (a := 45) (by decide)
  have et : nI t + 1 = nI (t + 1) := z_add t 1
  unfold b_re_sum_12_12 b_re_sum_12_41 b_re_sum_12_72
  rw [if_neg (show ¬ (1000 : Int32) ≤ nI t from z_nle (a := 1000) (by omega) (by omega) (by omega)), i43, Option.bind_some, et]
  rcases ho with ⟨rfl, g⟩ | ⟨rfl, g⟩
  · rw [g, if_pos rfl]
    simp only [show (bI true = 0) = False from eq_false (by decide), if_false]
    rfl
  · rw [isS_ne (b := 43) g (by decide), if_neg Bool.false_ne_true, i45, Option.bind_some, g, if_pos rfl]
    simp only [show (bI false = 0) = True from eq_true rfl, if_true]
    rfl
theorem tie_sum {T : Nat → Nat} {n e d : Nat} {rec : Int32 → dM → Option (Bool × dM)} (hrec : ∀ p s M, pcs T n e s p M → s ≤ p → tie T n e 4 d p s M (rec (nI d) M)) {p s : Nat} {M : dM} (hM : pcs T n e s p M) (hs : s ≤ p) : tie T n e 2 d p s M (f_re_sum rec (nI d) M) := by
  have hn : n ≤ 1000 := hM.1.1
  have out : ∀ p' t c r D M1, acc T n e 2 d p s M p' c r D M1 → isS T n p' 42 = false → isS T n p' 43 = false → isS T n p' 45 = false → tie T n e 2 d p s M (l_re_sum_12 rec (nI d) (nI t) M1) := by
    intro p' t c r D M1 a k42 k43 k45
    have k1 := a.2.2.2.2.2.1
    have i43 : f_re_isSign 43 M1 = some (isS T n p' 43) := c_isSign k1.1 k1.2.1 (a := 43) (by decide)
    have i45 : f_re_isSign 45 M1 = some (isS T n p' 45) := c_isSign k1.1 k1.2.1 (a := 45) (by decide)
    refine Or.inl ⟨p', c, r, D, M1, ?_, a, fun _ => k42, fun _ => ⟨k43, k45⟩, fun z => by omega⟩
    unfold l_re_sum_12
    refine lpc_out ?_
    show b_re_sum_12_12 rec (nI d) (nI t) M1 = _
    unfold b_re_sum_12_12
    rw [i43, Option.bind_some, k43, if_neg Bool.false_ne_true, i45, Option.bind_some, k45, if_neg Bool.false_ne_true]
    split <;> rfl
  have loop : ∀ m p' t c r D M1, n - p' ≤ m → t ≤ p' → isS T n p' 42 = false → acc T n e 2 d p s M p' c r D M1 → tie T n e 2 d p s M (l_re_sum_12 rec (nI d) (nI t) M1) := by
    intro m
    induction m with
    | zero =>
      intro p' t c r D M1 hm ht k42 a
      have hpn : p' = n := by have := a.2.2.1; omega
      have k0 : kd T n p' ≠ 3 := by rw [kd_en (by omega)]; decide
      exact out p' t c r D M1 a k42 (isS_no k0) (isS_no k0)
    | succ m ih =>
      intro p' t c r D M1 hm ht k42 a
      have k1 := a.2.2.2.2.2.1
      have step : ∀ o, o < 2 → ((o = 0 ∧ isS T n p' 43 = true) ∨ (o = 1 ∧ isS T n p' 45 = true)) → tie T n e 2 d p s M (l_re_sum_12 rec (nI d) (nI t) M1) := by
        intro o ho2 ho
        have hp' : p' < n := by rcases ho with ⟨_, g⟩ | ⟨_, g⟩ <;> exact isS_lt g
        have hz : (isS T n p' 43 = true ∧ 20 + o = 20) ∨ (isS T n p' 45 = true ∧ 20 + o = 21) ∨ (isS T n p' 42 = true ∧ 20 + o = 22) := by
          rcases ho with ⟨g1, g2⟩ | ⟨g1, g2⟩
          · exact Or.inl ⟨g2, by omega⟩
          · exact Or.inr (Or.inl ⟨g2, by omega⟩)
        have hnp := np_gt (T := T) hp'
        obtain ⟨M2, e1, e2, e3⟩ := c_adv k1
        have hl := a.2.2.2.2.1
        have e41 := sum_41 (rec := rec) (d := d) (t := t) k1 (by omega) ho
        rcases tie_product hrec (p := np T n p') (s := s + r.length) e2 (by have := a.2.1; omega) with ⟨p3, c', r', D', M3, f1, f2, f3⟩ | ⟨x, M3, x0, x1, f1, f2, f3, f4⟩
        · have hl' := f2.2.2.2.2.1
          have hp3 := f2.2.2.1
          have hp3' := f2.2.1
          obtain ⟨M4, g1, g2, g3, g4, g5⟩ := c_add (v := 20005 + o) f2.2.2.2.2.2.1 (by have := a.2.1; omega)
          have hb : (fun s_1 : Int32 × dM => b_re_sum_12_12 rec (nI d) s_1.1 s_1.2) (nI t, M1) = some (.inl (nI (t + 1), M4)) := by
            show b_re_sum_12_12 rec (nI d) (nI t) M1 = _
            rw [e41, e1, Option.bind_some, f1, Option.bind_some, if_pos rfl, g1, Option.bind_some]
          have hR : rOK T n e 2 d p p3 (c ++ (20 + o) :: c') := bin_ok (fun M M2 => gI M2 90 d = gI M 90 d) a.2.2.2.2.2.2.2.2.2 f2.2.2.2.2.2.2.2.2.2 a.2.1 hp' hn a.2.2.2.1 (by decide) (Nat.le_refl _) (z43 hz (by decide) c) (fun _ _ _ z => by omega) (fun M M2 M3 z z1 _ => ⟨fun _ => (z1 (by decide)).trans z, fun z2 => by omega⟩)
          have := ih p3 (t + 1) _ _ _ M4 (by omega) (by omega) (f3.1 (by decide)) (acc_bin a hp' e3 f2 g2 g3 g4 g5 (G_sum ho2 a.1 f2.1) hR)
          unfold l_re_sum_12 at this ⊢
          rcases this with ⟨q1, q2, q3, q4, q5, q6, q7⟩ | ⟨q1, q2, y0, y1, q3, q4⟩
          · exact Or.inl ⟨q1, q2, q3, q4, q5, lpc_step hb q6, q7⟩
          · exact Or.inr ⟨q1, q2, y0, y1, lpc_step hb q3, q4⟩
        · refine Or.inr ⟨x, M3, x0, x1, ?_, f2, ((a.2.2.2.2.2.2.2.1.trans (e3.mono (by decide))).mono (by decide)).trans f3, bin_bad (fun M M2 => gI M2 90 d = gI M 90 d) a.2.2.2.2.2.2.2.2.2 f4 a.2.1 hp' hn a.2.2.2.1 (by decide) (Nat.le_refl _) (z43 hz (by decide) c) (fun _ _ _ z => by omega)⟩
          unfold l_re_sum_12
          refine lpc_out ?_
          show b_re_sum_12_12 rec (nI d) (nI t) M1 = _
          rw [e41, e1, Option.bind_some, f1, Option.bind_some, if_neg Bool.false_ne_true]
      by_cases g : isS T n p' 43 = true
      · exact step 0 (by decide) (Or.inl ⟨rfl, g⟩)
      · by_cases g2 : isS T n p' 45 = true
        · exact step 1 (by decide) (Or.inr ⟨rfl, g2⟩)
        · exact out p' t c r D M1 a k42 (Bool.eq_false_iff.mpr g) (Bool.eq_false_iff.mpr g2)
  unfold f_re_sum
  rcases tie_product hrec hM hs with ⟨p', c, r, D, M1, f1, f2, f3⟩ | ⟨x, M3, x0, x1, f1, f2, f3, f4⟩
  · rw [f1, Option.bind_some, if_pos rfl]
    have := loop (n - p') p' 0 c r D M1 (Nat.le_refl _) (Nat.zero_le _) (f3.1 (by decide)) (acc_up f2 (by decide) (fun z => by omega) G_32)
    have e0 : l_re_sum_12 rec (nI d) 0 M1 = l_re_sum_12 rec (nI d) (nI 0) M1 := rfl
    rw [e0]
    generalize l_re_sum_12 rec (nI d) (nI 0) M1 = o at this
    cases o <;> exact this
  · rw [f1, Option.bind_some, if_neg Bool.false_ne_true]
    exact Or.inr ⟨x, M3, x0, x1, rfl, f2, f3, rBad_up f4 (by decide)⟩
/-! a test -/
theorem z60 {T : Nat → Nat} {n e d p' v : Nat} (hd : d < 7) (hv : (isS T n p' 60 = true ∧ v = 24) ∨ (isS T n p' 61 = true ∧ v = 25)) (c : List Nat) : ∀ q M M1, rst T n e (q + c.length) p' M1 → q + c.length < 1000 → rPre 1 d M → (2 ≤ 2 → gI M1 90 d = gI M 90 d) → ∃ M2, bR (nI d, nI 0, M1) = some (.inl (nI d, nI 1, M2)) ∧ rst T n e (q + c.length + 1) (np T n p') M2 ∧ hold M2 88 (1000 + (q + c.length)) [v] ∧ rfr (q + c.length) d M1 M2 ∧ gI M2 90 d = nI 1 := fun q M M1 r1 hq r3 h90 => m_op1 r1 hq hd ((h90 (by decide)).trans (r3.2 (by decide))) hv
theorem tie_test {T : Nat → Nat} {n e d : Nat} (hd : d < 7) {rec : Int32 → dM → Option (Bool × dM)} (hrec : ∀ p s M, pcs T n e s p M → s ≤ p → tie T n e 4 d p s M (rec (nI d) M)) {p s : Nat} {M : dM} (hM : pcs T n e s p M) (hs : s ≤ p) : tie T n e 1 d p s M (f_re_comparison rec (nI d) M) := by
  have hn : n ≤ 1000 := hM.1.1
  unfold f_re_comparison
  rcases tie_sum hrec hM hs with ⟨p', c, r, D, M1, f1, a, f3⟩ | ⟨x, M3, x0, x1, f1, f2, f3, f4⟩
  · have k1 := a.2.2.2.2.2.1
    have i60 : f_re_isSign 60 M1 = some (isS T n p' 60) := c_isSign k1.1 k1.2.1 (a := 60) (by decide)
    have i61 : f_re_isSign 61 M1 = some (isS T n p' 61) := c_isSign k1.1 k1.2.1 (a := 61) (by decide)
    rw [f1, Option.bind_some, if_pos rfl, i60, Option.bind_some]
    have step : ∀ o b, o < 2 → ((o = 0 ∧ isS T n p' 60 = true ∧ b = true) ∨ (o = 1 ∧ isS T n p' 61 = true ∧ b = false)) → tie T n e 1 d p s M (t_re_comparison_32 rec (nI d) (bI b) M1) := by
      intro o b ho2 ho
      have hp' : p' < n := by rcases ho with ⟨_, g, _⟩ | ⟨_, g, _⟩ <;> exact isS_lt g
      have hz : (isS T n p' 60 = true ∧ 24 + o = 24) ∨ (isS T n p' 61 = true ∧ 24 + o = 25) := by
        rcases ho with ⟨g1, g2, _⟩ | ⟨g1, g2, _⟩
        · exact Or.inl ⟨g2, by omega⟩
        · exact Or.inr ⟨g2, by omega⟩
      have hnp := np_gt (T := T) hp'
      obtain ⟨M2, e1, e2, e3⟩ := c_adv k1
      have hl := a.2.2.2.2.1
      unfold t_re_comparison_32 t_re_comparison_63
      rw [e1, Option.bind_some]
      rcases tie_sum hrec (p := np T n p') (s := s + r.length) e2 (by have := a.2.1; omega) with ⟨p3, c', r', D', M3, g1, f2, g3⟩ | ⟨x, M3, x0, x1, g1, f2, g3, g4⟩
      · have hl' := f2.2.2.2.2.1
        have hp3 := f2.2.2.1
        have hp3' := f2.2.1
        obtain ⟨M4, h1, h2, h3, h4, h5⟩ := c_add (v := 20003 + o) f2.2.2.2.2.2.1 (by have := a.2.1; omega)
        rw [g1, Option.bind_some, if_pos rfl]
        have hb : (if bI b = 0 then (f_la_addStep 20004 M3).bind fun q9 => some (true, q9) else (f_la_addStep 20003 M3).bind fun q9 => some (true, q9)) = some (true, M4) := by
          rcases ho with ⟨g1, _, rfl⟩ | ⟨g1, _, rfl⟩
          · have h1' : f_la_addStep 20003 M3 = some M4 := by rw [g1] at h1; exact h1
            rw [if_neg (by decide), h1']
            rfl
          · have h1' : f_la_addStep 20004 M3 = some M4 := by rw [g1] at h1; exact h1
            rw [if_pos (show bI false = 0 from rfl), h1']
            rfl
        have hR : rOK T n e 1 d p p3 (c ++ (24 + o) :: c') := bin_ok (cat1 := 2) (fun _ M2 => gI M2 90 d = nI 1) a.2.2.2.2.2.2.2.2.2 f2.2.2.2.2.2.2.2.2.2 a.2.1 hp' hn a.2.2.2.1 (by decide) (by decide) (z60 hd hz c) (fun _ _ _ z => by omega) (fun M M2 M3 z z1 _ => ⟨fun z2 => by omega, fun _ _ => (z1 (by decide)).trans z⟩)
        have st := g3.2.1 (by decide)
        exact Or.inl ⟨p3, _, _, _, M4, hb, acc_bin a hp' e3 f2 h2 h3 h4 h5 (G_tst ho2 a.1 f2.1) hR, fun _ => g3.1 (by decide), fun _ => st, fun z => by omega⟩
      · rw [g1, Option.bind_some, if_neg Bool.false_ne_true]
        exact Or.inr ⟨x, M3, x0, x1, rfl, f2, ((a.2.2.2.2.2.2.2.1.trans (e3.mono (by decide))).mono (by decide)).trans g3, bin_bad (cat1 := 2) (fun _ M2 => gI M2 90 d = nI 1) a.2.2.2.2.2.2.2.2.2 g4 a.2.1 hp' hn a.2.2.2.1 (by decide) (by decide) (z60 hd hz c) (fun _ _ _ z => by omega)⟩
    by_cases g : isS T n p' 60 = true
    · rw [if_pos g, g]
      exact step 0 true (by decide) (Or.inl ⟨rfl, g, rfl⟩)
    · rw [if_neg g, i61, Option.bind_some, Bool.eq_false_iff.mpr g]
      by_cases g2 : isS T n p' 61 = true
      · rw [if_pos g2]
        exact step 1 false (by decide) (Or.inr ⟨rfl, g2, rfl⟩)
      · rw [if_neg g2]
        have h6 : is6 T n p' = false := by unfold is6; rw [Bool.eq_false_iff.mpr g, Bool.eq_false_iff.mpr g2]; rfl
        exact Or.inl ⟨p', c, r, D, M1, rfl, acc_up a (by decide) (fun _ _ => h6) G_21, fun _ => f3.1 (by decide), fun _ => f3.2.1 (by decide), fun z => by omega⟩
  · rw [f1, Option.bind_some, if_neg Bool.false_ne_true]
    exact Or.inr ⟨x, M3, x0, x1, rfl, f2, f3, rBad_up f4 (by decide)⟩
/-! a whole E -/
theorem z26 {T : Nat → Nat} {n e d p' v : Nat} (hd : d < 7) (hv : (wIx T n p' 5 = nI 0 ∧ v = 26) ∨ (wIx T n p' 5 = nI 1 ∧ v = 27)) (c : List Nat) : ∀ q M M1, rst T n e (q + c.length) p' M1 → q + c.length < 1000 → rPre 0 d M → (2 ≤ 0 → gI M1 90 d = gI M 90 d) → ∃ M2, bR (nI d, nI 0, M1) = some (.inl (nI d, nI 1, M2)) ∧ rst T n e (q + c.length + 1) (np T n p') M2 ∧ hold M2 88 (1000 + (q + c.length)) [v] ∧ rfr (q + c.length) d M1 M2 ∧ gI M2 90 d = nI 0 := fun q M M1 r1 hq _ _ => m_op0 r1 hq hd hv
theorem expr_64 {T : Nat → Nat} {n e d t p' s o : Nat} {rec : Int32 → dM → Option (Bool × dM)} {M1 : dM} (k1 : pcs T n e s p' M1) (ht : t < 1000) (ho : o < 2) (hw : wIx T n p' 5 = nI o) : b_re_expression_12_12 rec (nI d) (nI t) M1 = (f_re_advance M1).bind fun q5 => (f_re_comparison rec (nI d) q5).bind fun q7 => if q7.1 = true then (f_la_addStep (nI (20001 + o)) q7.2).bind fun q9 => some (.inl (nI (t + 1), q9)) else some (.inr (false, q7.2)) := by
  have et : nI t + 1 = nI (t + 1) := z_add t 1
  unfold b_re_expression_12_12 b_re_expression_12_64
  rw [if_neg (show ¬ (1000 : Int32) ≤ nI t from z_nle (a := 1000) (by omega) (by omega) (by omega)), c_wordIn k1.1 k1.2.1 (by decide), Option.bind_some, hw, if_neg (f_m1 o (by omega)), et]
  match o, ho with
  | 0, _ =>
    simp only [show (nI 0 = (0 : Int32)) = True from eq_true rfl, if_true]
    rfl
  | 1, _ =>
    simp only [show (nI 1 = (0 : Int32)) = False from eq_false (by decide), if_false]
    rfl
theorem tie_expr {T : Nat → Nat} {n e d : Nat} (hd : d < 7) {rec : Int32 → dM → Option (Bool × dM)} (hrec : ∀ p s M, pcs T n e s p M → s ≤ p → tie T n e 4 d p s M (rec (nI d) M)) {p s : Nat} {M : dM} (hM : pcs T n e s p M) (hs : s ≤ p) : tie T n e 0 d p s M (f_re_expression rec (nI d) M) := by
  have hn : n ≤ 1000 := hM.1.1
  have out : ∀ p' t c r D M1, acc T n e 0 d p s M p' c r D M1 → stp T n 1 p' → wIx T n p' 5 = -1 → tie T n e 0 d p s M (l_re_expression_12 rec (nI d) (nI t) M1) := by
    intro p' t c r D M1 a k k5
    have k1 := a.2.2.2.2.2.1
    refine Or.inl ⟨p', c, r, D, M1, ?_, a, fun _ => k.1 (by decide), fun _ => k.2.1 (by decide), fun _ => k5⟩
    unfold l_re_expression_12
    refine lpc_out ?_
    show b_re_expression_12_12 rec (nI d) (nI t) M1 = _
    unfold b_re_expression_12_12
    rw [c_wordIn k1.1 k1.2.1 (by decide), Option.bind_some, k5, if_pos rfl]
    split <;> rfl
  have loop : ∀ m p' t c r D M1, n - p' ≤ m → t ≤ p' → stp T n 1 p' → acc T n e 0 d p s M p' c r D M1 → tie T n e 0 d p s M (l_re_expression_12 rec (nI d) (nI t) M1) := by
    intro m
    induction m with
    | zero =>
      intro p' t c r D M1 hm ht k a
      have hpn : p' = n := by have := a.2.2.1; omega
      have k0 : kd T n p' ≠ 1 := by rw [kd_en (by omega)]; decide
      exact out p' t c r D M1 a k (wIx_no k0)
    | succ m ih =>
      intro p' t c r D M1 hm ht k a
      have k1 := a.2.2.2.2.2.1
      have step : ∀ o, o < 2 → wIx T n p' 5 = nI o → tie T n e 0 d p s M (l_re_expression_12 rec (nI d) (nI t) M1) := by
        intro o ho2 ho
        have hp' : p' < n := by
          by_cases z : p' < n
          · exact z
          · have k0 : kd T n p' ≠ 1 := by rw [kd_en z]; decide
            exact absurd (ho.symm.trans (wIx_no k0)) (f_m1 o (by omega))
        have hz : (wIx T n p' 5 = nI 0 ∧ 26 + o = 26) ∨ (wIx T n p' 5 = nI 1 ∧ 26 + o = 27) := by
          match o, ho2, ho with
          | 0, _, ho => exact Or.inl ⟨ho, rfl⟩
          | 1, _, ho => exact Or.inr ⟨ho, rfl⟩
        have hnp := np_gt (T := T) hp'
        obtain ⟨M2, e1, e2, e3⟩ := c_adv k1
        have hl := a.2.2.2.2.1
        have e64 := expr_64 (rec := rec) (d := d) (t := t) k1 (by omega) ho2 ho
        rcases tie_test hd hrec (p := np T n p') (s := s + r.length) e2 (by have := a.2.1; omega) with ⟨p3, c', r', D', M3, f1, f2, f3⟩ | ⟨x, M3, x0, x1, f1, f2, f3, f4⟩
        · have hl' := f2.2.2.2.2.1
          have hp3 := f2.2.2.1
          have hp3' := f2.2.1
          obtain ⟨M4, g1, g2, g3, g4, g5⟩ := c_add (v := 20001 + o) f2.2.2.2.2.2.1 (by have := a.2.1; omega)
          have hb : (fun s_1 : Int32 × dM => b_re_expression_12_12 rec (nI d) s_1.1 s_1.2) (nI t, M1) = some (.inl (nI (t + 1), M4)) := by
            show b_re_expression_12_12 rec (nI d) (nI t) M1 = _
            rw [e64, e1, Option.bind_some, f1, Option.bind_some, if_pos rfl, g1, Option.bind_some]
          have hR : rOK T n e 0 d p p3 (c ++ (26 + o) :: c') := bin_ok (cat1 := 0) (fun _ M2 => gI M2 90 d = nI 0) a.2.2.2.2.2.2.2.2.2 f2.2.2.2.2.2.2.2.2.2 a.2.1 hp' hn a.2.2.2.1 (by decide) (Nat.le_refl _) (z26 hd hz c) (fun _ _ z _ => z) (fun M M2 M3 z _ z1 => ⟨fun z2 => by omega, fun _ => z1 (by decide)⟩)
          have := ih p3 (t + 1) _ _ _ M4 (by omega) (by omega) f3 (acc_bin a hp' e3 f2 g2 g3 g4 g5 (G_log ho2 a.1 f2.1) hR)
          unfold l_re_expression_12 at this ⊢
          rcases this with ⟨q1, q2, q3, q4, q5, q6, q7⟩ | ⟨q1, q2, y0, y1, q3, q4⟩
          · exact Or.inl ⟨q1, q2, q3, q4, q5, lpc_step hb q6, q7⟩
          · exact Or.inr ⟨q1, q2, y0, y1, lpc_step hb q3, q4⟩
        · refine Or.inr ⟨x, M3, x0, x1, ?_, f2, ((a.2.2.2.2.2.2.2.1.trans (e3.mono (by decide))).mono (by decide)).trans f3, bin_bad (cat1 := 0) (fun _ M2 => gI M2 90 d = nI 0) a.2.2.2.2.2.2.2.2.2 f4 a.2.1 hp' hn a.2.2.2.1 (by decide) (Nat.le_refl _) (z26 hd hz c) (fun _ _ z _ => z)⟩
          unfold l_re_expression_12
          refine lpc_out ?_
          show b_re_expression_12_12 rec (nI d) (nI t) M1 = _
          rw [e64, e1, Option.bind_some, f1, Option.bind_some, if_neg Bool.false_ne_true]
      rcases wIx_5 (T := T) (n := n) (p := p') with ⟨g, _⟩ | ⟨g, _⟩ | ⟨g, _⟩
      · exact step 0 (by decide) g
      · exact step 1 (by decide) g
      · exact out p' t c r D M1 a k g
  unfold f_re_expression
  rcases tie_test hd hrec hM hs with ⟨p', c, r, D, M1, f1, f2, f3⟩ | ⟨x, M3, x0, x1, f1, f2, f3, f4⟩
  · rw [f1, Option.bind_some, if_pos rfl]
    have := loop (n - p') p' 0 c r D M1 (Nat.le_refl _) (Nat.zero_le _) f3 (acc_up f2 (by decide) (fun _ z => by omega) G_10)
    have e0 : l_re_expression_12 rec (nI d) 0 M1 = l_re_expression_12 rec (nI d) (nI 0) M1 := rfl
    rw [e0]
    generalize l_re_expression_12 rec (nI d) (nI 0) M1 = o at this
    cases o <;> exact this
  · rw [f1, Option.bind_some, if_neg Bool.false_ne_true]
    exact Or.inr ⟨x, M3, x0, x1, rfl, f2, f3, rBad_up f4 (by decide)⟩
