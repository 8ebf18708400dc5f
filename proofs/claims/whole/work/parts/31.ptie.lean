/-! ===== reading an E: both sides tied ===== -/
def rPre (cat d : Nat) (M : dM) : Prop := (cat < 4 → pq M d = d) ∧ (cat < 2 → gI M 90 d = nI 0)
def is6 (T : Nat → Nat) (n p : Nat) : Bool := isS T n p 60 || isS T n p 61
def rOK (T : Nat → Nat) (n e cat d p p2 : Nat) (c : List Nat) : Prop :=
  ∀ q M, rst T n e q p M → q ≤ p → rPre cat d M → ∃ M', comes bR (nI d, nI 1, M) (nI (pq M d), nI 0, M') ∧ rst T n e (q + c.length) p2 M' ∧ hold M' 88 (1000 + q) c ∧ rfr q d M M' ∧ (2 ≤ cat → gI M' 90 d = gI M 90 d) ∧ (cat < 2 → is6 T n p2 = true → gI M' 90 d = nI 1)
def rBad (T : Nat → Nat) (n e cat d p x : Nat) : Prop :=
  ∀ q M, rst T n e q p M → q ≤ p → rPre cat d M → ∃ M', mE (nI d, nI 1, M) = some (false, M') ∧ gI M' 66 25 = nI x ∧ rfr q 0 M M'
def kPo : List Nat := [4203, 4204, 4205, 4206, 35, 4401]
def acc (T : Nat → Nat) (n e cat d p s : Nat) (M : dM) (p' : Nat) (c r : List Nat) (D : gD) (M1 : dM) : Prop :=
  G (eK e) cat d c r D ∧ p < p' ∧ p' ≤ n ∧ c.length ≤ p' - p ∧ r.length ≤ p' - p ∧ pcs T n e (s + r.length) p' M1 ∧ hold M1 35 s r ∧ chS kPo M M1 ∧ (∀ j, j < s → gI M1 35 j = gI M 35 j) ∧ rOK T n e cat d p p' c
def stp (T : Nat → Nat) (n cat p : Nat) : Prop := (cat ≤ 3 → isS T n p 42 = false) ∧ (cat ≤ 2 → isS T n p 43 = false ∧ isS T n p 45 = false) ∧ (cat = 0 → wIx T n p 5 = -1)
def tie (T : Nat → Nat) (n e cat d p s : Nat) (M : dM) (o : Option (Bool × dM)) : Prop :=
  (∃ p' c r D M1, o = some (true, M1) ∧ acc T n e cat d p s M p' c r D M1 ∧ stp T n cat p') ∨ ∃ x M1, 0 < x ∧ x < 100000 ∧ o = some (false, M1) ∧ gI M1 32 7 = nI x ∧ chS kP M M1 ∧ rBad T n e cat d p x
theorem rPre_up {cat cat' d : Nat} {M : dM} (h : rPre cat' d M) (hc : cat' ≤ cat) : rPre cat d M := ⟨fun z => h.1 (by omega), fun z => h.2 (by omega)⟩
theorem rBad_up {T : Nat → Nat} {n e cat cat' d p x : Nat} (h : rBad T n e cat d p x) (hc : cat' ≤ cat) : rBad T n e cat' d p x := fun q M h1 h2 h3 => h q M h1 h2 (rPre_up h3 hc)
theorem rOK_up {T : Nat → Nat} {n e cat cat' d p p2 : Nat} {c : List Nat} (h : rOK T n e cat d p p2 c) (hc : cat' ≤ cat) (h6 : cat' < 2 → 2 ≤ cat → is6 T n p2 = false) : rOK T n e cat' d p p2 c := fun q M h1 h2 h3 => by
  obtain ⟨M', a1, a2, a3, a4, a5, a6⟩ := h q M h1 h2 (rPre_up h3 hc)
  refine ⟨M', a1, a2, a3, a4, fun z => a5 (by omega), fun z1 z2 => ?_⟩
  by_cases h2c : cat < 2
  · exact a6 h2c z2
  · rw [h6 z1 (by omega)] at z2
    cases z2
theorem acc_up {T : Nat → Nat} {n e cat cat' d p s p' : Nat} {M M1 : dM} {c r : List Nat} {D : gD} (h : acc T n e cat d p s M p' c r D M1) (hc : cat' ≤ cat) (h6 : cat' < 2 → 2 ≤ cat → is6 T n p' = false) (hG : G (eK e) cat d c r D → G (eK e) cat' d c r D) : acc T n e cat' d p s M p' c r D M1 := by
  obtain ⟨a0, a1, a2, a3, a4, a5, a6, a7, a8, a9⟩ := h
  exact ⟨hG a0, a1, a2, a3, a4, a5, a6, a7, a8, rOK_up a9 hc h6⟩
/-- up to the second operand -/
theorem bin_go {T : Nat → Nat} {n e cat cat1 d p p' v : Nat} {c : List Nat} (Z : dM → dM → Prop) (h1 : rOK T n e cat1 d p p' c) (hp1 : p < p') (hp' : p' < n) (hn : n ≤ 1000) (hc : c.length ≤ p' - p) (g0 : cat < 4) (g1 : cat ≤ cat1)
    (hop : ∀ q M M1, rst T n e (q + c.length) p' M1 → q + c.length < 1000 → rPre cat d M → (2 ≤ cat1 → gI M1 90 d = gI M 90 d) → ∃ M2, bR (nI d, nI 0, M1) = some (.inl (nI d, nI 1, M2)) ∧ rst T n e (q + c.length + 1) (np T n p') M2 ∧ hold M2 88 (1000 + (q + c.length)) [v] ∧ rfr (q + c.length) d M1 M2 ∧ Z M M2)
    {q : Nat} {M : dM} (r1 : rst T n e q p M) (r2 : q ≤ p) (r3 : rPre cat d M) : ∃ M2, comes bR (nI d, nI 1, M) (nI d, nI 1, M2) ∧ rst T n e (q + c.length + 1) (np T n p') M2 ∧ hold M2 88 (1000 + q) (c ++ [v]) ∧ rfr q d M M2 ∧ Z M M2 ∧ pq M2 d = d := by
  obtain ⟨M1, a1, a2, a3, a4, a5, a6⟩ := h1 q M r1 r2 (rPre_up r3 g1)
  have hpq := r3.1 g0
  rw [hpq] at a1
  obtain ⟨M2, b1, b2, b3, b4, b5⟩ := hop q M M1 a2 (by omega) r3 a5
  refine ⟨M2, a1.trans (comes.step b1), b2, ?_, a4.trans b4 (by omega), b5, ?_⟩
  · rw [hold_app]
    refine ⟨fun j w hj => ?_, by rw [Nat.add_assoc]; exact b3⟩
    have hj' := (List.getElem?_eq_some_iff.mp hj).1
    rw [b4.2.1 _ (by omega)]
    exact a3 j w hj
  · rw [pq_congr d (fun j hj => (a4.trans b4 (by omega)).2.2.1 j hj)]
    exact hpq
theorem bin_ok {T : Nat → Nat} {n e cat cat1 cat2 d p p' p3 v : Nat} {c c' : List Nat} (Z : dM → dM → Prop) (h1 : rOK T n e cat1 d p p' c) (h2 : rOK T n e cat2 d (np T n p') p3 c') (hp1 : p < p') (hp' : p' < n) (hn : n ≤ 1000) (hc : c.length ≤ p' - p) (g0 : cat < 4) (g1 : cat ≤ cat1)
    (hop : ∀ q M M1, rst T n e (q + c.length) p' M1 → q + c.length < 1000 → rPre cat d M → (2 ≤ cat1 → gI M1 90 d = gI M 90 d) → ∃ M2, bR (nI d, nI 0, M1) = some (.inl (nI d, nI 1, M2)) ∧ rst T n e (q + c.length + 1) (np T n p') M2 ∧ hold M2 88 (1000 + (q + c.length)) [v] ∧ rfr (q + c.length) d M1 M2 ∧ Z M M2)
    (g2 : ∀ M M2, Z M M2 → cat2 < 2 → gI M2 90 d = nI 0)
    (g3 : ∀ M M2 M3, Z M M2 → (2 ≤ cat2 → gI M3 90 d = gI M2 90 d) → (cat2 < 2 → is6 T n p3 = true → gI M3 90 d = nI 1) → (2 ≤ cat → gI M3 90 d = gI M 90 d) ∧ (cat < 2 → is6 T n p3 = true → gI M3 90 d = nI 1)) : rOK T n e cat d p p3 (c ++ v :: c') := fun q M r1 r2 r3 => by
  obtain ⟨M2, a1, a2, a3, a4, a5, a6⟩ := bin_go Z h1 hp1 hp' hn hc g0 g1 hop r1 r2 r3
  have hnp := np_gt (T := T) hp'
  obtain ⟨M3, b1, b2, b3, b4, b5, b6⟩ := h2 (q + c.length + 1) M2 a2 (by omega) ⟨fun _ => a6, g2 M M2 a5⟩
  have hpq := r3.1 g0
  rw [hpq]
  rw [a6] at b1
  obtain ⟨z1, z2⟩ := g3 M M2 M3 a5 b5 b6
  refine ⟨M3, a1.trans b1, ?_, ?_, a4.trans b4 (by omega), z1, z2⟩
  · rw [show q + (c ++ v :: c').length = q + c.length + 1 + c'.length by simp only [List.length_append, List.length_cons]; omega]
    exact b2
  · rw [show c ++ v :: c' = (c ++ [v]) ++ c' by simp, hold_app]
    refine ⟨fun j w hj => ?_, ?_⟩
    · have hj' := (List.getElem?_eq_some_iff.mp hj).1
      rw [List.length_append, List.length_cons, List.length_nil] at hj'
      rw [b4.2.1 _ (by omega)]
      exact a3 j w hj
    · rw [show 1000 + q + (c ++ [v]).length = 1000 + (q + c.length + 1) by simp only [List.length_append, List.length_cons, List.length_nil]; omega]
      exact b3
theorem bin_bad {T : Nat → Nat} {n e cat cat1 cat2 d p p' x v : Nat} {c : List Nat} (Z : dM → dM → Prop) (h1 : rOK T n e cat1 d p p' c) (h2 : rBad T n e cat2 d (np T n p') x) (hp1 : p < p') (hp' : p' < n) (hn : n ≤ 1000) (hc : c.length ≤ p' - p) (g0 : cat < 4) (g1 : cat ≤ cat1)
    (hop : ∀ q M M1, rst T n e (q + c.length) p' M1 → q + c.length < 1000 → rPre cat d M → (2 ≤ cat1 → gI M1 90 d = gI M 90 d) → ∃ M2, bR (nI d, nI 0, M1) = some (.inl (nI d, nI 1, M2)) ∧ rst T n e (q + c.length + 1) (np T n p') M2 ∧ hold M2 88 (1000 + (q + c.length)) [v] ∧ rfr (q + c.length) d M1 M2 ∧ Z M M2)
    (g2 : ∀ M M2, Z M M2 → cat2 < 2 → gI M2 90 d = nI 0) : rBad T n e cat d p x := fun q M r1 r2 r3 => by
  obtain ⟨M2, a1, a2, a3, a4, a5, a6⟩ := bin_go Z h1 hp1 hp' hn hc g0 g1 hop r1 r2 r3
  have hnp := np_gt (T := T) hp'
  obtain ⟨M3, b1, b2, b3⟩ := h2 (q + c.length + 1) M2 a2 (by omega) ⟨fun _ => a6, g2 M M2 a5⟩
  exact ⟨M3, mE_comes a1 b1, b2, (a4.down (Nat.zero_le _)).trans b3 (by omega)⟩
theorem hold_keep {M M' : dM} {k i : Nat} {r : List Nat} (h : hold M k i r) (e : ∀ j, j < i + r.length → gI M' k j = gI M k j) : hold M' k i r := fun j v hj => by
  have hj' := (List.getElem?_eq_some_iff.mp hj).1
  rw [e _ (by omega)]
  exact h j v hj
theorem acc_bin {T : Nat → Nat} {n e cat cat1 cat2 d p s p' p3 v w : Nat} {M M1 M2 M3 M4 : dM} {c r c' r' : List Nat} {D D' E : gD} (a1 : acc T n e cat1 d p s M p' c r D M1) (hp' : p' < n) (c2 : chS kTk M1 M2) (a2 : acc T n e cat2 d (np T n p') (s + r.length) M2 p3 c' r' D' M3) (k4 : pcs T n e (s + r.length + r'.length + 1) p3 M4) (h4 : gI M4 35 (s + r.length + r'.length) = nI w) (u4 : ∀ j, j < s + r.length + r'.length → gI M4 35 j = gI M3 35 j) (c4 : chS [35, 4401] M3 M4) (hG : G (eK e) cat d (c ++ v :: c') (r ++ (r' ++ [w])) E) (hR : rOK T n e cat d p p3 (c ++ v :: c')) : acc T n e cat d p s M p3 (c ++ v :: c') (r ++ (r' ++ [w])) E M4 := by
  obtain ⟨a0, x1, x2, x3, x4, x5, x6, x7, x8, x9⟩ := a1
  obtain ⟨b0, y1, y2, y3, y4, y5, y6, y7, y8, y9⟩ := a2
  have hnp := np_gt (T := T) hp'
  refine ⟨hG, by omega, y2, ?_, ?_, ?_, ?_, ((x7.trans (c2.mono (by decide))).trans y7).trans (c4.mono (by decide)), fun j hj => ?_, hR⟩
  · simp only [List.length_append, List.length_cons]; omega
  · simp only [List.length_append, List.length_cons, List.length_nil]; omega
  · rw [show s + (r ++ (r' ++ [w])).length = s + r.length + r'.length + 1 by simp only [List.length_append, List.length_cons, List.length_nil]; omega]
    exact k4
  · rw [hold_app, hold_app, hold_one]
    refine ⟨hold_keep x6 (fun j hj => ?_), hold_keep y6 (fun j hj => u4 j hj), h4⟩
    rw [u4 j (by omega), y8 j hj, c2.I 35 j rfl]
  · rw [u4 j (by omega), y8 j (by omega), c2.I 35 j rfl, x8 j hj]
theorem z43 {T : Nat → Nat} {n e d p' v : Nat} (hv : (isS T n p' 43 = true ∧ v = 20) ∨ (isS T n p' 45 = true ∧ v = 21) ∨ (isS T n p' 42 = true ∧ v = 22)) {cat cat1 : Nat} (h2 : 2 ≤ cat1) (c : List Nat) : ∀ q M M1, rst T n e (q + c.length) p' M1 → q + c.length < 1000 → rPre cat d M → (2 ≤ cat1 → gI M1 90 d = gI M 90 d) → ∃ M2, bR (nI d, nI 0, M1) = some (.inl (nI d, nI 1, M2)) ∧ rst T n e (q + c.length + 1) (np T n p') M2 ∧ hold M2 88 (1000 + (q + c.length)) [v] ∧ rfr (q + c.length) d M1 M2 ∧ gI M2 90 d = gI M 90 d := fun q M M1 r1 hq _ h90 => by
  obtain ⟨M2, b1, b2, b3, b4, b5⟩ := m_op3 (d := d) r1 hq hv
  exact ⟨M2, b1, b2, b3, b4, b5.trans (h90 h2)⟩
theorem isS_lt {T : Nat → Nat} {n p a : Nat} (h : isS T n p a = true) : p < n := kd_3 (by rw [(isS_kd h).1]; decide)
/-- a product -/
theorem tie_product {T : Nat → Nat} {n e d : Nat} {rec : Int32 → dM → Option (Bool × dM)} (hrec : ∀ p s M, pcs T n e s p M → s ≤ p → tie T n e 4 d p s M (rec (nI d) M)) {p s : Nat} {M : dM} (hM : pcs T n e s p M) (hs : s ≤ p) : tie T n e 3 d p s M (f_re_product rec (nI d) M) := by
  have hn : n ≤ 1000 := hM.1.1
  have loop : ∀ m p' t c r D M1, n - p' ≤ m → t ≤ p' → acc T n e 3 d p s M p' c r D M1 → tie T n e 3 d p s M (l_re_product_12 rec (nI d) (nI t) M1) := by
    intro m
    induction m with
    | zero =>
      intro p' t c r D M1 hm ht a
      have hpn : p' = n := by have := a.2.2.1; omega
      have k0 : kd T n p' ≠ 3 := by rw [kd_en (by omega)]; decide
      refine Or.inl ⟨p', c, r, D, M1, ?_, a, fun _ => isS_no k0, fun z => by omega, fun z => by omega⟩
      unfold l_re_product_12
      refine lpc_out ?_
      show b_re_product_12_12 rec (nI d) (nI t) M1 = _
      unfold b_re_product_12_12
      have i42 : f_re_isSign 42 M1 = some (isS T n p' 42) := c_isSign a.2.2.2.2.2.1.1 a.2.2.2.2.2.1.2.1 (a := 42) (by decide)
      rw [i42, Option.bind_some, isS_no k0, if_neg Bool.false_ne_true]
      split <;> rfl
    | succ m ih =>
      intro p' t c r D M1 hm ht a
      have k1 := a.2.2.2.2.2.1
      have i42 : f_re_isSign 42 M1 = some (isS T n p' 42) := c_isSign k1.1 k1.2.1 (a := 42) (by decide)
      by_cases g : isS T n p' 42 = true
      · have hp' := isS_lt g
        have hnp := np_gt (T := T) hp'
        obtain ⟨M2, e1, e2, e3⟩ := c_adv k1
        have hl := a.2.2.2.2.1
        rcases hrec (np T n p') (s + r.length) M2 e2 (by have := a.2.1; omega) with ⟨p3, c', r', D', M3, f1, f2, f3⟩ | ⟨x, M3, x0, x1, f1, f2, f3, f4⟩
        · have hl' := f2.2.2.2.2.1
          have hp3 := f2.2.2.1
          have hp3' := f2.2.1
          obtain ⟨M4, g1, g2, g3, g4, g5⟩ := c_add (v := 20007) f2.2.2.2.2.2.1 (by have := a.2.1; omega)
          have g1' : f_la_addStep 20007 M3 = some M4 := g1
          have hb : (fun s_1 : Int32 × dM => b_re_product_12_12 rec (nI d) s_1.1 s_1.2) (nI t, M1) = some (.inl (nI (t + 1), M4)) := by
            show b_re_product_12_12 rec (nI d) (nI t) M1 = _
            unfold b_re_product_12_12
            rw [if_neg (show ¬ (1000 : Int32) ≤ nI t from z_nle (a := 1000) (by omega) (by omega) (by omega)), i42, Option.bind_some, g, if_pos rfl, e1, Option.bind_some, f1, Option.bind_some, if_pos rfl, g1', Option.bind_some, show nI t + 1 = nI (t + 1) from z_add t 1]
          have hR : rOK T n e 3 d p p3 (c ++ 22 :: c') := bin_ok (fun M M2 => gI M2 90 d = gI M 90 d) a.2.2.2.2.2.2.2.2.2 f2.2.2.2.2.2.2.2.2.2 a.2.1 hp' hn a.2.2.2.1 (by decide) (Nat.le_refl _) (z43 (Or.inr (Or.inr ⟨g, rfl⟩)) (by decide) c) (fun _ _ _ z => by omega) (fun M M2 M3 z z1 _ => ⟨fun _ => (z1 (by decide)).trans z, fun z2 => by omega⟩)
          have := ih p3 (t + 1) _ _ _ M4 (by omega) (by omega) (acc_bin a hp' e3 f2 g2 g3 g4 g5 (G_mul a.1 f2.1) hR)
          unfold l_re_product_12 at this ⊢
          rcases this with ⟨q1, q2, q3, q4, q5, q6, q7⟩ | ⟨q1, q2, y0, y1, q3, q4⟩
          · exact Or.inl ⟨q1, q2, q3, q4, q5, lpc_step hb q6, q7⟩
          · exact Or.inr ⟨q1, q2, y0, y1, lpc_step hb q3, q4⟩
        · refine Or.inr ⟨x, M3, x0, x1, ?_, f2, ((a.2.2.2.2.2.2.2.1.trans (e3.mono (by decide))).mono (by decide)).trans f3, bin_bad (fun M M2 => gI M2 90 d = gI M 90 d) a.2.2.2.2.2.2.2.2.2 f4 a.2.1 hp' hn a.2.2.2.1 (by decide) (Nat.le_refl _) (z43 (Or.inr (Or.inr ⟨g, rfl⟩)) (by decide) c) (fun _ _ _ z => by omega)⟩
          unfold l_re_product_12
          refine lpc_out ?_
          show b_re_product_12_12 rec (nI d) (nI t) M1 = _
          unfold b_re_product_12_12
          rw [if_neg (show ¬ (1000 : Int32) ≤ nI t from z_nle (a := 1000) (by omega) (by omega) (by omega)), i42, Option.bind_some, g, if_pos rfl, e1, Option.bind_some, f1, Option.bind_some, if_neg Bool.false_ne_true]
      · refine Or.inl ⟨p', c, r, D, M1, ?_, a, fun _ => Bool.eq_false_iff.mpr g, fun z => by omega, fun z => by omega⟩
        unfold l_re_product_12
        refine lpc_out ?_
        show b_re_product_12_12 rec (nI d) (nI t) M1 = _
        unfold b_re_product_12_12
        rw [i42, Option.bind_some, if_neg g]
        split <;> rfl
  unfold f_re_product
  rcases hrec p s M hM hs with ⟨p', c, r, D, M1, f1, f2, f3⟩ | ⟨x, M3, x0, x1, f1, f2, f3, f4⟩
  · rw [f1, Option.bind_some, if_pos rfl]
    have := loop (n - p') p' 0 c r D M1 (Nat.le_refl _) (Nat.zero_le _) (acc_up f2 (by decide) (fun z => by omega) G_43)
    have e0 : l_re_product_12 rec (nI d) 0 M1 = l_re_product_12 rec (nI d) (nI 0) M1 := rfl
    rw [e0]
    generalize l_re_product_12 rec (nI d) (nI 0) M1 = o at this
    cases o <;> exact this
  · rw [f1, Option.bind_some, if_neg Bool.false_ne_true]
    exact Or.inr ⟨x, M3, x0, x1, rfl, f2, f3, rBad_up f4 (by decide)⟩
