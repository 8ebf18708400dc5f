/-! ===== reading an E: the reference's steps ===== -/
theorem f_m1 : ∀ f, f < 20 → ¬ nI f = (-1 : Int32) := by decide +kernel
theorem eK_le (e : Nat) : eK e ≤ 17 := by unfold eK; split <;> omega
theorem isS_kd {T : Nat → Nat} {n p a : Nat} (h : isS T n p a = true) : kd T n p = 3 ∧ T p = a := of_decide_eq_true h
theorem isS_ne {T : Nat → Nat} {n p a b : Nat} (h : isS T n p a = true) (hab : a ≠ b) : isS T n p b = false := decide_eq_false (fun z => hab ((isS_kd h).2.symm.trans z.2))
theorem isS_no {T : Nat → Nat} {n p b : Nat} (h : kd T n p ≠ 3) : isS T n p b = false := decide_eq_false (fun z => h z.1)
theorem wIx_no {T : Nat → Nat} {n p k : Nat} (h : kd T n p ≠ 1) : wIx T n p k = -1 := by
  unfold wIx
  rw [if_neg h]
theorem wIx_not : ∀ e, e < 2 → cIx 10631 0 (lE e) = -1 := by decide +kernel
/-- what a token can be where a part is wanted -/
def tP (T : Nat → Nat) (n e p : Nat) : Prop :=
  (kd T n p = 2 ∧ isS T n p 40 = false ∧ wIx T n p 6 = -1 ∧ wIx T n p e = -1) ∨
  (∃ f, f < eK e ∧ kd T n p = 1 ∧ isS T n p 40 = false ∧ wIx T n p 6 = -1 ∧ wIx T n p e = nI f) ∨
  (kd T n p = 1 ∧ isS T n p 40 = false ∧ wIx T n p 6 = nI 0 ∧ wIx T n p e = -1) ∨
  (kd T n p = 3 ∧ isS T n p 40 = true ∧ wIx T n p 6 = -1 ∧ wIx T n p e = -1) ∨
  (kd T n p ≠ 2 ∧ isS T n p 40 = false ∧ wIx T n p 6 = -1 ∧ wIx T n p e = -1)
theorem cIx_rng (w : Nat) : ∀ (L : List Nat) (j : Nat), cIx w j L = -1 ∨ ∃ f, j ≤ f ∧ f < j + L.length ∧ cIx w j L = nI f := fun L j => by
  rcases rc_Ix w L j with ⟨a, _⟩ | ⟨f, a, b, c, _⟩
  · exact Or.inl a
  · exact Or.inr ⟨f, a, b, c⟩
theorem tP_all {T : Nat → Nat} {n p e : Nat} (he : e < 2) : tP T n e p := by
  unfold tP
  by_cases h2 : kd T n p = 2
  · exact Or.inl ⟨h2, isS_no (by omega), wIx_no (by omega), wIx_no (by omega)⟩
  · by_cases h3 : kd T n p = 3
    · by_cases h40 : isS T n p 40 = true
      · exact Or.inr (Or.inr (Or.inr (Or.inl ⟨h3, h40, wIx_no (by omega), wIx_no (by omega)⟩)))
      · exact Or.inr (Or.inr (Or.inr (Or.inr ⟨h2, Bool.eq_false_iff.mpr h40, wIx_no (by omega), wIx_no (by omega)⟩)))
    · by_cases h1 : kd T n p = 1
      · rcases wIx_1 (T := T) (n := n) (p := p) (k := 6) (w := 10631) rfl with ⟨_, b, c⟩ | ⟨_, c⟩
        · refine Or.inr (Or.inr (Or.inl ⟨h1, isS_no h3, c, ?_⟩))
          unfold wIx
          rw [if_pos h1, b]
          exact wIx_not e he
        · have hL : (lE e).length = eK e := by
            match e, he with
            | 0, _ => rfl
            | 1, _ => rfl
          rcases cIx_rng (wv T n p) (lE e) 0 with a | ⟨f, _, b, d⟩
          · refine Or.inr (Or.inr (Or.inr (Or.inr ⟨h2, isS_no h3, c, ?_⟩)))
            unfold wIx
            rw [if_pos h1, a]
          · refine Or.inr (Or.inl ⟨f, by omega, h1, isS_no h3, c, ?_⟩)
            unfold wIx
            rw [if_pos h1, d]
      · exact Or.inr (Or.inr (Or.inr (Or.inr ⟨h2, isS_no h3, wIx_no h1, wIx_no h1⟩)))
theorem m_fact0 {T : Nat → Nat} {n p e q : Nat} {M : dM} (h : rst T n e q p M) (he : e < 2) : (wIx T n p e = -1 → f_mo_fact0 M = nI 0) ∧ ∀ f, f < 20 → wIx T n p e = nI f → f_mo_fact0 M = nI (1 + f) := by
  rcases facts_eq h.2.1 he h.2.2.1 with ⟨a, b⟩ | ⟨f, a, _, c, d⟩
  · exact ⟨fun _ => b, fun f hf z => absurd (z.symm.trans a) (f_m1 f hf)⟩
  · have := eK_le e
    refine ⟨fun z => absurd (c.symm.trans z) (f_m1 f (by omega)), fun g hg z => ?_⟩
    have e1 : nI f = nI g := c.symm.trans z
    rw [z_eq (by omega) (by omega)] at e1
    rw [d, e1]
theorem m_not {T : Nat → Nat} {n p e q : Nat} {M : dM} (h : rst T n e q p M) : (wIx T n p 6 = -1 → f_mo_isWord 10631 M = false) ∧ (wIx T n p 6 = nI 0 → f_mo_isWord 10631 M = true) := by
  have hw : f_mo_isWord 10631 M = decide (kd T n p = 1 ∧ wv T n p = 10631) := m_isWord (w := 10631) h.2.1 (by decide)
  rw [hw]
  rcases wIx_1 (T := T) (n := n) (p := p) (k := 6) (w := 10631) rfl with ⟨a, b, c⟩ | ⟨a, c⟩
  · exact ⟨fun z => absurd (c.symm.trans z) (f_m1 0 (by decide)), fun _ => decide_eq_true ⟨a, b⟩⟩
  · exact ⟨fun _ => decide_eq_false a, fun z => absurd (z.symm.trans c) (f_m1 0 (by decide))⟩
theorem m_22 {T : Nat → Nat} {n p v : Nat} {M : dM} (t : tkm T n p M) (hv : v < 10) : (gI M 66 22 = nI v) = (kd T n p = v) := by
  have hl := kd_lt (T := T) (n := n) (p := p)
  rw [t.2.2.2.1]
  exact z_eq (by omega) (by omega)
theorem m_fails {T : Nat → Nat} {n p e q k : Nat} {M : dM} (h : rst T n e q p M) : (f_mo_fails (nI k) M).1 = false ∧ gI (f_mo_fails (nI k) M).2 66 25 = nI (k + 16 * p) ∧ ∀ q d, rfr q d M (f_mo_fails (nI k) M).2 := by
  have c : chS [7625] M (f_mo_fails (nI k) M).2 := (chS.refl _ M).sI 66 25 _ rfl
  refine ⟨rfl, ?_, fun q d => ⟨c.mono (by decide), fun j _ => c.I 88 j rfl, fun j _ => c.I 89 j rfl, fun j _ => c.I 90 j rfl⟩⟩
  unfold f_mo_fails
  rw [gI_sI, if_pos ⟨rfl, rfl⟩, h.2.1.2.1]
  show nI k + nI 16 * nI p = _
  rw [z_mul, z_add]
/-- nothing that can stand there -/
theorem m_w1 {T : Nat → Nat} {n p e q d : Nat} {M : dM} (h : rst T n e q p M) (he : e < 2) (k2 : kd T n p ≠ 2) (k40 : isS T n p 40 = false) (k6 : wIx T n p 6 = -1) (ke : wIx T n p e = -1) : bR (nI d, nI 1, M) = some (.inr (.inr (f_mo_fails (nI 1) M))) := by
  have i40 : f_mo_isSign 40 M = some (isS T n p 40) := m_isSign h.1 h.2.1 (a := 40) (by decide)
  have hf := (m_fact0 h he).1 ke
  have hn := (m_not h).1 k6
  show b_mo_reads_11_11 (nI d) (nI 1) M = _
  unfold b_mo_reads_11_11
  rw [if_neg (show ¬ nI 1 = (0 : Int32) from by decide), i40, Option.bind_some, hf, if_pos (show nI 0 = (0 : Int32) from rfl), hn, if_neg (by decide), k40, if_neg (by decide), if_neg (by rw [show (2 : Int32) = nI 2 from rfl, m_22 h.2.1 (by decide)]; exact k2)]
  rfl
theorem m_65 {T : Nat → Nat} {n p e q d : Nat} {M : dM} (h : rst T n e q p M) (he : e < 2) (ok : ¬ (kd T n p ≠ 2 ∧ isS T n p 40 = false ∧ wIx T n p 6 = -1 ∧ wIx T n p e = -1)) : bR (nI d, nI 1, M) = b_mo_reads_11_65 (nI d) (nI 1) (f_mo_fact0 M) (bI (f_mo_isWord 10631 M)) (bI (isS T n p 40)) M := by
  have i40 : f_mo_isSign 40 M = some (isS T n p 40) := m_isSign h.1 h.2.1 (a := 40) (by decide)
  show b_mo_reads_11_11 (nI d) (nI 1) M = _
  unfold b_mo_reads_11_11
  rw [if_neg (show ¬ nI 1 = (0 : Int32) from by decide), i40, Option.bind_some]
  by_cases c1 : f_mo_fact0 M = 0
  · rw [if_pos c1]
    by_cases c2 : f_mo_isWord 10631 M = true
    · rw [if_pos c2]
    · rw [if_neg c2]
      by_cases c3 : isS T n p 40 = true
      · rw [if_pos c3]
      · rw [if_neg c3]
        by_cases c4 : gI M 66 22 = 2
        · rw [if_pos c4]
        · exfalso
          have c4' : ¬ gI M 66 22 = nI 2 := c4
          rw [m_22 h.2.1 (by decide)] at c4'
          rcases tP_all (T := T) (n := n) (p := p) he with g | ⟨f, g1, g2, g3, g4, g5⟩ | g | g | g
          · exact c4' g.1
          · have := (m_fact0 h he).2 f (by have := eK_le e; omega) g5
            rw [this] at c1
            have := eK_le e
            exact (z_ne (a := 1 + f) (b := 0) (by omega) (by omega) (by omega)) c1
          · exact c2 ((m_not h).2 g.2.2.1)
          · exact c3 g.2.1
          · exact ok g
  · rw [if_neg c1]
theorem m_w5 {T : Nat → Nat} {n p e q : Nat} {M : dM} (h : rst T n e q p M) (he : e < 2) (ok : ¬ (kd T n p ≠ 2 ∧ isS T n p 40 = false ∧ wIx T n p 6 = -1 ∧ wIx T n p e = -1)) : bR (nI 5, nI 1, M) = some (.inr (.inr (f_mo_fails (nI 5) M))) := by
  rw [m_65 h he ok]
  unfold b_mo_reads_11_65
  rw [if_pos (show nI 5 = (5 : Int32) from rfl)]
  rfl
theorem m_147 {T : Nat → Nat} {n p e q d v : Nat} {M : dM} (h : rst T n e q p M) (hq : q < 1000) (hd : d < 7) : ∃ M', b_mo_reads_11_147 (nI d) (nI v) M = some (.inl (nI (pq M d), nI 0, M')) ∧ rst T n e (q + 1) (np T n p) M' ∧ hold M' 88 (1000 + q) [v] ∧ (∀ k, rfr q k M M') := by
  obtain ⟨M', a1, a2, a3, a4, a5, a6, a7⟩ := m_step (v := v) h rfl (chS.refl [89, 90] _)
  have c1 : chS [88, 7637] M (sI (sI M 88 (1000 + q) (nI v)) 66 37 (nI (1000 + (q + 1)))) := ((chS.refl _ M).sI 88 _ _ rfl).sI 66 37 _ rfl
  refine ⟨M', ?_, a2, a3, fun k => ⟨a4, a5, fun j _ => ?_, fun j _ => ?_⟩⟩
  · unfold b_mo_reads_11_147 b_mo_reads_11_172
    rw [m_put h.2.2.2 hq, Option.bind_some, m_152 _ 0 d hd, Option.bind_some, a1, Option.bind_some, pq_congr d (fun j _ => c1.I 89 j rfl)]
    rfl
  · rw [a6, c1.I 89 j rfl]
  · rw [a7, c1.I 90 j rfl]
/-- a number or a fact -/
theorem m_val {T : Nat → Nat} {n p e q d v : Nat} {M : dM} (h : rst T n e q p M) (he : e < 2) (hq : q < 1000) (hd : d < 5) (hv : (kd T n p = 2 ∧ v = 100 + nu T n p ∧ isS T n p 40 = false ∧ wIx T n p 6 = -1 ∧ wIx T n p e = -1) ∨ ∃ f, f < eK e ∧ v = 1 + f ∧ isS T n p 40 = false ∧ wIx T n p 6 = -1 ∧ wIx T n p e = nI f) : ∃ M', bR (nI d, nI 1, M) = some (.inl (nI (pq M d), nI 0, M')) ∧ rst T n e (q + 1) (np T n p) M' ∧ hold M' 88 (1000 + q) [v] ∧ (∀ k, rfr q k M M') := by
  obtain ⟨M', b1, b2⟩ := m_147 (v := v) h hq (by omega : d < 7)
  refine ⟨M', ?_, b2⟩
  rw [← b1]
  rcases hv with ⟨g1, g2, g3, g4, g5⟩ | ⟨f, g1, g2, g3, g4, g5⟩
  · rw [m_65 h he (fun z => z.1 g1)]
    unfold b_mo_reads_11_65
    rw [if_neg (show ¬ nI d = (5 : Int32) from z_ne (b := 5) (by omega) (by omega) (by omega)), (m_not h).1 g4, if_pos (show bI false = 0 from rfl), g3, if_pos (show bI false = 0 from rfl), (m_fact0 h he).1 g5, if_pos (show nI 0 ≤ (0 : Int32) from by decide), h.2.1.2.2.2.2.1 g1]
    show b_mo_reads_11_147 (nI d) (nI 100 + nI (nu T n p)) M = _
    rw [z_add, g2]
  · have hk := eK_le e
    rw [m_65 h he (fun z => f_m1 f (by omega) (g5.symm.trans z.2.2.2))]
    unfold b_mo_reads_11_65
    rw [if_neg (show ¬ nI d = (5 : Int32) from z_ne (b := 5) (by omega) (by omega) (by omega)), (m_not h).1 g4, if_pos (show bI false = 0 from rfl), g3, if_pos (show bI false = 0 from rfl), (m_fact0 h he).2 f (by omega) g5, if_neg (show ¬ nI (1 + f) ≤ (0 : Int32) from z_nle (b := 0) (by omega) (by omega) (by omega)), g2]
/-- not, or ( -/
theorem m_open {T : Nat → Nat} {n p e q d : Nat} {M : dM} {b : Bool} (h : rst T n e q p M) (he : e < 2) (hq : q < 1000) (hd : d < 5) (hv : (b = true ∧ wIx T n p 6 = nI 0) ∨ (b = false ∧ wIx T n p 6 = -1 ∧ isS T n p 40 = true)) : ∃ M', bR (nI d, nI 1, M) = some (.inl (nI (d + 1), nI 1, M')) ∧ rst T n e (q + 1) (np T n p) M' ∧ hold M' 88 (1000 + q) [if b = true then 30 else 28] ∧ rfr q d M M' ∧ gI M' 90 d = gI M 90 d ∧ gI M' 89 (d + 1) = nI (if b = true then 1 else 2) ∧ gI M' 90 (d + 1) = nI 0 := by
  generalize hv' : (if b = true then 30 else 28 : Nat) = v
  generalize hw' : (if b = true then 1 else 2 : Nat) = w
  have c1 : chS [88, 7637] M (sI (sI M 88 (1000 + q) (nI v)) 66 37 (nI (1000 + (q + 1)))) := ((chS.refl _ M).sI 88 _ _ rfl).sI 66 37 _ rfl
  generalize hM1 : sI (sI M 88 (1000 + q) (nI v)) 66 37 (nI (1000 + (q + 1))) = M1 at c1
  obtain ⟨M', a1, a2, a3, a4, a5, a6, a7⟩ := m_step (v := v) h hM1.symm (M2 := sI (sI M1 89 (d + 1) (nI w)) 90 (d + 1) (nI 0)) (((chS.refl _ _).sI 89 _ _ rfl).sI 90 _ _ rfl)
  have h120 : ∀ x : Int32, x = nI 1 → b_mo_reads_11_120 (nI d + 1) x (nI d + 1) (nI w) M1 = some (.inl (nI (d + 1), nI 1, M')) := fun x hx => by
    unfold b_mo_reads_11_120 b_mo_reads_11_172
    rw [show nI d + 1 = nI (d + 1) from z_add d 1, z_gd (z_in (n := d + 1) (by omega) (by omega)), z_gd (z_in (n := d + 1) (by omega) (by omega)), z_cl (n := d + 1) (by omega), hx]
    have a1' : f_mo_nextToken (sI (sI M1 89 (d + 1) (nI w)) 90 (d + 1) 0) = some M' := a1
    rw [a1']
    rfl
  refine ⟨M', ?_, a2, a3, ⟨a4, a5, fun j hj => ?_, fun j hj => ?_⟩, ?_, ?_, ?_⟩
  · rcases hv with ⟨g1, g2⟩ | ⟨g1, g2, g3⟩
    · rw [g1, if_pos rfl] at hv' hw'
      rw [m_65 h he (fun z => f_m1 0 (by decide) (g2.symm.trans z.2.2.1))]
      unfold b_mo_reads_11_65
      rw [if_neg (show ¬ nI d = (5 : Int32) from z_ne (b := 5) (by omega) (by omega) (by omega)), (m_not h).2 g2, if_neg (show ¬ bI true = 0 from by decide)]
      unfold b_mo_reads_11_86 b_mo_reads_11_99
      rw [if_neg (show ¬ bI true = 0 from by decide)]
      have hp : f_mo_puts 30 M = some M1 := by rw [← hM1, ← hv']; exact m_put (v := 30) h.2.2.2 hq
      rw [hp, Option.bind_some, if_neg (show ¬ bI true = 0 from by decide)]
      rw [← hw'] at h120
      exact h120 _ rfl
    · rw [g1, if_neg (by decide)] at hv' hw'
      rw [m_65 h he (fun z => by rw [g3] at z; exact absurd z.2.1 (by decide))]
      unfold b_mo_reads_11_65
      rw [if_neg (show ¬ nI d = (5 : Int32) from z_ne (b := 5) (by omega) (by omega) (by omega)), (m_not h).1 g2, if_pos (show bI false = 0 from rfl), g3, if_neg (show ¬ bI true = 0 from by decide)]
      unfold b_mo_reads_11_86 b_mo_reads_11_99
      rw [if_pos (show bI false = 0 from rfl)]
      have hp : f_mo_puts 28 M = some M1 := by rw [← hM1, ← hv']; exact m_put (v := 28) h.2.2.2 hq
      rw [hp, Option.bind_some, if_pos (show bI false = 0 from rfl)]
      rw [← hw'] at h120
      exact h120 _ rfl
  · rw [a6, gI_sI, if_neg (by omega), gI_sI, if_neg (by omega), c1.I 89 j rfl]
  · rw [a7, gI_sI, if_neg (by omega), gI_sI, if_neg (by omega), c1.I 90 j rfl]
  · rw [a7, gI_sI, if_neg (by omega), gI_sI, if_neg (by omega), c1.I 90 d rfl]
  · rw [a6, gI_sI, if_neg (by omega), gI_sI, if_pos ⟨rfl, rfl⟩]
  · rw [a7, gI_sI, if_pos ⟨rfl, rfl⟩]
theorem m_sg {T : Nat → Nat} {n p e q : Nat} {M : dM} (h : rst T n e q p M) : f_mo_isSign 43 M = some (isS T n p 43) ∧ f_mo_isSign 45 M = some (isS T n p 45) ∧ f_mo_isSign 42 M = some (isS T n p 42) ∧ f_mo_isSign 60 M = some (isS T n p 60) ∧ f_mo_isSign 61 M = some (isS T n p 61) ∧ f_mo_isSign 41 M = some (isS T n p 41) ∧ f_mo_isSign 59 M = some (isS T n p 59) :=
  ⟨m_isSign h.1 h.2.1 (a := 43) (by decide), m_isSign h.1 h.2.1 (a := 45) (by decide), m_isSign h.1 h.2.1 (a := 42) (by decide), m_isSign h.1 h.2.1 (a := 60) (by decide), m_isSign h.1 h.2.1 (a := 61) (by decide), m_isSign h.1 h.2.1 (a := 41) (by decide), m_isSign h.1 h.2.1 (a := 59) (by decide)⟩
theorem m_wd {T : Nat → Nat} {n p e q : Nat} {M : dM} (h : rst T n e q p M) : f_mo_isWord 1111 M = decide (kd T n p = 1 ∧ wv T n p = 1111) ∧ f_mo_isWord 423 M = decide (kd T n p = 1 ∧ wv T n p = 423) :=
  ⟨m_isWord (w := 1111) h.2.1 (by decide), m_isWord (w := 423) h.2.1 (by decide)⟩
/-- and, or -/
theorem wIx_5 {T : Nat → Nat} {n p : Nat} : (wIx T n p 5 = nI 0 ∧ kd T n p = 1 ∧ wv T n p = 1111) ∨ (wIx T n p 5 = nI 1 ∧ kd T n p = 1 ∧ wv T n p = 423) ∨ (wIx T n p 5 = -1 ∧ ¬ (kd T n p = 1 ∧ wv T n p = 1111) ∧ ¬ (kd T n p = 1 ∧ wv T n p = 423)) := by
  unfold wIx
  by_cases h1 : kd T n p = 1
  · rw [if_pos h1]
    show ((if 1111 = wv T n p then nI 0 else if 423 = wv T n p then nI 1 else -1) = nI 0 ∧ _) ∨ ((if 1111 = wv T n p then nI 0 else if 423 = wv T n p then nI 1 else -1) = nI 1 ∧ _) ∨ ((if 1111 = wv T n p then nI 0 else if 423 = wv T n p then nI 1 else (-1 : Int32)) = -1 ∧ _)
    by_cases a : 1111 = wv T n p
    · rw [if_pos a]
      exact Or.inl ⟨rfl, h1, a.symm⟩
    · rw [if_neg a]
      by_cases b : 423 = wv T n p
      · rw [if_pos b]
        exact Or.inr (Or.inl ⟨rfl, h1, b.symm⟩)
      · rw [if_neg b]
        exact Or.inr (Or.inr ⟨rfl, fun z => a z.2.symm, fun z => b z.2.symm⟩)
  · rw [if_neg h1]
    exact Or.inr (Or.inr ⟨rfl, fun z => h1 z.1, fun z => h1 z.1⟩)
theorem m_424 {T : Nat → Nat} {n p e q d v : Nat} {M : dM} (h : rst T n e q p M) {M2 : dM} (c : chS [89, 90] (sI (sI M 88 (1000 + q) (nI v)) 66 37 (nI (1000 + (q + 1)))) M2) : ∃ M', b_mo_reads_11_424 (nI d) 1 M2 = some (.inl (nI d, nI 1, M')) ∧ rst T n e (q + 1) (np T n p) M' ∧ hold M' 88 (1000 + q) [v] ∧ chS kR M M' ∧ (∀ j, j < 1000 + q → gI M' 88 j = gI M 88 j) ∧ (∀ j, gI M' 89 j = gI M2 89 j) ∧ (∀ j, gI M' 90 j = gI M2 90 j) := by
  obtain ⟨M', a1, a2⟩ := m_step (v := v) h rfl c
  refine ⟨M', ?_, a2⟩
  unfold b_mo_reads_11_424
  rw [a1]
  rfl
/-- + - * -/
theorem m_op3 {T : Nat → Nat} {n p e q d v : Nat} {M : dM} (h : rst T n e q p M) (hq : q < 1000) (hv : (isS T n p 43 = true ∧ v = 20) ∨ (isS T n p 45 = true ∧ v = 21) ∨ (isS T n p 42 = true ∧ v = 22)) : ∃ M', bR (nI d, nI 0, M) = some (.inl (nI d, nI 1, M')) ∧ rst T n e (q + 1) (np T n p) M' ∧ hold M' 88 (1000 + q) [v] ∧ rfr q d M M' ∧ gI M' 90 d = gI M 90 d := by
  obtain ⟨s43, s45, s42, s60, s61, s41, s59⟩ := m_sg h
  have c1 : chS [88, 7637] M (sI (sI M 88 (1000 + q) (nI v)) 66 37 (nI (1000 + (q + 1)))) := ((chS.refl _ M).sI 88 _ _ rfl).sI 66 37 _ rfl
  obtain ⟨M', a1, a2, a3, a4, a5, a6, a7⟩ := m_424 (d := d) (v := v) h (chS.refl [89, 90] _)
  refine ⟨M', ?_, a2, a3, ⟨a4, a5, fun j _ => ?_, fun j _ => ?_⟩, ?_⟩
  · have k237 : b_mo_reads_11_237 (nI d) (nI v) M = some (.inl (nI d, nI 1, M')) := by
      unfold b_mo_reads_11_237
      rw [m_put h.2.2.2 hq, Option.bind_some, a1]
    show b_mo_reads_11_11 (nI d) (nI 0) M = _
    unfold b_mo_reads_11_11
    rw [if_pos (show nI 0 = (0 : Int32) from rfl), s43, Option.bind_some]
    have k206 : b_mo_reads_11_206 (nI d) M = b_mo_reads_11_237 (nI d) (nI v) M := by
      unfold b_mo_reads_11_206
      rw [s43, Option.bind_some]
      rcases hv with ⟨g, e1⟩ | ⟨g, e1⟩ | ⟨g, e1⟩
      · rw [g, if_pos rfl, e1]; rfl
      · rw [isS_ne (b := 43) g (by decide), if_neg (by decide), s45, Option.bind_some, g, if_pos rfl, e1]; rfl
      · rw [isS_ne (b := 43) g (by decide), if_neg (by decide), s45, Option.bind_some, isS_ne (b := 45) g (by decide), if_neg (by decide), e1]; rfl
    rcases hv with ⟨g, e1⟩ | ⟨g, e1⟩ | ⟨g, e1⟩
    · rw [g, if_pos rfl, k206, k237]
    · rw [isS_ne (b := 43) g (by decide), if_neg (by decide), s45, Option.bind_some, g, if_pos rfl, k206, k237]
    · rw [isS_ne (b := 43) g (by decide), if_neg (by decide), s45, Option.bind_some, isS_ne (b := 45) g (by decide), if_neg (by decide), s42, Option.bind_some, g, if_pos rfl, k206, k237]
  · rw [a6, c1.I 89 j rfl]
  · rw [a7, c1.I 90 j rfl]
  · rw [a7, c1.I 90 d rfl]
/-- < = -/
theorem m_op1 {T : Nat → Nat} {n p e q d v : Nat} {M : dM} (h : rst T n e q p M) (hq : q < 1000) (hd : d < 7) (h90 : gI M 90 d = nI 0) (hv : (isS T n p 60 = true ∧ v = 24) ∨ (isS T n p 61 = true ∧ v = 25)) : ∃ M', bR (nI d, nI 0, M) = some (.inl (nI d, nI 1, M')) ∧ rst T n e (q + 1) (np T n p) M' ∧ hold M' 88 (1000 + q) [v] ∧ rfr q d M M' ∧ gI M' 90 d = nI 1 := by
  obtain ⟨s43, s45, s42, s60, s61, s41, s59⟩ := m_sg h
  have c1 : chS [88, 7637] M (sI (sI M 88 (1000 + q) (nI v)) 66 37 (nI (1000 + (q + 1)))) := ((chS.refl _ M).sI 88 _ _ rfl).sI 66 37 _ rfl
  obtain ⟨M', a1, a2, a3, a4, a5, a6, a7⟩ := m_424 (d := d) (v := v) h (M2 := sI (sI (sI M 88 (1000 + q) (nI v)) 66 37 (nI (1000 + (q + 1)))) 90 d (nI 1)) ((chS.refl _ _).sI 90 _ _ rfl)
  refine ⟨M', ?_, a2, a3, ⟨a4, a5, fun j _ => ?_, fun j hj => ?_⟩, ?_⟩
  · have k289 : b_mo_reads_11_289 (nI d) (nI v) M = some (.inl (nI d, nI 1, M')) := by
      unfold b_mo_reads_11_289
      rw [m_put h.2.2.2 hq, Option.bind_some, z_gd (z_in (n := d) (by omega) (by omega)), z_cl (n := d) (by omega)]
      exact a1
    have k263 : ∀ x, b_mo_reads_11_263 (nI d) x M = b_mo_reads_11_289 (nI d) (nI v) M := fun x => by
      unfold b_mo_reads_11_263
      rw [z_gd (z_in (n := d) (by omega) (by omega)), z_cl (n := d) (by omega), h90, if_pos (show nI 0 = (0 : Int32) from rfl), s60, Option.bind_some]
      rcases hv with ⟨g, e1⟩ | ⟨g, e1⟩
      · rw [g, if_pos rfl, e1]; rfl
      · rw [isS_ne (b := 60) g (by decide), if_neg (by decide), e1]; rfl
    show b_mo_reads_11_11 (nI d) (nI 0) M = _
    unfold b_mo_reads_11_11
    rw [if_pos (show nI 0 = (0 : Int32) from rfl), s43, Option.bind_some]
    rcases hv with ⟨g, e1⟩ | ⟨g, e1⟩
    · rw [isS_ne (b := 43) g (by decide), if_neg (by decide), s45, Option.bind_some, isS_ne (b := 45) g (by decide), if_neg (by decide), s42, Option.bind_some, isS_ne (b := 42) g (by decide), if_neg (by decide), s60, Option.bind_some, g, if_pos rfl, k263, k289]
    · rw [isS_ne (b := 43) g (by decide), if_neg (by decide), s45, Option.bind_some, isS_ne (b := 45) g (by decide), if_neg (by decide), s42, Option.bind_some, isS_ne (b := 42) g (by decide), if_neg (by decide), s60, Option.bind_some, isS_ne (b := 60) g (by decide), if_neg (by decide), s61, Option.bind_some, g, if_pos rfl, k263, k289]
  · rw [a6, gI_sI, if_neg (by omega), c1.I 89 j rfl]
  · rw [a7, gI_sI, if_neg (by omega), c1.I 90 j rfl]
  · rw [a7, gI_sI, if_pos ⟨rfl, rfl⟩]
/-- where no sign of a sum, product or test goes on -/
theorem m_304 {T : Nat → Nat} {n p e q d : Nat} {M : dM} (h : rst T n e q p M) (hd : d < 7) (k42 : isS T n p 42 = false) (k43 : isS T n p 43 = false) (k45 : isS T n p 45 = false) (k6 : (isS T n p 60 || isS T n p 61) = true → gI M 90 d = nI 1) : bR (nI d, nI 0, M) = b_mo_reads_11_304 (nI d) (nI 0) M := by
  obtain ⟨s43, s45, s42, s60, s61, s41, s59⟩ := m_sg h
  have k263 : gI M 90 d = nI 1 → b_mo_reads_11_263 (nI d) (nI 0) M = b_mo_reads_11_304 (nI d) (nI 0) M := fun z => by
    unfold b_mo_reads_11_263
    rw [z_gd (z_in (n := d) (by omega) (by omega)), z_cl (n := d) (by omega), z, if_neg (show ¬ nI 1 = (0 : Int32) from by decide)]
  show b_mo_reads_11_11 (nI d) (nI 0) M = _
  unfold b_mo_reads_11_11
  rw [if_pos (show nI 0 = (0 : Int32) from rfl), s43, Option.bind_some, k43, if_neg (by decide), s45, Option.bind_some, k45, if_neg (by decide), s42, Option.bind_some, k42, if_neg (by decide), s60, Option.bind_some]
  by_cases g60 : isS T n p 60 = true
  · rw [if_pos g60]
    exact k263 (k6 (by rw [g60]; rfl))
  · rw [if_neg g60, s61, Option.bind_some]
    by_cases g61 : isS T n p 61 = true
    · rw [if_pos g61]
      exact k263 (k6 (by rw [g61, Bool.or_true]))
    · rw [if_neg g61]
/-- and, or -/
theorem m_op0 {T : Nat → Nat} {n p e q d v : Nat} {M : dM} (h : rst T n e q p M) (hq : q < 1000) (hd : d < 7) (hv : (wIx T n p 5 = nI 0 ∧ v = 26) ∨ (wIx T n p 5 = nI 1 ∧ v = 27)) : ∃ M', bR (nI d, nI 0, M) = some (.inl (nI d, nI 1, M')) ∧ rst T n e (q + 1) (np T n p) M' ∧ hold M' 88 (1000 + q) [v] ∧ rfr q d M M' ∧ gI M' 90 d = nI 0 := by
  have c1 : chS [88, 7637] M (sI (sI M 88 (1000 + q) (nI v)) 66 37 (nI (1000 + (q + 1)))) := ((chS.refl _ M).sI 88 _ _ rfl).sI 66 37 _ rfl
  obtain ⟨M', a1, a2, a3, a4, a5, a6, a7⟩ := m_424 (d := d) (v := v) h (M2 := sI (sI (sI M 88 (1000 + q) (nI v)) 66 37 (nI (1000 + (q + 1)))) 90 d (nI 0)) ((chS.refl _ _).sI 90 _ _ rfl)
  obtain ⟨w1, w2⟩ := m_wd h
  have hw : (v = 26 ∧ kd T n p = 1 ∧ wv T n p = 1111) ∨ (v = 27 ∧ kd T n p = 1 ∧ wv T n p = 423) := by
    rcases wIx_5 (T := T) (n := n) (p := p) with ⟨x, y⟩ | ⟨x, y⟩ | ⟨x, _⟩
    · rcases hv with ⟨g, e1⟩ | ⟨g, e1⟩
      · exact Or.inl ⟨e1, y⟩
      · exact absurd (x.symm.trans g) (by decide)
    · rcases hv with ⟨g, e1⟩ | ⟨g, e1⟩
      · exact absurd (x.symm.trans g) (by decide)
      · exact Or.inr ⟨e1, y⟩
    · rcases hv with ⟨g, e1⟩ | ⟨g, e1⟩
      · exact absurd (g.symm.trans x) (by decide)
      · exact absurd (g.symm.trans x) (by decide)
  have k1 : kd T n p = 1 := by rcases hw with ⟨_, z, _⟩ | ⟨_, z, _⟩ <;> exact z
  refine ⟨M', ?_, a2, a3, ⟨a4, a5, fun j _ => ?_, fun j hj => ?_⟩, ?_⟩
  · have no : ∀ a, isS T n p a = false := fun a => isS_no (by omega)
    rw [m_304 h hd (no _) (no _) (no _) (fun z => by rw [no, no] at z; cases z)]
    have k342 : b_mo_reads_11_342 (nI d) (nI v) M = some (.inl (nI d, nI 1, M')) := by
      unfold b_mo_reads_11_342
      rw [m_put h.2.2.2 hq, Option.bind_some, z_gd (z_in (n := d) (by omega) (by omega)), z_cl (n := d) (by omega)]
      exact a1
    have k324 : b_mo_reads_11_324 (nI d) M = b_mo_reads_11_342 (nI d) (nI v) M := by
      unfold b_mo_reads_11_324
      rw [w1]
      rcases hw with ⟨e1, z⟩ | ⟨e1, z⟩
      · rw [if_pos (decide_eq_true z), e1]; rfl
      · rw [if_neg (by rw [decide_eq_true_iff]; omega), e1]; rfl
    unfold b_mo_reads_11_304
    rw [w1, w2, k324, k342]
    rcases hw with ⟨e1, z⟩ | ⟨e1, z⟩
    · rw [if_pos (decide_eq_true z)]
    · rw [if_neg (by rw [decide_eq_true_iff]; omega), if_pos (decide_eq_true z)]
  · rw [a6, gI_sI, if_neg (by omega), c1.I 89 j rfl]
  · rw [a7, gI_sI, if_neg (by omega), c1.I 90 j rfl]
  · rw [a7, gI_sI, if_pos ⟨rfl, rfl⟩]
/-- where an E ends -/
def stE (T : Nat → Nat) (n d p : Nat) (M : dM) : Prop := isS T n p 42 = false ∧ isS T n p 43 = false ∧ isS T n p 45 = false ∧ wIx T n p 5 = -1 ∧ ((isS T n p 60 || isS T n p 61) = true → gI M 90 d = nI 1)
theorem m_304e {T : Nat → Nat} {n p e q d : Nat} {M : dM} (h : rst T n e q p M) (hd : d < 7) (st : stE T n d p M) : bR (nI d, nI 0, M) = if isS T n p 41 = true then (if d = 0 then some (.inr (.inl (nI d, M))) else (f_mo_puts 29 M).bind fun q23 => (l_mo_reads_379 (nI d + (-1)) (nI 0) q23).bind fun t26 => b_mo_reads_11_424 t26 (nI 0) q23) else some (.inr (.inl (nI d, M))) := by
  obtain ⟨s43, s45, s42, s60, s61, s41, s59⟩ := m_sg h
  obtain ⟨w1, w2⟩ := m_wd h
  obtain ⟨g1, g2, g3, g4, g5⟩ := st
  rw [m_304 h hd g1 g2 g3 g5]
  have hno : ¬ (kd T n p = 1 ∧ wv T n p = 1111) ∧ ¬ (kd T n p = 1 ∧ wv T n p = 423) := by
    rcases wIx_5 (T := T) (n := n) (p := p) with ⟨x, y⟩ | ⟨x, y⟩ | ⟨x, y⟩
    · exact absurd (x.symm.trans g4) (by decide)
    · exact absurd (x.symm.trans g4) (by decide)
    · exact y
  unfold b_mo_reads_11_304
  rw [w1, w2, if_neg (by rw [decide_eq_true_iff]; exact hno.1), if_neg (by rw [decide_eq_true_iff]; exact hno.2), s41, Option.bind_some]
  by_cases c : isS T n p 41 = true
  · rw [if_pos c, if_pos c]
    by_cases hd0 : d = 0
    · rw [if_pos hd0, if_pos (show nI d ≤ (0 : Int32) from z_yle (b := 0) (by omega) (by omega) (by omega))]
    · rw [if_neg hd0, if_neg (show ¬ nI d ≤ (0 : Int32) from z_nle (b := 0) (by omega) (by omega) (by omega))]
  · rw [if_neg c, if_neg c]
/-- ) -/
theorem m_close {T : Nat → Nat} {n p e q d : Nat} {M : dM} (h : rst T n e q p M) (hq : q < 1000) (hd : d < 6) (st : stE T n (d + 1) p M) (k41 : isS T n p 41 = true) : ∃ M', bR (nI (d + 1), nI 0, M) = some (.inl (nI (pq M d), nI 0, M')) ∧ rst T n e (q + 1) (np T n p) M' ∧ hold M' 88 (1000 + q) [29] ∧ (∀ k, rfr q k M M') := by
  have c1 : chS [88, 7637] M (sI (sI M 88 (1000 + q) (nI 29)) 66 37 (nI (1000 + (q + 1)))) := ((chS.refl _ M).sI 88 _ _ rfl).sI 66 37 _ rfl
  obtain ⟨M', a1, a2, a3, a4, a5, a6, a7⟩ := m_step (v := 29) h rfl (chS.refl [89, 90] _)
  refine ⟨M', ?_, a2, a3, fun k => ⟨a4, a5, fun j _ => ?_, fun j _ => ?_⟩⟩
  · rw [m_304e h (by omega) st, if_pos k41, if_neg (by omega)]
    have hp : f_mo_puts 29 M = some (sI (sI M 88 (1000 + q) (nI 29)) 66 37 (nI (1000 + (q + 1)))) := m_put (v := 29) h.2.2.2 hq
    rw [hp, Option.bind_some, show nI (d + 1) + (-1) = nI d from pk_m1 d, m_379 _ _ d (by omega), Option.bind_some]
    unfold b_mo_reads_11_424
    rw [a1, Option.bind_some, pq_congr d (fun j _ => c1.I 89 j rfl)]
  · rw [a6, c1.I 89 j rfl]
  · rw [a7, c1.I 90 j rfl]
/-- an E that ends where it can't -/
theorem m_bad {T : Nat → Nat} {n p e q d : Nat} {M : dM} (h : rst T n e q p M) (hd : d < 7) (st : stE T n d p M) (k : (d ≠ 0 ∧ isS T n p 41 = false) ∨ (d = 0 ∧ isS T n p 59 = false)) : mE (nI d, nI 0, M) = some (f_mo_fails (nI 1) M) := by
  obtain ⟨s43, s45, s42, s60, s61, s41, s59⟩ := m_sg h
  have e1 : bR (nI d, nI 0, M) = some (.inr (.inl (nI d, M))) := by
    rw [m_304e h hd st]
    rcases k with ⟨k1, k2⟩ | ⟨k1, k2⟩
    · rw [k2, if_neg (by decide)]
    · rw [if_pos k1]
      split <;> rfl
  rw [mE_end e1]
  unfold t_mo_reads_399 t_mo_reads_418
  rcases k with ⟨k1, k2⟩ | ⟨k1, k2⟩
  · rw [if_neg (show ¬ nI d = (0 : Int32) from z_ne (b := 0) (by omega) (by omega) k1)]
    rfl
  · rw [if_pos (show nI d = (0 : Int32) from by rw [k1]; rfl), s59, Option.bind_some, k2, if_neg (by decide)]
    rfl
/-- ; -/
theorem m_semi {T : Nat → Nat} {n p e q : Nat} {M : dM} (h : rst T n e q p M) (st : stE T n 0 p M) (k59 : isS T n p 59 = true) : mE (nI 0, nI 0, M) = (f_mo_nextToken M).bind fun q58 => some (true, q58) := by
  obtain ⟨s43, s45, s42, s60, s61, s41, s59⟩ := m_sg h
  have e1 : bR (nI 0, nI 0, M) = some (.inr (.inl (nI 0, M))) := by
    rw [m_304e h (by decide) st, isS_ne (b := 41) k59 (by decide), if_neg (by decide)]
  rw [mE_end e1]
  unfold t_mo_reads_399
  rw [if_pos (show nI 0 = (0 : Int32) from rfl), s59, Option.bind_some, k59, if_pos rfl]
