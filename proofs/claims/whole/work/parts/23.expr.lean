/-! ===== expressions: the reference's codes c, the class' steps r, the value D; the least relation under the rules ===== -/
abbrev gD : Type := (Nat → Int32) → Int32
def gNot (D : gD) : gD := fun v => if D v = nI 0 then nI 1 else nI 0
def gSum (o : Nat) (D E : gD) : gD := fun v => if o = 0 then D v + E v else D v - E v
def gTst (o : Nat) (D E : gD) : gD := fun v => if o = 0 then (if D v < E v then nI 1 else nI 0) else (if D v = E v then nI 1 else nI 0)
def gLog (o : Nat) (D E : gD) : gD := fun v => if o = 0 then (if D v = nI 0 then nI 0 else if E v = nI 0 then nI 0 else nI 1) else (if D v = nI 0 then (if E v = nI 0 then nI 0 else nI 1) else nI 1)
def gMul (D E : gD) : gD := fun v => D v * E v
def gRules (K : Nat) (P : Nat → Nat → List Nat → List Nat → gD → Prop) : Prop :=
  (∀ d n, d < 5 → n < 10000 → P 4 d [100 + n] [n] (fun _ => nI n)) ∧
  (∀ d f, d < 5 → f < K → P 4 d [1 + f] [10000 + f] (fun v => v f)) ∧
  (∀ d c r D, d < 5 → P 4 (d + 1) c r D → P 4 d (30 :: c) (r ++ [20000]) (gNot D)) ∧
  (∀ d c r D, d < 5 → P 0 (d + 1) c r D → P 4 d (28 :: (c ++ [29])) r D) ∧
  (∀ d c r D, P 4 d c r D → P 3 d c r D) ∧
  (∀ d c r D c' r' D', P 3 d c r D → P 4 d c' r' D' → P 3 d (c ++ 22 :: c') (r ++ (r' ++ [20007])) (gMul D D')) ∧
  (∀ d c r D, P 3 d c r D → P 2 d c r D) ∧
  (∀ o d c r D c' r' D', o < 2 → P 2 d c r D → P 3 d c' r' D' → P 2 d (c ++ (20 + o) :: c') (r ++ (r' ++ [20005 + o])) (gSum o D D')) ∧
  (∀ d c r D, P 2 d c r D → P 1 d c r D) ∧
  (∀ o d c r D c' r' D', o < 2 → P 2 d c r D → P 2 d c' r' D' → P 1 d (c ++ (24 + o) :: c') (r ++ (r' ++ [20003 + o])) (gTst o D D')) ∧
  (∀ d c r D, P 1 d c r D → P 0 d c r D) ∧
  (∀ o d c r D c' r' D', o < 2 → P 0 d c r D → P 1 d c' r' D' → P 0 d (c ++ (26 + o) :: c') (r ++ (r' ++ [20001 + o])) (gLog o D D'))
def G (K cat d : Nat) (c r : List Nat) (D : gD) : Prop := ∀ P, gRules K P → P cat d c r D
theorem G_num {K d n : Nat} (hd : d < 5) (hn : n < 10000) : G K 4 d [100 + n] [n] (fun _ => nI n) := fun _ h => h.1 d n hd hn
theorem G_fact {K d f : Nat} (hd : d < 5) (hf : f < K) : G K 4 d [1 + f] [10000 + f] (fun v => v f) := fun _ h => h.2.1 d f hd hf
theorem G_not {K d : Nat} {c r : List Nat} {D : gD} (hd : d < 5) (g : G K 4 (d + 1) c r D) : G K 4 d (30 :: c) (r ++ [20000]) (gNot D) := fun P h => h.2.2.1 d c r D hd (g P h)
theorem G_par {K d : Nat} {c r : List Nat} {D : gD} (hd : d < 5) (g : G K 0 (d + 1) c r D) : G K 4 d (28 :: (c ++ [29])) r D := fun P h => h.2.2.2.1 d c r D hd (g P h)
theorem G_43 {K d : Nat} {c r : List Nat} {D : gD} (g : G K 4 d c r D) : G K 3 d c r D := fun P h => h.2.2.2.2.1 d c r D (g P h)
theorem G_mul {K d : Nat} {c r c' r' : List Nat} {D D' : gD} (g : G K 3 d c r D) (g' : G K 4 d c' r' D') : G K 3 d (c ++ 22 :: c') (r ++ (r' ++ [20007])) (gMul D D') := fun P h => h.2.2.2.2.2.1 d c r D c' r' D' (g P h) (g' P h)
theorem G_32 {K d : Nat} {c r : List Nat} {D : gD} (g : G K 3 d c r D) : G K 2 d c r D := fun P h => h.2.2.2.2.2.2.1 d c r D (g P h)
theorem G_sum {K d o : Nat} {c r c' r' : List Nat} {D D' : gD} (ho : o < 2) (g : G K 2 d c r D) (g' : G K 3 d c' r' D') : G K 2 d (c ++ (20 + o) :: c') (r ++ (r' ++ [20005 + o])) (gSum o D D') := fun P h => h.2.2.2.2.2.2.2.1 o d c r D c' r' D' ho (g P h) (g' P h)
theorem G_21 {K d : Nat} {c r : List Nat} {D : gD} (g : G K 2 d c r D) : G K 1 d c r D := fun P h => h.2.2.2.2.2.2.2.2.1 d c r D (g P h)
theorem G_tst {K d o : Nat} {c r c' r' : List Nat} {D D' : gD} (ho : o < 2) (g : G K 2 d c r D) (g' : G K 2 d c' r' D') : G K 1 d (c ++ (24 + o) :: c') (r ++ (r' ++ [20003 + o])) (gTst o D D') := fun P h => h.2.2.2.2.2.2.2.2.2.1 o d c r D c' r' D' ho (g P h) (g' P h)
theorem G_10 {K d : Nat} {c r : List Nat} {D : gD} (g : G K 1 d c r D) : G K 0 d c r D := fun P h => h.2.2.2.2.2.2.2.2.2.2.1 d c r D (g P h)
theorem G_log {K d o : Nat} {c r c' r' : List Nat} {D D' : gD} (ho : o < 2) (g : G K 0 d c r D) (g' : G K 1 d c' r' D') : G K 0 d (c ++ (26 + o) :: c') (r ++ (r' ++ [20001 + o])) (gLog o D D') := fun P h => h.2.2.2.2.2.2.2.2.2.2.2 o d c r D c' r' D' ho (g P h) (g' P h)
/-! the cells hold a row of numbers; a loop comes from one state to another -/
def hold (M : dM) (k i : Nat) (r : List Nat) : Prop := ∀ j v, r[j]? = some v → gI M k (i + j) = nI v
theorem hold_app {M : dM} {k i : Nat} {r r' : List Nat} : hold M k i (r ++ r') ↔ hold M k i r ∧ hold M k (i + r.length) r' := by
  constructor
  · intro h
    refine ⟨fun j v hj => h j v ?_, fun j v hj => ?_⟩
    · rw [List.getElem?_append_left (List.getElem?_eq_some_iff.mp hj).1]; exact hj
    · have := h (r.length + j) v (by rw [List.getElem?_append_right (by omega), Nat.add_sub_cancel_left]; exact hj)
      rw [Nat.add_assoc]; exact this
  · rintro ⟨h1, h2⟩ j v hj
    by_cases hl : j < r.length
    · rw [List.getElem?_append_left hl] at hj; exact h1 j v hj
    · rw [List.getElem?_append_right (by omega)] at hj
      have := h2 _ v hj
      rw [Nat.add_assoc, Nat.add_sub_cancel' (by omega)] at this
      exact this
theorem hold_one {M : dM} {k i v : Nat} : hold M k i [v] ↔ gI M k i = nI v := by
  constructor
  · intro h; exact h 0 v rfl
  · intro h j w hj
    match j, hj with
    | 0, hj => cases hj; exact h
theorem hold_cons {M : dM} {k i v : Nat} {r : List Nat} : hold M k i (v :: r) ↔ gI M k i = nI v ∧ hold M k (i + 1) r := by
  have := hold_app (M := M) (k := k) (i := i) (r := [v]) (r' := r)
  rw [hold_one] at this
  exact this
theorem hold_of {M M' : dM} {k i : Nat} {r : List Nat} (h : hold M k i r) (e : ∀ j, gI M' k j = gI M k j) : hold M' k i r := fun j v hj => by rw [e]; exact h j v hj
def comes {σ ξ : Type} (body : σ → Option (σ ⊕ ξ)) (s s' : σ) : Prop := ∀ x, lpc body s' = some x → lpc body s = some x
theorem comes.refl {σ ξ : Type} {body : σ → Option (σ ⊕ ξ)} {s : σ} : comes body s s := fun _ h => h
theorem comes.trans {σ ξ : Type} {body : σ → Option (σ ⊕ ξ)} {s s' s'' : σ} (h : comes body s s') (h' : comes body s' s'') : comes body s s'' := fun x hx => h x (h' x hx)
theorem comes.step {σ ξ : Type} {body : σ → Option (σ ⊕ ξ)} {s s' : σ} (h : body s = some (.inl s')) : comes body s s' := fun _ hx => lpc_step h hx
/-- how many values may wait -/
def need (cat d : Nat) : Nat := 4 * (4 - d) + 1 + (4 - cat)

theorem join_mul (a b : Int32) : f_la_join (nI 20007) a b = a * b := by
  unfold f_la_join
  simp only [show ¬ nI 20007 = 20001 by decide, show ¬ nI 20007 = 20002 by decide, show ¬ nI 20007 = 20003 by decide, show ¬ nI 20007 = 20004 by decide, show ¬ nI 20007 = 20005 by decide, show ¬ nI 20007 = 20006 by decide, if_false]
theorem join_sum {o : Nat} (ho : o < 2) (a b : Int32) : f_la_join (nI (20005 + o)) a b = if o = 0 then a + b else a - b := by
  unfold f_la_join
  match o, ho with
  | 0, _ => rw [if_neg (show ¬ nI (20005 + 0) = 20001 by decide), if_neg (show ¬ nI (20005 + 0) = 20002 by decide), if_neg (show ¬ nI (20005 + 0) = 20003 by decide), if_neg (show ¬ nI (20005 + 0) = 20004 by decide), if_pos (show nI (20005 + 0) = 20005 by decide), if_pos rfl]
  | 1, _ => rw [if_neg (show ¬ nI (20005 + 1) = 20001 by decide), if_neg (show ¬ nI (20005 + 1) = 20002 by decide), if_neg (show ¬ nI (20005 + 1) = 20003 by decide), if_neg (show ¬ nI (20005 + 1) = 20004 by decide), if_neg (show ¬ nI (20005 + 1) = 20005 by decide), if_pos (show nI (20005 + 1) = 20006 by decide), if_neg (by decide)]
theorem join_tst {o : Nat} (ho : o < 2) (a b : Int32) : f_la_join (nI (20003 + o)) a b = if o = 0 then (if a < b then nI 1 else nI 0) else (if a = b then nI 1 else nI 0) := by
  unfold f_la_join
  match o, ho with
  | 0, _ =>
    simp only [show ¬ nI (20003 + 0) = 20001 by decide, show ¬ nI (20003 + 0) = 20002 by decide, show nI (20003 + 0) = 20003 by decide, if_false, if_true]
    by_cases h : a < b
    · rw [if_neg (Int32.not_le.mpr h), if_pos h]; rfl
    · rw [if_pos (Int32.not_lt.mp h), if_neg h]; rfl
  | 1, _ =>
    simp only [show ¬ nI (20003 + 1) = 20001 by decide, show ¬ nI (20003 + 1) = 20002 by decide, show ¬ nI (20003 + 1) = 20003 by decide, show nI (20003 + 1) = 20004 by decide, if_false, if_true, Nat.one_ne_zero]
    rfl
theorem join_log {o : Nat} (ho : o < 2) (a b : Int32) : f_la_join (nI (20001 + o)) a b = if o = 0 then (if a = nI 0 then nI 0 else if b = nI 0 then nI 0 else nI 1) else (if a = nI 0 then (if b = nI 0 then nI 0 else nI 1) else nI 1) := by
  unfold f_la_join
  match o, ho with
  | 0, _ =>
    simp only [show nI (20001 + 0) = 20001 by decide, if_true]
    rfl
  | 1, _ =>
    simp only [show ¬ nI (20001 + 1) = 20001 by decide, show nI (20001 + 1) = 20002 by decide, if_false, if_true, Nat.one_ne_zero]
    rfl
theorem need_1 (cat d : Nat) : 1 ≤ need cat d := by unfold need; omega

section
/-- the class' evaluator over place 40 -/
def vC40 (M : dM) (base : Nat) : Nat → Int32 := fun f => gI M 40 (base + f)
noncomputable def bC40 (slot base : Nat) : Int32 × Int32 × dM → Option ((Int32 × Int32 × dM) ⊕ (Int32 × dM)) := fun s => b_la_valueOf_27_40_11_11 (nI slot) (nI base) s.1 s.2.1 s.2.2
def eC40 (slot base : Nat) (cat d : Nat) (r : List Nat) (D : gD) : Prop :=
  ∀ (t i : Nat) (M : dM) (e : Nat), slot < 21 → base + 17 ≤ 697 → gI M 30 slot = nI e → e ≤ 1000 → i + r.length ≤ e → hold M 28 i r → t + need cat d ≤ 32 →
    ∃ M', comes (bC40 slot base) (nI t, nI i, M) (nI (t + 1), nI (i + r.length), M') ∧ gI M' 31 t = D (vC40 M base) ∧ (∀ j, j < t → gI M' 31 j = gI M 31 j) ∧ chS [31] M M'
theorem vC40_ch {M M' : dM} (h : chS [31] M M') (base : Nat) : vC40 M' base = vC40 M base := by
  funext f
  exact h.I 40 (base + f) rfl
theorem eC40_up {slot base cat cat' d : Nat} {r : List Nat} {D : gD} (h : eC40 slot base cat d r D) (hn : need cat d ≤ need cat' d) : eC40 slot base cat' d r D := fun t i M e h1 h2 h3 h4 h5 h6 h7 => h t i M e h1 h2 h3 h4 h5 h6 (by omega)
theorem stC40_op {slot base t i s e : Nat} {M : dM} {a b : Int32} (hs : slot < 21) (he : gI M 30 slot = nI e) (he2 : e ≤ 1000) (hi : i < e) (hst : gI M 28 i = nI s) (h1 : 20000 < s) (h2 : s < 20008) (ht : t + 2 ≤ 32) (ha : gI M 31 t = a) (hb : gI M 31 (t + 1) = b) : bC40 slot base (nI (t + 2), nI i, M) = some (.inl (nI (t + 1), nI (i + 1), sI M 31 t (f_la_join (nI s) a b))) := by
  show b_la_valueOf_27_40_11_11 (nI slot) (nI base) (nI (t + 2)) (nI i) M = _
  unfold b_la_valueOf_27_40_11_11
  have m1 : nI (t + 2) + -nI 1 = nI (t + 1) := pk_m1 (t + 1)
  simp (disch := omega) only [fa_lit, z_in, z_cl, z_gdT, he, z_le, z_eq, hst, m1, z_sub, Nat.add_sub_cancel, z_add]
  rw [if_neg (by omega), if_pos (by omega), if_neg (by omega), if_neg (by omega)]
  simp only [ha, hb]
theorem stC40_not {slot base t i e : Nat} {M : dM} {a : Int32} (hs : slot < 21) (he : gI M 30 slot = nI e) (he2 : e ≤ 1000) (hi : i < e) (hst : gI M 28 i = nI 20000) (ht : t + 1 ≤ 32) (ha : gI M 31 t = a) : bC40 slot base (nI (t + 1), nI i, M) = some (.inl (nI (t + 1), nI (i + 1), sI M 31 t (if a = nI 0 then nI 1 else nI 0))) := by
  show b_la_valueOf_27_40_11_11 (nI slot) (nI base) (nI (t + 1)) (nI i) M = _
  unfold b_la_valueOf_27_40_11_11
  simp (disch := omega) only [fa_lit, z_in, z_cl, z_gdT, he, z_le, z_eq, hst, z_sub, Nat.add_sub_cancel]
  rw [if_neg (by omega), if_pos (by omega), if_pos trivial, if_neg (by omega)]
  unfold b_la_valueOf_27_40_11_120
  simp (disch := omega) only [fa_lit, z_in, z_cl, z_gdT, ha, z_add]
  by_cases h : a = nI 0
  · simp only [h, if_true]
  · simp only [h, if_false]
theorem stC40_num {slot base t i n e : Nat} {M : dM} (hs : slot < 21) (he : gI M 30 slot = nI e) (he2 : e ≤ 1000) (hi : i < e) (hst : gI M 28 i = nI n) (hn : n < 10000) (ht : t + 1 ≤ 32) : bC40 slot base (nI t, nI i, M) = some (.inl (nI (t + 1), nI (i + 1), sI M 31 t (nI n))) := by
  show b_la_valueOf_27_40_11_11 (nI slot) (nI base) (nI t) (nI i) M = _
  unfold b_la_valueOf_27_40_11_11 b_la_valueOf_27_40_11_75
  simp (disch := omega) only [fa_lit, z_in, z_cl, z_gdT, he, z_le, hst, z_add]
  rw [if_neg (by omega), if_neg (by omega), if_neg (by omega), if_neg (by omega)]
theorem stC40_fact {slot base t i f e : Nat} {M : dM} (hs : slot < 21) (hb : base + 17 ≤ 697) (he : gI M 30 slot = nI e) (he2 : e ≤ 1000) (hi : i < e) (hst : gI M 28 i = nI (10000 + f)) (hf : f < 17) (ht : t + 1 ≤ 32) : bC40 slot base (nI t, nI i, M) = some (.inl (nI (t + 1), nI (i + 1), sI M 31 t (vC40 M base f))) := by
  show b_la_valueOf_27_40_11_11 (nI slot) (nI base) (nI t) (nI i) M = _
  unfold b_la_valueOf_27_40_11_11 b_la_valueOf_27_40_11_75
  have e1 : base + (10000 + f) - 10000 = base + f := by omega
  simp (disch := omega) only [fa_lit, z_in, z_cl, z_gdT, he, z_le, hst, z_add, z_sub, e1]
  rw [if_neg (by omega), if_neg (by omega), if_neg (by omega), if_pos (by omega)]
  rfl
theorem opC40 {slot base cat cat1 cat2 d s : Nat} {r r' : List Nat} {D D' E : gD} (h1 : eC40 slot base cat1 d r D) (h2 : eC40 slot base cat2 d r' D') (n1 : need cat1 d ≤ need cat d) (n2 : need cat2 d + 1 ≤ need cat d) (hs1 : 20000 < s) (hs2 : s < 20008) (hE : ∀ v, f_la_join (nI s) (D v) (D' v) = E v) : eC40 slot base cat d (r ++ (r' ++ [s])) E := by
  intro t i M e hsl hb he he2 hle hh hn
  rw [hold_app, hold_app, hold_one] at hh
  obtain ⟨g1, g2, g3⟩ := hh
  simp only [List.length_append, List.length_cons, List.length_nil] at hle ⊢
  obtain ⟨M1, a1, a2, a3, a4⟩ := h1 t i M e hsl hb he he2 (by omega) g1 (by omega)
  obtain ⟨M2, b1, b2, b3, b4⟩ := h2 (t + 1) (i + r.length) M1 e hsl hb (by rw [a4.I 30 slot rfl]; exact he) he2 (by omega) (hold_of g2 (fun j => a4.I 28 j rfl)) (by omega)
  have c4 := a4.trans b4
  have hn1 := need_1 cat2 d
  have st := stC40_op (base := base) (t := t) (a := D (vC40 M base)) (b := D' (vC40 M base)) (M := M2) (i := i + r.length + r'.length) (s := s) hsl (by rw [c4.I 30 slot rfl]; exact he) he2 (by omega) (by rw [c4.I 28 _ rfl]; exact g3) hs1 hs2 (by omega) (by rw [b3 t (by omega)]; exact a2) (by rw [b2, vC40_ch a4])
  refine ⟨sI M2 31 t (E (vC40 M base)), (a1.trans b1).trans (comes.step ?_), ?_, fun j hj => ?_, c4.sI 31 t (E (vC40 M base)) rfl⟩
  · rw [show t + 1 + 1 = t + 2 from rfl, st, hE, show i + (r.length + (r'.length + (0 + 1))) = i + r.length + r'.length + 1 by omega]
  · rw [gI_sI, if_pos ⟨rfl, rfl⟩]
  · rw [gI_sI, if_neg (by omega), b3 j (by omega), a3 j hj]
theorem evC40 (slot base : Nat) {cat d : Nat} {c r : List Nat} {D : gD} (g : G 17 cat d c r D) : d < 5 ∧ eC40 slot base cat d r D := by
  refine g (fun cat d _ r D => d < 5 ∧ eC40 slot base cat d r D) ⟨?_, ?_, ?_, ?_, ?_, ?_, ?_, ?_, ?_, ?_, ?_, ?_⟩
  · intro d n hd hn
    refine ⟨hd, fun t i M e hsl hb he he2 hle hh hnd => ?_⟩
    have := need_1 4 d
    rw [hold_one] at hh
    simp only [List.length_cons, List.length_nil] at hle ⊢
    refine ⟨sI M 31 t (nI n), comes.step (stC40_num hsl he he2 (by omega) hh hn (by omega)), ?_, fun j hj => ?_, chS_sI M 31 t _ rfl⟩
    · rw [gI_sI, if_pos ⟨rfl, rfl⟩]
    · rw [gI_sI, if_neg (by omega)]
  · intro d f hd hf
    refine ⟨hd, fun t i M e hsl hb he he2 hle hh hnd => ?_⟩
    have := need_1 4 d
    rw [hold_one] at hh
    simp only [List.length_cons, List.length_nil] at hle ⊢
    refine ⟨sI M 31 t (vC40 M base f), comes.step (stC40_fact hsl hb he he2 (by omega) hh hf (by omega)), ?_, fun j hj => ?_, chS_sI M 31 t _ rfl⟩
    · rw [gI_sI, if_pos ⟨rfl, rfl⟩]
    · rw [gI_sI, if_neg (by omega)]
  · rintro d c r D hd ⟨hd1, h⟩
    refine ⟨hd, fun t i M e hsl hb he he2 hle hh hnd => ?_⟩
    have := need_1 4 d
    rw [hold_app, hold_one] at hh
    simp only [List.length_append, List.length_cons, List.length_nil] at hle ⊢
    obtain ⟨M1, a1, a2, a3, a4⟩ := h t i M e hsl hb he he2 (by omega) hh.1 (by unfold need at *; omega)
    have st := stC40_not (base := base) (t := t) (a := D (vC40 M base)) (M := M1) (i := i + r.length) hsl (by rw [a4.I 30 slot rfl]; exact he) he2 (by omega) (by rw [a4.I 28 _ rfl]; exact hh.2) (by omega) a2
    refine ⟨sI M1 31 t (gNot D (vC40 M base)), a1.trans (comes.step st), ?_, fun j hj => ?_, a4.sI 31 t _ rfl⟩
    · rw [gI_sI, if_pos ⟨rfl, rfl⟩]
    · rw [gI_sI, if_neg (by omega), a3 j hj]
  · rintro d c r D hd ⟨hd1, h⟩
    exact ⟨hd, fun t i M e hsl hb he he2 hle hh hnd => h t i M e hsl hb he he2 hle hh (by unfold need at *; omega)⟩
  · rintro d c r D ⟨hd, h⟩
    exact ⟨hd, eC40_up h (by unfold need; omega)⟩
  · rintro d c r D c' r' D' ⟨hd, h⟩ ⟨_, h'⟩
    exact ⟨hd, opC40 h h' (by unfold need; omega) (by unfold need; omega) (by decide) (by decide) (fun v => join_mul _ _)⟩
  · rintro d c r D ⟨hd, h⟩
    exact ⟨hd, eC40_up h (by unfold need; omega)⟩
  · rintro o d c r D c' r' D' ho ⟨hd, h⟩ ⟨_, h'⟩
    exact ⟨hd, opC40 h h' (by unfold need; omega) (by unfold need; omega) (by omega) (by omega) (fun v => join_sum ho _ _)⟩
  · rintro d c r D ⟨hd, h⟩
    exact ⟨hd, eC40_up h (by unfold need; omega)⟩
  · rintro o d c r D c' r' D' ho ⟨hd, h⟩ ⟨_, h'⟩
    exact ⟨hd, opC40 h h' (by unfold need; omega) (by unfold need; omega) (by omega) (by omega) (fun v => join_tst ho _ _)⟩
  · rintro d c r D ⟨hd, h⟩
    exact ⟨hd, eC40_up h (by unfold need; omega)⟩
  · rintro o d c r D c' r' D' ho ⟨hd, h⟩ ⟨_, h'⟩
    exact ⟨hd, opC40 h h' (by unfold need; omega) (by unfold need; omega) (by omega) (by omega) (fun v => join_log ho _ _)⟩
/-- the class works out a line's value -/
theorem c_valueOf40 {M : dM} {slot base a e : Nat} {c r : List Nat} {D : gD} (g : G 17 0 0 c r D) (hs : slot < 21) (hb : base + 17 ≤ 697) (ha : gI M 29 slot = nI a) (he : gI M 30 slot = nI e) (he2 : e ≤ 1000) (hl : a + r.length = e) (hh : hold M 28 a r) : ∃ M', f_la_valueOf_27_40 (nI slot) (nI base) M = some (D (vC40 M base), M') ∧ chS [31] M M' := by
  obtain ⟨M', h1, h2, h3, h4⟩ := (evC40 slot base g).2 0 a M e hs hb he he2 (by omega) hh (by decide)
  refine ⟨M', ?_, h4⟩
  have h5 := h1 (nI 1, M') (lpc_out (by
    show b_la_valueOf_27_40_11_11 (nI slot) (nI base) (nI (0 + 1)) (nI (a + r.length)) M' = _
    unfold b_la_valueOf_27_40_11_11
    simp (disch := omega) only [fa_lit, z_in, z_cl, z_gdT, h4.I 30 slot rfl, he, z_le]
    rw [if_pos (by omega)]))
  unfold f_la_valueOf_27_40 l_la_valueOf_27_40_11
  have h6 : lpc (fun s : Int32 × Int32 × dM => b_la_valueOf_27_40_11_11 (nI slot) (nI base) s.1 s.2.1 s.2.2) (nI 0, nI a, M) = some (nI 1, M') := h5
  simp (disch := omega) only [fa_lit, z_in, z_cl, z_gdT, ha, h6, Option.bind_some, z_le]
  rw [if_neg (by omega), h2]
end

section
/-- the class' evaluator over place 43 -/
def vC43 (M : dM) (base : Nat) : Nat → Int32 := fun f => gI M 43 (base + f)
noncomputable def bC43 (slot base : Nat) : Int32 × Int32 × dM → Option ((Int32 × Int32 × dM) ⊕ (Int32 × dM)) := fun s => b_la_valueOf_27_43_11_11 (nI slot) (nI base) s.1 s.2.1 s.2.2
def eC43 (slot base : Nat) (cat d : Nat) (r : List Nat) (D : gD) : Prop :=
  ∀ (t i : Nat) (M : dM) (e : Nat), slot < 21 → base + 8 ≤ 8 → gI M 30 slot = nI e → e ≤ 1000 → i + r.length ≤ e → hold M 28 i r → t + need cat d ≤ 32 →
    ∃ M', comes (bC43 slot base) (nI t, nI i, M) (nI (t + 1), nI (i + r.length), M') ∧ gI M' 31 t = D (vC43 M base) ∧ (∀ j, j < t → gI M' 31 j = gI M 31 j) ∧ chS [31] M M'
theorem vC43_ch {M M' : dM} (h : chS [31] M M') (base : Nat) : vC43 M' base = vC43 M base := by
  funext f
  exact h.I 43 (base + f) rfl
theorem eC43_up {slot base cat cat' d : Nat} {r : List Nat} {D : gD} (h : eC43 slot base cat d r D) (hn : need cat d ≤ need cat' d) : eC43 slot base cat' d r D := fun t i M e h1 h2 h3 h4 h5 h6 h7 => h t i M e h1 h2 h3 h4 h5 h6 (by omega)
theorem stC43_op {slot base t i s e : Nat} {M : dM} {a b : Int32} (hs : slot < 21) (he : gI M 30 slot = nI e) (he2 : e ≤ 1000) (hi : i < e) (hst : gI M 28 i = nI s) (h1 : 20000 < s) (h2 : s < 20008) (ht : t + 2 ≤ 32) (ha : gI M 31 t = a) (hb : gI M 31 (t + 1) = b) : bC43 slot base (nI (t + 2), nI i, M) = some (.inl (nI (t + 1), nI (i + 1), sI M 31 t (f_la_join (nI s) a b))) := by
  show b_la_valueOf_27_43_11_11 (nI slot) (nI base) (nI (t + 2)) (nI i) M = _
  unfold b_la_valueOf_27_43_11_11
  have m1 : nI (t + 2) + -nI 1 = nI (t + 1) := pk_m1 (t + 1)
  simp (disch := omega) only [fa_lit, z_in, z_cl, z_gdT, he, z_le, z_eq, hst, m1, z_sub, Nat.add_sub_cancel, z_add]
  rw [if_neg (by omega), if_pos (by omega), if_neg (by omega), if_neg (by omega)]
  simp only [ha, hb]
theorem stC43_not {slot base t i e : Nat} {M : dM} {a : Int32} (hs : slot < 21) (he : gI M 30 slot = nI e) (he2 : e ≤ 1000) (hi : i < e) (hst : gI M 28 i = nI 20000) (ht : t + 1 ≤ 32) (ha : gI M 31 t = a) : bC43 slot base (nI (t + 1), nI i, M) = some (.inl (nI (t + 1), nI (i + 1), sI M 31 t (if a = nI 0 then nI 1 else nI 0))) := by
  show b_la_valueOf_27_43_11_11 (nI slot) (nI base) (nI (t + 1)) (nI i) M = _
  unfold b_la_valueOf_27_43_11_11
  simp (disch := omega) only [fa_lit, z_in, z_cl, z_gdT, he, z_le, z_eq, hst, z_sub, Nat.add_sub_cancel]
  rw [if_neg (by omega), if_pos (by omega), if_pos trivial, if_neg (by omega)]
  unfold b_la_valueOf_27_43_11_120
  simp (disch := omega) only [fa_lit, z_in, z_cl, z_gdT, ha, z_add]
  by_cases h : a = nI 0
  · simp only [h, if_true]
  · simp only [h, if_false]
theorem stC43_num {slot base t i n e : Nat} {M : dM} (hs : slot < 21) (he : gI M 30 slot = nI e) (he2 : e ≤ 1000) (hi : i < e) (hst : gI M 28 i = nI n) (hn : n < 10000) (ht : t + 1 ≤ 32) : bC43 slot base (nI t, nI i, M) = some (.inl (nI (t + 1), nI (i + 1), sI M 31 t (nI n))) := by
  show b_la_valueOf_27_43_11_11 (nI slot) (nI base) (nI t) (nI i) M = _
  unfold b_la_valueOf_27_43_11_11 b_la_valueOf_27_43_11_75
  simp (disch := omega) only [fa_lit, z_in, z_cl, z_gdT, he, z_le, hst, z_add]
  rw [if_neg (by omega), if_neg (by omega), if_neg (by omega), if_neg (by omega)]
theorem stC43_fact {slot base t i f e : Nat} {M : dM} (hs : slot < 21) (hb : base + 8 ≤ 8) (he : gI M 30 slot = nI e) (he2 : e ≤ 1000) (hi : i < e) (hst : gI M 28 i = nI (10000 + f)) (hf : f < 8) (ht : t + 1 ≤ 32) : bC43 slot base (nI t, nI i, M) = some (.inl (nI (t + 1), nI (i + 1), sI M 31 t (vC43 M base f))) := by
  show b_la_valueOf_27_43_11_11 (nI slot) (nI base) (nI t) (nI i) M = _
  unfold b_la_valueOf_27_43_11_11 b_la_valueOf_27_43_11_75
  have e1 : base + (10000 + f) - 10000 = base + f := by omega
  simp (disch := omega) only [fa_lit, z_in, z_cl, z_gdT, he, z_le, hst, z_add, z_sub, e1]
  rw [if_neg (by omega), if_neg (by omega), if_neg (by omega), if_pos (by omega)]
  rfl
theorem opC43 {slot base cat cat1 cat2 d s : Nat} {r r' : List Nat} {D D' E : gD} (h1 : eC43 slot base cat1 d r D) (h2 : eC43 slot base cat2 d r' D') (n1 : need cat1 d ≤ need cat d) (n2 : need cat2 d + 1 ≤ need cat d) (hs1 : 20000 < s) (hs2 : s < 20008) (hE : ∀ v, f_la_join (nI s) (D v) (D' v) = E v) : eC43 slot base cat d (r ++ (r' ++ [s])) E := by
  intro t i M e hsl hb he he2 hle hh hn
  rw [hold_app, hold_app, hold_one] at hh
  obtain ⟨g1, g2, g3⟩ := hh
  simp only [List.length_append, List.length_cons, List.length_nil] at hle ⊢
  obtain ⟨M1, a1, a2, a3, a4⟩ := h1 t i M e hsl hb he he2 (by omega) g1 (by omega)
  obtain ⟨M2, b1, b2, b3, b4⟩ := h2 (t + 1) (i + r.length) M1 e hsl hb (by rw [a4.I 30 slot rfl]; exact he) he2 (by omega) (hold_of g2 (fun j => a4.I 28 j rfl)) (by omega)
  have c4 := a4.trans b4
  have hn1 := need_1 cat2 d
  have st := stC43_op (base := base) (t := t) (a := D (vC43 M base)) (b := D' (vC43 M base)) (M := M2) (i := i + r.length + r'.length) (s := s) hsl (by rw [c4.I 30 slot rfl]; exact he) he2 (by omega) (by rw [c4.I 28 _ rfl]; exact g3) hs1 hs2 (by omega) (by rw [b3 t (by omega)]; exact a2) (by rw [b2, vC43_ch a4])
  refine ⟨sI M2 31 t (E (vC43 M base)), (a1.trans b1).trans (comes.step ?_), ?_, fun j hj => ?_, c4.sI 31 t (E (vC43 M base)) rfl⟩
  · rw [show t + 1 + 1 = t + 2 from rfl, st, hE, show i + (r.length + (r'.length + (0 + 1))) = i + r.length + r'.length + 1 by omega]
  · rw [gI_sI, if_pos ⟨rfl, rfl⟩]
  · rw [gI_sI, if_neg (by omega), b3 j (by omega), a3 j hj]
theorem evC43 (slot base : Nat) {cat d : Nat} {c r : List Nat} {D : gD} (g : G 8 cat d c r D) : d < 5 ∧ eC43 slot base cat d r D := by
  refine g (fun cat d _ r D => d < 5 ∧ eC43 slot base cat d r D) ⟨?_, ?_, ?_, ?_, ?_, ?_, ?_, ?_, ?_, ?_, ?_, ?_⟩
  · intro d n hd hn
    refine ⟨hd, fun t i M e hsl hb he he2 hle hh hnd => ?_⟩
    have := need_1 4 d
    rw [hold_one] at hh
    simp only [List.length_cons, List.length_nil] at hle ⊢
    refine ⟨sI M 31 t (nI n), comes.step (stC43_num hsl he he2 (by omega) hh hn (by omega)), ?_, fun j hj => ?_, chS_sI M 31 t _ rfl⟩
    · rw [gI_sI, if_pos ⟨rfl, rfl⟩]
    · rw [gI_sI, if_neg (by omega)]
  · intro d f hd hf
    refine ⟨hd, fun t i M e hsl hb he he2 hle hh hnd => ?_⟩
    have := need_1 4 d
    rw [hold_one] at hh
    simp only [List.length_cons, List.length_nil] at hle ⊢
    refine ⟨sI M 31 t (vC43 M base f), comes.step (stC43_fact hsl hb he he2 (by omega) hh hf (by omega)), ?_, fun j hj => ?_, chS_sI M 31 t _ rfl⟩
    · rw [gI_sI, if_pos ⟨rfl, rfl⟩]
    · rw [gI_sI, if_neg (by omega)]
  · rintro d c r D hd ⟨hd1, h⟩
    refine ⟨hd, fun t i M e hsl hb he he2 hle hh hnd => ?_⟩
    have := need_1 4 d
    rw [hold_app, hold_one] at hh
    simp only [List.length_append, List.length_cons, List.length_nil] at hle ⊢
    obtain ⟨M1, a1, a2, a3, a4⟩ := h t i M e hsl hb he he2 (by omega) hh.1 (by unfold need at *; omega)
    have st := stC43_not (base := base) (t := t) (a := D (vC43 M base)) (M := M1) (i := i + r.length) hsl (by rw [a4.I 30 slot rfl]; exact he) he2 (by omega) (by rw [a4.I 28 _ rfl]; exact hh.2) (by omega) a2
    refine ⟨sI M1 31 t (gNot D (vC43 M base)), a1.trans (comes.step st), ?_, fun j hj => ?_, a4.sI 31 t _ rfl⟩
    · rw [gI_sI, if_pos ⟨rfl, rfl⟩]
    · rw [gI_sI, if_neg (by omega), a3 j hj]
  · rintro d c r D hd ⟨hd1, h⟩
    exact ⟨hd, fun t i M e hsl hb he he2 hle hh hnd => h t i M e hsl hb he he2 hle hh (by unfold need at *; omega)⟩
  · rintro d c r D ⟨hd, h⟩
    exact ⟨hd, eC43_up h (by unfold need; omega)⟩
  · rintro d c r D c' r' D' ⟨hd, h⟩ ⟨_, h'⟩
    exact ⟨hd, opC43 h h' (by unfold need; omega) (by unfold need; omega) (by decide) (by decide) (fun v => join_mul _ _)⟩
  · rintro d c r D ⟨hd, h⟩
    exact ⟨hd, eC43_up h (by unfold need; omega)⟩
  · rintro o d c r D c' r' D' ho ⟨hd, h⟩ ⟨_, h'⟩
    exact ⟨hd, opC43 h h' (by unfold need; omega) (by unfold need; omega) (by omega) (by omega) (fun v => join_sum ho _ _)⟩
  · rintro d c r D ⟨hd, h⟩
    exact ⟨hd, eC43_up h (by unfold need; omega)⟩
  · rintro o d c r D c' r' D' ho ⟨hd, h⟩ ⟨_, h'⟩
    exact ⟨hd, opC43 h h' (by unfold need; omega) (by unfold need; omega) (by omega) (by omega) (fun v => join_tst ho _ _)⟩
  · rintro d c r D ⟨hd, h⟩
    exact ⟨hd, eC43_up h (by unfold need; omega)⟩
  · rintro o d c r D c' r' D' ho ⟨hd, h⟩ ⟨_, h'⟩
    exact ⟨hd, opC43 h h' (by unfold need; omega) (by unfold need; omega) (by omega) (by omega) (fun v => join_log ho _ _)⟩
/-- the class works out a line's value -/
theorem c_valueOf43 {M : dM} {slot base a e : Nat} {c r : List Nat} {D : gD} (g : G 8 0 0 c r D) (hs : slot < 21) (hb : base + 8 ≤ 8) (ha : gI M 29 slot = nI a) (he : gI M 30 slot = nI e) (he2 : e ≤ 1000) (hl : a + r.length = e) (hh : hold M 28 a r) : ∃ M', f_la_valueOf_27_43 (nI slot) (nI base) M = some (D (vC43 M base), M') ∧ chS [31] M M' := by
  obtain ⟨M', h1, h2, h3, h4⟩ := (evC43 slot base g).2 0 a M e hs hb he he2 (by omega) hh (by decide)
  refine ⟨M', ?_, h4⟩
  have h5 := h1 (nI 1, M') (lpc_out (by
    show b_la_valueOf_27_43_11_11 (nI slot) (nI base) (nI (0 + 1)) (nI (a + r.length)) M' = _
    unfold b_la_valueOf_27_43_11_11
    simp (disch := omega) only [fa_lit, z_in, z_cl, z_gdT, h4.I 30 slot rfl, he, z_le]
    rw [if_pos (by omega)]))
  unfold f_la_valueOf_27_43 l_la_valueOf_27_43_11
  have h6 : lpc (fun s : Int32 × Int32 × dM => b_la_valueOf_27_43_11_11 (nI slot) (nI base) s.1 s.2.1 s.2.2) (nI 0, nI a, M) = some (nI 1, M') := h5
  simp (disch := omega) only [fa_lit, z_in, z_cl, z_gdT, ha, h6, Option.bind_some, z_le]
  rw [if_neg (by omega), h2]
end
