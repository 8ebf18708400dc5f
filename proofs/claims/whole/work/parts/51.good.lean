/-! ===== for how many claims digging is good ===== -/
def kpB (A : sA) (du a b f : Nat) : Bool := du.testBit f && (decide (A 74 f = a) || decide (A 74 f = b))
def knF (A : sA) (du a b : Nat) : Nat := bsN (kpB A du a b) (A 66 9)
theorem knF_bit (A : sA) (du a b f : Nat) : (knF A du a b).testBit f = (decide (f < A 66 9) && kpB A du a b f) := bsN_bit _ f _
theorem knF_du {A : sA} {du a b f : Nat} (h : (knF A du a b).testBit f = true) : du.testBit f = true := by
  rw [knF_bit, Bool.and_eq_true] at h
  unfold kpB at h
  rw [Bool.and_eq_true] at h
  exact h.2.1
def GD (A : sA) (du kn c : Nat) : Prop := ∀ o, (∀ b, o.testBit b = true → kn.testBit b = true) → (seO A (andn du kn) o).testBit c = true
noncomputable def gdF (A : sA) (du kn : Nat) : Nat := bsN (fun c => @decide (GD A du kn c) (Classical.propDecidable _)) 12
theorem gdF_bit (A : sA) (du kn c : Nat) : (gdF A du kn).testBit c = true ↔ c < 12 ∧ GD A du kn c := by
  unfold gdF
  rw [bsN_bit, Bool.and_eq_true, decide_eq_true_iff, @decide_eq_true_iff _ (Classical.propDecidable _)]
def gdN (f : Nat → Nat) : Nat → Nat
  | 0 => 4095
  | n + 1 => gdN f n &&& f n
theorem gdN_bit (f : Nat → Nat) (c : Nat) : ∀ n, (gdN f n).testBit c = true ↔ c < 12 ∧ ∀ i, i < n → (f i).testBit c = true
  | 0 => by
    rw [show gdN f 0 = 2 ^ 12 - 1 from rfl, Nat.testBit_two_pow_sub_one, decide_eq_true_iff]
    exact ⟨fun h => ⟨h, fun i hi => absurd hi (Nat.not_lt_zero _)⟩, fun h => h.1⟩
  | n + 1 => by
    have ih := gdN_bit f c n
    show (gdN f n &&& f n).testBit c = true ↔ _
    rw [Nat.testBit_and, Bool.and_eq_true, ih]
    constructor
    · rintro ⟨⟨h1, h2⟩, h3⟩
      refine ⟨h1, fun i hi => ?_⟩
      by_cases e : i = n
      · rw [e]; exact h3
      · exact h2 i (by omega)
    · rintro ⟨h1, h2⟩
      exact ⟨⟨h1, fun i hi => h2 i (by omega)⟩, h2 n (by omega)⟩
theorem gdN_lt (f : Nat → Nat) : ∀ n, gdN f n < 4096
  | 0 => by show 4095 < 4096; decide
  | n + 1 => Nat.lt_of_le_of_lt Nat.and_le_left (gdN_lt f n)
theorem gd_same {x y : Nat} (hx : x < 4096) (hy : y < 4096) (h : ∀ c, c < 12 → (x.testBit c = true ↔ y.testBit c = true)) : x = y := nat_bits fun c => by
  by_cases hc : c < 12
  · rw [Bool.eq_iff_iff]; exact h c hc
  · rw [Nat.testBit_lt_two_pow (Nat.lt_of_lt_of_le (show x < 2 ^ 12 from hx) (Nat.pow_le_pow_right (by decide) (show 12 ≤ c by omega))), Nat.testBit_lt_two_pow (Nat.lt_of_lt_of_le (show y < 2 ^ 12 from hy) (Nat.pow_le_pow_right (by decide) (show 12 ≤ c by omega)))]
theorem gdF_lt (A : sA) (du kn : Nat) : gdF A du kn < 4096 := bsN_lt _ 12
theorem seO_used {A : sA} {r o o' : Nat} (h : ∀ b, (usF A).testBit b = true → o'.testBit b = o.testBit b) : seO A r o = seO A r o' := by
  unfold seO
  rw [swO_used h, swO_used (out := r ||| o) (out' := r ||| o') (fun b hb => by rw [Nat.testBit_or, Nat.testBit_or, h b hb])]
theorem seO_base {A : sA} {du r o c : Nat} (hr : ∀ b, (r ||| o).testBit b = true → du.testBit b = true) (h : (seO A du 0).testBit c = true) : (seO A r o).testBit c = true := by
  rw [seO_bit, Bool.or_eq_true, Bool.and_eq_true] at h
  rw [seO_bit, Bool.or_eq_true, Bool.and_eq_true]
  rcases h with h | ⟨h1, h2⟩
  · exact Or.inl (swO_mono (fun b hb => by rw [Nat.testBit_or, hr b hb]; rfl) h)
  · refine Or.inr ⟨h1, ?_⟩
    cases h3 : (swO A o).testBit c with
    | false => rfl
    | true =>
      have := swO_mono (out := o) (out' := 0) (fun b hb => by rw [Nat.zero_testBit] at hb; cases hb) h3
      rw [this] at h2; cases h2
theorem du_parts {A : sA} {du kn s oc : Nat} (hs : ∀ b, b < A 66 9 → s.testBit b = !du.testBit b) (hk : ∀ b, kn.testBit b = true → du.testBit b = true) (ho : ∀ b, oc.testBit b = true → kn.testBit b = true) : (∀ b, b < A 66 9 → (s ||| oc).testBit b = !(andn du kn ||| andn kn oc).testBit b) ∧ ∀ b, b < A 66 9 → ((s ||| oc) ||| andn du kn).testBit b = !(andn kn oc).testBit b := by
  have go : ∀ b, b < A 66 9 → (s ||| oc).testBit b = !(andn du kn ||| andn kn oc).testBit b ∧ ((s ||| oc) ||| andn du kn).testBit b = !(andn kn oc).testBit b := fun b hb => by
    have h1 := hs b hb
    have h2 := hk b
    have h3 := ho b
    rw [Nat.testBit_or, Nat.testBit_or, Nat.testBit_or, Nat.testBit_or, andn_bit, andn_bit, h1]
    cases c1 : du.testBit b <;> cases c2 : kn.testBit b <;> cases c3 : oc.testBit b <;> simp_all
  exact ⟨fun b hb => (go b hb).1, fun b hb => (go b hb).2⟩
theorem c_good93 {A : sA} {M : dM} (w : wfA A) (rc : rcA A M) {du kn s : Nat} (hs : ∀ b, b < A 66 9 → s.testBit b = !du.testBit b) (hk : ∀ b, kn.testBit b = true → du.testBit b = true) (hlt : kn < 2 ^ 40) (h10 : pc (kn &&& usF A) 40 ≤ 10) : ∀ m i, i + m = 2 ^ pc (kn &&& usF A) 40 → l_cl_goodFor_93 (lN s) (lN (andn du kn)) (lN (kn &&& usF A)) (nI (andn 4095 (scL A s du))) (nI (gdN (fun i => scL A (s ||| ocS (kn &&& usF A) i) (andn du kn)) i)) (lN (ocS (kn &&& usF A) i)) (nI (2 ^ pc (kn &&& usF A) 40)) (nI i) M = some (nI (pc (gdF A du kn) 12)) := by
  generalize hk' : kn &&& usF A = ask at h10
  have ask_kn : ∀ b, ask.testBit b = true → kn.testBit b = true := fun b h => by
    rw [← hk', Nat.testBit_and, Bool.and_eq_true] at h; exact h.1
  have ask_lt : ask < 2 ^ 40 := by rw [← hk']; exact Nat.lt_of_le_of_lt Nat.and_le_left hlt
  have h2 : (2 : Nat) ^ pc ask 40 ≤ 2 ^ 10 := Nat.pow_le_pow_right (by decide) h10
  have ef : ∀ i, scL A (s ||| ocS ask i) (andn du kn) = seO A (andn du kn) (andn kn (ocS ask i)) := fun i => by
    obtain ⟨p1, p2⟩ := du_parts (A := A) (oc := ocS ask i) hs hk (fun b hb => ask_kn b (ocS_sub ask i b hb))
    exact sc_se w p1 p2
  have ebase : scL A s du = seO A du 0 := sc_se w (fun b hb => by rw [Nat.or_zero]; exact hs b hb) (fun b hb => by rw [Nat.testBit_or, hs b hb, Nat.zero_testBit]; cases du.testBit b <;> rfl)
  have full : gdN (fun i => scL A (s ||| ocS ask i) (andn du kn)) (2 ^ pc ask 40) = gdF A du kn := by
    refine gd_same (gdN_lt _ _) (gdF_lt _ _ _) (fun c hc => ?_)
    rw [gdN_bit, gdF_bit]
    constructor
    · rintro ⟨h1, h3⟩
      refine ⟨h1, fun o ho => ?_⟩
      obtain ⟨i, i1, i2⟩ := ocS_all (m := ask) (z := andn ask o) ask_lt (fun b hb => by rw [andn_bit, Bool.and_eq_true] at hb; exact hb.1)
      have h4 : (scL A (s ||| ocS ask i) (andn du kn)).testBit c = true := h3 i i1
      rw [ef, i2] at h4
      rw [seO_used (o' := andn kn (andn ask o))]
      · exact h4
      · intro b hb
        have hak : ask.testBit b = kn.testBit b := by rw [← hk', Nat.testBit_and, hb, Bool.and_true]
        rw [andn_bit, andn_bit, hak]
        have := ho b
        cases c1 : kn.testBit b <;> cases c2 : o.testBit b <;> simp_all
    · rintro ⟨h1, h3⟩
      refine ⟨h1, fun i _ => ?_⟩
      show (scL A (s ||| ocS ask i) (andn du kn)).testBit c = true
      rw [ef]
      exact h3 _ (fun b hb => by rw [andn_bit, Bool.and_eq_true] at hb; exact hb.1)
  have fin : ∀ n, gdN (fun i => scL A (s ||| ocS ask i) (andn du kn)) n = gdF A du kn → b_cl_goodFor_93_140 (nI (gdN (fun i => scL A (s ||| ocS ask i) (andn du kn)) n)) M = some (.inr (nI (pc (gdF A du kn) 12))) := fun n hn => by
    have hl := gdF_lt A du kn
    unfold b_cl_goodFor_93_140
    rw [hn, z_bcI (by omega), pc_ext (m := 12) hl (by decide)]
  intro m
  induction m with
  | zero =>
    intro i hi
    have e : i = 2 ^ pc ask 40 := by omega
    unfold l_cl_goodFor_93
    refine lpc_out ?_
    show b_cl_goodFor_93_93 (lN s) (lN (andn du kn)) (lN ask) (nI (andn 4095 (scL A s du))) (nI (gdN _ i)) (lN (ocS ask i)) (nI (2 ^ pc ask 40)) (nI i) M = _
    unfold b_cl_goodFor_93_93
    rw [if_pos (z_yle (by omega) (by omega) (by omega))]
    exact fin i (by rw [e]; exact full)
  | succ m ih =>
    intro i hi
    have hg := gdN_lt (fun i => scL A (s ||| ocS ask i) (andn du kn)) i
    have hlt2 : gdN (fun i => scL A (s ||| ocS ask i) (andn du kn)) i &&& andn 4095 (scL A s du) < 4096 := Nat.lt_of_le_of_lt Nat.and_le_left hg
    unfold l_cl_goodFor_93 at ih ⊢
    by_cases c : gdN (fun i => scL A (s ||| ocS ask i) (andn du kn)) i &&& andn 4095 (scL A s du) = 0
    · refine lpc_out ?_
      show b_cl_goodFor_93_93 (lN s) (lN (andn du kn)) (lN ask) (nI (andn 4095 (scL A s du))) (nI (gdN _ i)) (lN (ocS ask i)) (nI (2 ^ pc ask 40)) (nI i) M = _
      unfold b_cl_goodFor_93_93
      rw [if_neg (z_nle (by omega) (by omega) (by omega)), z_and, if_pos (show nI _ = (0 : Int32) from by rw [c]; rfl)]
      refine fin i ?_
      rw [← full]
      refine gd_same hg (gdN_lt _ _) (fun k hk12 => ?_)
      constructor
      · intro h
        rw [gdN_bit]
        refine ⟨hk12, fun j _ => ?_⟩
        have hz : (gdN (fun i => scL A (s ||| ocS ask i) (andn du kn)) i &&& andn 4095 (scL A s du)).testBit k = false := by rw [c]; exact Nat.zero_testBit k
        rw [Nat.testBit_and, h, Bool.true_and, andn_bit, show (4095 : Nat) = 2 ^ 12 - 1 from rfl, Nat.testBit_two_pow_sub_one, decide_eq_true hk12, Bool.true_and] at hz
        have hb : (seO A du 0).testBit k = true := by
          rw [← ebase]
          cases hq : (scL A s du).testBit k with
          | true => rfl
          | false => rw [hq] at hz; cases hz
        show (scL A (s ||| ocS ask j) (andn du kn)).testBit k = true
        rw [ef]
        refine seO_base (fun b hb2 => ?_) hb
        rw [Nat.testBit_or, Bool.or_eq_true, andn_bit, andn_bit, Bool.and_eq_true, Bool.and_eq_true] at hb2
        rcases hb2 with hb2 | hb2
        · exact hb2.1
        · exact hk b hb2.1
      · intro h
        rw [gdN_bit] at h ⊢
        exact ⟨h.1, fun j hj => h.2 j (by omega)⟩
    · refine lpc_step (s' := (nI (gdN (fun i => scL A (s ||| ocS ask i) (andn du kn)) (i + 1)), lN (ocS ask (i + 1)), nI (i + 1))) ?_ (ih (i + 1) (by omega))
      show b_cl_goodFor_93_93 (lN s) (lN (andn du kn)) (lN ask) (nI (andn 4095 (scL A s du))) (nI (gdN _ i)) (lN (ocS ask i)) (nI (2 ^ pc ask 40)) (nI i) M = _
      unfold b_cl_goodFor_93_93
      rw [if_neg (z_nle (by omega) (by omega) (by omega)), z_and, if_neg (show ¬ nI _ = (0 : Int32) from z_ne (b := 0) (by omega) (by omega) c), fb_orL, c_settledWhen w rc, Option.bind_some, z_and, z_next ask_lt (ocS_sub ask i), show nI i + 1 = nI (i + 1) from z_add i 1]
      rfl
def sbF (a b : Nat) : Nat := 2 ^ a ||| 2 ^ b
theorem sbF_bit (a b i : Nat) : (sbF a b).testBit i = (decide (i = a) || decide (i = b)) := by
  unfold sbF
  rw [Nat.testBit_or, Nat.testBit_two_pow, Nat.testBit_two_pow]
  have e1 : decide (a = i) = decide (i = a) := decide_eq_decide.mpr ⟨Eq.symm, Eq.symm⟩
  have e2 : decide (b = i) = decide (i = b) := decide_eq_decide.mpr ⟨Eq.symm, Eq.symm⟩
  rw [e1, e2]
noncomputable def gvF (A : sA) (du a b : Nat) : Int32 := if pc (knF A du a b) 40 ≤ 10 then nI (pc (gdF A du (knF A du a b)) 12) else -1
theorem c_allF {A : sA} {M : dM} (w : wfA A) (rc : rcA A M) : f_to_allFinds M = lN (allF A) := c_allFinds rc.2.2.1.1 (by have := w.2.2.1.1; omega)
theorem c_goodFor {A : sA} {M : dM} (w : wfA A) (rc : rcA A M) {du a b : Nat} (hdu : du < 2 ^ A 66 9) (ha : a < 8) (hb : b < 8) : f_cl_goodFor (nI (sbF a b)) (lN du) M = some (gvF A du a b) := by
  have hn := w.2.2.1.1
  have h40 : (2 : Nat) ^ A 66 9 ≤ 2 ^ 40 := Nat.pow_le_pow_right (by decide) hn
  have hsb : sbF a b < 2 ^ 8 := Nat.or_lt_two_pow (Nat.pow_lt_pow_right (by decide) ha) (Nat.pow_lt_pow_right (by decide) hb)
  have hkn : knF A du a b < 2 ^ 40 := Nat.lt_of_lt_of_le (bsN_lt _ _) h40
  have ek : du &&& bsN (fun f => (sbF a b).testBit (A 74 f)) (A 66 9) = knF A du a b := nat_bits fun f => by
    rw [Nat.testBit_and, bsN_bit, knF_bit, sbF_bit]
    unfold kpB
    cases du.testBit f <;> cases decide (f < A 66 9) <;> rfl
  have hask : pc (knF A du a b &&& usF A) 40 ≤ pc (knF A du a b) 40 := fb_ct_sub (fun k _ h => by rw [Nat.testBit_and, Bool.and_eq_true] at h; exact h.1)
  have hp40 := pc_le (knF A du a b) 40
  unfold f_cl_goodFor gvF
  rw [c_findsAt w rc hsb, Option.bind_some, fb_andL, ek, z_bcL hkn]
  by_cases c : pc (knF A du a b) 40 ≤ 10
  · have es : ∀ x, x < A 66 9 → (andn (allF A) du).testBit x = !du.testBit x := fun x hx => by rw [andn_bit, allF_bit, decide_eq_true hx, Bool.true_and]
    have hr : andn du (knF A du a b) = andn du (knF A du a b) := rfl
    rw [if_pos (show nI _ ≤ (10 : Int32) from z_yle (b := 10) (by omega) (by omega) c), if_pos c, c_used w rc, Option.bind_some, c_allF w rc, z_andnL, z_andnL, c_settledWhen w rc, Option.bind_some, fb_andL, z_bcL (Nat.lt_of_le_of_lt Nat.and_le_left hkn), z_1shl (by omega), show (4095 : Int32) = nI 4095 from rfl, z_andn]
    have h := c_good93 w rc (s := andn (allF A) du) es (fun x hx => knF_du hx) hkn (by omega) (2 ^ pc (knF A du a b &&& usF A) 40) 0 (by omega)
    have h' : l_cl_goodFor_93 (lN (andn (allF A) du)) (lN (andn du (knF A du a b))) (lN (knF A du a b &&& usF A)) (nI (andn 4095 (scL A (andn (allF A) du) du))) (nI 4095) 0 (nI (2 ^ pc (knF A du a b &&& usF A) 40)) 0 M = some (nI (pc (gdF A du (knF A du a b)) 12)) := h
    rw [h']
    rfl
  · rw [if_neg (show ¬ nI _ ≤ (10 : Int32) from z_nle (b := 10) (by omega) (by omega) (by omega)), if_neg c]
