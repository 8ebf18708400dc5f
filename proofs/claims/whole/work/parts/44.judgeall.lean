/-! ===== twins, all finds judged ===== -/
def twB (A : sA) (far f : Nat) : Nat → Nat
  | 0 => 0
  | n + 1 => if tw A far f n = true then twB A far f n ||| 2 ^ n else twB A far f n
theorem twB_bit (A : sA) (far f b : Nat) : ∀ n, (twB A far f n).testBit b = (decide (b < n) && tw A far f b)
  | 0 => by simp [twB]
  | n + 1 => by
    have ih := twB_bit A far f b n
    show (if tw A far f n = true then twB A far f n ||| 2 ^ n else twB A far f n).testBit b = _
    by_cases c : tw A far f n = true
    · rw [if_pos c, fb_bit_set, ih]
      by_cases e : b = n
      · subst e; simp [c]
      · have e1 : decide (b < n + 1) = decide (b < n) := decide_eq_decide.mpr (by omega)
        rw [e1]; simp [e]
    · rw [if_neg c, ih]
      by_cases e : b = n
      · subst e; simp [c]
      · have e1 : decide (b < n + 1) = decide (b < n) := decide_eq_decide.mpr (by omega)
        rw [e1]
theorem twB_lt (A : sA) (far f : Nat) : ∀ n, twB A far f n < 2 ^ n
  | 0 => by show 0 < 2 ^ 0; decide
  | n + 1 => by
    have ih := twB_lt A far f n
    have h2 : (2 : Nat) ^ (n + 1) = 2 ^ n * 2 := Nat.pow_succ ..
    show (if tw A far f n = true then twB A far f n ||| 2 ^ n else twB A far f n) < _
    split
    · exact Nat.or_lt_two_pow (by omega) (by rw [h2]; have := Nat.two_pow_pos n; omega)
    · omega
theorem twB_pc {A : sA} (w : wfF A) (far f : Nat) : pc (twB A far f (A 66 9)) 40 = twF A far f := by
  have hn := w.1
  rw [pc_ext (twB_lt A far f (A 66 9)) hn]
  exact fb_ct_cong (fun k hk => by
    show (twB A far f (A 66 9)).testBit k = _
    rw [twB_bit, decide_eq_true hk, Bool.true_and])
theorem tw_alt {A : sA} (w : wfA A) {far f g : Nat} (hf : f < A 66 9) (hg : g < A 66 9) : tw A far f g = (decide (A 80 f = A 80 g) && decide (far < A 68 (8 * A 74 f + A 74 g))) := by
  unfold tw
  by_cases c : f = g
  · subst c
    obtain ⟨q1, _⟩ := w.2.2.1.2.1 f hf
    have := (w.2.1.2 (A 74 f) q1).1
    rw [show 8 * A 74 f + A 74 f = 9 * A 74 f by omega, this, decide_eq_false (show ¬ far < 0 by omega), Bool.and_false, Bool.and_false]
  · rw [decide_eq_true c, Bool.true_and]
theorem z_1shlL {k : Nat} (hk : k < 64) : (1 : Int64) <<< ((nI k).toInt64 &&& 63) = lN (2 ^ k) := by
  have := wb_shl 1 hk
  rw [Nat.one_mul] at this
  exact this
theorem c_twI {A : sA} {far : Nat} (w : wfA A) (hfar : far ≤ 999) {i : Nat} (hi : i < A 66 9) : ∀ (m k : Nat) (M : dM), k + m = A 66 9 → rcA A M → gI M 27 7 = nI far → gJ M 42 i = lN (twB A far i k) → ∃ M', l_ju_pairTwins_22 (nI i) (nI k) M = some M' ∧ gJ M' 42 i = lN (twB A far i (A 66 9)) ∧ (∀ j, j ≠ i → gJ M' 42 j = gJ M 42 j) ∧ chS [42] M M' := by
  have hn := w.2.2.1.1
  obtain ⟨q1, q2, q3, q4, q5, q6, q7, q8⟩ := w.2.2.1.2.1 i hi
  intro m
  induction m with
  | zero =>
    intro k M hk rc h7 hJ
    refine ⟨M, ?_, by rw [hJ, show k = A 66 9 by omega], fun _ _ => rfl, chS.refl _ _⟩
    unfold l_ju_pairTwins_22
    refine lpc_out ?_
    show b_ju_pairTwins_22_22 (nI i) (nI k) M = _
    unfold b_ju_pairTwins_22_22
    rw [rc.2.2.1.1, if_pos (z_yle (by omega) (by omega) (by omega))]
  | succ m ih =>
    intro k M hk rc h7 hJ
    have hkn : k < A 66 9 := by omega
    obtain ⟨e1, e2, e3, e4, e5, e6, e7⟩ := rc.2.2.1.2 i hi
    obtain ⟨e1', e2', e3', e4', e5', e6', e7'⟩ := rc.2.2.1.2 k hkn
    obtain ⟨q1', q2', q3', q4', q5', q6', q7', q8'⟩ := w.2.2.1.2.1 k hkn
    have hwy := ((w.2.1.2 (A 74 i) q1).2 (A 74 k) q1').1
    have hta := tw_alt w (far := far) hi hkn
    have hb : b_ju_pairTwins_22_22 (nI i) (nI k) M = some (.inl (nI (k + 1), if tw A far i k = true then sJ M 42 i (lN (twB A far i (k + 1))) else M)) := by
      unfold b_ju_pairTwins_22_22
      rw [rc.2.2.1.1, if_neg (z_nle (by omega) (by omega) hkn), z_gd (z_in (n := i) (by omega) (by omega)), z_gd (z_in (n := k) (by omega) (by omega)), z_cl (n := i) (by omega), z_cl (n := k) (by omega), e7, e7', show nI k + 1 = nI (k + 1) from z_add k 1]
      by_cases c : A 80 i = A 80 k
      · rw [if_pos (by rw [c]), e1, e1', show nI (A 74 i) * 8 = nI (A 74 i * 8) from z_mul _ 8, z_add, z_gd (z_in (n := A 74 i * 8 + A 74 k) (by omega) (by omega)), z_cl (n := A 74 i * 8 + A 74 k) (by omega), show A 74 i * 8 + A 74 k = 8 * A 74 i + A 74 k by omega, rc.2.1.2.2 _ (by omega), h7]
        by_cases c3 : far < A 68 (8 * A 74 i + A 74 k)
        · have ht : tw A far i k = true := by rw [hta, decide_eq_true c, decide_eq_true c3]; rfl
          rw [if_neg (z_nle (by omega) (by omega) c3), if_pos ht, hJ, z_1shlL (by omega), fb_orL]
          show _ = some (Sum.inl (nI (k + 1), sJ M 42 i (lN (if tw A far i k = true then twB A far i k ||| 2 ^ k else twB A far i k))))
          rw [if_pos ht]
        · have ht : ¬ tw A far i k = true := by rw [hta, decide_eq_false c3, Bool.and_false]; decide
          rw [if_pos (z_yle (by omega) (by omega) (by omega)), if_neg ht]
      · have ht : ¬ tw A far i k = true := by rw [hta, decide_eq_false c, Bool.false_and]; decide
        rw [if_neg (z_ne (by omega) (by omega) c), if_neg ht]
    have cs : chS [42] M (if tw A far i k = true then sJ M 42 i (lN (twB A far i (k + 1))) else M) := by
      split
      · exact chS_sJ M 42 i _ rfl
      · exact chS.refl _ _
    have hJ' : gJ (if tw A far i k = true then sJ M 42 i (lN (twB A far i (k + 1))) else M) 42 i = lN (twB A far i (k + 1)) := by
      by_cases ht : tw A far i k = true
      · rw [if_pos ht, gJ_sJ, if_pos ⟨rfl, rfl⟩]
      · rw [if_neg ht, hJ]
        show _ = lN (if tw A far i k = true then twB A far i k ||| 2 ^ k else twB A far i k)
        rw [if_neg ht]
    obtain ⟨M', a1, a2, a3, a4⟩ := ih (k + 1) _ (by omega) ((srcA A).use rc cs (by decide +kernel)) ((cs.I 27 7 rfl).trans h7) hJ'
    refine ⟨M', ?_, a2, fun j hj => ?_, cs.trans a4⟩
    · unfold l_ju_pairTwins_22 at a1 ⊢
      exact lpc_step hb a1
    · rw [a3 j hj]
      split
      · rw [gJ_sJ, if_neg (fun z => hj z.2)]
      · rfl
theorem c_tw {A : sA} {far : Nat} (w : wfA A) (hfar : far ≤ 999) : ∀ (m i : Nat) (M : dM), i + m = A 66 9 → rcA A M → gI M 27 7 = nI far → (∀ f, f < i → gJ M 42 f = lN (twB A far f (A 66 9))) → ∃ M', l_ju_pairTwins_2 (nI i) M = some M' ∧ (∀ f, f < A 66 9 → gJ M' 42 f = lN (twB A far f (A 66 9))) ∧ chS [42] M M' := by
  have hn := w.2.2.1.1
  intro m
  induction m with
  | zero =>
    intro i M hi rc h7 hJ
    refine ⟨M, ?_, fun f hf => hJ f (by omega), chS.refl _ _⟩
    unfold l_ju_pairTwins_2
    refine lpc_out ?_
    show b_ju_pairTwins_2_2 (nI i) M = _
    unfold b_ju_pairTwins_2_2
    rw [rc.2.2.1.1, if_pos (z_yle (by omega) (by omega) (by omega))]
  | succ m ih =>
    intro i M hi rc h7 hJ
    have cs : chS [42] M (sJ M 42 i 0) := chS_sJ M 42 i _ rfl
    obtain ⟨M1, b1, b2, b3, b4⟩ := c_twI w hfar (show i < A 66 9 by omega) (A 66 9) 0 (sJ M 42 i 0) (by omega) ((srcA A).use rc cs (by decide +kernel)) ((cs.I 27 7 rfl).trans h7) (by rw [gJ_sJ, if_pos ⟨rfl, rfl⟩]; rfl)
    have c1 := cs.trans b4
    obtain ⟨M', a1, a2, a3⟩ := ih (i + 1) M1 (by omega) ((srcA A).use rc c1 (by decide +kernel)) ((c1.I 27 7 rfl).trans h7) (fun f hf => by
      by_cases e : f = i
      · rw [e]; exact b2
      · rw [b3 f e, gJ_sJ, if_neg (fun z => e z.2)]
        exact hJ f (by omega))
    refine ⟨M', ?_, a2, c1.trans a3⟩
    unfold l_ju_pairTwins_2 at a1 ⊢
    refine lpc_step (s' := (nI (i + 1), M1)) ?_ a1
    show b_ju_pairTwins_2_2 (nI i) M = _
    unfold b_ju_pairTwins_2_2
    have b1' : l_ju_pairTwins_22 (nI i) 0 (sJ M 42 i 0) = some M1 := b1
    rw [rc.2.2.1.1, if_neg (z_nle (by omega) (by omega) (by omega)), z_gd (z_in (n := i) (by omega) (by omega)), z_cl (n := i) (by omega), b1', Option.bind_some, show nI i + 1 = nI (i + 1) from z_add i 1]
theorem c_pairTwins {A : sA} {far : Nat} {M : dM} (w : wfA A) (hfar : far ≤ 999) (rc : rcA A M) (h7 : gI M 27 7 = nI far) : ∃ M', f_ju_pairTwins M = some M' ∧ (∀ f, f < A 66 9 → gJ M' 42 f = lN (twB A far f (A 66 9))) ∧ chS [42] M M' := by
  obtain ⟨M', a1, a2, a3⟩ := c_tw w hfar (A 66 9) 0 M (by omega) rc h7 (fun f hf => by omega)
  have a1' : l_ju_pairTwins_2 0 M = some M' := a1
  unfold f_ju_pairTwins
  rw [a1']
  exact ⟨M', rfl, a2, a3⟩
/-- the greatest age of the first n finds -/
def mxA (A : sA) : Nat → Nat
  | 0 => 0
  | n + 1 => if mxA A n < agF A n then agF A n else mxA A n
theorem mxA_le {A : sA} (w : wfA A) : ∀ n, n ≤ A 66 9 → mxA A n ≤ 10000
  | 0, _ => Nat.zero_le _
  | n + 1, h => by
    have ih := mxA_le w n (by omega)
    have := (ag_ok w (show n < A 66 9 by omega)).1
    show (if mxA A n < agF A n then agF A n else mxA A n) ≤ 10000
    split <;> omega
theorem mxA_lt (A : sA) (x : Nat) (hx : 0 < x) : ∀ n, mxA A n < x ↔ ∀ g, g < n → agF A g < x
  | 0 => ⟨fun _ g hg => by omega, fun _ => hx⟩
  | n + 1 => by
    have ih := mxA_lt A x hx n
    show (if mxA A n < agF A n then agF A n else mxA A n) < x ↔ _
    constructor
    · intro h g hg
      by_cases c : mxA A n < agF A n
      · rw [if_pos c] at h
        by_cases e : g = n
        · rw [e]; exact h
        · exact ih.mp (by omega) g (by omega)
      · rw [if_neg c] at h
        by_cases e : g = n
        · rw [e]; omega
        · exact ih.mp h g (by omega)
    · intro h
      split
      · exact h n (by omega)
      · exact ih.mpr (fun g hg => h g (by omega))
theorem fiF_eq {A : sA} (w : wfA A) {f : Nat} (hf : f < A 66 9) : fiF A f = if mxA A f < agF A f then 1 else 0 := by
  have h0 := (ag_ok w hf).2
  unfold fiF
  have h := mxA_lt A (agF A f) (by omega) f
  by_cases c : mxA A f < agF A f
  · rw [if_pos c, if_pos (fb_ct_zero.mpr (fun g hg => decide_eq_false (by have := h.mp c g hg; omega)))]
  · rw [if_neg c, if_neg (fun z => c (h.mpr (fun g hg => by
      have := of_decide_eq_false (fb_ct_zero.mp z g hg)
      omega)))]
def rcJ (A : sA) (Q : sQ) (far : Nat) (M : dM) : Prop := ∀ f, f < A 66 9 → (∀ k, k < 17 → gI M 40 (f * 17 + k) = nI (fc A far f k)) ∧ gI M 41 f = nI (eaF A Q far f) ∧ gJ M 42 f = lN (twB A far f (A 66 9))
theorem c_jAll {A : sA} {Q : sQ} {v : Nat → Nat} (w : wfA A) (wq : wQ Q v) : ∀ (m i : Nat) (M : dM), i + m = A 66 9 → rcA A M → rcO A M → rcW Q v M → (∀ f, f < A 66 9 → gJ M 42 f = lN (twB A (v 3) f (A 66 9))) → (∀ f, f < i → (∀ k, k < 17 → gI M 40 (f * 17 + k) = nI (fc A (v 3) f k)) ∧ gI M 41 f = nI (eaF A Q (v 3) f)) → ∃ M', l_ju_judgeAll_8 (ageI (mxA A i)) (nI i) M = some M' ∧ rcJ A Q (v 3) M' ∧ chS [31, 40, 41] M M' := by
  have hn := w.2.2.1.1
  intro m
  induction m with
  | zero =>
    intro i M hi rc o cw hT hD
    refine ⟨M, ?_, fun f hf => ⟨(hD f (by omega)).1, (hD f (by omega)).2, hT f hf⟩, chS.refl _ _⟩
    unfold l_ju_judgeAll_8
    refine lpc_out ?_
    show b_ju_judgeAll_8_8 (ageI (mxA A i)) (nI i) M = _
    unfold b_ju_judgeAll_8_8
    rw [rc.2.2.1.1, if_pos (z_yle (by omega) (by omega) (by omega))]
  | succ m ih =>
    intro i M hi rc o cw hT hD
    have hin : i < A 66 9 := by omega
    obtain ⟨e1, e2, e3, e4, e5, e6, e7⟩ := rc.2.2.1.2 i hin
    obtain ⟨q1, q2, q3, q4, q5, q6, q7, q8⟩ := w.2.2.1.2.1 i hin
    have hp : (pre A (A 74 i) (A 76 i) (A 77 i)).testBit (A 78 i) = true := w.2.2.2.2.2.2.1.1.1 i hin
    obtain ⟨M1, a1, a2, a3, a4, a5, a6, a7⟩ := c_place (base := i * 17) w.1 rc.1 o (by omega) q1 q3 q4 q5 hp
    have rc1 : rcA A M1 := (srcA A).use rc a7 (by decide +kernel)
    obtain ⟨M2, b1, b2, b3, b4, b5, b6, b7⟩ := c_thing (base := i * 17) (g := mxA A i) w.2.1 rc1.2.1 (by omega) q1 q2 q6 q8 (mxA_le w i (by omega))
    have c12 := a7.trans b7
    have e19 : gI M2 19 i = nI (A 80 i) := (c12.I 19 i rfl).trans e7
    have e42 : gJ M2 42 i = lN (twB A (v 3) i (A 66 9)) := (c12.J 42 i rfl).trans (hT i hin)
    have ebc : f_jd_bitCount_95d88 (lN (twB A (v 3) i (A 66 9))) = nI (twF A (v 3) i) := by
      have h1 := twB_lt A (v 3) i (A 66 9)
      have h2 : (2 : Nat) ^ A 66 9 ≤ 2 ^ 40 := Nat.pow_le_pow_right (by decide) hn
      rw [z_bcL (by omega), twB_pc w.2.2.1]
    have c3 : chS [40] M2 (sI (sI M2 40 (i * 17 + 11) (nI (A 80 i))) 40 (i * 17 + 16) (nI (twF A (v 3) i))) := ((chS.refl _ M2).sI 40 _ _ rfl).sI 40 _ _ rfl
    have g3 : ∀ j, gI (sI (sI M2 40 (i * 17 + 11) (nI (A 80 i))) 40 (i * 17 + 16) (nI (twF A (v 3) i))) 40 j = if j = i * 17 + 16 then nI (twF A (v 3) i) else if j = i * 17 + 11 then nI (A 80 i) else gI M2 40 j := fun j => by
      rw [gI_sI, gI_sI]
      simp only [true_and]
    generalize hM3 : sI (sI M2 40 (i * 17 + 11) (nI (A 80 i))) 40 (i * 17 + 16) (nI (twF A (v 3) i)) = M3 at c3 g3
    have c13 := c12.trans c3
    obtain ⟨M4, d1, d2⟩ := c_judgeBy (base := i * 17) wq ((srcW Q v).use cw c13 (by decide)) (by omega)
    have hfi := fiF_eq w hin
    have row : ∀ k, k < 17 → vC40 M3 (i * 17) k = nI (fc A (v 3) i k) := fun k hk => by
      show gI M3 40 (i * 17 + k) = _
      rw [g3]
      unfold fc gfc
      by_cases k16 : k = 16
      · subst k16
        rw [if_pos rfl]
        rfl
      rw [if_neg (by omega)]
      by_cases k11 : k = 11
      · subst k11
        rw [if_pos rfl]
        rfl
      rw [if_neg (by omega)]
      by_cases k8 : k < 8
      · rw [if_pos k8]; exact b2 k k8
      rw [if_neg k8]
      by_cases d8 : k = 8
      · subst d8; rw [if_pos rfl]; exact b3
      rw [if_neg d8]
      by_cases d9 : k = 9
      · subst d9; rw [if_pos rfl]; exact b4
      rw [if_neg d9]
      by_cases d10 : k = 10
      · subst d10; rw [if_pos rfl, b6 _ (by omega) (by omega)]; exact a2
      rw [if_neg d10, if_neg k11]
      by_cases d12 : k = 12
      · subst d12
        rw [if_pos rfl, hfi]
        exact b5
      rw [if_neg d12]
      by_cases d13 : k = 13
      · subst d13; rw [if_pos rfl, b6 _ (by omega) (by omega)]; exact a3
      rw [if_neg d13]
      by_cases d14 : k = 14
      · subst d14; rw [if_pos rfl, b6 _ (by omega) (by omega)]; exact a4
      rw [if_neg d14]
      have d15 : k = 15 := by omega
      subst d15
      rw [if_pos rfl, b6 _ (by omega) (by omega)]
      exact a5
    have hjd : jdg Q (vC40 M3 (i * 17)) = eaF A Q (v 3) i := jdg_cong wq row
    have c4 : chS [31, 40, 41] M (sI M4 41 i (nI (eaF A Q (v 3) i))) := ((c13.mono (by decide)).trans (d2.mono (by decide))).sI 41 _ _ rfl
    have old : ∀ j, j < i * 17 → gI (sI M4 41 i (nI (eaF A Q (v 3) i))) 40 j = gI M 40 j := fun j hj => by
      rw [gI_sI, if_neg (by omega), d2.I 40 j rfl, g3, if_neg (by omega), if_neg (by omega), b6 j (by omega) (by omega), a6 j (by omega)]
    obtain ⟨M', f1, f2, f3⟩ := ih (i + 1) (sI M4 41 i (nI (eaF A Q (v 3) i))) (by omega) ((srcA A).use rc c4 (by decide +kernel)) (fun k hk => (c4.I 11 k rfl).trans (o k hk)) ((srcW Q v).use cw c4 (by decide)) (fun f hf => (c4.J 42 f rfl).trans (hT f hf)) (fun f hf => by
      by_cases e : f = i
      · subst e
        refine ⟨fun k hk => ?_, by rw [gI_sI, if_pos ⟨rfl, rfl⟩]⟩
        rw [gI_sI, if_neg (by omega), d2.I 40 _ rfl]
        exact row k hk
      · obtain ⟨y1, y2⟩ := hD f (by omega)
        refine ⟨fun k hk => ?_, ?_⟩
        · rw [old _ (by omega)]; exact y1 k hk
        · rw [gI_sI, if_neg (fun z => e z.2), d2.I 41 f rfl, c13.I 41 f rfl]; exact y2)
    refine ⟨M', ?_, f2, c4.trans f3⟩
    unfold l_ju_judgeAll_8 at f1 ⊢
    refine lpc_step (s' := (ageI (mxA A (i + 1)), nI (i + 1), sI M4 41 i (nI (eaF A Q (v 3) i)))) ?_ f1
    show b_ju_judgeAll_8_8 (ageI (mxA A i)) (nI i) M = _
    unfold b_ju_judgeAll_8_8
    have b1' : f_ju_thingFacts (nI (i * 17)) (gI M1 13 i) (gI M1 14 i) (gI M1 18 i) (ageI (mxA A i)) M1 = some (ageI (mxA A (i + 1)), M2) := by
      rw [a7.I 13 i rfl, a7.I 14 i rfl, a7.I 18 i rfl, e1, e2, e6]
      exact b1
    rw [rc.2.2.1.1, if_neg (z_nle (by omega) (by omega) hin), z_gd (z_in (n := i) (by omega) (by omega)), z_cl (n := i) (by omega), show nI i * 17 = nI (i * 17) from z_mul i 17, e1, e3, e4, e5, a1, Option.bind_some, b1', Option.bind_some, show nI (i * 17) + 11 = nI (i * 17 + 11) from z_add _ 11, show nI (i * 17) + 16 = nI (i * 17 + 16) from z_add _ 16, z_gd (z_in (n := i * 17 + 11) (by omega) (by omega)), z_gd (z_in (n := i * 17 + 16) (by omega) (by omega)), z_cl (n := i * 17 + 11) (by omega), z_cl (n := i * 17 + 16) (by omega)]
    show (f_la_judgeBy (nI (i * 17)) (sI (sI M2 40 (i * 17 + 11) (gI M2 19 i)) 40 (i * 17 + 16) (f_jd_bitCount_95d88 (gJ (sI M2 40 (i * 17 + 11) (gI M2 19 i)) 42 i)))).bind _ = _
    rw [gJ_sI, e19, e42, ebc, hM3, d1, Option.bind_some, show nI i + 1 = nI (i + 1) from z_add i 1, hjd]
theorem c_judgeAll {A : sA} {Q : sQ} {v : Nat → Nat} {M : dM} (w : wfA A) (rc : rcA A M) (wq : wQ Q v) (cw : rcW Q v M) (o : rcO A M) : ∃ M', f_ju_judgeAll M = some M' ∧ rcJ A Q (v 3) M' ∧ chS [31, 40, 41, 42] M M' := by
  obtain ⟨M1, a1, a2, a3⟩ := c_pairTwins w wq.2.2.2.2.2.2.1 rc cw.1.2.2.2
  obtain ⟨M2, b1, b2, b3⟩ := c_jAll w wq (A 66 9) 0 M1 (by omega) ((srcA A).use rc a3 (by decide +kernel)) (fun k hk => (a3.I 11 k rfl).trans (o k hk)) ((srcW Q v).use cw a3 (by decide)) a2 (fun f hf => by omega)
  have b1' : l_ju_judgeAll_8 (-1) 0 M1 = some M2 := b1
  refine ⟨M2, ?_, b2, (a3.mono (by decide)).trans (b3.mono (by decide))⟩
  unfold f_ju_judgeAll
  rw [a1, Option.bind_some, b1']
  rfl
