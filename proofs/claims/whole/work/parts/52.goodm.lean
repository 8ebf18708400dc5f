/-! ===== goodOf of the reference ===== -/
theorem z_bitL {m k : Nat} (hk : k < 64) (h : m < 4611686018427387904) : (lN m >>> ((nI k).toInt64 &&& 63)) &&& 1 = lN (m / 2 ^ k % 2) := by
  have h1 : m / 2 ^ k ≤ m := Nat.div_le_self _ _
  rw [z_lshr hk h, show (1 : Int64) = lN 1 from rfl, wb_and (by omega) (by decide), Nat.and_one_is_mod]
theorem z_bitL1 {m k : Nat} (hk : k < 64) (h : m < 4611686018427387904) : ((lN m >>> ((nI k).toInt64 &&& 63)) &&& 1 = (1 : Int64)) = (m.testBit k = true) := by
  have hm2 := Nat.mod_lt (m / 2 ^ k) (show 0 < 2 by decide)
  rw [z_bitL hk h, Nat.testBit_eq_decide_div_mod_eq, decide_eq_true_iff]
  refine propext ⟨fun z => ?_, fun z => by rw [z]; rfl⟩
  have z' : lN (m / 2 ^ k % 2) = lN 1 := z
  rw [z_leq (by omega) (by omega)] at z'
  exact z'
theorem z_bitL0 {m k : Nat} (hk : k < 64) (h : m < 4611686018427387904) : ((lN m >>> ((nI k).toInt64 &&& 63)) &&& 1 = (0 : Int64)) = (¬ m.testBit k = true) := by
  have hm2 := Nat.mod_lt (m / 2 ^ k) (show 0 < 2 by decide)
  rw [z_bitL hk h, Nat.testBit_eq_decide_div_mod_eq, decide_eq_true_iff]
  refine propext ⟨fun z => ?_, fun z => by rw [show m / 2 ^ k % 2 = 0 by omega]; rfl⟩
  have z' : lN (m / 2 ^ k % 2) = lN 0 := z
  rw [z_leq (by omega) (by omega)] at z'
  omega
def kth (p : Nat → Bool) (k : Nat) : Nat → Nat
  | 0 => 0
  | n + 1 => if p n = true ∧ fb_ct p n = k then n else kth p k n
theorem kth_ok {p : Nat → Bool} {k : Nat} : ∀ n, k < fb_ct p n → kth p k n < n ∧ p (kth p k n) = true ∧ fb_ct p (kth p k n) = k
  | 0, h => absurd h (Nat.not_lt_zero _)
  | n + 1, h => by
    rw [fb_ct_succ] at h
    show (if p n = true ∧ fb_ct p n = k then n else kth p k n) < n + 1 ∧ _
    have e : kth p k (n + 1) = if p n = true ∧ fb_ct p n = k then n else kth p k n := rfl
    rw [e]
    by_cases c : p n = true ∧ fb_ct p n = k
    · rw [if_pos c]
      exact ⟨by omega, c.1, c.2⟩
    · rw [if_neg c]
      have : k < fb_ct p n := by
        by_cases c1 : p n = true
        · rw [if_pos c1] at h
          have : fb_ct p n ≠ k := fun z => c ⟨c1, z⟩
          omega
        · rw [if_neg c1] at h; omega
      obtain ⟨h1, h2, h3⟩ := kth_ok n this
      exact ⟨by omega, h2, h3⟩
def kG : List Nat := [112, 7676]
theorem m_good10 {A : sA} {a b du : Nat} (w : wfA A) (ha : a < 8) (hb : b < 8) (hdu : du < 2 ^ A 66 9) : ∀ (m f : Nat) (M : dM), f + m = A 66 9 → rmA A M → gJ M 66 63 = lN du → fb_ct (kpB A du a b) f ≤ 10 → gI M 66 76 = nI (fb_ct (kpB A du a b) f) → (∀ k, k < fb_ct (kpB A du a b) f → gI M 112 k = nI (kth (kpB A du a b) k f)) → ∃ M', chS kG M M' ∧ (if fb_ct (kpB A du a b) (A 66 9) ≤ 10 then l_mo_goodOf_10 (nI a) (nI b) (lN (bsN (kpB A du a b) f)) (nI f) M = some (.inl (lN (knF A du a b), M')) ∧ gI M' 66 76 = nI (fb_ct (kpB A du a b) (A 66 9)) ∧ ∀ k, k < fb_ct (kpB A du a b) (A 66 9) → gI M' 112 k = nI (kth (kpB A du a b) k (A 66 9)) else l_mo_goodOf_10 (nI a) (nI b) (lN (bsN (kpB A du a b) f)) (nI f) M = some (.inr (-1, M'))) := by
  have hn := w.2.2.1.1
  have h40 : (2 : Nat) ^ A 66 9 ≤ 2 ^ 40 := Nat.pow_le_pow_right (by decide) hn
  intro m
  induction m with
  | zero =>
    intro f M hf rm hd h10 h76 h112
    have e : f = A 66 9 := by omega
    subst e
    refine ⟨M, chS.refl _ _, ?_⟩
    rw [if_pos h10]
    refine ⟨?_, h76, h112⟩
    unfold l_mo_goodOf_10
    refine lpc_out ?_
    show b_mo_goodOf_10_10 (nI a) (nI b) (lN (bsN (kpB A du a b) (A 66 9))) (nI (A 66 9)) M = _
    unfold b_mo_goodOf_10_10
    rw [rm.2.2.1.1, if_pos (z_yle (by omega) (by omega) (Nat.le_refl _))]
    rfl
  | succ m ih =>
    intro f M hf rm hd h10 h76 h112
    have hfn : f < A 66 9 := by omega
    obtain ⟨e1, e2, e3, e4, e5, e6, e7⟩ := rm.2.2.1.2 f hfn
    obtain ⟨q1, q2, q3, q4, q5, q6, q7, q8⟩ := w.2.2.1.2.1 f hfn
    have ef : nI f + 1 = nI (f + 1) := z_add f 1
    have hbd : b_mo_goodOf_10_10 (nI a) (nI b) (lN (bsN (kpB A du a b) f)) (nI f) M = if kpB A du a b f = true then b_mo_goodOf_10_58 (nI a) (nI b) (lN (bsN (kpB A du a b) f)) (nI f) M else some (.inl (lN (bsN (kpB A du a b) f), nI (f + 1), M)) := by
      unfold b_mo_goodOf_10_10
      rw [rm.2.2.1.1, if_neg (z_nle (by omega) (by omega) hfn), hd, ef]
      unfold kpB
      by_cases c : du.testBit f = true
      · rw [if_neg (by rw [z_bitL0 (by omega) (by omega)]; exact fun z => z c), z_gd (z_in (n := f) (by omega) (by omega)), z_cl (n := f) (by omega), e1, c]
        by_cases c1 : A 74 f = a
        · rw [if_pos (by rw [c1]), if_pos (by rw [decide_eq_true c1]; rfl)]
        · rw [if_neg (z_ne (by omega) (by omega) c1), decide_eq_false c1]
          by_cases c2 : A 74 f = b
          · rw [if_pos (by rw [c2]), if_pos (by rw [decide_eq_true c2]; rfl)]
          · rw [if_neg (z_ne (by omega) (by omega) c2), if_neg (by rw [decide_eq_false c2]; decide)]
      · rw [if_pos (by rw [z_bitL0 (by omega) (by omega)]; exact c), if_neg (by rw [Bool.eq_false_iff.mpr c]; exact Bool.false_ne_true)]
    by_cases c : kpB A du a b f = true
    · rw [if_pos c] at hbd
      have hct : fb_ct (kpB A du a b) (f + 1) = fb_ct (kpB A du a b) f + 1 := by rw [fb_ct_succ, if_pos c]
      unfold b_mo_goodOf_10_58 at hbd
      rw [h76] at hbd
      by_cases c10 : fb_ct (kpB A du a b) f = 10
      · rw [if_pos (show nI _ = (10 : Int32) from by rw [c10]; rfl)] at hbd
        have hm := fb_ct_mono (kpB A du a b) (show f + 1 ≤ A 66 9 by omega)
        refine ⟨M, chS.refl _ _, ?_⟩
        rw [if_neg (by omega)]
        unfold l_mo_goodOf_10
        exact lpc_out hbd
      · rw [if_neg (show ¬ nI _ = (10 : Int32) from z_ne (b := 10) (by omega) (by omega) c10), z_gd (z_in (n := fb_ct (kpB A du a b) f) (by omega) (by omega)), z_cl (n := fb_ct (kpB A du a b) f) (by omega), z_1shlL (by omega), fb_orL, ef] at hbd
        have cY : chS kG M (sI (sI M 112 (fb_ct (kpB A du a b) f) (nI f)) 66 76 (nI (fb_ct (kpB A du a b) (f + 1)))) := ((chS.refl _ M).sI 112 _ _ rfl).sI 66 76 _ rfl
        obtain ⟨M', a1, a2⟩ := ih (f + 1) (sI (sI M 112 (fb_ct (kpB A du a b) f) (nI f)) 66 76 (nI (fb_ct (kpB A du a b) (f + 1)))) (by omega) ((srmA A).use rm cY (by decide +kernel)) ((cY.J 66 63 rfl).trans hd) (by omega) (by rw [gI_sI, if_pos ⟨rfl, rfl⟩]) (fun k hk => by
          rw [gI_sI, if_neg (by omega), gI_sI]
          show _ = nI (if kpB A du a b f = true ∧ fb_ct (kpB A du a b) f = k then f else kth (kpB A du a b) k f)
          by_cases e : k = fb_ct (kpB A du a b) f
          · rw [if_pos ⟨rfl, e⟩, if_pos ⟨c, e.symm⟩]
          · rw [if_neg (fun z => e z.2), if_neg (fun z => e z.2.symm)]
            exact h112 k (by omega))
        refine ⟨M', cY.trans a1, ?_⟩
        have hb2 : b_mo_goodOf_10_10 (nI a) (nI b) (lN (bsN (kpB A du a b) f)) (nI f) M = some (.inl (lN (bsN (kpB A du a b) (f + 1)), nI (f + 1), sI (sI M 112 (fb_ct (kpB A du a b) f) (nI f)) 66 76 (nI (fb_ct (kpB A du a b) (f + 1))))) := by
          rw [hbd, bsN_s, if_pos c, hct, show gI (sI M 112 (fb_ct (kpB A du a b) f) (nI f)) 66 76 + 1 = nI (fb_ct (kpB A du a b) f + 1) from by rw [gI_sI, if_neg (by omega), h76]; exact z_add _ 1]
        unfold l_mo_goodOf_10 at a2 ⊢
        split
        · rename_i z
          rw [if_pos z] at a2
          exact ⟨lpc_step (s' := (lN (bsN (kpB A du a b) (f + 1)), nI (f + 1), _)) hb2 a2.1, a2.2⟩
        · rename_i z
          rw [if_neg z] at a2
          exact lpc_step (s' := (lN (bsN (kpB A du a b) (f + 1)), nI (f + 1), _)) hb2 a2
    · rw [if_neg c] at hbd
      have hct : fb_ct (kpB A du a b) (f + 1) = fb_ct (kpB A du a b) f := by rw [fb_ct_succ, if_neg c]; rfl
      have hbs : bsN (kpB A du a b) (f + 1) = bsN (kpB A du a b) f := by rw [bsN_s, if_neg c]
      obtain ⟨M', a1, a2⟩ := ih (f + 1) M (by omega) rm hd (by omega) (by rw [hct]; exact h76) (fun k hk => by
        show _ = nI (if kpB A du a b f = true ∧ fb_ct (kpB A du a b) f = k then f else kth (kpB A du a b) k f)
        rw [if_neg (fun z => c z.1)]
        exact h112 k (by omega))
      rw [hbs] at a2
      refine ⟨M', a1, ?_⟩
      unfold l_mo_goodOf_10 at a2 ⊢
      split
      · rename_i z
        rw [if_pos z] at a2
        exact ⟨lpc_step (s' := (lN (bsN (kpB A du a b) f), nI (f + 1), M)) hbd a2.1, a2.2⟩
      · rename_i z
        rw [if_neg z] at a2
        exact lpc_step (s' := (lN (bsN (kpB A du a b) f), nI (f + 1), M)) hbd a2
/-- the finds that come out bad -/
def ouD (dg : Nat → Nat) (x : Nat) : Nat → Nat
  | 0 => 0
  | k + 1 => if x.testBit k = true then ouD dg x k ||| 2 ^ dg k else ouD dg x k
theorem ouD_bit (dg : Nat → Nat) (x b : Nat) : ∀ n, (ouD dg x n).testBit b = true ↔ ∃ k, k < n ∧ x.testBit k = true ∧ dg k = b
  | 0 => by simp [ouD]
  | n + 1 => by
    have ih := ouD_bit dg x b n
    show (if x.testBit n = true then ouD dg x n ||| 2 ^ dg n else ouD dg x n).testBit b = true ↔ _
    by_cases c : x.testBit n = true
    · rw [if_pos c, fb_bit_set, Bool.or_eq_true, ih, decide_eq_true_iff]
      constructor
      · rintro (⟨k, h1, h2, h3⟩ | h)
        · exact ⟨k, by omega, h2, h3⟩
        · exact ⟨n, by omega, c, h.symm⟩
      · rintro ⟨k, h1, h2, h3⟩
        by_cases e : k = n
        · subst e; exact Or.inr h3.symm
        · exact Or.inl ⟨k, by omega, h2, h3⟩
    · rw [if_neg c, ih]
      constructor
      · rintro ⟨k, h1, h2, h3⟩
        exact ⟨k, by omega, h2, h3⟩
      · rintro ⟨k, h1, h2, h3⟩
        by_cases e : k = n
        · subst e; exact absurd h2 c
        · exact ⟨k, by omega, h2, h3⟩
theorem m_good128 {M : dM} {d x : Nat} {dg : Nat → Nat} (hd : d ≤ 10) (hx : x < 1024) (h76 : gI M 66 76 = nI d) (hg : ∀ k, k < d → gI M 112 k = nI (dg k) ∧ dg k < 40) (x3 : Int64) (x5 : Int32) : l_mo_goodOf_128 x3 x5 (nI x) (lN 0) (nI 0) M = some (lN (ouD dg x d)) := by
  unfold l_mo_goodOf_128
  refine lpc_seq (body := fun s : Int64 × Int32 => b_mo_goodOf_128_128 x3 x5 (nI x) s.1 s.2 M) (fun k => (lN (ouD dg x k), nI k)) d ?_ ?_
  · intro k hk
    obtain ⟨g1, g2⟩ := hg k hk
    show b_mo_goodOf_128_128 x3 x5 (nI x) (lN (ouD dg x k)) (nI k) M = some (.inl (lN (if x.testBit k = true then ouD dg x k ||| 2 ^ dg k else ouD dg x k), nI (k + 1)))
    unfold b_mo_goodOf_128_128
    rw [h76, if_neg (z_nle (by omega) (by omega) hk), show nI k + 1 = nI (k + 1) from z_add k 1]
    by_cases c : x.testBit k = true
    · rw [if_pos (by rw [z_bitq (by omega) (by omega)]; exact c), if_pos c, z_gd (z_in (n := k) (by omega) (by omega)), z_cl (n := k) (by omega), g1, z_1shlL (by omega), fb_orL]
    · rw [if_neg (by rw [z_bitq (by omega) (by omega)]; exact c), if_neg c]
  · show b_mo_goodOf_128_128 x3 x5 (nI x) (lN (ouD dg x d)) (nI d) M = _
    unfold b_mo_goodOf_128_128
    rw [h76, if_pos (z_yle (by omega) (by omega) (Nat.le_refl _))]
theorem m_good111 {A : sA} {M : dM} {du kn d : Nat} {dg : Nat → Nat} (w : wfA A) (rm : rmA A M) (hJ : gJ M 66 63 = lN du) (hd : d ≤ 10) (h76 : gI M 66 76 = nI d) (hg : ∀ k, k < d → gI M 112 k = nI (dg k) ∧ dg k < 40) : ∀ m i, i + m = 2 ^ d → l_mo_goodOf_111 (lN kn) (nI (gdN (fun i => seO A (andn du kn) (ouD dg i d)) i)) (nI i) M = some (nI (pc (gdN (fun i => seO A (andn du kn) (ouD dg i d)) (2 ^ d)) 12), M) := by
  have h2 : (2 : Nat) ^ d ≤ 2 ^ 10 := Nat.pow_le_pow_right (by decide) hd
  intro m
  induction m with
  | zero =>
    intro i hi
    have e : i = 2 ^ d := by omega
    subst e
    have hl := gdN_lt (fun i => seO A (andn du kn) (ouD dg i d)) (2 ^ d)
    unfold l_mo_goodOf_111
    refine lpc_out ?_
    show b_mo_goodOf_111_111 (lN kn) (nI (gdN _ (2 ^ d))) (nI (2 ^ d)) M = _
    unfold b_mo_goodOf_111_111
    rw [h76, z_1shl (by omega), if_pos (z_yle (by omega) (by omega) (Nat.le_refl _)), m_bits hl]
    rfl
  | succ m ih =>
    intro i hi
    unfold l_mo_goodOf_111 at ih ⊢
    refine lpc_step (s' := (nI (gdN (fun i => seO A (andn du kn) (ouD dg i d)) (i + 1)), nI (i + 1))) ?_ (ih (i + 1) (by omega))
    show b_mo_goodOf_111_111 (lN kn) (nI (gdN (fun i => seO A (andn du kn) (ouD dg i d)) i)) (nI i) M = _
    unfold b_mo_goodOf_111_111
    have e128 : l_mo_goodOf_128 (lN kn) (nI (gdN (fun i => seO A (andn du kn) (ouD dg i d)) i)) (nI i) 0 0 M = some (lN (ouD dg i d)) := m_good128 hd (by omega) h76 hg _ _
    rw [h76, z_1shl (by omega), if_neg (z_nle (by omega) (by omega) (by omega)), e128, Option.bind_some, hJ, z_andnL, m_settledBy w rm, Option.bind_some, z_and, show nI i + 1 = nI (i + 1) from z_add i 1]
    rfl
theorem m_goodOf {A : sA} {M : dM} {du a b : Nat} (w : wfA A) (rm : rmA A M) (hJ : gJ M 66 63 = lN du) (hdu : du < 2 ^ A 66 9) (ha : a < 8) (hb : b < 8) : ∃ M', f_mo_goodOf (nI a) (nI b) M = some (gvF A du a b, M') ∧ chS kG M M' := by
  have hn := w.2.2.1.1
  have c0 : chS kG M (sI M 66 76 0) := chS_sI M 66 76 _ rfl
  obtain ⟨M1, a1, a2⟩ := m_good10 (a := a) (b := b) w ha hb hdu (A 66 9) 0 (sI M 66 76 0) (by omega) ((srmA A).use rm c0 (by decide +kernel)) ((c0.J 66 63 rfl).trans hJ) (Nat.zero_le _) (by rw [gI_sI, if_pos ⟨rfl, rfl⟩]; rfl) (fun k hk => absurd hk (Nat.not_lt_zero _))
  have hpc : pc (knF A du a b) 40 = fb_ct (kpB A du a b) (A 66 9) := by
    rw [pc_ext (n := knF A du a b) (m := A 66 9) (bsN_lt _ _) hn]
    exact fb_ct_cong (fun k hk => by
      show (knF A du a b).testBit k = _
      rw [knF_bit, decide_eq_true hk, Bool.true_and])
  have e0 : l_mo_goodOf_10 (nI a) (nI b) 0 0 (sI M 66 76 0) = l_mo_goodOf_10 (nI a) (nI b) (lN (bsN (kpB A du a b) 0)) (nI 0) (sI M 66 76 0) := rfl
  refine ⟨M1, ?_, c0.trans a1⟩
  unfold f_mo_goodOf gvF
  rw [e0, hpc]
  by_cases c : fb_ct (kpB A du a b) (A 66 9) ≤ 10
  · rw [if_pos c] at a2 ⊢
    obtain ⟨b1, b2, b3⟩ := a2
    have c1 := c0.trans a1
    have hg : ∀ k, k < fb_ct (kpB A du a b) (A 66 9) → gI M1 112 k = nI (kth (kpB A du a b) k (A 66 9)) ∧ kth (kpB A du a b) k (A 66 9) < 40 := fun k hk => ⟨b3 k hk, by have := (kth_ok (A 66 9) hk).1; omega⟩
    have h111 := m_good111 (kn := knF A du a b) w ((srmA A).use rm c1 (by decide +kernel)) ((c1.J 66 63 rfl).trans hJ) c b2 hg (2 ^ fb_ct (kpB A du a b) (A 66 9)) 0 (by omega)
    have h111' : l_mo_goodOf_111 (lN (knF A du a b)) 4095 0 M1 = some (nI (pc (gdN (fun i => seO A (andn du (knF A du a b)) (ouD (fun k => kth (kpB A du a b) k (A 66 9)) i (fb_ct (kpB A du a b) (A 66 9)))) (2 ^ fb_ct (kpB A du a b) (A 66 9))) 12), M1) := h111
    rw [b1]
    show (l_mo_goodOf_111 (lN (knF A du a b)) 4095 0 M1).bind _ = _
    rw [h111']
    have ee : gdN (fun i => seO A (andn du (knF A du a b)) (ouD (fun k => kth (kpB A du a b) k (A 66 9)) i (fb_ct (kpB A du a b) (A 66 9)))) (2 ^ fb_ct (kpB A du a b) (A 66 9)) = gdF A du (knF A du a b) := by
      refine gd_same (gdN_lt _ _) (gdF_lt _ _ _) (fun x hx => ?_)
      rw [gdN_bit, gdF_bit]
      constructor
      · rintro ⟨h1, h2⟩
        refine ⟨h1, fun o ho => ?_⟩
        have h3 := h2 (bsN (fun k => o.testBit (kth (kpB A du a b) k (A 66 9))) (fb_ct (kpB A du a b) (A 66 9))) (bsN_lt _ _)
        have eo : ouD (fun k => kth (kpB A du a b) k (A 66 9)) (bsN (fun k => o.testBit (kth (kpB A du a b) k (A 66 9))) (fb_ct (kpB A du a b) (A 66 9))) (fb_ct (kpB A du a b) (A 66 9)) = o := by
          refine nat_bits fun y => ?_
          rw [Bool.eq_iff_iff, ouD_bit]
          constructor
          · rintro ⟨k, k1, k2, k3⟩
            rw [bsN_bit, Bool.and_eq_true] at k2
            have := k2.2
            rw [← k3]
            exact this
          · intro hy
            have hy2 := ho y hy
            rw [knF_bit, Bool.and_eq_true, decide_eq_true_iff] at hy2
            have hlt : fb_ct (kpB A du a b) y < fb_ct (kpB A du a b) (A 66 9) := by
              have := fb_ct_mono (kpB A du a b) (show y + 1 ≤ A 66 9 by omega)
              rw [fb_ct_succ, if_pos hy2.2] at this
              omega
            obtain ⟨k1, k2, k3⟩ := kth_ok (A 66 9) hlt
            have ky : kth (kpB A du a b) (fb_ct (kpB A du a b) y) (A 66 9) = y := fb_ct_kth_one k2 hy2.2 k3
            refine ⟨fb_ct (kpB A du a b) y, hlt, ?_, ky⟩
            rw [bsN_bit, decide_eq_true hlt, Bool.true_and, ky]
            exact hy
        have h3' : (seO A (andn du (knF A du a b)) (ouD (fun k => kth (kpB A du a b) k (A 66 9)) (bsN (fun k => o.testBit (kth (kpB A du a b) k (A 66 9))) (fb_ct (kpB A du a b) (A 66 9))) (fb_ct (kpB A du a b) (A 66 9)))).testBit x = true := h3
        rw [eo] at h3'
        exact h3'
      · rintro ⟨h1, h2⟩
        refine ⟨h1, fun i _ => h2 _ (fun y hy => ?_)⟩
        rw [ouD_bit] at hy
        obtain ⟨k, k1, k2, k3⟩ := hy
        obtain ⟨j1, j2, j3⟩ := kth_ok (A 66 9) k1
        rw [← k3, knF_bit, decide_eq_true j1, Bool.true_and]
        exact j2
    rw [ee]
    rfl
  · rw [if_neg c] at a2 ⊢
    rw [a2]
    rfl
