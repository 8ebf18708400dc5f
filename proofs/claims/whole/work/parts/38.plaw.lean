/-! ===== a law is read ===== -/
def kC3 : List Nat := kC2 ++ [4201]
def oT (T : Nat → Nat) (n s q p : Nat) (Q : sQ) (v : Nat → Nat) (M : dM) (o : Option (Int32 × dM)) : Prop :=
  (∃ s' q' Q' v' M1, o = some (nI 0, M1) ∧ s' ≤ 1000 ∧ q' ≤ 1000 ∧ gI M1 34 1 = nI s' ∧ cQ Q' s' M1 ∧ cV v' M1 ∧ wQ Q' v' ∧ chX kC3 M M1 ∧ gI M1 32 1 = nI 0 ∧ ∀ Mr, rSt T n q p Q v Mr → ∃ M', lpc bA (nI (v 0), nI (v 1), nI (v 4), nI (v 5), Mr) = some (true, M') ∧ rQ Q' q' M' ∧ rV v' M' ∧ chS kM2 Mr M' ∧ ∀ j, j < 1000 → gI M' 88 j = gI Mr 88 j) ∨
  ∃ x M1, 0 < x ∧ x < 100000 ∧ o = some (nI x, M1) ∧ chX kC3 M M1 ∧ gI M1 32 1 = nI 0 ∧ ∀ Mr, rSt T n q p Q v Mr → ∃ M', lpc bA (nI (v 0), nI (v 1), nI (v 4), nI (v 5), Mr) = some (false, M') ∧ gI M' 66 25 = nI x ∧ chS kM2 Mr M' ∧ ∀ j, j < 1000 → gI M' 88 j = gI Mr 88 j
theorem b156 {M : dM} {x : Nat} (h : gI M 32 7 = nI x) : b_re_readLaw_35_156 M = some (.inr (nI x, sI M 32 1 (nI 0))) := by
  unfold b_re_readLaw_35_156
  rw [show gI (sI M 32 1 0) 32 7 = nI x from by rw [gI_sI, if_neg (by omega)]; exact h]
  rfl
theorem b35_out {T : Nat → Nat} {n s p t x : Nat} {M : dM} {x1 : Int32} (h : pc0 T n s p M) (h7 : gI M 32 7 = nI x) (hk : kd T n p = 0 ∨ x1 = 0) : b_re_readLaw_35_35 x1 (nI t) M = some (.inr (nI x, sI M 32 1 (nI 0))) := by
  unfold b_re_readLaw_35_35
  rw [b156 h7]
  split
  · rfl
  · split
    · rfl
    · rename_i h3
      rcases hk with hk | hk
      · exact absurd (show gI M 32 3 = (0 : Int32) from by rw [h.2.1.2.2.2.1, hk]; rfl) h3
      · rw [if_pos hk]
/-- one turn of the loop -/
theorem b35_go {T : Nat → Nat} {n p q s t : Nat} {Q : sQ} {v : Nat → Nat} {M : dM} (st : cSt T n s p Q v M) (w : wQ Q v) (hs : s ≤ p) (hq : q ≤ p) (ht : t ≤ p) (k0 : kd T n p ≠ 0) : ∃ o, lT T n s q p Q v M o ∧ b_re_readLaw_35_35 1 (nI t) M = o.bind fun q7 => some (.inl (bI q7.1, nI (t + 1), q7.2)) := by
  obtain ⟨w1, w2, w3, w4, w5, w6, w7, w8, w9⟩ := id w
  have hl := kd_lt (T := T) (n := n) (p := p)
  have hn := st.1.1.1
  have hp := st.1.2.1.1
  have et : nI t + 1 = nI (t + 1) := z_add t 1
  have head : b_re_readLaw_35_35 1 (nI t) M = (f_re_wordIn 2 M).bind fun v5 =>
        if v5 = 0 then
          (f_re_barLine M).bind fun q7 => some (.inl ((bI q7.1), nI (t + 1), q7.2))
        else
        if v5 = 1 then
          (f_re_oddLine M).bind fun q9 => some (.inl ((bI q9.1), nI (t + 1), q9.2))
        else
        if v5 = 2 then
          (f_re_ruleLine M).bind fun q11 => some (.inl ((bI q11.1), nI (t + 1), q11.2))
        else
        if v5 = 3 then
          (f_re_sinceLine M).bind fun q13 => some (.inl ((bI q13.1), nI (t + 1), q13.2))
        else
        if v5 = 4 then
          (f_re_farLine M).bind fun q15 => some (.inl ((bI q15.1), nI (t + 1), q15.2))
        else
        if v5 = 5 then
          (f_re_enoughLine M).bind fun q17 => some (.inl ((bI q17.1), nI (t + 1), q17.2))
        else
        some (.inl ((bI ((f_re_wrong 1 M).1)), nI (t + 1), (f_re_wrong 1 M).2)) := by
    unfold b_re_readLaw_35_35
    rw [if_neg (show ¬ (1000 : Int32) < nI t from z_nlt (a := 1000) (by omega) (by omega) (by omega)), if_neg (show ¬ gI M 32 3 = (0 : Int32) from by rw [st.1.2.1.2.2.2.1]; exact z_ne (b := 0) (by omega) (by omega) k0), if_neg (by decide), et]
  rw [head, c_wordIn st.1.1 st.1.2.1 (by decide), Option.bind_some]
  rcases wIx_2 (T := T) (n := n) (p := p) with ⟨a, b⟩ | ⟨j, hj, a, k1, hw⟩
  · rw [a, if_neg (by decide), if_neg (by decide), if_neg (by decide), if_neg (by decide), if_neg (by decide), if_neg (by decide)]
    refine ⟨some (false, (f_re_wrong (nI 1) M).2), lT_at (k := 1) st.1 (by decide) (fun Mr hr => bA_no hr.1 k0 b _ _ _ _), rfl⟩
  · rw [a]
    match j, hj, hw with
    | 0, _, hw =>
      rw [if_pos (show nI 0 = (0 : Int32) from rfl)]
      exact ⟨_, lT_bar st w hs hq k1 hw, rfl⟩
    | 1, _, hw =>
      rw [if_neg (show ¬ nI 1 = (0 : Int32) from by decide), if_pos (show nI 1 = (1 : Int32) from rfl)]
      exact ⟨_, lT_odd st w hs hq k1 hw, rfl⟩
    | 2, _, hw =>
      rw [if_neg (show ¬ nI 2 = (0 : Int32) from by decide), if_neg (show ¬ nI 2 = (1 : Int32) from by decide), if_pos (show nI 2 = (2 : Int32) from rfl)]
      exact ⟨_, lT_rule st w hs hq k1 hw, rfl⟩
    | 3, _, hw =>
      rw [if_neg (show ¬ nI 3 = (0 : Int32) from by decide), if_neg (show ¬ nI 3 = (1 : Int32) from by decide), if_neg (show ¬ nI 3 = (2 : Int32) from by decide), if_pos (show nI 3 = (3 : Int32) from rfl)]
      exact ⟨_, lT_since st w hs hq k1 hw, rfl⟩
    | 4, _, hw =>
      rw [if_neg (show ¬ nI 4 = (0 : Int32) from by decide), if_neg (show ¬ nI 4 = (1 : Int32) from by decide), if_neg (show ¬ nI 4 = (2 : Int32) from by decide), if_neg (show ¬ nI 4 = (3 : Int32) from by decide), if_pos (show nI 4 = (4 : Int32) from rfl)]
      exact ⟨_, lT_far st w hs hq k1 hw, rfl⟩
    | 5, _, hw =>
      rw [if_neg (show ¬ nI 5 = (0 : Int32) from by decide), if_neg (show ¬ nI 5 = (1 : Int32) from by decide), if_neg (show ¬ nI 5 = (2 : Int32) from by decide), if_neg (show ¬ nI 5 = (3 : Int32) from by decide), if_neg (show ¬ nI 5 = (4 : Int32) from by decide), if_pos (show nI 5 = (5 : Int32) from rfl)]
      exact ⟨_, lT_enough st w hs hq k1 hw, rfl⟩
theorem oT_loop {T : Nat → Nat} {n : Nat} : ∀ (m p q s t : Nat) (Q : sQ) (v : Nat → Nat) (M : dM), n - p ≤ m → cSt T n s p Q v M → wQ Q v → s ≤ p → q ≤ p → t ≤ p → gI M 32 7 = nI 0 → oT T n s q p Q v M (l_re_readLaw_35 1 (nI t) M) := by
  intro m
  induction m with
  | zero =>
    intro p q s t Q v M hm st w hs hq ht h7
    have hp := st.1.2.1.1
    have hn := st.1.1.1
    have k0 : kd T n p = 0 := kd_en (by omega)
    have c : chX kC3 M (sI M 32 1 (nI 0)) := (chS_sI (S := [4201]) M 32 1 _ rfl).x (by decide)
    have c' : chS [4201] M (sI M 32 1 (nI 0)) := chS_sI (S := [4201]) M 32 1 _ rfl
    refine Or.inl ⟨s, q, Q, v, sI M 32 1 (nI 0), ?_, by omega, by omega, (c'.I 34 1 rfl).trans st.1.2.2, ?_, ?_, w, c, by rw [gI_sI, if_pos ⟨rfl, rfl⟩], fun Mr hr => ⟨Mr, lpc_out (bA_en hr.1 k0 _ _ _ _), hr.2.1, hr.2.2, chS.refl _ _, fun _ _ => rfl⟩⟩
    · unfold l_re_readLaw_35
      exact lpc_out (b35_out st.1 h7 (Or.inl k0))
    · exact fun l hl => st.2.1 l hl
    · exact st.2.2
  | succ m ih =>
    intro p q s t Q v M hm st w hs hq ht h7
    have hp := st.1.2.1.1
    have hn := st.1.1.1
    by_cases k0 : kd T n p = 0
    · have c : chX kC3 M (sI M 32 1 (nI 0)) := (chS_sI (S := [4201]) M 32 1 _ rfl).x (by decide)
      have c' : chS [4201] M (sI M 32 1 (nI 0)) := chS_sI (S := [4201]) M 32 1 _ rfl
      refine Or.inl ⟨s, q, Q, v, sI M 32 1 (nI 0), ?_, by omega, by omega, (c'.I 34 1 rfl).trans st.1.2.2, ?_, ?_, w, c, by rw [gI_sI, if_pos ⟨rfl, rfl⟩], fun Mr hr => ⟨Mr, lpc_out (bA_en hr.1 k0 _ _ _ _), hr.2.1, hr.2.2, chS.refl _ _, fun _ _ => rfl⟩⟩
      · unfold l_re_readLaw_35
        exact lpc_out (b35_out st.1 h7 (Or.inl k0))
      · exact fun l hl => st.2.1 l hl
      · exact st.2.2
    · obtain ⟨o, h1, h2⟩ := b35_go (q := q) (t := t) st w hs hq ht k0
      have hpn : p < n := by
        by_cases z : p < n
        · exact z
        · exact absurd (kd_en z) k0
      rcases h1 with ⟨p', s', q', Q', v', M1, a1, a2, a3, a4, a5, a6, a7, a8, a9⟩ | ⟨x, M1, x0, x1, a1, a2, a3, a4⟩
      · rw [a1, Option.bind_some] at h2
        have := ih p' q' s' (t + 1) Q' v' M1 (by omega) a5 a6 a3 a4 (by omega) (a8.trans h7)
        unfold l_re_readLaw_35 at this ⊢
        rcases this with ⟨s2, q2, Q2, v2, M2, b1, b2, b3, b4, b5, b6, b7, b8, b9, b10⟩ | ⟨x, M2, y0, y1, b1, b2, b3, b4⟩
        · refine Or.inl ⟨s2, q2, Q2, v2, M2, lpc_step (s' := (1, nI (t + 1), M1)) h2 b1, b2, b3, b4, b5, b6, b7, (a7.mono (by decide)).trans b8, b9, fun Mr hr => ?_⟩
          obtain ⟨Mr1, c1, c2, c3, c4⟩ := a9 Mr hr
          obtain ⟨Mr2, d1, d2, d3, d4, d5⟩ := b10 Mr1 c2
          exact ⟨Mr2, lpc_step c1 d1, d2, d3, c3.trans d4, fun j hj => (d5 j hj).trans (c4 j hj)⟩
        · refine Or.inr ⟨x, M2, y0, y1, lpc_step (s' := (1, nI (t + 1), M1)) h2 b1, (a7.mono (by decide)).trans b2, b3, fun Mr hr => ?_⟩
          obtain ⟨Mr1, c1, c2, c3, c4⟩ := a9 Mr hr
          obtain ⟨Mr2, d1, d2, d4, d5⟩ := b4 Mr1 c2
          exact ⟨Mr2, lpc_step c1 d1, d2, c3.trans d4, fun j hj => (d5 j hj).trans (c4 j hj)⟩
      · rw [a1, Option.bind_some] at h2
        have c' : chS [4201] M1 (sI M1 32 1 (nI 0)) := chS_sI (S := [4201]) M1 32 1 _ rfl
        have hb : b_re_readLaw_35_35 0 (nI (t + 1)) M1 = some (.inr (nI x, sI M1 32 1 (nI 0))) := by
          unfold b_re_readLaw_35_35
          rw [b156 a2]
          split
          · rfl
          · split
            · rfl
            · rw [if_pos rfl]
        refine Or.inr ⟨x, sI M1 32 1 (nI 0), x0, x1, ?_, (a3.mono (by decide)).trans (c'.x (by decide)), by rw [gI_sI, if_pos ⟨rfl, rfl⟩], fun Mr hr => ?_⟩
        · unfold l_re_readLaw_35
          exact lpc_step (s' := (0, nI (t + 1), M1)) h2 (lpc_out hb)
        · obtain ⟨Mr1, c1, c2, c3, c4⟩ := a4 Mr hr
          exact ⟨Mr1, lpc_out c1, c2, c3, c4⟩
theorem fill_36 (x : Int32) : ∀ (m j : Nat) (M : dM), j + m = 21 → ∃ M', l_jd_fill_36_5 x (nI j) (nI 21) M = some M' ∧ (∀ i, j ≤ i → i < 21 → gI M' 36 i = x) ∧ (∀ i, i < j → gI M' 36 i = gI M 36 i) ∧ chS [36] M M' := by
  intro m
  induction m with
  | zero =>
    intro j M hj
    refine ⟨M, ?_, fun i h1 h2 => by omega, fun _ _ => rfl, chS.refl _ _⟩
    unfold l_jd_fill_36_5
    refine lpc_out ?_
    show b_jd_fill_36_5_5 x (nI j) (nI 21) M = _
    unfold b_jd_fill_36_5_5
    rw [if_pos (z_yle (by omega) (by omega) (by omega))]
  | succ m ih =>
    intro j M hj
    have c : chS [36] M (sI M 36 j x) := chS_sI M 36 j _ rfl
    obtain ⟨M', a1, a2, a3, a4⟩ := ih (j + 1) (sI M 36 j x) (by omega)
    refine ⟨M', ?_, fun i h1 h2 => ?_, fun i hi => ?_, c.trans a4⟩
    · unfold l_jd_fill_36_5 at a1 ⊢
      refine lpc_step (s' := (nI (j + 1), sI M 36 j x)) ?_ a1
      show b_jd_fill_36_5_5 x (nI j) (nI 21) M = _
      unfold b_jd_fill_36_5_5
      rw [if_neg (z_nle (by omega) (by omega) (by omega)), z_gd (z_in (n := j) (by omega) (by omega)), z_cl (n := j) (by omega), show nI j + 1 = nI (j + 1) from z_add j 1]
    · by_cases e : i = j
      · rw [a3 i (by omega), e, gI_sI, if_pos ⟨rfl, rfl⟩]
      · exact a2 i (by omega) h2
    · rw [a3 i (by omega), gI_sI, if_neg (by omega)]
theorem fill_37 (x : Int32) : ∀ (m j : Nat) (M : dM), j + m = 21 → ∃ M', l_jd_fill_37_5 x (nI j) (nI 21) M = some M' ∧ (∀ i, j ≤ i → i < 21 → gI M' 37 i = x) ∧ (∀ i, i < j → gI M' 37 i = gI M 37 i) ∧ chS [37] M M' := by
  intro m
  induction m with
  | zero =>
    intro j M hj
    refine ⟨M, ?_, fun i h1 h2 => by omega, fun _ _ => rfl, chS.refl _ _⟩
    unfold l_jd_fill_37_5
    refine lpc_out ?_
    show b_jd_fill_37_5_5 x (nI j) (nI 21) M = _
    unfold b_jd_fill_37_5_5
    rw [if_pos (z_yle (by omega) (by omega) (by omega))]
  | succ m ih =>
    intro j M hj
    have c : chS [37] M (sI M 37 j x) := chS_sI M 37 j _ rfl
    obtain ⟨M', a1, a2, a3, a4⟩ := ih (j + 1) (sI M 37 j x) (by omega)
    refine ⟨M', ?_, fun i h1 h2 => ?_, fun i hi => ?_, c.trans a4⟩
    · unfold l_jd_fill_37_5 at a1 ⊢
      refine lpc_step (s' := (nI (j + 1), sI M 37 j x)) ?_ a1
      show b_jd_fill_37_5_5 x (nI j) (nI 21) M = _
      unfold b_jd_fill_37_5_5
      rw [if_neg (z_nle (by omega) (by omega) (by omega)), z_gd (z_in (n := j) (by omega) (by omega)), z_cl (n := j) (by omega), show nI j + 1 = nI (j + 1) from z_add j 1]
    · by_cases e : i = j
      · rw [a3 i (by omega), e, gI_sI, if_pos ⟨rfl, rfl⟩]
      · exact a2 i (by omega) h2
    · rw [a3 i (by omega), gI_sI, if_neg (by omega)]
theorem c_empty (M : dM) : ∃ M', f_la_empty M = some M' ∧ (∀ i, i < 21 → gI M' 36 i = nI 0 ∧ gI M' 37 i = nI 0) ∧ gI M' 34 1 = nI 0 ∧ gI M' 34 4 = nI 0 ∧ gI M' 34 5 = nI 0 ∧ gI M' 34 6 = nI 3 ∧ gI M' 34 7 = nI 100 ∧ chS [36, 37, 4401, 4404, 4405, 4406, 4407] M M' := by
  obtain ⟨Ma, a1, a2, a3, a4⟩ := fill_36 (nI 0) 21 0 (sI M 34 1 (nI 0)) rfl
  obtain ⟨Mb, b1, b2, b3, b4⟩ := fill_37 (nI 0) 21 0 Ma rfl
  have ea : f_jd_fill_36 0 (sI M 34 1 0) = some Ma := by
    unfold f_jd_fill_36
    have a1' : l_jd_fill_36_5 0 0 21 (sI M 34 1 0) = some Ma := a1
    rw [a1']; rfl
  have eb : f_jd_fill_37 0 Ma = some Mb := by
    unfold f_jd_fill_37
    have b1' : l_jd_fill_37_5 0 0 21 Ma = some Mb := b1
    rw [b1']; rfl
  have c0 : chS [36, 37, 4401, 4404, 4405, 4406, 4407] M Mb := ((chS_sI (S := [36, 37, 4401, 4404, 4405, 4406, 4407]) M 34 1 (nI 0) rfl).trans (a4.mono (by decide))).trans (b4.mono (by decide))
  have e1 : gI Mb 34 1 = nI 0 := by rw [b4.I 34 1 rfl, a4.I 34 1 rfl, gI_sI, if_pos ⟨rfl, rfl⟩]
  have c1 : chS [4404, 4405, 4406, 4407] Mb (sI (sI (sI (sI Mb 34 4 0) 34 5 0) 34 6 3) 34 7 100) := ((((chS.refl _ Mb).sI 34 4 _ rfl).sI 34 5 _ rfl).sI 34 6 _ rfl).sI 34 7 _ rfl
  refine ⟨sI (sI (sI (sI Mb 34 4 0) 34 5 0) 34 6 3) 34 7 100, ?_, fun i hi => ⟨?_, ?_⟩, (c1.I 34 1 rfl).trans e1, ?_, ?_, ?_, ?_, c0.trans (c1.mono (by decide))⟩
  · unfold f_la_empty
    rw [ea, Option.bind_some, eb]
    rfl
  · rw [c1.I 36 i rfl, b4.I 36 i rfl]; exact a2 i (by omega) hi
  · rw [c1.I 37 i rfl]; exact b2 i (by omega) hi
  · simp only [gI_sI, Nat.reduceEqDiff, and_false, and_true, if_false, if_true]; rfl
  · simp only [gI_sI, Nat.reduceEqDiff, and_false, and_true, if_false, if_true]; rfl
  · simp only [gI_sI, Nat.reduceEqDiff, and_false, and_true, if_false, if_true]; rfl
  · simp only [gI_sI, Nat.reduceEqDiff, and_false, and_true, if_false, if_true]; rfl
def v0 : Nat → Nat := fun k => if k = 2 then 3 else if k = 3 then 100 else 0
def Q0 : sQ := fun _ => none
theorem wQ0 : wQ Q0 v0 := ⟨fun _ _ _ _ _ _ _ z => (by cases z), fun l _ => ⟨fun z => absurd rfl z, fun z => absurd z (Nat.not_lt_zero l)⟩, fun l _ => ⟨fun z => absurd rfl z, fun z => absurd z (Nat.not_lt_zero l)⟩, by decide, by decide, by decide, by decide, by decide, by decide⟩
/-- the class reads, whatever the tape -/
theorem c_readLaw {T : Nat → Nat} {n : Nat} {M : dM} (h : tpc T n M) : ∃ M3, cSt T n 0 (sk T n 0) Q0 v0 M3 ∧ gI M3 32 7 = nI 0 ∧ chX kC3 M M3 ∧ f_re_readLaw M = l_re_readLaw_35 1 (nI 0) M3 := by
  obtain ⟨Ma, a1, a2, a3, a4, a5, a6, a7, a8⟩ := c_empty M
  have cb : chS [4205, 4207, 4208, 4209] Ma (sI (sI (sI (sI Ma 32 7 0) 32 8 0) 32 9 0) 32 5 0) := ((((chS.refl _ Ma).sI 32 7 _ rfl).sI 32 8 _ rfl).sI 32 9 _ rfl).sI 32 5 _ rfl
  have g5 : gI (sI (sI (sI (sI Ma 32 7 0) 32 8 0) 32 9 0) 32 5 0) 32 5 = nI 0 := by simp only [gI_sI, Nat.reduceEqDiff, and_false, and_true, if_false, if_true]; rfl
  have g7 : gI (sI (sI (sI (sI Ma 32 7 0) 32 8 0) 32 9 0) 32 5 0) 32 7 = nI 0 := by simp only [gI_sI, Nat.reduceEqDiff, and_false, and_true, if_false, if_true]; rfl
  have g8 : gI (sI (sI (sI (sI Ma 32 7 0) 32 8 0) 32 9 0) 32 5 0) 32 8 = nI 0 := by simp only [gI_sI, Nat.reduceEqDiff, and_false, and_true, if_false, if_true]; rfl
  have g9 : gI (sI (sI (sI (sI Ma 32 7 0) 32 8 0) 32 9 0) 32 5 0) 32 9 = nI 0 := by simp only [gI_sI, Nat.reduceEqDiff, and_false, and_true, if_false, if_true]; rfl
  have eq : f_re_readLaw M = (f_re_advance (sI (sI (sI (sI Ma 32 7 0) 32 8 0) 32 9 0) 32 5 0)).bind fun q3 => (l_re_readLaw_35 1 0 q3).bind fun r22 => some r22 := by
    unfold f_re_readLaw
    rw [a1, Option.bind_some]
  generalize sI (sI (sI (sI Ma 32 7 0) 32 8 0) 32 9 0) 32 5 0 = Mb at cb g5 g7 g8 g9 eq
  have hb := tpc_ch (tpc_ch h a8 (by decide)) cb (by decide)
  obtain ⟨M3, b1, b2, b3⟩ := c_advance hb (Nat.zero_le _) g5
  refine ⟨M3, ⟨⟨tpc_ch hb b3 (by decide), b2, ?_⟩, fun l hl => ⟨fun _ => ?_, fun _ _ _ _ _ z => (by cases z)⟩, ?_, ?_, ?_, ?_, ?_, ?_⟩, ?_, ((a8.x (by decide)).trans (cb.x (by decide))).trans (b3.x (by decide)), ?_⟩
  · rw [b3.I 34 1 rfl, cb.I 34 1 rfl]; exact a3
  · rw [b3.I 36 l rfl, cb.I 36 l rfl, b3.I 37 l rfl, cb.I 37 l rfl]; exact a2 l hl
  · rw [b3.I 34 4 rfl, cb.I 34 4 rfl]; exact a4
  · rw [b3.I 34 5 rfl, cb.I 34 5 rfl]; exact a5
  · rw [b3.I 34 6 rfl, cb.I 34 6 rfl]; exact a6
  · rw [b3.I 34 7 rfl, cb.I 34 7 rfl]; exact a7
  · rw [b3.I 32 8 rfl]; exact g8
  · rw [b3.I 32 9 rfl]; exact g9
  · rw [b3.I 32 7 rfl]; exact g7
  · rw [eq, b1, Option.bind_some]
    show (l_re_readLaw_35 1 (nI 0) M3).bind _ = _
    cases l_re_readLaw_35 1 (nI 0) M3 <;> rfl
theorem m_23 (x1 x2 x3 x4 : Int32) : ∀ (m j : Nat) (M : dM), j + m = 21 → ∃ M', l_mo_readsAll_23 x1 x2 x3 x4 (nI j) M = some M' ∧ (∀ i, j ≤ i → i < 21 → gI M' 85 i = nI 0) ∧ (∀ i, i < j → gI M' 85 i = gI M 85 i) ∧ chS [85] M M' := by
  intro m
  induction m with
  | zero =>
    intro j M hj
    refine ⟨M, ?_, fun i h1 h2 => by omega, fun _ _ => rfl, chS.refl _ _⟩
    unfold l_mo_readsAll_23
    refine lpc_out ?_
    show b_mo_readsAll_23_23 x1 x2 x3 x4 (nI j) M = _
    unfold b_mo_readsAll_23_23
    rw [if_pos (show (21 : Int32) ≤ nI j from z_yle (a := 21) (by omega) (by omega) (by omega))]
  | succ m ih =>
    intro j M hj
    have c : chS [85] M (sI M 85 j (nI 0)) := chS_sI M 85 j _ rfl
    obtain ⟨M', a1, a2, a3, a4⟩ := ih (j + 1) (sI M 85 j (nI 0)) (by omega)
    refine ⟨M', ?_, fun i h1 h2 => ?_, fun i hi => ?_, c.trans a4⟩
    · unfold l_mo_readsAll_23 at a1 ⊢
      refine lpc_step (s' := (nI (j + 1), sI M 85 j (nI 0))) ?_ a1
      show b_mo_readsAll_23_23 x1 x2 x3 x4 (nI j) M = _
      unfold b_mo_readsAll_23_23
      rw [if_neg (show ¬ (21 : Int32) ≤ nI j from z_nle (a := 21) (by omega) (by omega) (by omega)), z_gd (z_in (n := j) (by omega) (by omega)), z_cl (n := j) (by omega), show nI j + 1 = nI (j + 1) from z_add j 1]
      rfl
    · by_cases e : i = j
      · rw [a3 i (by omega), e, gI_sI, if_pos ⟨rfl, rfl⟩]
      · exact a2 i (by omega) h2
    · rw [a3 i (by omega), gI_sI, if_neg (by omega)]
def kM3 : List Nat := kM2 ++ [7617, 7619]
/-- the reference reads: to its loop -/
theorem m_readsAll {T : Nat → Nat} {n : Nat} {M : dM} (hn : n ≤ 1000) (hT : ∀ i, i < n → T i ≤ 126) (h17 : gI M 66 17 = nI n) (h81 : ∀ i, i < n → gI M 81 i = nI (T i)) : ∃ M3, rSt T n 0 (sk T n 0) Q0 v0 M3 ∧ gI M3 66 17 = nI 0 ∧ chS kM3 M M3 ∧ (∀ j, gI M3 88 j = gI M 88 j) ∧ f_mo_readsAll M = lpc bA (nI 0, nI 0, nI 0, nI 0, M3) := by
  have c0 : chS [7634, 7635] M (sI (sI M 66 34 3) 66 35 100) := ((chS.refl _ M).sI 66 34 _ rfl).sI 66 35 _ rfl
  have g34 : gI (sI (sI M 66 34 3) 66 35 100) 66 34 = nI 3 := by simp only [gI_sI, Nat.reduceEqDiff, and_false, and_true, if_false, if_true]; rfl
  have g35 : gI (sI (sI M 66 34 3) 66 35 100) 66 35 = nI 100 := by simp only [gI_sI, Nat.reduceEqDiff, and_false, and_true, if_false, if_true]; rfl
  obtain ⟨Ma, a1, a2, a3, a4⟩ := m_23 0 0 0 0 21 0 (sI (sI M 66 34 3) 66 35 100) rfl
  have a1' : l_mo_readsAll_23 0 0 0 0 0 (sI (sI M 66 34 3) 66 35 100) = some Ma := a1
  have e17 : gI (sI Ma 66 37 1000) 66 17 = nI n := by rw [gI_sI, if_neg (by omega), a4.I 66 17 rfl, c0.I 66 17 rfl]; exact h17
  have cb : chS [7637, 7619, 7617, 7620] Ma (sI (sI (sI (sI Ma 66 37 1000) 66 19 (nI n)) 66 17 0) 66 20 0) := ((((chS.refl _ Ma).sI 66 37 _ rfl).sI 66 19 _ rfl).sI 66 17 _ rfl).sI 66 20 _ rfl
  have g37 : gI (sI (sI (sI (sI Ma 66 37 1000) 66 19 (nI n)) 66 17 0) 66 20 0) 66 37 = nI (1000 + 0) := by simp only [gI_sI, Nat.reduceEqDiff, and_false, and_true, if_false, if_true]; rfl
  have g19 : gI (sI (sI (sI (sI Ma 66 37 1000) 66 19 (nI n)) 66 17 0) 66 20 0) 66 19 = nI n := by simp only [gI_sI, Nat.reduceEqDiff, and_false, and_true, if_false, if_true]
  have g17 : gI (sI (sI (sI (sI Ma 66 37 1000) 66 19 (nI n)) 66 17 0) 66 20 0) 66 17 = nI 0 := by simp only [gI_sI, Nat.reduceEqDiff, and_false, and_true, if_false, if_true]; rfl
  have g20 : gI (sI (sI (sI (sI Ma 66 37 1000) 66 19 (nI n)) 66 17 0) 66 20 0) 66 20 = nI 0 := by simp only [gI_sI, Nat.reduceEqDiff, and_false, and_true, if_false, if_true]; rfl
  have eq : f_mo_readsAll M = (f_mo_nextToken (sI (sI (sI (sI Ma 66 37 1000) 66 19 (nI n)) 66 17 0) 66 20 0)).bind fun q5 => (l_mo_readsAll_73 0 0 0 0 q5).bind fun r20 => some r20 := by
    unfold f_mo_readsAll
    rw [a1', Option.bind_some, e17]
  generalize sI (sI (sI (sI Ma 66 37 1000) 66 19 (nI n)) 66 17 0) 66 20 0 = Mb at cb g37 g19 g17 g20 eq
  have hb : tpm T n Mb := ⟨hn, hT, g19, fun i hi => by rw [cb.I 81 i rfl, a4.I 81 i rfl, c0.I 81 i rfl]; exact h81 i hi⟩
  obtain ⟨M3, b1, b2, b3⟩ := m_next hb (Nat.zero_le _) g20
  refine ⟨M3, ⟨⟨tpm_ch hb b3 (by decide), b2, ?_⟩, fun l hl => ⟨fun _ => ?_, fun _ _ _ _ _ z => (by cases z)⟩, ?_, ?_⟩, ?_, (((c0.mono (by decide)).trans (a4.mono (by decide))).trans (cb.mono (by decide))).trans (b3.mono (by decide)), fun j => ?_, ?_⟩
  · rw [b3.I 66 37 rfl]; exact g37
  · rw [b3.I 85 l rfl, cb.I 85 l rfl]; exact a2 l (Nat.zero_le _) hl
  · rw [b3.I 66 34 rfl, cb.I 66 34 rfl, a4.I 66 34 rfl]; exact g34
  · rw [b3.I 66 35 rfl, cb.I 66 35 rfl, a4.I 66 35 rfl]; exact g35
  · rw [b3.I 66 17 rfl]; exact g17
  · rw [b3.I 88 j rfl, cb.I 88 j rfl, a4.I 88 j rfl, c0.I 88 j rfl]
  · rw [eq, b1, Option.bind_some]
    show (lpc bA (nI 0, nI 0, nI 0, nI 0, M3)).bind _ = _
    cases lpc bA (nI 0, nI 0, nI 0, nI 0, M3) <;> rfl
