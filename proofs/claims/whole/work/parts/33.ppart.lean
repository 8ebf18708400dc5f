/-! a part of an E -/
theorem dv_lt (T : Nat → Nat) (p : Nat) : ∀ L, (∀ i, i < L → isDg (T (p + i)) = true) → dv T p L < 10 ^ L
  | 0, _ => by show 0 < 10 ^ 0; decide
  | L + 1, h => by
    have ih := dv_lt T p L (fun i hi => h i (by omega))
    have hl := (isDg_iff _).mp (h L (by omega))
    show dv T p L * 10 + T (p + L) - 48 < _
    rw [Nat.pow_succ]
    omega
theorem nu_lt {T : Nat → Nat} {n p : Nat} (h : kd T n p = 2) : nu T n p < 10000 ∧ p < n := by
  by_cases hp : p < n
  · by_cases l : isLo (T p) = true
    · rw [kd_lo hp l] at h
      split at h <;> cases h
    · by_cases d : isDg (T p) = true
      · rw [kd_dg hp l d] at h
        by_cases h4 : whl isDg T n p - p ≤ 4
        · have := dv_lt T p (whl isDg T n p - p) (fun i hi => whl_in isDg T n p (p + i) (by omega) (by omega))
          have h2 : (10 : Nat) ^ (whl isDg T n p - p) ≤ 10 ^ 4 := Nat.pow_le_pow_right (by decide) h4
          unfold nu
          rw [nx_dg hp l d]
          have h3 : (10 : Nat) ^ 4 = 10000 := by decide
          exact ⟨by omega, hp⟩
        · rw [if_neg h4] at h; cases h
      · rw [kd_ot hp l d] at h
        split at h <;> cases h
  · rw [kd_en hp] at h; cases h
theorem c_takeSign {T : Nat → Nat} {n e s p a : Nat} {M : dM} (k : pcs T n e s p M) (ha : a < 1000) : (isS T n p a = true → ∃ M', f_re_takeSign (nI a) M = some (true, M') ∧ pcs T n e s (np T n p) M' ∧ chS kTk M M') ∧ (isS T n p a = false → ∃ M', f_re_takeSign (nI a) M = some (false, M') ∧ gI M' 32 7 = nI (1 + 16 * p) ∧ chS [4207] M M') := by
  have i := c_isSign k.1 k.2.1 ha
  refine ⟨fun g => ?_, fun g => ?_⟩
  · obtain ⟨M', a1, a2, a3⟩ := c_adv k
    refine ⟨M', ?_, a2, a3⟩
    unfold f_re_takeSign
    rw [i, Option.bind_some, g, if_pos rfl, a1]
    rfl
  · obtain ⟨a1, a2, a3⟩ := c_wrong (k := 1) k
    refine ⟨(f_re_wrong (nI 1) M).2, ?_, a2, a3⟩
    unfold f_re_takeSign
    rw [i, Option.bind_some, g, if_neg (by decide)]
    rfl
theorem p_60 {T : Nat → Nat} {n e d s p : Nat} {y : Int32} {rec : Int32 → dM → Option (Bool × dM)} {M : dM} (k : pcs T n e s p M) (he : e < 2) (hy : (wIx T n p 6 = nI 0 ∧ y = 1) ∨ (wIx T n p 6 = -1 ∧ y = 0)) (ok : ¬ (kd T n p ≠ 2 ∧ isS T n p 40 = false ∧ wIx T n p 6 = -1 ∧ wIx T n p e = -1)) : f_re_part rec (nI d) M = t_re_part_60 rec (nI d) (bI (isS T n p 40)) y (wIx T n p e) M := by
  have i40 : f_re_isSign 40 M = some (isS T n p 40) := c_isSign k.1 k.2.1 (a := 40) (by decide)
  have hl := kd_lt (T := T) (n := n) (p := p)
  have e21 : f_re_part rec (nI d) M = t_re_part_21 rec (nI d) (bI (isS T n p 40)) y M := by
    unfold f_re_part
    rw [i40, Option.bind_some, c_wordIn k.1 k.2.1 (by decide), Option.bind_some]
    rcases hy with ⟨g, rfl⟩ | ⟨g, rfl⟩
    · rw [g, if_pos (show nI 0 = (0 : Int32) from rfl)]
    · rw [g, if_neg (by decide)]
  rw [e21]
  unfold t_re_part_21
  rw [k.2.2.1, c_wordIn k.1 k.2.1 (by omega), Option.bind_some]
  by_cases c1 : bI (isS T n p 40) = 0
  · rw [if_pos c1]
    by_cases c2 : y = 0
    · rw [if_pos c2]
      by_cases c3 : wIx T n p e = -1
      · rw [if_pos c3]
        by_cases c4 : gI M 32 3 = 2
        · rw [if_pos c4]
        · exfalso
          apply ok
          refine ⟨fun z => c4 ?_, ?_, ?_, c3⟩
          · rw [k.2.1.2.2.2.1, z]; rfl
          · exact Bool.eq_false_iff.mpr (bI_0 c1)
          · rcases hy with ⟨_, g⟩ | ⟨g, _⟩
            · rw [g] at c2; exact absurd c2 (by decide)
            · exact g
      · rw [if_neg c3]
    · rw [if_neg c2]
  · rw [if_neg c1]
theorem tie_part {T : Nat → Nat} {n e d : Nat} (he : e < 2) (hd : d < 6) {rec : Int32 → dM → Option (Bool × dM)} (hrec : d < 5 → ∀ p s M, pcs T n e s p M → s ≤ p → tie T n e 4 (d + 1) p s M (rec (nI (d + 1)) M)) {p s : Nat} {M : dM} (hM : pcs T n e s p M) (hs : s ≤ p) : tie T n e 4 d p s M (f_re_part rec (nI d) M) := by
  have hn : n ≤ 1000 := hM.1.1
  have hpn : p ≤ n := hM.2.1.1
  have hl := kd_lt (T := T) (n := n) (p := p)
  have hk := eK_le e
  by_cases ok : kd T n p ≠ 2 ∧ isS T n p 40 = false ∧ wIx T n p 6 = -1 ∧ wIx T n p e = -1
  · obtain ⟨k2, k40, k6, ke⟩ := ok
    obtain ⟨a1, a2, a3⟩ := c_wrong (k := 1) hM
    refine Or.inr ⟨1 + 16 * p, (f_re_wrong (nI 1) M).2, by omega, by omega, ?_, a2, a3.mono (by decide), fun q Mr r1 r2 r3 => ?_⟩
    · have i40 : f_re_isSign 40 M = some (isS T n p 40) := c_isSign hM.1 hM.2.1 (a := 40) (by decide)
      unfold f_re_part
      rw [i40, Option.bind_some, c_wordIn hM.1 hM.2.1 (by decide), Option.bind_some, k6, if_neg (by decide)]
      unfold t_re_part_21
      rw [hM.2.2.1, c_wordIn hM.1 hM.2.1 (by omega), Option.bind_some, k40, if_pos (show bI false = 0 from rfl), if_pos rfl, ke, if_pos rfl, if_neg]
      · rfl
      · rw [hM.2.1.2.2.2.1]
        exact z_ne (b := 2) (by omega) (by omega) k2
    · obtain ⟨b1, b2, b3⟩ := m_fails (k := 1) r1
      exact ⟨(f_mo_fails (nI 1) Mr).2, mE_out (m_w1 r1 he k2 k40 k6 ke), b2, b3 q 0⟩
  · by_cases h5 : d = 5
    · subst h5
      obtain ⟨a1, a2, a3⟩ := c_wrong (k := 5) hM
      refine Or.inr ⟨5 + 16 * p, (f_re_wrong (nI 5) M).2, by omega, by omega, ?_, a2, a3.mono (by decide), fun q Mr r1 r2 r3 => ?_⟩
      · have key : ∀ y : Int32, ((wIx T n p 6 = nI 0 ∧ y = 1) ∨ (wIx T n p 6 = -1 ∧ y = 0)) → f_re_part rec (nI 5) M = some (false, (f_re_wrong (nI 5) M).2) := fun y hy => by
          rw [p_60 hM he hy ok]
          unfold t_re_part_60
          rw [if_neg (show ¬ nI 5 < (5 : Int32) from by decide)]
          rfl
        rcases wIx_1 (T := T) (n := n) (p := p) (k := 6) (w := 10631) rfl with ⟨_, _, c⟩ | ⟨_, c⟩
        · exact key 1 (Or.inl ⟨c, rfl⟩)
        · exact key 0 (Or.inr ⟨c, rfl⟩)
      · obtain ⟨b1, b2, b3⟩ := m_fails (k := 5) r1
        exact ⟨(f_mo_fails (nI 5) Mr).2, mE_out (m_w5 r1 he ok), b2, b3 q 0⟩
    · have hd5 : d < 5 := by omega
      have hlt : nI d < (5 : Int32) := z_ylt (b := 5) (by omega) (by omega) hd5
      have val : ∀ v w D, G (eK e) 4 d [v] [w] D → p < n → ((kd T n p = 2 ∧ v = 100 + nu T n p ∧ isS T n p 40 = false ∧ wIx T n p 6 = -1 ∧ wIx T n p e = -1) ∨ ∃ f, f < eK e ∧ v = 1 + f ∧ isS T n p 40 = false ∧ wIx T n p 6 = -1 ∧ wIx T n p e = nI f) → ∀ M2, pcs T n e (s + 1) p M2 → gI M2 35 s = nI w → (∀ j, j < s → gI M2 35 j = gI M 35 j) → chS [35, 4401] M M2 → f_re_part rec (nI d) M = t_re_part_112 rec (nI d) 0 0 M2 → tie T n e 4 d p s M (f_re_part rec (nI d) M) := by
        intro v w D hG hp hv M2 k2 h2 u2 c2 hf
        have hnp := np_gt (T := T) hp
        obtain ⟨M3, b1, b2, b3⟩ := c_adv k2
        refine Or.inl ⟨np T n p, [v], [w], D, M3, ?_, ⟨hG, hnp.1, hnp.2, ?_, ?_, b2, ?_, (c2.mono (by decide)).trans (b3.mono (by decide)), fun j hj => ?_, fun q Mr r1 r2 r3 => ?_⟩, fun z => by omega, fun z => by omega, fun z => by omega⟩
        · rw [hf]
          unfold t_re_part_112
          rw [b1, Option.bind_some, if_pos rfl, if_pos rfl]
        · simp only [List.length_cons, List.length_nil]; omega
        · simp only [List.length_cons, List.length_nil]; omega
        · rw [hold_one, b3.I 35 s rfl]; exact h2
        · rw [b3.I 35 j rfl]; exact u2 j hj
        · obtain ⟨M', m1, m2, m3, m4⟩ := m_val (v := v) r1 he (by omega) hd5 hv
          exact ⟨M', comes.step m1, m2, m3, m4 d, fun _ => (m4 (d + 1)).2.2.2 d (by omega), fun z => by omega⟩
      rcases tP_all (T := T) (n := n) (p := p) he with ⟨g1, g2, g3, g4⟩ | ⟨f, g1, g2, g3, g4, g5⟩ | ⟨g1, g2, g3, g4⟩ | ⟨g1, g2, g3, g4⟩ | g
      · -- a number
        obtain ⟨hnu, hp⟩ := nu_lt g1
        obtain ⟨M2, b1, b2, b3, b4, b5⟩ := c_add (v := nu T n p) hM (by omega)
        refine val (100 + nu T n p) (nu T n p) _ (G_num hd5 hnu) hp (Or.inl ⟨g1, rfl, g2, g3, g4⟩) M2 b2 b3 b4 b5 ?_
        rw [p_60 hM he (Or.inr ⟨g3, rfl⟩) ok]
        unfold t_re_part_60
        rw [if_pos hlt, if_pos (show gI M 32 3 = (2 : Int32) from by rw [hM.2.1.2.2.2.1, g1]; rfl), hM.2.1.2.2.2.2 g1, b1, Option.bind_some, g2]
        rfl
      · -- a fact
        have hp : p < n := (kd_1 g2).1
        obtain ⟨M2, b1, b2, b3, b4, b5⟩ := c_add (v := 10000 + f) hM (by omega)
        refine val (1 + f) (10000 + f) _ (G_fact hd5 g1) hp (Or.inr ⟨f, g1, rfl, g3, g4, g5⟩) M2 b2 b3 b4 b5 ?_
        rw [p_60 hM he (Or.inr ⟨g4, rfl⟩) ok]
        unfold t_re_part_60
        rw [if_pos hlt, if_neg (show ¬ gI M 32 3 = (2 : Int32) from by rw [hM.2.1.2.2.2.1, g2]; decide), g5, if_neg (f_m1 f (by omega)), show (10000 : Int32) + nI f = nI (10000 + f) from z_add 10000 f, b1, Option.bind_some, g3]
        rfl
      · -- not
        have hp : p < n := (kd_1 g1).1
        have hnp := np_gt (T := T) hp
        obtain ⟨M2, b1, b2, b3⟩ := c_adv hM
        have hf : f_re_part rec (nI d) M = (rec (nI (d + 1)) M2).bind fun q9 => if q9.1 = true then (f_la_addStep 20000 q9.2).bind fun q11 => some (true, q11) else some (false, q9.2) := by
          rw [p_60 hM he (Or.inl ⟨g3, rfl⟩) ok]
          unfold t_re_part_60
          rw [if_pos hlt, if_neg (show ¬ gI M 32 3 = (2 : Int32) from by rw [hM.2.1.2.2.2.1, g1]; decide), g4, if_pos rfl]
          unfold t_re_part_112
          rw [b1, Option.bind_some, g2, if_pos (show bI false = 0 from rfl), if_neg (by decide), show nI d + 1 = nI (d + 1) from z_add d 1]
        rw [hf]
        rcases hrec hd5 (np T n p) s M2 b2 (by omega) with ⟨p3, c', r', D', M3, f1, f2, f3⟩ | ⟨x, M3, x0, x1, f1, f2, f3, f4⟩
        · obtain ⟨y0, y1, y2, y3, y4, y5, y6, y7, y8, y9⟩ := f2
          obtain ⟨M4, h1, h2, h3, h4, h5'⟩ := c_add (v := 20000) y5 (by omega)
          have h1' : f_la_addStep 20000 M3 = some M4 := h1
          rw [f1, Option.bind_some, if_pos rfl, h1']
          refine Or.inl ⟨p3, 30 :: c', r' ++ [20000], gNot D', M4, rfl, ⟨G_not hd5 y0, by omega, y2, ?_, ?_, ?_, ?_, ((b3.mono (by decide)).trans y7).trans (h5'.mono (by decide)), fun j hj => ?_, fun q Mr r1 r2 r3 => ?_⟩, fun z => by omega, fun z => by omega, fun z => by omega⟩
          · simp only [List.length_cons]; omega
          · simp only [List.length_append, List.length_cons, List.length_nil]; omega
          · rw [show s + (r' ++ ([20000] : List Nat)).length = s + r'.length + 1 by simp only [List.length_append, List.length_cons, List.length_nil]; omega]
            exact h2
          · rw [hold_app, hold_one]
            exact ⟨hold_keep y6 (fun j hj => h4 j hj), h3⟩
          · rw [h4 j (by omega), y8 j hj, b3.I 35 j rfl]
          · obtain ⟨Ma, m1, m2, m3, m4, m5, m6, m7⟩ := m_open (b := true) r1 he (by omega) hd5 (Or.inl ⟨rfl, g3⟩)
            obtain ⟨Mb, n1, n2, n3, n4, n5, n6⟩ := y9 (q + 1) Ma m2 (by omega) ⟨fun z => by omega, fun z => by omega⟩
            have hpq : pq Ma (d + 1) = pq Mr d := by
              show (if gI Ma 89 (d + 1) = nI 1 then pq Ma d else d + 1) = _
              rw [if_pos (show gI Ma 89 (d + 1) = nI 1 from m6)]
              exact pq_congr d (fun j hj => m4.2.2.1 j hj)
            rw [hpq] at n1
            refine ⟨Mb, (comes.step m1).trans n1, ?_, ?_, m4.trans (n4.down (by omega)) (by omega), fun _ => ?_, fun z => by omega⟩
            · rw [show q + (30 :: c').length = q + 1 + c'.length by simp only [List.length_cons]; omega]
              exact n2
            · rw [hold_cons]
              refine ⟨?_, by rw [Nat.add_assoc]; exact n3⟩
              rw [n4.2.1 _ (by omega)]
              exact hold_one.mp m3
            · rw [n4.2.2.2 d (by omega)]
              exact m5
        · rw [f1, Option.bind_some, if_neg Bool.false_ne_true]
          refine Or.inr ⟨x, M3, x0, x1, rfl, f2, (b3.mono (by decide)).trans f3, fun q Mr r1 r2 r3 => ?_⟩
          obtain ⟨Ma, m1, m2, m3, m4, m5, m6, m7⟩ := m_open (b := true) r1 he (by omega) hd5 (Or.inl ⟨rfl, g3⟩)
          obtain ⟨Mb, n1, n2, n3⟩ := f4 (q + 1) Ma m2 (by omega) ⟨fun z => by omega, fun z => by omega⟩
          exact ⟨Mb, mE_comes (comes.step m1) n1, n2, (m4.down (by omega)).trans n3 (by omega)⟩
      · -- ( E )
        have hp : p < n := kd_3 (T := T) (n := n) (p := p) (by rw [g1]; decide)
        have hnp := np_gt (T := T) hp
        obtain ⟨M2, b1, b2, b3⟩ := c_adv hM
        have hf : f_re_part rec (nI d) M = (f_re_expression rec (nI (d + 1)) M2).bind fun q13 => if q13.1 = true then (f_re_takeSign 41 q13.2).bind fun q15 => if q15.1 = true then some (true, q15.2) else some (false, q15.2) else some (false, q13.2) := by
          rw [p_60 hM he (Or.inr ⟨g3, rfl⟩) ok]
          unfold t_re_part_60
          rw [if_pos hlt, if_neg (show ¬ gI M 32 3 = (2 : Int32) from by rw [hM.2.1.2.2.2.1, g1]; decide), g4, if_pos rfl]
          unfold t_re_part_112
          rw [b1, Option.bind_some, g2, if_neg (show ¬ bI true = 0 from by decide), show nI d + 1 = nI (d + 1) from z_add d 1]
        rw [hf]
        have pre0 : ∀ Ma : dM, gI Ma 89 (d + 1) = nI 2 → gI Ma 90 (d + 1) = nI 0 → pq Ma (d + 1) = d + 1 ∧ rPre 0 (d + 1) Ma := fun Ma h1 h2 => by
          have e1 : pq Ma (d + 1) = d + 1 := by
            show (if gI Ma 89 (d + 1) = nI 1 then pq Ma d else d + 1) = _
            rw [h1, if_neg (by decide)]
          exact ⟨e1, fun _ => e1, fun _ => h2⟩
        rcases tie_expr (d := d + 1) (by omega) (hrec hd5) b2 (by omega) with ⟨p3, c', r', D', M3, f1, f2, f3⟩ | ⟨x, M3, x0, x1, f1, f2, f3, f4⟩
        · obtain ⟨y0, y1, y2, y3, y4, y5, y6, y7, y8, y9⟩ := f2
          rw [f1, Option.bind_some, if_pos rfl]
          -- the reference up to the end of E
          have up : ∀ q Mr, rst T n e q p Mr → q ≤ p → ∃ Mb, comes bR (nI d, nI 1, Mr) (nI (d + 1), nI 0, Mb) ∧ rst T n e (q + 1 + c'.length) p3 Mb ∧ hold Mb 88 (1000 + q) (28 :: c') ∧ rfr q d Mr Mb ∧ gI Mb 90 d = gI Mr 90 d ∧ stE T n (d + 1) p3 Mb := by
            intro q Mr r1 r2
            obtain ⟨Ma, m1, m2, m3, m4, m5, m6, m7⟩ := m_open (b := false) r1 he (by omega) hd5 (Or.inr ⟨rfl, g3, g2⟩)
            obtain ⟨e1, e2⟩ := pre0 Ma m6 m7
            obtain ⟨Mb, n1, n2, n3, n4, n5, n6⟩ := y9 (q + 1) Ma m2 (by omega) e2
            rw [e1] at n1
            refine ⟨Mb, (comes.step m1).trans n1, n2, ?_, m4.trans (n4.down (by omega)) (by omega), ?_, f3.1 (by decide), (f3.2.1 (by decide)).1, (f3.2.1 (by decide)).2, f3.2.2 rfl, fun z => n6 (by decide) z⟩
            · rw [hold_cons]
              refine ⟨?_, by rw [Nat.add_assoc]; exact n3⟩
              rw [n4.2.1 _ (by omega)]
              exact hold_one.mp m3
            · rw [n4.2.2.2 d (by omega)]
              exact m5
          by_cases g41 : isS T n p3 41 = true
          · have hp3 := isS_lt g41
            have hnp3 := np_gt (T := T) hp3
            obtain ⟨M4, h1, h2, h3⟩ := (c_takeSign (a := 41) y5 (by decide)).1 g41
            have h1' : f_re_takeSign 41 M3 = some (true, M4) := h1
            rw [h1', Option.bind_some, if_pos rfl]
            refine Or.inl ⟨np T n p3, 28 :: (c' ++ [29]), r', D', M4, rfl, ⟨G_par hd5 y0, by omega, hnp3.2, ?_, by omega, h2, hold_keep y6 (fun j _ => h3.I 35 j rfl), ((b3.mono (by decide)).trans y7).trans (h3.mono (by decide)), fun j hj => ?_, fun q Mr r1 r2 r3 => ?_⟩, fun z => by omega, fun z => by omega, fun z => by omega⟩
            · simp only [List.length_cons, List.length_append, List.length_nil]; omega
            · rw [h3.I 35 j rfl, y8 j hj, b3.I 35 j rfl]
            · obtain ⟨Mb, u1, u2, u3, u4, u5, u6⟩ := up q Mr r1 r2
              obtain ⟨Mc, v1, v2, v3, v4⟩ := m_close (d := d) u2 (by omega) (by omega) u6 g41
              rw [pq_congr d (fun j hj => u4.2.2.1 j hj)] at v1
              refine ⟨Mc, u1.trans (comes.step v1), ?_, ?_, u4.trans (v4 d) (by omega), fun _ => ?_, fun z => by omega⟩
              · rw [show q + (28 :: (c' ++ [29])).length = q + 1 + c'.length + 1 by simp only [List.length_cons, List.length_append, List.length_nil]; omega]
                exact v2
              · rw [show 28 :: (c' ++ [29]) = (28 :: c') ++ [29] from rfl, hold_app]
                refine ⟨hold_keep u3 (fun j hj => ?_), ?_⟩
                · simp only [List.length_cons] at hj
                  exact (v4 0).2.1 j (by omega)
                · rw [show 1000 + q + (28 :: c').length = 1000 + (q + 1 + c'.length) by simp only [List.length_cons]; omega]
                  exact v3
              · rw [(v4 (d + 1)).2.2.2 d (by omega)]
                exact u5
          · have g41' := Bool.eq_false_iff.mpr g41
            obtain ⟨M4, h1, h2, h3⟩ := (c_takeSign (a := 41) y5 (by decide)).2 g41'
            have h1' : f_re_takeSign 41 M3 = some (false, M4) := h1
            rw [h1', Option.bind_some, if_neg Bool.false_ne_true]
            refine Or.inr ⟨1 + 16 * p3, M4, by omega, by omega, rfl, h2, ((b3.mono (by decide)).trans (y7.mono (by decide))).trans (h3.mono (by decide)), fun q Mr r1 r2 r3 => ?_⟩
            obtain ⟨Mb, u1, u2, u3, u4, u5, u6⟩ := up q Mr r1 r2
            obtain ⟨w1, w2, w3⟩ := m_fails (k := 1) u2
            exact ⟨(f_mo_fails (nI 1) Mb).2, mE_comes u1 (m_bad u2 (by omega) u6 (Or.inl ⟨by omega, g41'⟩)), w2, (u4.down (by omega)).trans (w3 q 0) (Nat.le_refl _)⟩
        · rw [f1, Option.bind_some, if_neg Bool.false_ne_true]
          refine Or.inr ⟨x, M3, x0, x1, rfl, f2, (b3.mono (by decide)).trans f3, fun q Mr r1 r2 r3 => ?_⟩
          obtain ⟨Ma, m1, m2, m3, m4, m5, m6, m7⟩ := m_open (b := false) r1 he (by omega) hd5 (Or.inr ⟨rfl, g3, g2⟩)
          obtain ⟨Mb, n1, n2, n3⟩ := f4 (q + 1) Ma m2 (by omega) (pre0 Ma m6 m7).2
          exact ⟨Mb, mE_comes (comes.step m1) n1, n2, (m4.down (by omega)).trans n3 (by omega)⟩
      · exact absurd g ok
theorem tie_rec {T : Nat → Nat} {n e : Nat} (he : e < 2) : ∀ k d f, d + k = 5 → k < f → ∀ p s M, pcs T n e s p M → s ≤ p → tie T n e 4 d p s M (fr_re_part f (nI d) M)
  | k, d, 0, _, hf => by omega
  | 0, d, f + 1, hk, _ => fun p s M hM hs => tie_part he (by omega) (rec := fr_re_part f) (fun z => by omega) hM hs
  | k + 1, d, f + 1, hk, hf => fun p s M hM hs => tie_part he (by omega) (rec := fr_re_part f) (fun _ => tie_rec he k (d + 1) f (by omega) (by omega)) hM hs
theorem tie_E {T : Nat → Nat} {n e p s : Nat} {M : dM} (he : e < 2) (hM : pcs T n e s p M) (hs : s ≤ p) : tie T n e 0 0 p s M (f_re_expression (fr_re_part 8) (nI 0) M) := tie_expr (by decide) (tie_rec he 5 0 8 rfl (by decide)) hM hs
