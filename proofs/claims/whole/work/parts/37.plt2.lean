/-! ===== more lines ===== -/
theorem told_34 {T : Nat → Nat} {n s p l : Nat} {Q : sQ} {v : Nat → Nat} {M : dM} (st : cSt T n s p Q v M) (w : wQ Q v) (hs : s ≤ 1000) (hl : l < 21) : (Q l = none ∧ f_la_isTold_34 (nI l) M = some false) ∨ (Q l ≠ none ∧ f_la_isTold_34 (nI l) M = some true) := by
  obtain ⟨g1, g2⟩ := st.2.1 l hl
  unfold f_la_isTold_34
  rw [z_gd (z_in (n := l) hl (by decide)), z_cl (n := l) (by omega)]
  cases hq : Q l with
  | none =>
    obtain ⟨y1, y2⟩ := g1 hq
    refine Or.inl ⟨rfl, ?_⟩
    rw [y1, y2, if_pos (by decide)]
  | some x =>
    obtain ⟨a, r, b, c, D⟩ := x
    obtain ⟨y1, y2, y3, y4⟩ := g2 a r b c D hq
    have := (w.1 l a r b c D hl hq).1
    refine Or.inr ⟨fun z => (by cases z), ?_⟩
    rw [y1, y2, if_neg (z_nle (by omega) (by omega) (by omega))]
theorem told_85 {T : Nat → Nat} {n q p l : Nat} {Q : sQ} {v : Nat → Nat} {M : dM} (st : rSt T n q p Q v M) (hl : l < 21) : (gI M 85 l = nI 0) ↔ Q l = none := by
  obtain ⟨g1, g2⟩ := st.2.1 l hl
  cases hq : Q l with
  | none => exact ⟨fun _ => rfl, fun _ => g1 hq⟩
  | some x =>
    obtain ⟨a, r, b, c, D⟩ := x
    have := (g2 a r b c D hq).1
    refine ⟨fun z => ?_, fun z => (by cases z)⟩
    rw [this] at z
    exact absurd z (by decide)
theorem c_isNum {T : Nat → Nat} {n s p m : Nat} {M : dM} (h : pc0 T n s p M) (hm : m < 10000) : (kd T n p = 2 ∧ nu T n p ≤ m ∧ f_re_isNumberUpTo (nI m) M = (true, M)) ∨ (kd T n p = 2 ∧ m < nu T n p ∧ f_re_isNumberUpTo (nI m) M = (false, (f_re_wrong (nI 4) M).2)) ∨ (kd T n p ≠ 2 ∧ f_re_isNumberUpTo (nI m) M = (false, (f_re_wrong (nI 1) M).2)) := by
  have hl := kd_lt (T := T) (n := n) (p := p)
  unfold f_re_isNumberUpTo
  by_cases k2 : kd T n p = 2
  · have hnu := (nu_lt k2).1
    rw [if_pos (show gI M 32 3 = (2 : Int32) from by rw [h.2.1.2.2.2.1, k2]; rfl), h.2.1.2.2.2.2 k2]
    by_cases hle : nu T n p ≤ m
    · rw [if_pos (z_yle (by omega) (by omega) hle)]
      exact Or.inl ⟨k2, hle, rfl⟩
    · rw [if_neg (z_nle (by omega) (by omega) (by omega)), if_neg (show ¬ (f_re_wrong 4 M).1 = true from Bool.false_ne_true)]
      exact Or.inr (Or.inl ⟨k2, by omega, rfl⟩)
  · rw [if_neg (show ¬ gI M 32 3 = (2 : Int32) from by rw [h.2.1.2.2.2.1]; exact z_ne (b := 2) (by omega) (by omega) k2)]
    exact Or.inr (Or.inr ⟨k2, rfl⟩)
/-- enough -/
theorem lT_enough {T : Nat → Nat} {n p q s : Nat} {Q : sQ} {v : Nat → Nat} {M : dM} (st : cSt T n s p Q v M) (w : wQ Q v) (hs : s ≤ p) (hq : q ≤ p) (k1 : kd T n p = 1) (hw : wv T n p = 79495460) : lT T n s q p Q v M (f_re_enoughLine M) := by
  obtain ⟨w1, w2, w3, w4, w5, w6, w7, w8, w9⟩ := id w
  have hp : p < n := kd_3 (T := T) (n := n) (p := p) (by rw [k1]; decide)
  have hnp := np_gt (T := T) hp
  have hn := st.1.1.1
  have hbA : ∀ Mr, rSt T n q p Q v Mr → _ := fun Mr hr => bA_5 hr.1 k1 hw w4 w5 w8 w9
  unfold f_re_enoughLine
  rcases told_34 st w (by omega) (l := 20) (by decide) with ⟨t1, t2⟩ | ⟨t1, t2⟩
  · have t2' : f_la_isTold_34 20 M = some false := t2
    rw [t2', Option.bind_some, if_neg Bool.false_ne_true]
    obtain ⟨M2, e1, e2, e3⟩ := c_adv0 st.1
    rw [e1, Option.bind_some]
    have hr : ∀ Mr, rs0 T n q p Mr → ∃ Mr2, rs0 T n q (np T n p) Mr2 ∧ chS kNt Mr Mr2 ∧ (fun Mr => (f_mo_nextToken Mr).bind fun q7 => f_mo_readsWhen (nI 20) q7) Mr = f_mo_readsWhen (nI 20) Mr2 := fun Mr h0 => by
      obtain ⟨Mr2, g1, g2, g3⟩ := m_adv0 h0
      exact ⟨Mr2, g2, g3, by show (f_mo_nextToken Mr).bind _ = _; rw [g1]; rfl⟩
    have hb : ∀ Mr, rSt T n q p Q v Mr → bA (nI (v 0), nI (v 1), nI (v 4), nI (v 5), Mr) = ((fun Mr => (f_mo_nextToken Mr).bind fun q7 => f_mo_readsWhen (nI 20) q7) Mr).bind fun q9 => if q9.1 = false then some (.inr (false, q9.2)) else some (.inl (nI (v 0), nI (v 1), nI (v 4), nI (v 5), q9.2)) := fun Mr h0 => by
      rw [hbA Mr h0, if_neg (fun z => z ((told_85 h0 (by decide)).mpr t1))]
      show _ = ((f_mo_nextToken Mr).bind fun q7 => f_mo_readsWhen (nI 20) q7).bind _
      cases f_mo_nextToken Mr <;> rfl
    rcases tie_wh (l := 20) (k := 3) (w := 458690) (by omega) (by decide) rfl e2 (by omega) (by omega : q ≤ np T n p) (fun Mr => f_mo_readsWhen (nI 20) Mr) (fun Mr h0 z => (readsWhen_eq _ h0).1 z) (fun Mr h0 z => (readsWhen_eq _ h0).2 z) with ⟨M3, p', c, r, D, M1, f1, f2, f3, f4⟩ | ⟨M3, x, M1, f1, f2, f3, f4⟩ | ⟨x, M1, f1, f2⟩
    · rw [f1, Option.bind_some, if_pos rfl]
      have f3' : f_re_wholeE 20 1 M3 = some (true, M1) := f3
      have wok := wOK_pre f4 e3 (by omega) hr
      show lT T n s q p Q v M ((f_re_wholeE 20 1 M3).bind _)
      rw [f3', Option.bind_some, if_pos rfl]
      have gv : ∀ k j, (kC.contains (ky k j) = false) → gI M1 k j = gI M k j := fun k j hk => (wok.2.2.2.2.2.2.2.2.2.2.1 k j hk).1
      refine lT_w (v' := v) st hs hq wok (chS.refl _ M1) ⟨(gv 34 4 rfl).trans st.2.2.1, (gv 34 5 rfl).trans st.2.2.2.1, (gv 34 6 rfl).trans st.2.2.2.2.1, (gv 34 7 rfl).trans st.2.2.2.2.2.1, (gv 32 8 rfl).trans st.2.2.2.2.2.2.1, (gv 32 9 rfl).trans st.2.2.2.2.2.2.2⟩ ⟨rfl, rfl⟩ ⟨?_, ?_, ?_, w4, w5, w6, w7, w8, w9⟩ hb
      · intro k a r' b c' D' hk z
        unfold uQ at z
        by_cases e : k = 20
        · rw [if_pos e] at z
          cases z
          rw [e]
          exact ⟨G_ne wok.2.1, wok.2.1⟩
        · rw [if_neg e] at z
          exact w1 k a r' b c' D' hk z
      · intro k hk
        unfold uQ
        rw [if_neg (by omega)]
        exact w2 k hk
      · intro k hk
        unfold uQ
        rw [if_neg (by omega)]
        exact w3 k hk
    · rw [f1, Option.bind_some, if_pos rfl]
      have f3' : f_re_wholeE 20 1 M3 = some (false, M1) := f3
      show lT T n s q p Q v M ((f_re_wholeE 20 1 M3).bind _)
      rw [f3', Option.bind_some, if_neg Bool.false_ne_true]
      exact lT_bad (z := fun q9 => (nI (v 0), nI (v 1), nI (v 4), nI (v 5), q9.2)) (wBad_pre f4 e3 hr) hb
    · rw [f1, Option.bind_some, if_neg Bool.false_ne_true]
      exact lT_bad (z := fun q9 => (nI (v 0), nI (v 1), nI (v 4), nI (v 5), q9.2)) (wBad_pre f2 e3 hr) hb
  · have t2' : f_la_isTold_34 20 M = some true := t2
    rw [t2', Option.bind_some, if_pos rfl]
    exact lT_at (k := 3) st.1 (by decide) (fun Mr hr => by rw [hbA Mr hr, if_pos (fun z => t1 ((told_85 hr (by decide)).mp z))])
/-- the reference's rule line behind its number -/
noncomputable def rR (l : Nat) (M : dM) : Option (Bool × dM) := if f_mo_isWord 10502425 M = true then (f_mo_nextToken M).bind fun q1 => (f_mo_readsE (nI l) q1).bind fun q3 => some (q3.1, q3.2) else some (f_mo_fails (nI 1) M)
theorem readsRule_eq {T : Nat → Nat} {n p q : Nat} {M : dM} (h : rs0 T n q p M) : (kd T n p ≠ 2 → f_mo_readsRule M = some (f_mo_fails (nI 1) M)) ∧ (kd T n p = 2 → 7 < nu T n p → f_mo_readsRule M = some (f_mo_fails (nI 4) M)) ∧ (kd T n p = 2 → nu T n p ≤ 7 → (gI M 85 (12 + nu T n p) = nI 0 → f_mo_readsRule M = (f_mo_nextToken M).bind (rR (12 + nu T n p))) ∧ (¬ gI M 85 (12 + nu T n p) = nI 0 → f_mo_readsRule M = some (f_mo_fails (nI 3) M))) := by
  have hl := kd_lt (T := T) (n := n) (p := p)
  unfold f_mo_readsRule
  refine ⟨fun k => ?_, fun k hn => ?_, fun k hn => ⟨fun g => ?_, fun g => ?_⟩⟩
  · rw [if_neg (show ¬ gI M 66 22 = (2 : Int32) from by rw [h.2.1.2.2.2.1]; exact z_ne (b := 2) (by omega) (by omega) k)]
    rfl
  · have hnu := (nu_lt k).1
    rw [if_pos (show gI M 66 22 = (2 : Int32) from by rw [h.2.1.2.2.2.1, k]; rfl), h.2.1.2.2.2.2.1 k, if_neg (show ¬ nI (nu T n p) ≤ (7 : Int32) from z_nle (b := 7) (by omega) (by omega) hn)]
    rfl
  · have hnu := (nu_lt k).1
    have e12 : (12 : Int32) + nI (nu T n p) = nI (12 + nu T n p) := z_add 12 _
    rw [if_pos (show gI M 66 22 = (2 : Int32) from by rw [h.2.1.2.2.2.1, k]; rfl), h.2.1.2.2.2.2.1 k, if_pos (show nI (nu T n p) ≤ (7 : Int32) from z_yle (b := 7) (by omega) (by omega) hn), e12, z_gd (z_in (n := 12 + nu T n p) (by omega) (by omega)), z_cl (n := 12 + nu T n p) (by omega), if_pos (show gI M 85 (12 + nu T n p) = (0 : Int32) from g)]
    rfl
  · have hnu := (nu_lt k).1
    have e12 : (12 : Int32) + nI (nu T n p) = nI (12 + nu T n p) := z_add 12 _
    rw [if_pos (show gI M 66 22 = (2 : Int32) from by rw [h.2.1.2.2.2.1, k]; rfl), h.2.1.2.2.2.2.1 k, if_pos (show nI (nu T n p) ≤ (7 : Int32) from z_yle (b := 7) (by omega) (by omega) hn), e12, z_gd (z_in (n := 12 + nu T n p) (by omega) (by omega)), z_cl (n := 12 + nu T n p) (by omega), if_neg (show ¬ gI M 85 (12 + nu T n p) = (0 : Int32) from g)]
    rfl
theorem cSt_adv {T : Nat → Nat} {n s p : Nat} {Q : sQ} {v : Nat → Nat} {M : dM} (st : cSt T n s p Q v M) : ∃ M', f_re_advance M = some M' ∧ cSt T n s (np T n p) Q v M' ∧ chS kTk M M' := by
  obtain ⟨M', a1, a2, a3⟩ := c_adv0 st.1
  refine ⟨M', a1, ⟨a2, fun l hl => ?_, ?_⟩, a3⟩
  · obtain ⟨g1, g2⟩ := st.2.1 l hl
    rw [a3.I 36 l rfl, a3.I 37 l rfl]
    exact ⟨g1, fun a r b c D z => ⟨(g2 a r b c D z).1, (g2 a r b c D z).2.1, (g2 a r b c D z).2.2.1, hold_of (g2 a r b c D z).2.2.2 (fun j => a3.I 35 j rfl)⟩⟩
  · obtain ⟨v1, v2, v3, v4, v5, v6⟩ := st.2.2
    exact ⟨(a3.I 34 4 rfl).trans v1, (a3.I 34 5 rfl).trans v2, (a3.I 34 6 rfl).trans v3, (a3.I 34 7 rfl).trans v4, (a3.I 32 8 rfl).trans v5, (a3.I 32 9 rfl).trans v6⟩
theorem rSt_adv {T : Nat → Nat} {n q p : Nat} {Q : sQ} {v : Nat → Nat} {M : dM} (st : rSt T n q p Q v M) : ∃ M', f_mo_nextToken M = some M' ∧ rSt T n q (np T n p) Q v M' ∧ chS kNt M M' := by
  obtain ⟨M', a1, a2, a3⟩ := m_adv0 st.1
  refine ⟨M', a1, ⟨a2, fun l hl => ?_, (a3.I 66 34 rfl).trans st.2.2.1, (a3.I 66 35 rfl).trans st.2.2.2⟩, a3⟩
  obtain ⟨g1, g2⟩ := st.2.1 l hl
  rw [a3.I 85 l rfl, a3.I 86 l rfl, a3.I 87 l rfl]
  exact ⟨g1, fun a r b c D z => ⟨(g2 a r b c D z).1, (g2 a r b c D z).2.1, (g2 a r b c D z).2.2.1, (g2 a r b c D z).2.2.2.1, hold_of (g2 a r b c D z).2.2.2.2 (fun j => a3.I 88 j rfl)⟩⟩
/-- wrong at a later token -/
theorem lT_late {T : Nat → Nat} {n p p1 q s k : Nat} {Q : sQ} {v : Nat → Nat} {M M2 : dM} (h : pc0 T n s p1 M2) (hc : chX kC2 M M2) (hk : 0 < k ∧ k < 6) (hb : ∀ Mr, rSt T n q p Q v Mr → ∃ Mr2, rs0 T n q p1 Mr2 ∧ chS kM2 Mr Mr2 ∧ (∀ j, j < 1000 → gI Mr2 88 j = gI Mr 88 j) ∧ bA (nI (v 0), nI (v 1), nI (v 4), nI (v 5), Mr) = some (.inr (f_mo_fails (nI k) Mr2))) : lT T n s q p Q v M (some (false, (f_re_wrong (nI k) M2).2)) := by
  obtain ⟨a1, a2, a3⟩ := c_wrong0 (k := k) h
  have h1 := h.1.1
  have h2 := h.2.1.1
  refine Or.inr ⟨k + 16 * p1, _, by omega, by omega, rfl, a2, hc.trans (a3.x (by decide)), fun Mr hr => ?_⟩
  obtain ⟨Mr2, g1, g2, g4, g3⟩ := hb Mr hr
  obtain ⟨b1, b2, b3⟩ := m_fails0 (k := k) g1
  exact ⟨(f_mo_fails (nI k) Mr2).2, g3, b2, g2.trans (b3.mono (by decide)), fun j hj => by rw [b3.I 88 j rfl, g4 j hj]⟩
/-- rule -/
theorem lT_rule {T : Nat → Nat} {n p q s : Nat} {Q : sQ} {v : Nat → Nat} {M : dM} (st : cSt T n s p Q v M) (w : wQ Q v) (hs : s ≤ p) (hq : q ≤ p) (k1 : kd T n p = 1) (hw : wv T n p = 369932) : lT T n s q p Q v M (f_re_ruleLine M) := by
  obtain ⟨w1, w2, w3, w4, w5, w6, w7, w8, w9⟩ := id w
  have hp : p < n := kd_3 (T := T) (n := n) (p := p) (by rw [k1]; decide)
  have hnp := np_gt (T := T) hp
  have hn := st.1.1.1
  have hbA : ∀ Mr, rSt T n q p Q v Mr → _ := fun Mr hr => bA_2 hr.1 k1 hw w4 w5 w8 w9
  unfold f_re_ruleLine
  obtain ⟨M2, e1, e2, e3⟩ := cSt_adv st
  rw [e1, Option.bind_some]
  have late : ∀ k, (0 < k ∧ k < 6) → (∀ Mr2, rSt T n q (np T n p) Q v Mr2 → f_mo_readsRule Mr2 = some (f_mo_fails (nI k) Mr2)) → lT T n s q p Q v M (some (false, (f_re_wrong (nI k) M2).2)) := fun k hk h => lT_late e2.1 (e3.x (by decide)) hk (fun Mr hr => by
    obtain ⟨Mr2, g1, g2, g3⟩ := rSt_adv hr
    refine ⟨Mr2, g2.1, g3.mono (by decide), fun j _ => g3.I 88 j rfl, ?_⟩
    rw [hbA Mr hr, g1, Option.bind_some, h Mr2 g2, Option.bind_some, if_pos (show (f_mo_fails (nI k) Mr2).1 = false from rfl)]
    rfl)
  rcases c_isNum (m := 7) e2.1 (by decide) with ⟨n1, n2, n3⟩ | ⟨n1, n2, n3⟩ | ⟨n1, n3⟩
  · have n3' : f_re_isNumberUpTo 7 M2 = (true, M2) := n3
    rw [n3', if_pos rfl]
    have e12 : (12 : Int32) + gI M2 32 6 = nI (12 + nu T n (np T n p)) := by
      rw [e2.1.2.1.2.2.2.2 n1]
      exact z_add 12 _
    show lT T n s q p Q v M ((f_la_isTold_34 (12 + gI M2 32 6) M2).bind _)
    rw [e12]
    generalize hl : 12 + nu T n (np T n p) = l
    have hl20 : l < 20 := by omega
    rcases told_34 e2 w (by omega) (l := l) (by omega) with ⟨t1, t2⟩ | ⟨t1, t2⟩
    · rw [t2, Option.bind_some, if_neg Bool.false_ne_true]
      have hp1 : np T n p < n := (nu_lt n1).2
      have hnp1 := np_gt (T := T) hp1
      obtain ⟨M3, h1, h2, h3⟩ := c_adv0 e2.1
      show lT T n s q p Q v M ((f_re_advance M2).bind _)
      rw [h1, Option.bind_some]
      have hr : ∀ Mr, rs0 T n q p Mr → ∃ Mr2, rs0 T n q (np T n (np T n p)) Mr2 ∧ chS kNt Mr Mr2 ∧ (fun Mr => (f_mo_nextToken Mr).bind fun q7 => (f_mo_nextToken q7).bind (rR l)) Mr = rR l Mr2 := fun Mr h0 => by
        obtain ⟨Mr2, g1, g2, g3⟩ := m_adv0 h0
        obtain ⟨Mr3, j1, j2, j3⟩ := m_adv0 g2
        exact ⟨Mr3, j2, g3.trans j3, by show (f_mo_nextToken Mr).bind _ = _; rw [g1, Option.bind_some, j1]; rfl⟩
      have hb : ∀ Mr, rSt T n q p Q v Mr → bA (nI (v 0), nI (v 1), nI (v 4), nI (v 5), Mr) = ((fun Mr => (f_mo_nextToken Mr).bind fun q7 => (f_mo_nextToken q7).bind (rR l)) Mr).bind fun q9 => if q9.1 = false then some (.inr (false, q9.2)) else some (.inl (nI (v 0), nI (v 1), nI (v 4), nI (v 5), q9.2)) := fun Mr h0 => by
        obtain ⟨Mr2, g1, g2, g3⟩ := rSt_adv h0
        rw [hbA Mr h0]
        show _ = ((f_mo_nextToken Mr).bind fun q7 => (f_mo_nextToken q7).bind (rR l)).bind _
        rw [g1, Option.bind_some, Option.bind_some, (((readsRule_eq g2.1).2.2 n1 n2).1 (by rw [hl]; exact (told_85 g2 (by omega)).mpr t1)), hl]
      have hrr : ∀ Mr, rs0 T n q (np T n (np T n p)) Mr → f_mo_isWord 10502425 Mr = decide (kd T n (np T n (np T n p)) = 1 ∧ wv T n (np T n (np T n p)) = 10502425) := fun Mr h0 => m_isWord (w := 10502425) h0.2.1 (by decide)
      have esl : eL l = 0 := by unfold eL; rw [if_neg (by omega)]
      rcases tie_wh (l := l) (k := 4) (w := 10502425) (by omega) (by decide) rfl h2 (by omega) (by omega : q ≤ np T n (np T n p)) (rR l) (fun Mr h0 z => by unfold rR; rw [hrr Mr h0, if_pos (decide_eq_true z)]) (fun Mr h0 z => by unfold rR; rw [hrr Mr h0, decide_eq_false z, if_neg Bool.false_ne_true]) with ⟨M4, p', c, r, D, M1, f1, f2, f3, f4⟩ | ⟨M4, x, M1, f1, f2, f3, f4⟩ | ⟨x, M1, f1, f2⟩
      · rw [f1, Option.bind_some, if_pos rfl]
        rw [esl] at f3
        have wok := wOK_pre f4 (e3.trans h3) (by omega) hr
        show lT T n s q p Q v M ((f_re_wholeE (nI l) 0 M4).bind _)
        rw [f3, Option.bind_some, if_pos rfl]
        have gv : ∀ k j, (kC.contains (ky k j) = false) → gI M1 k j = gI M k j := fun k j hk => (wok.2.2.2.2.2.2.2.2.2.2.1 k j hk).1
        refine lT_w (v' := v) st hs hq wok (chS.refl _ M1) ⟨(gv 34 4 rfl).trans st.2.2.1, (gv 34 5 rfl).trans st.2.2.2.1, (gv 34 6 rfl).trans st.2.2.2.2.1, (gv 34 7 rfl).trans st.2.2.2.2.2.1, (gv 32 8 rfl).trans st.2.2.2.2.2.2.1, (gv 32 9 rfl).trans st.2.2.2.2.2.2.2⟩ ⟨rfl, rfl⟩ ⟨?_, ?_, ?_, w4, w5, w6, w7, w8, w9⟩ hb
        · intro k a r' b c' D' hk z
          unfold uQ at z
          by_cases e : k = l
          · rw [if_pos e] at z
            cases z
            rw [e]
            exact ⟨G_ne wok.2.1, wok.2.1⟩
          · rw [if_neg e] at z
            exact w1 k a r' b c' D' hk z
        · intro k hk
          unfold uQ
          rw [if_neg (by omega)]
          exact w2 k hk
        · intro k hk
          unfold uQ
          rw [if_neg (by omega)]
          exact w3 k hk
      · rw [f1, Option.bind_some, if_pos rfl]
        rw [esl] at f3
        show lT T n s q p Q v M ((f_re_wholeE (nI l) 0 M4).bind _)
        rw [f3, Option.bind_some, if_neg Bool.false_ne_true]
        exact lT_bad (z := fun q9 => (nI (v 0), nI (v 1), nI (v 4), nI (v 5), q9.2)) (wBad_pre f4 (e3.trans h3) hr) hb
      · rw [f1, Option.bind_some, if_neg Bool.false_ne_true]
        exact lT_bad (z := fun q9 => (nI (v 0), nI (v 1), nI (v 4), nI (v 5), q9.2)) (wBad_pre f2 (e3.trans h3) hr) hb
    · rw [t2, Option.bind_some, if_pos rfl]
      exact late 3 (by decide) (fun Mr2 g2 => ((readsRule_eq g2.1).2.2 n1 n2).2 (fun z => t1 ((told_85 g2 (by omega)).mp (by rw [hl] at z; exact z))))
  · have n3' : f_re_isNumberUpTo 7 M2 = (false, (f_re_wrong (nI 4) M2).2) := n3
    rw [n3', if_neg Bool.false_ne_true]
    exact late 4 (by decide) (fun Mr2 g2 => (readsRule_eq g2.1).2.1 n1 n2)
  · have n3' : f_re_isNumberUpTo 7 M2 = (false, (f_re_wrong (nI 1) M2).2) := n3
    rw [n3', if_neg Bool.false_ne_true]
    exact late 1 (by decide) (fun Mr2 g2 => (readsRule_eq g2.1).1 n1)
/-- since -/
theorem readsNumber_since {T : Nat → Nat} {n p q : Nat} {M : dM} (h : rs0 T n q p M) : (kd T n p ≠ 2 → f_mo_readsNumber (nI 1) M = some (f_mo_fails (nI 1) M)) ∧ (kd T n p = 2 → 9 < nu T n p → f_mo_readsNumber (nI 1) M = some (f_mo_fails (nI 4) M)) ∧ (kd T n p = 2 → nu T n p ≤ 9 → f_mo_readsNumber (nI 1) M = t_mo_readsNumber_62 (sI M 66 34 (nI (nu T n p)))) := by
  have hl := kd_lt (T := T) (n := n) (p := p)
  unfold f_mo_readsNumber t_mo_readsNumber_30
  refine ⟨fun k => ?_, fun k hn => ?_, fun k hn => ?_⟩
  · rw [if_neg (show ¬ gI M 66 22 = (2 : Int32) from by rw [h.2.1.2.2.2.1]; exact z_ne (b := 2) (by omega) (by omega) k)]
    rfl
  · have hnu := (nu_lt k).1
    rw [if_pos (show gI M 66 22 = (2 : Int32) from by rw [h.2.1.2.2.2.1, k]; rfl), h.2.1.2.2.2.2.1 k, if_neg (show ¬ nI 1 = (0 : Int32) from by decide), if_neg (show ¬ nI (nu T n p) ≤ (9 : Int32) from z_nle (b := 9) (by omega) (by omega) hn)]
    rfl
  · have hnu := (nu_lt k).1
    rw [if_pos (show gI M 66 22 = (2 : Int32) from by rw [h.2.1.2.2.2.1, k]; rfl), h.2.1.2.2.2.2.1 k, if_neg (show ¬ nI 1 = (0 : Int32) from by decide), if_pos (show nI (nu T n p) ≤ (9 : Int32) from z_yle (b := 9) (by omega) (by omega) hn), if_neg (show ¬ nI 1 = (0 : Int32) from by decide)]
theorem lT_since {T : Nat → Nat} {n p q s : Nat} {Q : sQ} {v : Nat → Nat} {M : dM} (st : cSt T n s p Q v M) (w : wQ Q v) (hs : s ≤ p) (hq : q ≤ p) (k1 : kd T n p = 1) (hw : wv T n p = 10284818) : lT T n s q p Q v M (f_re_sinceLine M) := by
  obtain ⟨w1, w2, w3, w4, w5, w6, w7, w8, w9⟩ := id w
  have hp : p < n := kd_3 (T := T) (n := n) (p := p) (by rw [k1]; decide)
  have hnp := np_gt (T := T) hp
  have hn := st.1.1.1
  have hbA : ∀ Mr, rSt T n q p Q v Mr → _ := fun Mr hr => bA_3 hr.1 k1 hw w4 w5 w8 w9
  obtain ⟨v1, v2, v3, v4, v5, v6⟩ := id st.2.2
  unfold f_re_sinceLine
  rw [v5]
  by_cases h1 : v 4 = 1
  · rw [if_neg (show ¬ nI (v 4) = (0 : Int32) from z_ne (b := 0) (by omega) (by omega) (by omega))]
    exact lT_at (k := 3) st.1 (by decide) (fun Mr hr => by rw [hbA Mr hr, if_pos h1])
  · rw [if_pos (show nI (v 4) = (0 : Int32) from by rw [show v 4 = 0 by omega]; rfl)]
    have c0 : chS [4208] M (sI M 32 8 1) := chS_sI M 32 8 _ rfl
    have g0 : gI (sI M 32 8 1) 32 8 = nI 1 := by rw [gI_sI, if_pos ⟨rfl, rfl⟩]; rfl
    generalize sI M 32 8 1 = X at c0 g0
    have pX : pc0 T n s p X := ⟨tpc_ch st.1.1 c0 (by decide), tkc_ch st.1.2.1 c0 (by decide), (c0.I 34 1 rfl).trans st.1.2.2⟩
    obtain ⟨M2, e1, e2, e3⟩ := c_adv0 pX
    rw [e1, Option.bind_some]
    have cx : chX kC2 M M2 := (c0.x (by decide)).trans (e3.x (by decide))
    have late : ∀ k, (0 < k ∧ k < 6) → (∀ Mr2, rSt T n q (np T n p) Q v Mr2 → f_mo_readsNumber (nI 1) Mr2 = some (f_mo_fails (nI k) Mr2)) → lT T n s q p Q v M (some (false, (f_re_wrong (nI k) M2).2)) := fun k hk h => lT_late e2 cx hk (fun Mr hr => by
      obtain ⟨Mr2, y1, y2, y3⟩ := rSt_adv hr
      refine ⟨Mr2, y2.1, y3.mono (by decide), fun j _ => y3.I 88 j rfl, ?_⟩
      rw [hbA Mr hr, if_neg h1, y1, Option.bind_some, h Mr2 y2, Option.bind_some, if_pos (show (f_mo_fails (nI k) Mr2).1 = false from rfl)]
      rfl)
    rcases c_isNum (m := 9) e2 (by decide) with ⟨n1, n2, n3⟩ | ⟨n1, n2, n3⟩ | ⟨n1, n3⟩
    · have n3' : f_re_isNumberUpTo 9 M2 = (true, M2) := n3
      have hp1 : np T n p < n := (nu_lt n1).2
      have hnp1 := np_gt (T := T) hp1
      rw [n3', if_pos rfl]
      show lT T n s q p Q v M ((f_re_advance (sI M2 34 6 (gI M2 32 6))).bind _)
      rw [e2.2.1.2.2.2.2 n1]
      generalize hu : nu T n (np T n p) = u at n2
      have c2 : chS [4406] M2 (sI M2 34 6 (nI u)) := chS_sI M2 34 6 _ rfl
      have g2 : gI (sI M2 34 6 (nI u)) 34 6 = nI u := by rw [gI_sI, if_pos ⟨rfl, rfl⟩]
      generalize sI M2 34 6 (nI u) = Y at c2 g2
      have pY : pc0 T n s (np T n p) Y := ⟨tpc_ch e2.1 c2 (by decide), tkc_ch e2.2.1 c2 (by decide), (c2.I 34 1 rfl).trans e2.2.2⟩
      obtain ⟨M3, j1, j2, j3⟩ := c_adv0 pY
      rw [j1, Option.bind_some]
      have cx3 : chX kC2 M M3 := (cx.trans (c2.x (by decide))).trans (j3.x (by decide))
      -- the reference up to the sign
      have up : ∀ Mr, rSt T n q p Q v Mr → ∃ Mr3, rs0 T n q (np T n (np T n p)) Mr3 ∧ chS kM2 Mr Mr3 ∧ (∀ k j, (k = 88 ∨ k = 85 ∨ k = 86 ∨ k = 87) → gI Mr3 k j = gI Mr k j) ∧ gI Mr3 66 34 = nI u ∧ gI Mr3 66 35 = gI Mr 66 35 ∧ bA (nI (v 0), nI (v 1), nI (v 4), nI (v 5), Mr) = ((f_mo_isSign 59 Mr3).bind fun v3 => if v3 = true then (f_mo_nextToken Mr3).bind fun q5 => some (true, q5) else some (f_mo_fails (nI 1) Mr3)).bind fun q9 => if q9.1 = false then some (.inr (false, q9.2)) else some (.inl (nI (v 0), nI (v 1), nI 1, nI (v 5), q9.2)) := fun Mr hr => by
        obtain ⟨Mr2, y1, y2, y3⟩ := rSt_adv hr
        have c4 : chS [7634] Mr2 (sI Mr2 66 34 (nI u)) := chS_sI Mr2 66 34 _ rfl
        have g4 : gI (sI Mr2 66 34 (nI u)) 66 34 = nI u := by rw [gI_sI, if_pos ⟨rfl, rfl⟩]
        have e62 := (readsNumber_since y2.1).2.2 n1 (by omega)
        rw [hu] at e62
        generalize sI Mr2 66 34 (nI u) = Z at c4 g4 e62
        have pZ : rs0 T n q (np T n p) Z := ⟨tpm_ch y2.1.1 c4 (by decide), tkm_ch y2.1.2.1 c4 (by decide), (c4.I 66 37 rfl).trans y2.1.2.2⟩
        obtain ⟨Mr3, o1, o2, o3⟩ := m_adv0 pZ
        have cc : chS kM2 Mr Mr3 := ((y3.mono (by decide)).trans (c4.mono (by decide))).trans (o3.mono (by decide))
        refine ⟨Mr3, o2, cc, fun k j hk => ?_, (o3.I 66 34 rfl).trans g4, ?_, ?_⟩
        · rcases hk with rfl | rfl | rfl | rfl
          · rw [o3.I 88 j rfl, c4.I 88 j rfl, y3.I 88 j rfl]
          · rw [o3.I 85 j rfl, c4.I 85 j rfl, y3.I 85 j rfl]
          · rw [o3.I 86 j rfl, c4.I 86 j rfl, y3.I 86 j rfl]
          · rw [o3.I 87 j rfl, c4.I 87 j rfl, y3.I 87 j rfl]
        · rw [o3.I 66 35 rfl, c4.I 66 35 rfl, y3.I 66 35 rfl]
        · rw [hbA Mr hr, if_neg h1, y1, Option.bind_some, e62]
          unfold t_mo_readsNumber_62
          rw [o1, Option.bind_some]
          rfl
      have kT := c_takeSign (e := M3.2.2) (s := s) (a := 59) ⟨j2.1, j2.2.1, rfl, j2.2.2⟩ (by decide)
      by_cases g59 : isS T n (np T n (np T n p)) 59 = true
      · have hp2 := isS_lt g59
        have hnp2 := np_gt (T := T) hp2
        obtain ⟨M4, t1, t2, t3⟩ := kT.1 g59
        have t1' : f_re_takeSign 59 M3 = some (true, M4) := t1
        rw [t1', Option.bind_some]
        have cx4 : chX kC2 M M4 := cx3.trans (t3.x (by decide))
        refine Or.inl ⟨np T n (np T n (np T n p)), s, q, Q, vU (vU v 2 u) 4 1, M4, rfl, by omega, by omega, by omega, ⟨⟨t2.1, t2.2.1, t2.2.2.2⟩, fun l hl => ?_, ?_⟩, ⟨w1, w2, w3, w4, w5, ?_⟩, cx4, ?_, fun Mr hr => ?_⟩
        · obtain ⟨y1, y2⟩ := st.2.1 l hl
          have z : ∀ k, (k = 35 ∨ k = 36 ∨ k = 37) → ∀ j, gI M4 k j = gI M k j := fun k hk j => by
            rcases hk with rfl | rfl | rfl
            · rw [t3.I 35 j rfl, j3.I 35 j rfl, c2.I 35 j rfl, e3.I 35 j rfl, c0.I 35 j rfl]
            · rw [t3.I 36 j rfl, j3.I 36 j rfl, c2.I 36 j rfl, e3.I 36 j rfl, c0.I 36 j rfl]
            · rw [t3.I 37 j rfl, j3.I 37 j rfl, c2.I 37 j rfl, e3.I 37 j rfl, c0.I 37 j rfl]
          rw [z 36 (by omega), z 37 (by omega)]
          exact ⟨y1, fun a r b c D q => ⟨(y2 a r b c D q).1, (y2 a r b c D q).2.1, (y2 a r b c D q).2.2.1, hold_of (y2 a r b c D q).2.2.2 (z 35 (by omega))⟩⟩
        · have z : ∀ k j, (kTk.contains (ky k j) = false) → gI M4 k j = gI Y k j := fun k j hk => by
            rw [t3.I k j hk, j3.I k j hk]
          have z2 : ∀ k j, (kTk.contains (ky k j) = false) → ([4406].contains (ky k j) = false) → gI M4 k j = gI X k j := fun k j hk hk2 => by
            rw [z k j hk, c2.I k j hk2, e3.I k j hk]
          refine ⟨?_, ?_, ?_, ?_, ?_, ?_⟩
          · rw [z2 34 4 rfl rfl, c0.I 34 4 rfl]; exact v1
          · rw [z2 34 5 rfl rfl, c0.I 34 5 rfl]; exact v2
          · rw [z 34 6 rfl]; exact g2
          · rw [z2 34 7 rfl rfl, c0.I 34 7 rfl]; exact v4
          · rw [z2 32 8 rfl rfl]; exact g0
          · rw [z2 32 9 rfl rfl, c0.I 32 9 rfl]; exact v6
        · exact ⟨n2, w7, Nat.le_refl _, w9⟩
        · rw [t3.I 32 7 rfl, j3.I 32 7 rfl, c2.I 32 7 rfl, e3.I 32 7 rfl, c0.I 32 7 rfl]
        · obtain ⟨Mr3, u1, u2, u3, u4, u5, u6⟩ := up Mr hr
          obtain ⟨Mr4, o1, o2, o3⟩ := m_adv0 u1
          have s59 : f_mo_isSign 59 Mr3 = some (isS T n (np T n (np T n p)) 59) := m_isSign u1.1 u1.2.1 (a := 59) (by decide)
          rw [s59, Option.bind_some, g59, if_pos rfl, o1] at u6
          refine ⟨Mr4, u6, ⟨o2, fun l hl => ?_, ?_, ?_⟩, u2.trans (o3.mono (by decide)), fun j _ => by rw [o3.I 88 j rfl, u3 88 j (by omega)]⟩
          · obtain ⟨y1, y2⟩ := hr.2.1 l hl
            rw [o3.I 85 l rfl, o3.I 86 l rfl, o3.I 87 l rfl, u3 85 l (by omega), u3 86 l (by omega), u3 87 l (by omega)]
            exact ⟨y1, fun a r b c D q => ⟨(y2 a r b c D q).1, (y2 a r b c D q).2.1, (y2 a r b c D q).2.2.1, (y2 a r b c D q).2.2.2.1, hold_of (y2 a r b c D q).2.2.2.2 (fun j => by rw [o3.I 88 j rfl, u3 88 j (by omega)])⟩⟩
          · exact (o3.I 66 34 rfl).trans u4
          · exact ((o3.I 66 35 rfl).trans u5).trans hr.2.2.2
      · have g59' := Bool.eq_false_iff.mpr g59
        obtain ⟨M4, t1, t2, t3⟩ := kT.2 g59'
        have t1' : f_re_takeSign 59 M3 = some (false, M4) := t1
        rw [t1', Option.bind_some]
        have hb2 := j2.2.1.1
        refine Or.inr ⟨1 + 16 * np T n (np T n p), M4, by omega, by omega, rfl, t2, cx3.trans (t3.x (by decide)), fun Mr hr => ?_⟩
        obtain ⟨Mr3, u1, u2, u3, u4, u5, u6⟩ := up Mr hr
        have s59 : f_mo_isSign 59 Mr3 = some (isS T n (np T n (np T n p)) 59) := m_isSign u1.1 u1.2.1 (a := 59) (by decide)
        rw [s59, Option.bind_some, g59', if_neg Bool.false_ne_true, Option.bind_some, if_pos (show (f_mo_fails (nI 1) Mr3).1 = false from rfl)] at u6
        obtain ⟨b1, b2, b3⟩ := m_fails0 (k := 1) u1
        exact ⟨(f_mo_fails (nI 1) Mr3).2, u6, b2, u2.trans (b3.mono (by decide)), fun j _ => by rw [b3.I 88 j rfl, u3 88 j (by omega)]⟩
    · have n3' : f_re_isNumberUpTo 9 M2 = (false, (f_re_wrong (nI 4) M2).2) := n3
      rw [n3', if_neg Bool.false_ne_true]
      exact late 4 (by decide) (fun Mr2 y2 => (readsNumber_since y2.1).2.1 n1 n2)
    · have n3' : f_re_isNumberUpTo 9 M2 = (false, (f_re_wrong (nI 1) M2).2) := n3
      rw [n3', if_neg Bool.false_ne_true]
      exact late 1 (by decide) (fun Mr2 y2 => (readsNumber_since y2.1).1 n1)
/-- far -/
theorem readsNumber_far {T : Nat → Nat} {n p q : Nat} {M : dM} (h : rs0 T n q p M) : (kd T n p ≠ 2 → f_mo_readsNumber (nI 0) M = some (f_mo_fails (nI 1) M)) ∧ (kd T n p = 2 → 999 < nu T n p → f_mo_readsNumber (nI 0) M = some (f_mo_fails (nI 4) M)) ∧ (kd T n p = 2 → nu T n p ≤ 999 → f_mo_readsNumber (nI 0) M = t_mo_readsNumber_62 (sI M 66 35 (nI (nu T n p)))) := by
  have hl := kd_lt (T := T) (n := n) (p := p)
  unfold f_mo_readsNumber t_mo_readsNumber_30
  refine ⟨fun k => ?_, fun k hn => ?_, fun k hn => ?_⟩
  · rw [if_neg (show ¬ gI M 66 22 = (2 : Int32) from by rw [h.2.1.2.2.2.1]; exact z_ne (b := 2) (by omega) (by omega) k)]
    rfl
  · have hnu := (nu_lt k).1
    rw [if_pos (show gI M 66 22 = (2 : Int32) from by rw [h.2.1.2.2.2.1, k]; rfl), h.2.1.2.2.2.2.1 k, if_pos (show nI 0 = (0 : Int32) from by decide), if_neg (show ¬ nI (nu T n p) ≤ (999 : Int32) from z_nle (b := 999) (by omega) (by omega) hn)]
    rfl
  · have hnu := (nu_lt k).1
    rw [if_pos (show gI M 66 22 = (2 : Int32) from by rw [h.2.1.2.2.2.1, k]; rfl), h.2.1.2.2.2.2.1 k, if_pos (show nI 0 = (0 : Int32) from by decide), if_pos (show nI (nu T n p) ≤ (999 : Int32) from z_yle (b := 999) (by omega) (by omega) hn), if_pos (show nI 0 = (0 : Int32) from by decide)]
theorem lT_far {T : Nat → Nat} {n p q s : Nat} {Q : sQ} {v : Nat → Nat} {M : dM} (st : cSt T n s p Q v M) (w : wQ Q v) (hs : s ≤ p) (hq : q ≤ p) (k1 : kd T n p = 1) (hw : wv T n p = 4419) : lT T n s q p Q v M (f_re_farLine M) := by
  obtain ⟨w1, w2, w3, w4, w5, w6, w7, w8, w9⟩ := id w
  have hp : p < n := kd_3 (T := T) (n := n) (p := p) (by rw [k1]; decide)
  have hnp := np_gt (T := T) hp
  have hn := st.1.1.1
  have hbA : ∀ Mr, rSt T n q p Q v Mr → _ := fun Mr hr => bA_4 hr.1 k1 hw w4 w5 w8 w9
  obtain ⟨v1, v2, v3, v4, v5, v6⟩ := id st.2.2
  unfold f_re_farLine
  rw [v6]
  by_cases h1 : v 5 = 1
  · rw [if_neg (show ¬ nI (v 5) = (0 : Int32) from z_ne (b := 0) (by omega) (by omega) (by omega))]
    exact lT_at (k := 3) st.1 (by decide) (fun Mr hr => by rw [hbA Mr hr, if_pos h1])
  · rw [if_pos (show nI (v 5) = (0 : Int32) from by rw [show v 5 = 0 by omega]; rfl)]
    have c0 : chS [4209] M (sI M 32 9 1) := chS_sI M 32 9 _ rfl
    have g0 : gI (sI M 32 9 1) 32 9 = nI 1 := by rw [gI_sI, if_pos ⟨rfl, rfl⟩]; rfl
    generalize sI M 32 9 1 = X at c0 g0
    have pX : pc0 T n s p X := ⟨tpc_ch st.1.1 c0 (by decide), tkc_ch st.1.2.1 c0 (by decide), (c0.I 34 1 rfl).trans st.1.2.2⟩
    obtain ⟨M2, e1, e2, e3⟩ := c_adv0 pX
    rw [e1, Option.bind_some]
    have cx : chX kC2 M M2 := (c0.x (by decide)).trans (e3.x (by decide))
    have late : ∀ k, (0 < k ∧ k < 6) → (∀ Mr2, rSt T n q (np T n p) Q v Mr2 → f_mo_readsNumber (nI 0) Mr2 = some (f_mo_fails (nI k) Mr2)) → lT T n s q p Q v M (some (false, (f_re_wrong (nI k) M2).2)) := fun k hk h => lT_late e2 cx hk (fun Mr hr => by
      obtain ⟨Mr2, y1, y2, y3⟩ := rSt_adv hr
      refine ⟨Mr2, y2.1, y3.mono (by decide), fun j _ => y3.I 88 j rfl, ?_⟩
      rw [hbA Mr hr, if_neg h1, y1, Option.bind_some, h Mr2 y2, Option.bind_some, if_pos (show (f_mo_fails (nI k) Mr2).1 = false from rfl)]
      rfl)
    rcases c_isNum (m := 999) e2 (by decide) with ⟨n1, n2, n3⟩ | ⟨n1, n2, n3⟩ | ⟨n1, n3⟩
    · have n3' : f_re_isNumberUpTo 999 M2 = (true, M2) := n3
      have hp1 : np T n p < n := (nu_lt n1).2
      have hnp1 := np_gt (T := T) hp1
      rw [n3', if_pos rfl]
      show lT T n s q p Q v M ((f_re_advance (sI M2 34 7 (gI M2 32 6))).bind _)
      rw [e2.2.1.2.2.2.2 n1]
      generalize hu : nu T n (np T n p) = u at n2
      have c2 : chS [4407] M2 (sI M2 34 7 (nI u)) := chS_sI M2 34 7 _ rfl
      have g2 : gI (sI M2 34 7 (nI u)) 34 7 = nI u := by rw [gI_sI, if_pos ⟨rfl, rfl⟩]
      generalize sI M2 34 7 (nI u) = Y at c2 g2
      have pY : pc0 T n s (np T n p) Y := ⟨tpc_ch e2.1 c2 (by decide), tkc_ch e2.2.1 c2 (by decide), (c2.I 34 1 rfl).trans e2.2.2⟩
      obtain ⟨M3, j1, j2, j3⟩ := c_adv0 pY
      rw [j1, Option.bind_some]
      have cx3 : chX kC2 M M3 := (cx.trans (c2.x (by decide))).trans (j3.x (by decide))
      -- the reference up to the sign
      have up : ∀ Mr, rSt T n q p Q v Mr → ∃ Mr3, rs0 T n q (np T n (np T n p)) Mr3 ∧ chS kM2 Mr Mr3 ∧ (∀ k j, (k = 88 ∨ k = 85 ∨ k = 86 ∨ k = 87) → gI Mr3 k j = gI Mr k j) ∧ gI Mr3 66 35 = nI u ∧ gI Mr3 66 34 = gI Mr 66 34 ∧ bA (nI (v 0), nI (v 1), nI (v 4), nI (v 5), Mr) = ((f_mo_isSign 59 Mr3).bind fun v3 => if v3 = true then (f_mo_nextToken Mr3).bind fun q5 => some (true, q5) else some (f_mo_fails (nI 1) Mr3)).bind fun q9 => if q9.1 = false then some (.inr (false, q9.2)) else some (.inl (nI (v 0), nI (v 1), nI (v 4), nI 1, q9.2)) := fun Mr hr => by
        obtain ⟨Mr2, y1, y2, y3⟩ := rSt_adv hr
        have c4 : chS [7635] Mr2 (sI Mr2 66 35 (nI u)) := chS_sI Mr2 66 35 _ rfl
        have g4 : gI (sI Mr2 66 35 (nI u)) 66 35 = nI u := by rw [gI_sI, if_pos ⟨rfl, rfl⟩]
        have e62 := (readsNumber_far y2.1).2.2 n1 (by omega)
        rw [hu] at e62
        generalize sI Mr2 66 35 (nI u) = Z at c4 g4 e62
        have pZ : rs0 T n q (np T n p) Z := ⟨tpm_ch y2.1.1 c4 (by decide), tkm_ch y2.1.2.1 c4 (by decide), (c4.I 66 37 rfl).trans y2.1.2.2⟩
        obtain ⟨Mr3, o1, o2, o3⟩ := m_adv0 pZ
        have cc : chS kM2 Mr Mr3 := ((y3.mono (by decide)).trans (c4.mono (by decide))).trans (o3.mono (by decide))
        refine ⟨Mr3, o2, cc, fun k j hk => ?_, (o3.I 66 35 rfl).trans g4, ?_, ?_⟩
        · rcases hk with rfl | rfl | rfl | rfl
          · rw [o3.I 88 j rfl, c4.I 88 j rfl, y3.I 88 j rfl]
          · rw [o3.I 85 j rfl, c4.I 85 j rfl, y3.I 85 j rfl]
          · rw [o3.I 86 j rfl, c4.I 86 j rfl, y3.I 86 j rfl]
          · rw [o3.I 87 j rfl, c4.I 87 j rfl, y3.I 87 j rfl]
        · rw [o3.I 66 34 rfl, c4.I 66 34 rfl, y3.I 66 34 rfl]
        · rw [hbA Mr hr, if_neg h1, y1, Option.bind_some, e62]
          unfold t_mo_readsNumber_62
          rw [o1, Option.bind_some]
          rfl
      have kT := c_takeSign (e := M3.2.2) (s := s) (a := 59) ⟨j2.1, j2.2.1, rfl, j2.2.2⟩ (by decide)
      by_cases g59 : isS T n (np T n (np T n p)) 59 = true
      · have hp2 := isS_lt g59
        have hnp2 := np_gt (T := T) hp2
        obtain ⟨M4, t1, t2, t3⟩ := kT.1 g59
        have t1' : f_re_takeSign 59 M3 = some (true, M4) := t1
        rw [t1', Option.bind_some]
        have cx4 : chX kC2 M M4 := cx3.trans (t3.x (by decide))
        refine Or.inl ⟨np T n (np T n (np T n p)), s, q, Q, vU (vU v 3 u) 5 1, M4, rfl, by omega, by omega, by omega, ⟨⟨t2.1, t2.2.1, t2.2.2.2⟩, fun l hl => ?_, ?_⟩, ⟨w1, w2, w3, w4, w5, ?_⟩, cx4, ?_, fun Mr hr => ?_⟩
        · obtain ⟨y1, y2⟩ := st.2.1 l hl
          have z : ∀ k, (k = 35 ∨ k = 36 ∨ k = 37) → ∀ j, gI M4 k j = gI M k j := fun k hk j => by
            rcases hk with rfl | rfl | rfl
            · rw [t3.I 35 j rfl, j3.I 35 j rfl, c2.I 35 j rfl, e3.I 35 j rfl, c0.I 35 j rfl]
            · rw [t3.I 36 j rfl, j3.I 36 j rfl, c2.I 36 j rfl, e3.I 36 j rfl, c0.I 36 j rfl]
            · rw [t3.I 37 j rfl, j3.I 37 j rfl, c2.I 37 j rfl, e3.I 37 j rfl, c0.I 37 j rfl]
          rw [z 36 (by omega), z 37 (by omega)]
          exact ⟨y1, fun a r b c D q => ⟨(y2 a r b c D q).1, (y2 a r b c D q).2.1, (y2 a r b c D q).2.2.1, hold_of (y2 a r b c D q).2.2.2 (z 35 (by omega))⟩⟩
        · have z : ∀ k j, (kTk.contains (ky k j) = false) → gI M4 k j = gI Y k j := fun k j hk => by
            rw [t3.I k j hk, j3.I k j hk]
          have z2 : ∀ k j, (kTk.contains (ky k j) = false) → ([4407].contains (ky k j) = false) → gI M4 k j = gI X k j := fun k j hk hk2 => by
            rw [z k j hk, c2.I k j hk2, e3.I k j hk]
          refine ⟨?_, ?_, ?_, ?_, ?_, ?_⟩
          · rw [z2 34 4 rfl rfl, c0.I 34 4 rfl]; exact v1
          · rw [z2 34 5 rfl rfl, c0.I 34 5 rfl]; exact v2
          · rw [z2 34 6 rfl rfl, c0.I 34 6 rfl]; exact v3
          · rw [z 34 7 rfl]; exact g2
          · rw [z2 32 8 rfl rfl, c0.I 32 8 rfl]; exact v5
          · rw [z2 32 9 rfl rfl]; exact g0
        · exact ⟨w6, n2, w8, Nat.le_refl _⟩
        · rw [t3.I 32 7 rfl, j3.I 32 7 rfl, c2.I 32 7 rfl, e3.I 32 7 rfl, c0.I 32 7 rfl]
        · obtain ⟨Mr3, u1, u2, u3, u4, u5, u6⟩ := up Mr hr
          obtain ⟨Mr4, o1, o2, o3⟩ := m_adv0 u1
          have s59 : f_mo_isSign 59 Mr3 = some (isS T n (np T n (np T n p)) 59) := m_isSign u1.1 u1.2.1 (a := 59) (by decide)
          rw [s59, Option.bind_some, g59, if_pos rfl, o1] at u6
          refine ⟨Mr4, u6, ⟨o2, fun l hl => ?_, ?_, ?_⟩, u2.trans (o3.mono (by decide)), fun j _ => by rw [o3.I 88 j rfl, u3 88 j (by omega)]⟩
          · obtain ⟨y1, y2⟩ := hr.2.1 l hl
            rw [o3.I 85 l rfl, o3.I 86 l rfl, o3.I 87 l rfl, u3 85 l (by omega), u3 86 l (by omega), u3 87 l (by omega)]
            exact ⟨y1, fun a r b c D q => ⟨(y2 a r b c D q).1, (y2 a r b c D q).2.1, (y2 a r b c D q).2.2.1, (y2 a r b c D q).2.2.2.1, hold_of (y2 a r b c D q).2.2.2.2 (fun j => by rw [o3.I 88 j rfl, u3 88 j (by omega)])⟩⟩
          · exact ((o3.I 66 34 rfl).trans u5).trans hr.2.2.1
          · exact (o3.I 66 35 rfl).trans u4
      · have g59' := Bool.eq_false_iff.mpr g59
        obtain ⟨M4, t1, t2, t3⟩ := kT.2 g59'
        have t1' : f_re_takeSign 59 M3 = some (false, M4) := t1
        rw [t1', Option.bind_some]
        have hb2 := j2.2.1.1
        refine Or.inr ⟨1 + 16 * np T n (np T n p), M4, by omega, by omega, rfl, t2, cx3.trans (t3.x (by decide)), fun Mr hr => ?_⟩
        obtain ⟨Mr3, u1, u2, u3, u4, u5, u6⟩ := up Mr hr
        have s59 : f_mo_isSign 59 Mr3 = some (isS T n (np T n (np T n p)) 59) := m_isSign u1.1 u1.2.1 (a := 59) (by decide)
        rw [s59, Option.bind_some, g59', if_neg Bool.false_ne_true, Option.bind_some, if_pos (show (f_mo_fails (nI 1) Mr3).1 = false from rfl)] at u6
        obtain ⟨b1, b2, b3⟩ := m_fails0 (k := 1) u1
        exact ⟨(f_mo_fails (nI 1) Mr3).2, u6, b2, u2.trans (b3.mono (by decide)), fun j _ => by rw [b3.I 88 j rfl, u3 88 j (by omega)]⟩
    · have n3' : f_re_isNumberUpTo 999 M2 = (false, (f_re_wrong (nI 4) M2).2) := n3
      rw [n3', if_neg Bool.false_ne_true]
      exact late 4 (by decide) (fun Mr2 y2 => (readsNumber_far y2.1).2.1 n1 n2)
    · have n3' : f_re_isNumberUpTo 999 M2 = (false, (f_re_wrong (nI 1) M2).2) := n3
      rw [n3', if_neg Bool.false_ne_true]
      exact late 1 (by decide) (fun Mr2 y2 => (readsNumber_far y2.1).1 n1)
