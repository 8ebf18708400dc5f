/-! ===== the lines, both sides ===== -/
def cQ (Q : sQ) (s : Nat) (M : dM) : Prop := ∀ l, l < 21 → (Q l = none → gI M 36 l = nI 0 ∧ gI M 37 l = nI 0) ∧ ∀ a r b c D, Q l = some (a, r, b, c, D) → gI M 36 l = nI a ∧ gI M 37 l = nI (a + r.length) ∧ a + r.length ≤ s ∧ hold M 35 a r
def rQ (Q : sQ) (q : Nat) (M : dM) : Prop := ∀ l, l < 21 → (Q l = none → gI M 85 l = nI 0) ∧ ∀ a r b c D, Q l = some (a, r, b, c, D) → gI M 85 l = nI 1 ∧ gI M 86 l = nI (1000 + b) ∧ gI M 87 l = nI (1000 + b + c.length) ∧ b + c.length ≤ q ∧ hold M 88 (1000 + b) c
def wQ (Q : sQ) (v : Nat → Nat) : Prop := (∀ l a r b c D, l < 21 → Q l = some (a, r, b, c, D) → 0 < r.length ∧ G (eK (eL l)) 0 0 c r D) ∧ (∀ l, l < 6 → (Q l ≠ none ↔ l < v 0)) ∧ (∀ l, l < 6 → (Q (6 + l) ≠ none ↔ l < v 1)) ∧ v 0 ≤ 6 ∧ v 1 ≤ 6 ∧ v 2 ≤ 9 ∧ v 3 ≤ 999 ∧ v 4 ≤ 1 ∧ v 5 ≤ 1
def cV (v : Nat → Nat) (M : dM) : Prop := gI M 34 4 = nI (v 0) ∧ gI M 34 5 = nI (v 1) ∧ gI M 34 6 = nI (v 2) ∧ gI M 34 7 = nI (v 3) ∧ gI M 32 8 = nI (v 4) ∧ gI M 32 9 = nI (v 5)
def rV (v : Nat → Nat) (M : dM) : Prop := gI M 66 34 = nI (v 2) ∧ gI M 66 35 = nI (v 3)
def cSt (T : Nat → Nat) (n s p : Nat) (Q : sQ) (v : Nat → Nat) (M : dM) : Prop := pc0 T n s p M ∧ cQ Q s M ∧ cV v M
def rSt (T : Nat → Nat) (n q p : Nat) (Q : sQ) (v : Nat → Nat) (M : dM) : Prop := rs0 T n q p M ∧ rQ Q q M ∧ rV v M
def uQ (Q : sQ) (l : Nat) (x : Nat × List Nat × Nat × List Nat × gD) : sQ := fun k => if k = l then some x else Q k
def vU (v : Nat → Nat) (i x : Nat) : Nat → Nat := fun k => if k = i then x else v k
def kC2 : List Nat := kC ++ [4404, 4405, 4406, 4407, 4208, 4209]
def kM2 : List Nat := kM ++ [7634, 7635]
def lT (T : Nat → Nat) (n s q p : Nat) (Q : sQ) (v : Nat → Nat) (M : dM) (o : Option (Bool × dM)) : Prop :=
  (∃ p' s' q' Q' v' M1, o = some (true, M1) ∧ p < p' ∧ s' ≤ p' ∧ q' ≤ p' ∧ cSt T n s' p' Q' v' M1 ∧ wQ Q' v' ∧ chX kC2 M M1 ∧ gI M1 32 7 = gI M 32 7 ∧ ∀ Mr, rSt T n q p Q v Mr → ∃ M', bA (nI (v 0), nI (v 1), nI (v 4), nI (v 5), Mr) = some (.inl (nI (v' 0), nI (v' 1), nI (v' 4), nI (v' 5), M')) ∧ rSt T n q' p' Q' v' M' ∧ chS kM2 Mr M' ∧ ∀ j, j < 1000 → gI M' 88 j = gI Mr 88 j) ∨
  ∃ x M1, 0 < x ∧ x < 100000 ∧ o = some (false, M1) ∧ gI M1 32 7 = nI x ∧ chX kC2 M M1 ∧ ∀ Mr, rSt T n q p Q v Mr → ∃ M', bA (nI (v 0), nI (v 1), nI (v 4), nI (v 5), Mr) = some (.inr (false, M')) ∧ gI M' 66 25 = nI x ∧ chS kM2 Mr M' ∧ ∀ j, j < 1000 → gI M' 88 j = gI Mr 88 j
theorem c_adv0 {T : Nat → Nat} {n s p : Nat} {M : dM} (h : pc0 T n s p M) : ∃ M', f_re_advance M = some M' ∧ pc0 T n s (np T n p) M' ∧ chS kTk M M' := by
  obtain ⟨M', a1, a2, a3⟩ := c_adv (e := M.2.2) (s := s) ⟨h.1, h.2.1, rfl, h.2.2⟩
  exact ⟨M', a1, ⟨a2.1, a2.2.1, a2.2.2.2⟩, a3⟩
theorem m_adv0 {T : Nat → Nat} {n q p : Nat} {M : dM} (h : rs0 T n q p M) : ∃ M', f_mo_nextToken M = some M' ∧ rs0 T n q (np T n p) M' ∧ chS kNt M M' := by
  obtain ⟨M', a1, a2, a3⟩ := m_next (T := T) (n := n) h.1 (nx_le h.2.1.1).2 h.2.1.2.2.1
  exact ⟨M', a1, ⟨tpm_ch h.1 a3 (by decide), a2, (a3.I 66 37 rfl).trans h.2.2⟩, a3⟩
theorem c_wrong0 {T : Nat → Nat} {n s p k : Nat} {M : dM} (h : pc0 T n s p M) : (f_re_wrong (nI k) M).1 = false ∧ gI (f_re_wrong (nI k) M).2 32 7 = nI (k + 16 * p) ∧ chS [4207] M (f_re_wrong (nI k) M).2 := c_wrong (e := M.2.2) (s := s) ⟨h.1, h.2.1, rfl, h.2.2⟩
theorem m_fails0 {T : Nat → Nat} {n p q k : Nat} {M : dM} (h : rs0 T n q p M) : (f_mo_fails (nI k) M).1 = false ∧ gI (f_mo_fails (nI k) M).2 66 25 = nI (k + 16 * p) ∧ chS [7625] M (f_mo_fails (nI k) M).2 := by
  refine ⟨rfl, ?_, (chS.refl _ M).sI 66 25 _ rfl⟩
  unfold f_mo_fails
  rw [gI_sI, if_pos ⟨rfl, rfl⟩, h.2.1.2.1]
  show nI k + nI 16 * nI p = _
  rw [z_mul, z_add]
theorem c_tW {T : Nat → Nat} {n s p k w : Nat} {M : dM} (h : pc0 T n s p M) (hk : k < 7) (hw : lE k = [w]) : (kd T n p = 1 ∧ wv T n p = w ∧ ∃ M', f_re_takeWord k M = some (true, M') ∧ pc0 T n s (np T n p) M' ∧ chS kTk M M') ∨ (¬ (kd T n p = 1 ∧ wv T n p = w) ∧ ∃ M', f_re_takeWord k M = some (false, M') ∧ gI M' 32 7 = nI (1 + 16 * p) ∧ chS [4207] M M') := by
  rcases wIx_1 (T := T) (n := n) (p := p) hw with ⟨a, b, c⟩ | ⟨a, c⟩
  · obtain ⟨M', a1, a2, a3⟩ := c_adv0 h
    refine Or.inl ⟨a, b, M', ?_, a2, a3⟩
    unfold f_re_takeWord
    rw [c_wordIn h.1 h.2.1 hk, Option.bind_some, c, if_pos (show nI 0 = (0 : Int32) from rfl), a1]
    rfl
  · obtain ⟨a1, a2, a3⟩ := c_wrong0 (k := 1) h
    refine Or.inr ⟨a, (f_re_wrong (nI 1) M).2, ?_, a2, a3⟩
    unfold f_re_takeWord
    rw [c_wordIn h.1 h.2.1 hk, Option.bind_some, c, if_neg (by decide)]
    rfl
/-- a step ahead of an E, on both sides -/
theorem wOK_pre {T : Nat → Nat} {n l p p2 q s : Nat} {fR fR' : dM → Option (Bool × dM)} {M M2 : dM} {o : Option (Bool × dM)} {p' : Nat} {c r : List Nat} {D : gD} {M1 : dM} (h : wOK T n l p2 q s fR M2 o p' c r D M1) (c2 : chS kTk M M2) (hp : p ≤ p2) (hr : ∀ Mr, rs0 T n q p Mr → ∃ Mr2, rs0 T n q p2 Mr2 ∧ chS kNt Mr Mr2 ∧ fR' Mr = fR Mr2) : wOK T n l p q s fR' M o p' c r D M1 := by
  obtain ⟨a1, a2, a3, a4, a5, a6, a7, a0, a8, a9, b1, b2, b3, b4⟩ := h
  refine ⟨a1, a2, by omega, by omega, by omega, a6, a7, by rw [a0, c2.I 32 7 rfl], a8, a9, (c2.x (by decide)).trans b1, fun j hj => by rw [b2 j hj, c2.I 35 j rfl], fun j hj => ⟨by rw [(b3 j hj).1, c2.I 36 j rfl], by rw [(b3 j hj).2, c2.I 37 j rfl]⟩, fun Mr h0 => ?_⟩
  obtain ⟨Mr2, g1, g2, g3⟩ := hr Mr h0
  obtain ⟨M', k1, k2, k3, k4, k5, k6, k7, k8, k9⟩ := b4 Mr2 g1
  exact ⟨M', by rw [g3]; exact k1, k2, k3, k4, k5, k6, (g2.mono (by decide)).trans k7, fun j hj => by rw [k8 j hj, g2.I 88 j rfl], fun j hj => ⟨by rw [(k9 j hj).1, g2.I 85 j rfl], by rw [(k9 j hj).2.1, g2.I 86 j rfl], by rw [(k9 j hj).2.2, g2.I 87 j rfl]⟩⟩
theorem wBad_pre {T : Nat → Nat} {n p p2 q x : Nat} {fR fR' : dM → Option (Bool × dM)} {M M2 : dM} {o : Option (Bool × dM)} {M1 : dM} (h : wBad T n p2 q fR M2 o x M1) (c2 : chS kTk M M2) (hr : ∀ Mr, rs0 T n q p Mr → ∃ Mr2, rs0 T n q p2 Mr2 ∧ chS kNt Mr Mr2 ∧ fR' Mr = fR Mr2) : wBad T n p q fR' M o x M1 := by
  obtain ⟨a1, a2, a3, a4, a5, a6⟩ := h
  refine ⟨a1, a2, a3, a4, (c2.x (by decide)).trans a5, fun Mr h0 => ?_⟩
  obtain ⟨Mr2, g1, g2, g3⟩ := hr Mr h0
  obtain ⟨M', k1, k2, k3, k4⟩ := a6 Mr2 g1
  exact ⟨M', by rw [g3]; exact k1, k2, (g2.mono (by decide)).trans k3, fun j hj => by rw [k4 j hj, g2.I 88 j rfl]⟩
/-- wrong at this token, on both sides -/
theorem wBad_at {T : Nat → Nat} {n p q s k : Nat} {fR : dM → Option (Bool × dM)} {M : dM} (h : pc0 T n s p M) (hk : 0 < k ∧ k < 6) (hr : ∀ Mr, rs0 T n q p Mr → fR Mr = some (f_mo_fails (nI k) Mr)) : wBad T n p q fR M (some (false, (f_re_wrong (nI k) M).2)) (k + 16 * p) (f_re_wrong (nI k) M).2 := by
  obtain ⟨a1, a2, a3⟩ := c_wrong0 (k := k) h
  have h1 := h.1.1
  have h2 := h.2.1.1
  refine ⟨by omega, by omega, rfl, a2, a3.x (by decide), fun Mr h0 => ?_⟩
  obtain ⟨b1, b2, b3⟩ := m_fails0 (k := k) h0
  exact ⟨(f_mo_fails (nI k) Mr).2, hr Mr h0, b2, b3.mono (by decide), fun j _ => b3.I 88 j rfl⟩
theorem wBad_at' {T : Nat → Nat} {n p q k : Nat} {fR : dM → Option (Bool × dM)} {M M' : dM} (hn : n ≤ 1000) (hp : p ≤ n) (hk : 0 < k ∧ k < 6) (h7 : gI M' 32 7 = nI (k + 16 * p)) (hc : chX kC M M') (hr : ∀ Mr, rs0 T n q p Mr → fR Mr = some (f_mo_fails (nI k) Mr)) : wBad T n p q fR M (some (false, M')) (k + 16 * p) M' := by
  refine ⟨by omega, by omega, rfl, h7, hc, fun Mr h0 => ?_⟩
  obtain ⟨b1, b2, b3⟩ := m_fails0 (k := k) h0
  exact ⟨(f_mo_fails (nI k) Mr).2, hr Mr h0, b2, b3.mono (by decide), fun j _ => b3.I 88 j rfl⟩
/-- a word, then an E -/
theorem tie_wh {T : Nat → Nat} {n l p q s k w : Nat} {M : dM} (hl : l < 21) (hk : k < 7) (hw : lE k = [w]) (hM : pc0 T n s p M) (hs : s ≤ p) (hq : q ≤ p) (fR : dM → Option (Bool × dM)) (hr1 : ∀ Mr, rs0 T n q p Mr → (kd T n p = 1 ∧ wv T n p = w) → fR Mr = (f_mo_nextToken Mr).bind fun q1 => (f_mo_readsE (nI l) q1).bind fun q3 => some (q3.1, q3.2)) (hr2 : ∀ Mr, rs0 T n q p Mr → ¬ (kd T n p = 1 ∧ wv T n p = w) → fR Mr = some (f_mo_fails (nI 1) Mr)) :
    (∃ M2 p' c r D M1, f_re_takeWord k M = some (true, M2) ∧ chS kTk M M2 ∧ f_re_wholeE (nI l) (eL l) M2 = some (true, M1) ∧ wOK T n l p q s fR M (some (true, M1)) p' c r D M1) ∨
    (∃ M2 x M1, f_re_takeWord k M = some (true, M2) ∧ chS kTk M M2 ∧ f_re_wholeE (nI l) (eL l) M2 = some (false, M1) ∧ wBad T n p q fR M (some (false, M1)) x M1) ∨
    ∃ x M1, f_re_takeWord k M = some (false, M1) ∧ wBad T n p q fR M (some (false, M1)) x M1 := by
  rcases c_tW hM hk hw with ⟨a, b, M2, a1, a2, a3⟩ | ⟨a, M2, a1, a2, a3⟩
  · have hp : p < n := kd_3 (T := T) (n := n) (p := p) (by rw [a]; decide)
    have hnp := np_gt (T := T) hp
    have hr : ∀ Mr, rs0 T n q p Mr → ∃ Mr2, rs0 T n q (np T n p) Mr2 ∧ chS kNt Mr Mr2 ∧ fR Mr = f_mo_readsE (nI l) Mr2 := fun Mr h0 => by
      obtain ⟨Mr2, g1, g2, g3⟩ := m_adv0 h0
      refine ⟨Mr2, g2, g3, ?_⟩
      rw [hr1 Mr h0 ⟨a, b⟩, g1, Option.bind_some]
      cases f_mo_readsE (nI l) Mr2 <;> rfl
    rcases tie_W (q := q) hl a2 (by omega) (by omega) with ⟨p', c, r, D, M1, h⟩ | ⟨x, M1, h⟩
    · have e := h.1
      rw [e] at h
      exact Or.inl ⟨M2, p', c, r, D, M1, a1, a3, e, wOK_pre h a3 (by omega) hr⟩
    · have e := h.2.2.1
      rw [e] at h
      exact Or.inr (Or.inl ⟨M2, x, M1, a1, a3, e, wBad_pre h a3 hr⟩)
  · exact Or.inr (Or.inr ⟨1 + 16 * p, M2, a1, wBad_at' hM.1.1 hM.2.1.1 (by decide) a2 (a3.x (by decide)) (fun Mr h0 => hr2 Mr h0 a)⟩)
theorem readsWhen_eq {T : Nat → Nat} {n p q : Nat} {M : dM} (x : Int32) (h : rs0 T n q p M) : ((kd T n p = 1 ∧ wv T n p = 458690) → f_mo_readsWhen x M = (f_mo_nextToken M).bind fun q1 => (f_mo_readsE x q1).bind fun q3 => some (q3.1, q3.2)) ∧ (¬ (kd T n p = 1 ∧ wv T n p = 458690) → f_mo_readsWhen x M = some (f_mo_fails (nI 1) M)) := by
  have w : f_mo_isWord 458690 M = decide (kd T n p = 1 ∧ wv T n p = 458690) := m_isWord (w := 458690) h.2.1 (by decide)
  unfold f_mo_readsWhen
  rw [w]
  refine ⟨fun z => ?_, fun z => ?_⟩
  · rw [if_pos (decide_eq_true z)]
  · rw [decide_eq_false z, if_neg Bool.false_ne_true]
    rfl
theorem hold_ext {M M' : dM} {k i : Nat} {r : List Nat} (h : hold M k i r) {s : Nat} (hs : i + r.length ≤ s) (e : ∀ j, j < s → gI M' k j = gI M k j) : hold M' k i r := hold_keep h (fun j hj => e j (by omega))
/-- a line with an E, told -/
theorem lT_w {T : Nat → Nat} {n l p q s : Nat} {Q : sQ} {v v' : Nat → Nat} {M M1 M1' : dM} {fR : dM → Option (Bool × dM)} {p' : Nat} {c r : List Nat} {D : gD} (st : cSt T n s p Q v M) (hs : s ≤ p) (hq : q ≤ p) (wok : wOK T n l p q s fR M (some (true, M1)) p' c r D M1) (hfin : chS [4404, 4405] M1 M1') (hv' : cV v' M1') (hv2 : v' 2 = v 2 ∧ v' 3 = v 3) (wq' : wQ (uQ Q l (s, r, q, c, D)) v') (hb : ∀ Mr, rSt T n q p Q v Mr → bA (nI (v 0), nI (v 1), nI (v 4), nI (v 5), Mr) = (fR Mr).bind fun q9 => if q9.1 = false then some (.inr (false, q9.2)) else some (.inl (nI (v' 0), nI (v' 1), nI (v' 4), nI (v' 5), q9.2))) : lT T n s q p Q v M (some (true, M1')) := by
  obtain ⟨a1, a2, a3, a4, a5, a6, a7, a0, a8, a9, b1, b2, b3, b4⟩ := wok
  refine Or.inl ⟨p', s + r.length, q + c.length, uQ Q l (s, r, q, c, D), v', M1', rfl, a3, by omega, by omega, ⟨⟨tpc_ch a6.1 hfin (by decide), tkc_ch a6.2.1 hfin (by decide), (hfin.I 34 1 rfl).trans a6.2.2⟩, fun k hk => ?_, hv'⟩, wq', (b1.mono (by decide)).trans (hfin.x (by decide)), by rw [hfin.I 32 7 rfl, a0], fun Mr hr => ?_⟩
  · unfold uQ
    rw [hfin.I 36 k rfl, hfin.I 37 k rfl]
    by_cases e : k = l
    · subst e
      rw [if_pos rfl]
      refine ⟨fun z => (by cases z), fun a r' b c' D' z => ?_⟩
      cases z
      exact ⟨a8, a9, Nat.le_refl _, hold_of a7 (fun j => hfin.I 35 j rfl)⟩
    · rw [if_neg e, (b3 k e).1, (b3 k e).2]
      obtain ⟨g1, g2⟩ := st.2.1 k hk
      refine ⟨g1, fun a r' b c' D' z => ?_⟩
      obtain ⟨y1, y2, y3, y4⟩ := g2 a r' b c' D' z
      exact ⟨y1, y2, by omega, hold_ext y4 y3 (fun j hj => by rw [hfin.I 35 j rfl, b2 j hj])⟩
  · obtain ⟨M', k1, k2, k3, k4, k5, k6, k7, k8, k9⟩ := b4 Mr hr.1
    refine ⟨M', ?_, ⟨k2, fun k hk => ?_, ?_, ?_⟩, k7.mono (by decide), fun j hj => k8 j (by omega)⟩
    · rw [hb Mr hr, k1, Option.bind_some, if_neg (show ¬ (true = false) from by decide)]
    · unfold uQ
      by_cases e : k = l
      · subst e
        rw [if_pos rfl]
        refine ⟨fun z => (by cases z), fun a r' b c' D' z => ?_⟩
        cases z
        exact ⟨k4, k5, k6, Nat.le_refl _, k3⟩
      · rw [if_neg e, (k9 k e).1, (k9 k e).2.1, (k9 k e).2.2]
        obtain ⟨g1, g2⟩ := hr.2.1 k hk
        refine ⟨g1, fun a r' b c' D' z => ?_⟩
        obtain ⟨y1, y2, y3, y4, y5⟩ := g2 a r' b c' D' z
        exact ⟨y1, y2, y3, by omega, hold_ext (s := 1000 + q) y5 (by omega) k8⟩
    · rw [k7.I 66 34 rfl, hv2.1]; exact hr.2.2.1
    · rw [k7.I 66 35 rfl, hv2.2]; exact hr.2.2.2
theorem lT_bad {T : Nat → Nat} {n p q s x : Nat} {Q : sQ} {v : Nat → Nat} {M M1 : dM} {fR : dM → Option (Bool × dM)} (wb : wBad T n p q fR M (some (false, M1)) x M1) {z : Bool × dM → Int32 × Int32 × Int32 × Int32 × dM} (hb : ∀ Mr, rSt T n q p Q v Mr → bA (nI (v 0), nI (v 1), nI (v 4), nI (v 5), Mr) = (fR Mr).bind fun q9 => if q9.1 = false then some (.inr (false, q9.2)) else some (.inl (z q9))) : lT T n s q p Q v M (some (false, M1)) := by
  obtain ⟨a1, a2, a3, a4, a5, a6⟩ := wb
  refine Or.inr ⟨x, M1, a1, a2, rfl, a4, a5.mono (by decide), fun Mr hr => ?_⟩
  obtain ⟨M', k1, k2, k3, k4⟩ := a6 Mr hr.1
  refine ⟨M', ?_, k2, k3.mono (by decide), fun j hj => k4 j (by omega)⟩
  rw [hb Mr hr, k1, Option.bind_some, if_pos rfl]
theorem lT_at {T : Nat → Nat} {n p q s k : Nat} {Q : sQ} {v : Nat → Nat} {M : dM} (h : pc0 T n s p M) (hk : 0 < k ∧ k < 6) (hb : ∀ Mr, rSt T n q p Q v Mr → bA (nI (v 0), nI (v 1), nI (v 4), nI (v 5), Mr) = some (.inr (f_mo_fails (nI k) Mr))) : lT T n s q p Q v M (some (false, (f_re_wrong (nI k) M).2)) := by
  obtain ⟨a1, a2, a3⟩ := c_wrong0 (k := k) h
  have h1 := h.1.1
  have h2 := h.2.1.1
  refine Or.inr ⟨k + 16 * p, _, by omega, by omega, rfl, a2, a3.x (by decide), fun Mr hr => ?_⟩
  obtain ⟨b1, b2, b3⟩ := m_fails0 (k := k) hr.1
  exact ⟨(f_mo_fails (nI k) Mr).2, hb Mr hr, b2, b3.mono (by decide), fun j _ => b3.I 88 j rfl⟩
/-- bar -/
theorem lT_bar {T : Nat → Nat} {n p q s : Nat} {Q : sQ} {v : Nat → Nat} {M : dM} (st : cSt T n s p Q v M) (w : wQ Q v) (hs : s ≤ p) (hq : q ≤ p) (k1 : kd T n p = 1) (hw : wv T n p = 1503) : lT T n s q p Q v M (f_re_barLine M) := by
  obtain ⟨w1, w2, w3, w4, w5, w6, w7, w8, w9⟩ := w
  have hp : p < n := kd_3 (T := T) (n := n) (p := p) (by rw [k1]; decide)
  have hnp := np_gt (T := T) hp
  have hbA : ∀ Mr, rSt T n q p Q v Mr → _ := fun Mr hr => bA_0 hr.1 k1 hw w4 w5 w8 w9
  unfold f_re_barLine
  rw [st.2.2.1]
  by_cases h6 : v 0 = 6
  · rw [if_neg (show ¬ nI (v 0) < (6 : Int32) from z_nlt (b := 6) (by omega) (by omega) (by omega))]
    exact lT_at (k := 5) st.1 (by decide) (fun Mr hr => by rw [hbA Mr hr, if_pos h6])
  · rw [if_pos (show nI (v 0) < (6 : Int32) from z_ylt (b := 6) (by omega) (by omega) (by omega))]
    obtain ⟨M2, e1, e2, e3⟩ := c_adv0 st.1
    rw [e1, Option.bind_some]
    have hr : ∀ Mr, rs0 T n q p Mr → ∃ Mr2, rs0 T n q (np T n p) Mr2 ∧ chS kNt Mr Mr2 ∧ (fun Mr => (f_mo_nextToken Mr).bind fun q7 => f_mo_readsWhen (nI (v 0)) q7) Mr = f_mo_readsWhen (nI (v 0)) Mr2 := fun Mr h0 => by
      obtain ⟨Mr2, g1, g2, g3⟩ := m_adv0 h0
      exact ⟨Mr2, g2, g3, by show (f_mo_nextToken Mr).bind _ = _; rw [g1]; rfl⟩
    have hb : ∀ Mr, rSt T n q p Q v Mr → bA (nI (v 0), nI (v 1), nI (v 4), nI (v 5), Mr) = ((fun Mr => (f_mo_nextToken Mr).bind fun q7 => f_mo_readsWhen (nI (v 0)) q7) Mr).bind fun q9 => if q9.1 = false then some (.inr (false, q9.2)) else some (.inl (nI (vU v 0 (v 0 + 1) 0), nI (vU v 0 (v 0 + 1) 1), nI (vU v 0 (v 0 + 1) 4), nI (vU v 0 (v 0 + 1) 5), q9.2)) := fun Mr h0 => by
      rw [hbA Mr h0, if_neg h6]
      show _ = ((f_mo_nextToken Mr).bind fun q7 => f_mo_readsWhen (nI (v 0)) q7).bind _
      cases f_mo_nextToken Mr <;> rfl
    have esl : eL (v 0) = 0 := by unfold eL; rw [if_neg (by omega)]
    rcases tie_wh (l := v 0) (k := 3) (w := 458690) (by omega) (by decide) rfl e2 (by omega) (by omega : q ≤ np T n p) (fun Mr => f_mo_readsWhen (nI (v 0)) Mr) (fun Mr h0 z => (readsWhen_eq _ h0).1 z) (fun Mr h0 z => (readsWhen_eq _ h0).2 z) with ⟨M3, p', c, r, D, M1, f1, f2, f3, f4⟩ | ⟨M3, x, M1, f1, f2, f3, f4⟩ | ⟨x, M1, f1, f2⟩
    · rw [f1, Option.bind_some, if_pos rfl]
      have c3 := e3.trans f2
      rw [show gI (true, M3).2 34 4 = nI (v 0) from (c3.I 34 4 rfl).trans st.2.2.1]
      have f3' : f_re_wholeE (0 + nI (v 0)) 0 M3 = some (true, M1) := by
        rw [show 0 + nI (v 0) = nI (v 0) from by rw [show (0 : Int32) = nI 0 from rfl, z_add, Nat.zero_add]]
        rw [esl] at f3
        exact f3
      have wok := wOK_pre f4 e3 (by omega) hr
      have e34 : gI M1 34 4 = nI (v 0) := ((wok.2.2.2.2.2.2.2.2.2.2.1 34 4 rfl).1).trans st.2.2.1
      show lT T n s q p Q v M ((f_re_wholeE (0 + nI (v 0)) 0 M3).bind _)
      rw [f3', Option.bind_some, if_pos rfl]
      show lT T n s q p Q v M (some (true, sI M1 34 4 (gI M1 34 4 + 1)))
      rw [e34, show nI (v 0) + 1 = nI (v 0 + 1) from z_add _ 1]
      have gv : ∀ k j, (kC.contains (ky k j) = false) → ¬ (k = 34 ∧ j = 4) → gI (sI M1 34 4 (nI (v 0 + 1))) k j = gI M k j := fun k j hk hj => by
        rw [gI_sI, if_neg hj]
        exact (wok.2.2.2.2.2.2.2.2.2.2.1 k j hk).1
      have gg : gI (sI M1 34 4 (nI (v 0 + 1))) 34 4 = nI (v 0 + 1) := by rw [gI_sI, if_pos ⟨rfl, rfl⟩]
      refine lT_w (v' := vU v 0 (v 0 + 1)) st hs hq wok (chS_sI M1 34 4 _ rfl) ⟨?_, ?_, ?_, ?_, ?_, ?_⟩ ⟨rfl, rfl⟩ ⟨?_, ?_, ?_, ?_, ?_, w6, w7, w8, w9⟩ hb
      · exact gg
      · exact (gv 34 5 rfl (by decide)).trans st.2.2.2.1
      · exact (gv 34 6 rfl (by decide)).trans st.2.2.2.2.1
      · exact (gv 34 7 rfl (by decide)).trans st.2.2.2.2.2.1
      · exact (gv 32 8 rfl (by decide)).trans st.2.2.2.2.2.2.1
      · exact (gv 32 9 rfl (by decide)).trans st.2.2.2.2.2.2.2
      · intro k a r' b c' D' hk z
        unfold uQ at z
        by_cases e : k = v 0
        · rw [if_pos e] at z
          cases z
          rw [e]
          exact ⟨G_ne wok.2.1, wok.2.1⟩
        · rw [if_neg e] at z
          exact w1 k a r' b c' D' hk z
      · intro k hk
        unfold uQ
        show _ ↔ k < v 0 + 1
        by_cases e : k = v 0
        · rw [if_pos e]
          exact ⟨fun _ => by omega, fun _ z => by cases z⟩
        · rw [if_neg e]
          rw [w2 k hk]; omega
      · intro k hk
        unfold uQ
        show _ ↔ k < v 1
        by_cases e : 6 + k = v 0
        · rw [if_pos e]
          omega
        · rw [if_neg e]
          exact w3 k hk
      · show v 0 + 1 ≤ 6
        omega
      · show v 1 ≤ 6
        omega
    · rw [f1, Option.bind_some, if_pos rfl]
      have c3 := e3.trans f2
      rw [show gI (true, M3).2 34 4 = nI (v 0) from (c3.I 34 4 rfl).trans st.2.2.1]
      have f3' : f_re_wholeE (0 + nI (v 0)) 0 M3 = some (false, M1) := by
        rw [show 0 + nI (v 0) = nI (v 0) from by rw [show (0 : Int32) = nI 0 from rfl, z_add, Nat.zero_add]]
        rw [esl] at f3
        exact f3
      show lT T n s q p Q v M ((f_re_wholeE (0 + nI (v 0)) 0 M3).bind _)
      rw [f3', Option.bind_some, if_neg Bool.false_ne_true]
      exact lT_bad (z := fun q9 => (nI (vU v 0 (v 0 + 1) 0), nI (vU v 0 (v 0 + 1) 1), nI (vU v 0 (v 0 + 1) 4), nI (vU v 0 (v 0 + 1) 5), q9.2)) (wBad_pre f4 e3 hr) hb
    · rw [f1, Option.bind_some, if_neg Bool.false_ne_true]
      exact lT_bad (z := fun q9 => (nI (vU v 0 (v 0 + 1) 0), nI (vU v 0 (v 0 + 1) 1), nI (vU v 0 (v 0 + 1) 4), nI (vU v 0 (v 0 + 1) 5), q9.2)) (wBad_pre f2 e3 hr) hb
/-- odd -/
theorem lT_odd {T : Nat → Nat} {n p q s : Nat} {Q : sQ} {v : Nat → Nat} {M : dM} (st : cSt T n s p Q v M) (w : wQ Q v) (hs : s ≤ p) (hq : q ≤ p) (k1 : kd T n p = 1) (hw : wv T n p = 11047) : lT T n s q p Q v M (f_re_oddLine M) := by
  obtain ⟨w1, w2, w3, w4, w5, w6, w7, w8, w9⟩ := w
  have hp : p < n := kd_3 (T := T) (n := n) (p := p) (by rw [k1]; decide)
  have hnp := np_gt (T := T) hp
  have hbA : ∀ Mr, rSt T n q p Q v Mr → _ := fun Mr hr => bA_1 hr.1 k1 hw w4 w5 w8 w9
  unfold f_re_oddLine
  rw [st.2.2.2.1]
  by_cases h6 : v 1 = 6
  · rw [if_neg (show ¬ nI (v 1) < (6 : Int32) from z_nlt (b := 6) (by omega) (by omega) (by omega))]
    exact lT_at (k := 5) st.1 (by decide) (fun Mr hr => by rw [hbA Mr hr, if_pos h6])
  · rw [if_pos (show nI (v 1) < (6 : Int32) from z_ylt (b := 6) (by omega) (by omega) (by omega))]
    obtain ⟨M2, e1, e2, e3⟩ := c_adv0 st.1
    rw [e1, Option.bind_some]
    have hr : ∀ Mr, rs0 T n q p Mr → ∃ Mr2, rs0 T n q (np T n p) Mr2 ∧ chS kNt Mr Mr2 ∧ (fun Mr => (f_mo_nextToken Mr).bind fun q7 => f_mo_readsWhen (nI (6 + v 1)) q7) Mr = f_mo_readsWhen (nI (6 + v 1)) Mr2 := fun Mr h0 => by
      obtain ⟨Mr2, g1, g2, g3⟩ := m_adv0 h0
      exact ⟨Mr2, g2, g3, by show (f_mo_nextToken Mr).bind _ = _; rw [g1]; rfl⟩
    have hb : ∀ Mr, rSt T n q p Q v Mr → bA (nI (v 0), nI (v 1), nI (v 4), nI (v 5), Mr) = ((fun Mr => (f_mo_nextToken Mr).bind fun q7 => f_mo_readsWhen (nI (6 + v 1)) q7) Mr).bind fun q9 => if q9.1 = false then some (.inr (false, q9.2)) else some (.inl (nI (vU v 1 (v 1 + 1) 0), nI (vU v 1 (v 1 + 1) 1), nI (vU v 1 (v 1 + 1) 4), nI (vU v 1 (v 1 + 1) 5), q9.2)) := fun Mr h0 => by
      rw [hbA Mr h0, if_neg h6]
      show _ = ((f_mo_nextToken Mr).bind fun q7 => f_mo_readsWhen (nI (6 + v 1)) q7).bind _
      cases f_mo_nextToken Mr <;> rfl
    have esl : eL (6 + v 1) = 0 := by unfold eL; rw [if_neg (by omega)]
    rcases tie_wh (l := 6 + v 1) (k := 3) (w := 458690) (by omega) (by decide) rfl e2 (by omega) (by omega : q ≤ np T n p) (fun Mr => f_mo_readsWhen (nI (6 + v 1)) Mr) (fun Mr h0 z => (readsWhen_eq _ h0).1 z) (fun Mr h0 z => (readsWhen_eq _ h0).2 z) with ⟨M3, p', c, r, D, M1, f1, f2, f3, f4⟩ | ⟨M3, x, M1, f1, f2, f3, f4⟩ | ⟨x, M1, f1, f2⟩
    · rw [f1, Option.bind_some, if_pos rfl]
      have c3 := e3.trans f2
      rw [show gI (true, M3).2 34 5 = nI (v 1) from (c3.I 34 5 rfl).trans st.2.2.2.1]
      have f3' : f_re_wholeE (6 + nI (v 1)) 0 M3 = some (true, M1) := by
        rw [show 6 + nI (v 1) = nI (6 + v 1) from z_add 6 (v 1)]
        rw [esl] at f3
        exact f3
      have wok := wOK_pre f4 e3 (by omega) hr
      have e34 : gI M1 34 5 = nI (v 1) := ((wok.2.2.2.2.2.2.2.2.2.2.1 34 5 rfl).1).trans st.2.2.2.1
      show lT T n s q p Q v M ((f_re_wholeE (6 + nI (v 1)) 0 M3).bind _)
      rw [f3', Option.bind_some, if_pos rfl]
      show lT T n s q p Q v M (some (true, sI M1 34 5 (gI M1 34 5 + 1)))
      rw [e34, show nI (v 1) + 1 = nI (v 1 + 1) from z_add _ 1]
      have gv : ∀ k j, (kC.contains (ky k j) = false) → ¬ (k = 34 ∧ j = 5) → gI (sI M1 34 5 (nI (v 1 + 1))) k j = gI M k j := fun k j hk hj => by
        rw [gI_sI, if_neg hj]
        exact (wok.2.2.2.2.2.2.2.2.2.2.1 k j hk).1
      have gg : gI (sI M1 34 5 (nI (v 1 + 1))) 34 5 = nI (v 1 + 1) := by rw [gI_sI, if_pos ⟨rfl, rfl⟩]
      refine lT_w (v' := vU v 1 (v 1 + 1)) st hs hq wok (chS_sI M1 34 5 _ rfl) ⟨?_, ?_, ?_, ?_, ?_, ?_⟩ ⟨rfl, rfl⟩ ⟨?_, ?_, ?_, ?_, ?_, w6, w7, w8, w9⟩ hb
      · exact (gv 34 4 rfl (by decide)).trans st.2.2.1
      · exact gg
      · exact (gv 34 6 rfl (by decide)).trans st.2.2.2.2.1
      · exact (gv 34 7 rfl (by decide)).trans st.2.2.2.2.2.1
      · exact (gv 32 8 rfl (by decide)).trans st.2.2.2.2.2.2.1
      · exact (gv 32 9 rfl (by decide)).trans st.2.2.2.2.2.2.2
      · intro k a r' b c' D' hk z
        unfold uQ at z
        by_cases e : k = 6 + v 1
        · rw [if_pos e] at z
          cases z
          rw [e]
          exact ⟨G_ne wok.2.1, wok.2.1⟩
        · rw [if_neg e] at z
          exact w1 k a r' b c' D' hk z
      · intro k hk
        unfold uQ
        show _ ↔ k < v 0
        by_cases e : k = 6 + v 1
        · rw [if_pos e]
          omega
        · rw [if_neg e]
          exact w2 k hk
      · intro k hk
        unfold uQ
        show _ ↔ k < v 1 + 1
        by_cases e : 6 + k = 6 + v 1
        · rw [if_pos e]
          exact ⟨fun _ => by omega, fun _ z => by cases z⟩
        · rw [if_neg e]
          rw [w3 k hk]; omega
      · show v 0 ≤ 6
        omega
      · show v 1 + 1 ≤ 6
        omega
    · rw [f1, Option.bind_some, if_pos rfl]
      have c3 := e3.trans f2
      rw [show gI (true, M3).2 34 5 = nI (v 1) from (c3.I 34 5 rfl).trans st.2.2.2.1]
      have f3' : f_re_wholeE (6 + nI (v 1)) 0 M3 = some (false, M1) := by
        rw [show 6 + nI (v 1) = nI (6 + v 1) from z_add 6 (v 1)]
        rw [esl] at f3
        exact f3
      show lT T n s q p Q v M ((f_re_wholeE (6 + nI (v 1)) 0 M3).bind _)
      rw [f3', Option.bind_some, if_neg Bool.false_ne_true]
      exact lT_bad (z := fun q9 => (nI (vU v 1 (v 1 + 1) 0), nI (vU v 1 (v 1 + 1) 1), nI (vU v 1 (v 1 + 1) 4), nI (vU v 1 (v 1 + 1) 5), q9.2)) (wBad_pre f4 e3 hr) hb
    · rw [f1, Option.bind_some, if_neg Bool.false_ne_true]
      exact lT_bad (z := fun q9 => (nI (vU v 1 (v 1 + 1) 0), nI (vU v 1 (v 1 + 1) 1), nI (vU v 1 (v 1 + 1) 4), nI (vU v 1 (v 1 + 1) 5), q9.2)) (wBad_pre f2 e3 hr) hb
