/-! ===== what holds between calls; calls that study ===== -/
theorem supp.sub {T T' : List Nat} {R : dM → Prop} (h : supp T R) (hs : T.all (fun x => T'.contains x) = true) : supp T' R := by
  intro M M' e hw hr
  refine h M M' (fun k j hk => e k j ?_) hw hr
  exact List.all_eq_true.mp hs _ (List.contains_iff_mem.mp hk)
def IV (A : sA) (Q : sQ) (v : Nat → Nat) (M : dM) : Prop := wfA A ∧ rcA A M ∧ rmA A M ∧ wQ Q v ∧ rcW Q v M ∧ rmW Q v M ∧ caK A Q v M
def kCa : List Nat := [1606, 11, 1010, 40, 41, 42] ++ kY
theorem scaK (A : sA) (Q : sQ) (v : Nat → Nat) : supp kCa (caK A Q v) := by
  intro M M' h hw ⟨h1, h2⟩
  have o := fun r : rcO A M => ((srcO A).sub (T' := kCa) (by decide)) M M' h hw r
  have j := fun r : rcJ A Q (v 3) M => ((srcJ A Q (v 3)).sub (T' := kCa) (by decide)) M M' h hw r
  have y := fun r : rcY A Q v M => ((srcY A Q v).sub (T' := kCa) (by decide)) M M' h hw r
  unfold caK
  rw [(h 6 6 rfl).1, (h 0 10 rfl).1]
  refine ⟨?_, ?_⟩
  · rcases h1 with h1 | h1
    · exact Or.inl h1
    · exact Or.inr (o h1)
  · rcases h2 with h2 | ⟨h2, h3, h4⟩ | ⟨h2, h3, h4, h5⟩
    · exact Or.inl h2
    · exact Or.inr (Or.inl ⟨h2, o h3, j h4⟩)
    · exact Or.inr (Or.inr ⟨h2, o h3, j h4, y h5⟩)
def ivS (S : List Nat) : Bool := disj trcA S && (disj trmA S && (disj trcW S && (disj [82, 83, 84, 88, 7632, 7633] S && disj kCa S)))
theorem iv_keep {A : sA} {Q : sQ} {v : Nat → Nat} {S : List Nat} {M M' : dM} (h : IV A Q v M) (c : chS S M M') (hd : ivS S = true) : IV A Q v M' := by
  unfold ivS at hd
  simp only [Bool.and_eq_true] at hd
  exact ⟨h.1, (srcA A).use h.2.1 c hd.1, (srmA A).use h.2.2.1 c hd.2.1, h.2.2.2.1, (srcW Q v).use h.2.2.2.2.1 c hd.2.2.1, rmW_w h.2.2.2.2.2.1 c hd.2.2.2.1, (scaK A Q v).use h.2.2.2.2.2.2 c hd.2.2.2.2⟩
theorem iv_study {A : sA} {Q : sQ} {v : Nat → Nat} {M : dM} (h : IV A Q v M) {n : Nat} (hn : n = 1 ∨ n = 2) : ∃ M', f_ax_study (nI n) M = some M' ∧ IV A Q v M' ∧ rcO A M' ∧ rcJ A Q (v 3) M' ∧ (n = 2 → rcY A Q v M') ∧ chS kStu M M' := by
  obtain ⟨w, rc, rm, wq, cw, mw, ca⟩ := h
  obtain ⟨M', a1, a2, a3, a4, a5, a6⟩ := c_study w rc wq cw ca hn
  exact ⟨M', a1, ⟨w, (srcA A).use rc a6 (by decide +kernel), (srmA A).use rm a6 (by decide +kernel), wq, (srcW Q v).use cw a6 (by decide), rmW_w mw a6 (by decide), a5⟩, a2, a3, a4, a6⟩
/-- a call that answers: both sides alike; S holds the keys of the cells that are other ones -/
def opV {β : Type} (S : List Nat) (A : sA) (Q : sQ) (v : Nat → Nat) (M : dM) (r : β → dM → Prop) : Prop := ∃ (x : β) (M2 : dM), r x M2 ∧ IV A Q v M2 ∧ chS S M M2
theorem iv_0 {A : sA} {Q : sQ} {v : Nat → Nat} {M : dM} (h : IV A Q v M) (x : Int32) : IV A Q v (sI M 66 0 x) := iv_keep h (chS_sI (S := [7600]) M 66 0 x rfl) (by decide +kernel)
theorem opV_no {β : Type} {S : List Nat} {A : sA} {Q : sQ} {v : Nat → Nat} {M : dM} {r : β → dM → Prop} (hS : S.contains 7600 = true) (h : IV A Q v M) {b : β} {x : Int32} (hr : r b (sI M 66 0 x)) : opV S A Q v M r :=
  ⟨b, _, hr, iv_0 h x, chS_sI (S := S) M 66 0 x hS⟩
def kQ : List Nat := kStu ++ (kKn ++ (kG ++ [7600, 7651, 7652, 7653, 7654]))
theorem z_isFind {A : sA} {M : dM} (rm : rmA A M) (w : wfA A) (x : Int32) : f_mo_isFind x M = f_ax_within x (nI (A 66 9)) := by
  have hn := w.2.2.1.1
  unfold f_mo_isFind f_ax_within
  rw [rm.2.2.1.1]
theorem x_find {A : sA} {M : dM} (w : wfA A) (rc : rcA A M) (rm : rmA A M) (x : Int32) : f_ax_within x (gI M 12 7) = f_ax_within x (nI (A 66 9)) ∧ f_mo_isFind x (sI M 66 0 0) = f_ax_within x (nI (A 66 9)) := ⟨by rw [rc.2.2.1.1], z_isFind ((srmA A).use rm (chS_sI (S := [7600]) M 66 0 0 rfl) (by decide +kernel)) w x⟩
/-- the first step of a call about a find -/
theorem opV_f {β : Type} {A : sA} {Q : sQ} {v : Nat → Nat} {M : dM} (h : IV A Q v M) (x : Int32) {S : List Nat} {r : β → dM → Prop} (no : f_ax_within x (gI M 12 7) = false → f_mo_isFind x (sI M 66 0 0) = false → opV S A Q v M r) (yes : ∀ f, f < A 66 9 → x = nI f → f_ax_within x (gI M 12 7) = true → (∀ M', IV A Q v M' → f_mo_isFind x M' = true) → opV S A Q v M r) : opV S A Q v M r := by
  obtain ⟨e1, e2⟩ := x_find h.1 h.2.1 h.2.2.1 x
  have hn := h.1.2.2.1.1
  rcases z_range x (A 66 9) (by omega) with z | ⟨f, hf, rfl⟩
  · exact no (e1.trans z) (e2.trans z)
  · have t : f_ax_within (nI f) (nI (A 66 9)) = true := by rw [z_within (by omega) (by omega)]; simp [hf]
    exact yes f hf rfl (e1.trans t) (fun M' h' => (z_isFind h'.2.2.1 h'.1 _).trans t)
theorem op_each {A : sA} {Q : sQ} {v : Nat → Nat} {M : dM} (h : IV A Q v M) (x : Int32) : opV kQ A Q v M (fun b M2 => ∃ M1, f_ax_each x M = some (b, M1) ∧ f_mo_each x M1 = some (b, M2)) := by
  unfold f_ax_each f_mo_each
  refine opV_f h x (fun z1 z2 => opV_no rfl h (x := 0) (b := -1) ⟨M, ?_, ?_⟩) (fun f hf e z1 z2 => ?_)
  · rw [if_neg (by rw [z1]; exact Bool.false_ne_true)]
  · rw [if_neg (by rw [z2]; exact Bool.false_ne_true)]
  subst e
  have hn := h.1.2.2.1.1
  obtain ⟨M1, a1, a2, a3, a4, a5, a6⟩ := iv_study h (Or.inl rfl : (1 : Nat) = 1 ∨ (1 : Nat) = 2)
  have i0 := iv_0 a2 0
  obtain ⟨M2, b1, b2⟩ := m_eachOf i0.1 i0.2.2.1 i0.2.2.2.1 i0.2.2.2.2.2.1 hf
  have c : chS kQ M M2 := (a6.mono (by decide)).trans (((chS.refl _ M1).sI 66 0 0 rfl).trans (b2.mono (by decide)))
  have a1' : f_ax_study 1 M = some M1 := a1
  refine ⟨nI (eaF A Q (v 3) f), M2, ⟨M1, ?_, ?_⟩, iv_keep i0 b2 (by decide +kernel), c⟩
  · rw [if_pos z1, a1', Option.bind_some, z_gd (z_in (n := f) (by omega) (by omega)), z_cl (n := f) (by omega), (a4 f hf).2.1]
  · rw [if_pos (z2 _ i0), b1, Option.bind_some]
theorem op_can {A : sA} {Q : sQ} {v : Nat → Nat} {M : dM} (h : IV A Q v M) (x : Int32) : opV kQ A Q v M (fun b M2 => ∃ M1, f_ax_can x M = some (b, M1) ∧ f_mo_can x M1 = some (b, M2)) := by
  unfold f_ax_can f_mo_can
  refine opV_f h x (fun z1 z2 => opV_no rfl h (x := 0) (b := -1) ⟨M, ?_, ?_⟩) (fun f hf e z1 z2 => ?_)
  · rw [if_neg (by rw [z1]; exact Bool.false_ne_true)]
  · rw [if_neg (by rw [z2]; exact Bool.false_ne_true)]
  subst e
  have hn := h.1.2.2.1.1
  obtain ⟨M1, a1, a2, a3, a4, a5, a6⟩ := iv_study h (Or.inr rfl : (2 : Nat) = 1 ∨ (2 : Nat) = 2)
  have i0 := iv_0 a2 0
  have c : chS kQ M (sI M1 66 0 0) := (a6.mono (by decide)).sI 66 0 0 rfl
  have a1' : f_ax_study 2 M = some M1 := a1
  refine ⟨nI (canF A (v 2) f), _, ⟨M1, ?_, ?_⟩, i0, c⟩
  · rw [if_pos z1, a1', Option.bind_some, z_gd (z_in (n := f) (by omega) (by omega)), z_cl (n := f) (by omega), ((a5 rfl).1.1 f hf).1]
  · rw [if_pos (z2 _ i0), m_canOf i0.1 i0.2.2.1 i0.2.2.2.2.2.1.1.1 i0.2.2.2.1.2.2.2.2.2.1 hf, Option.bind_some]
theorem z_n0 {a : Nat} (h : a < 4096) : (nI a = (0 : Int32)) = (a = 0) := z_eq (b := 0) (by omega) (by decide)
theorem seF_lt2 {c s : Nat} (hc : c < 1024) : c &&& s < 1024 := Nat.lt_of_le_of_lt Nat.and_le_left hc
theorem op_may {A : sA} {Q : sQ} {v : Nat → Nat} {M : dM} (h : IV A Q v M) (x : Int32) : opV kQ A Q v M (fun b M2 => ∃ M1, f_ax_may x M = some (b, M1) ∧ f_mo_may x M1 = some (b, M2)) := by
  unfold f_ax_may f_mo_may
  refine opV_f h x (fun z1 z2 => opV_no rfl h (x := 0) (b := -1) ⟨M, ?_, ?_⟩) (fun f hf e z1 z2 => ?_)
  · rw [if_neg (by rw [z1]; exact Bool.false_ne_true)]
  · rw [if_neg (by rw [z2]; exact Bool.false_ne_true)]
  subst e
  have hn := h.1.2.2.1.1
  obtain ⟨M1, a1, a2, a3, a4, a5, a6⟩ := iv_study h (Or.inr rfl : (2 : Nat) = 1 ∨ (2 : Nat) = 2)
  have i0 := iv_0 a2 0
  have c : chS kQ M (sI M1 66 0 0) := (a6.mono (by decide)).sI 66 0 0 rfl
  have a1' : f_ax_study 2 M = some M1 := a1
  have hl : byF A v f < 4096 := Nat.lt_of_lt_of_le (seF_lt2 (canF_lt h.1.1 (v 2) f)) (by decide)
  refine ⟨nI (mayF A v f), _, ⟨M1, ?_, ?_⟩, i0, c⟩
  · rw [if_pos z1, a1', Option.bind_some, z_gd (z_in (n := f) (by omega) (by omega)), z_cl (n := f) (by omega), ((a5 rfl).1.1 f hf).2]
  · rw [if_pos (z2 _ i0), m_canOf i0.1 i0.2.2.1 i0.2.2.2.2.2.1.1.1 i0.2.2.2.1.2.2.2.2.2.1 hf, Option.bind_some, m_seenOf i0.1 i0.2.2.1 i0.2.2.2.2.2.1.1.1 i0.2.2.2.1.2.2.2.2.2.1 hf, Option.bind_some]
    show (if nI (byF A v f) = 0 then _ else _) = some (nI (if byF A v f = 0 then canF A (v 2) f else byF A v f), _)
    by_cases e : byF A v f = 0
    · rw [if_pos (by rw [z_n0 hl]; exact e), if_pos e]
    · rw [if_neg (by rw [z_n0 hl]; exact e), if_neg e]; rfl
theorem op_put {A : sA} {Q : sQ} {v : Nat → Nat} {M : dM} (h : IV A Q v M) (x : Int32) : opV kQ A Q v M (fun b M2 => ∃ M1, f_ax_put x M = some (b, M1) ∧ f_mo_put x M1 = some (b, M2)) := by
  unfold f_ax_put f_mo_put
  refine opV_f h x (fun z1 z2 => opV_no rfl h (x := 0) (b := -1) ⟨M, ?_, ?_⟩) (fun f hf e z1 z2 => ?_)
  · rw [if_neg (by rw [z1]; exact Bool.false_ne_true)]
  · rw [if_neg (by rw [z2]; exact Bool.false_ne_true)]
  subst e
  have hn := h.1.2.2.1.1
  obtain ⟨M1, a1, a2, a3, a4, a5, a6⟩ := iv_study h (Or.inr rfl : (2 : Nat) = 1 ∨ (2 : Nat) = 2)
  have i0 := iv_0 a2 0
  have c : chS kQ M (sI M1 66 0 0) := (a6.mono (by decide)).sI 66 0 0 rfl
  have a1' : f_ax_study 2 M = some M1 := a1
  have hl : byF A v f < 4096 := Nat.lt_of_lt_of_le (seF_lt2 (canF_lt h.1.1 (v 2) f)) (by decide)
  have hb : bsN (putF A Q v) (A 66 9) < 2 ^ 40 := Nat.lt_of_lt_of_le (bsN_lt _ _) (Nat.pow_le_pow_right (by decide) hn)
  have cx : ∀ b : Nat, (if putF A Q v f = true then some ((1 : Int32), M1) else some (0, M1)) = some (nI (if putF A Q v f = true then 1 else 0), M1) := fun _ => by
    cases putF A Q v f <;> rfl
  have cl : (if f_ax_within (nI f) (gI M 12 7) = true then (f_ax_study 2 M).bind fun q1 => if (f_ax_hasBit (gJ q1 45 6) (nI f)) = true then some ((1 : Int32), q1) else some (0, q1) else some (-1, M)) = some (nI (if putF A Q v f = true then 1 else 0), M1) := by
    rw [if_pos z1, a1', Option.bind_some, (a5 rfl).1.2, z_hasBitL (by omega) (by omega), bsN_bit, decide_eq_true hf, Bool.true_and]
    exact cx 0
  by_cases e : byF A v f = 0
  · obtain ⟨M2, b1, b2⟩ := m_eachOf i0.1 i0.2.2.1 i0.2.2.2.1 i0.2.2.2.2.2.1 hf
    have ep : putF A Q v f = decide (eaF A Q (v 3) f = 2) := by unfold putF; rw [decide_eq_true e]; rfl
    have hj := jdg_lt Q (fun k => nI (fc A (v 3) f k))
    refine ⟨nI (if putF A Q v f = true then 1 else 0), M2, ⟨M1, cl, ?_⟩, iv_keep i0 b2 (by decide +kernel), c.trans (b2.mono (by decide))⟩
    rw [if_pos (z2 _ i0), m_canOf i0.1 i0.2.2.1 i0.2.2.2.2.2.1.1.1 i0.2.2.2.1.2.2.2.2.2.1 hf, Option.bind_some, m_seenOf i0.1 i0.2.2.1 i0.2.2.2.2.2.1.1.1 i0.2.2.2.1.2.2.2.2.2.1 hf, Option.bind_some]
    show (if nI (byF A v f) = 0 then _ else _) = _
    rw [if_pos (by rw [z_n0 hl]; exact e), b1, Option.bind_some, ep]
    have hj2 : eaF A Q (v 3) f < 3 := hj
    by_cases e2 : eaF A Q (v 3) f = 2
    · rw [if_pos (show nI (eaF A Q (v 3) f) = 2 from by rw [e2]; rfl), decide_eq_true e2]; rfl
    · rw [if_neg (show ¬ nI (eaF A Q (v 3) f) = 2 from z_ne (b := 2) (by omega) (by decide) e2), decide_eq_false e2]; rfl
  · have ep : putF A Q v f = true := by unfold putF; rw [decide_eq_false e]; rfl
    refine ⟨nI (if putF A Q v f = true then 1 else 0), _, ⟨M1, cl, ?_⟩, i0, c⟩
    rw [if_pos (z2 _ i0), m_canOf i0.1 i0.2.2.1 i0.2.2.2.2.2.1.1.1 i0.2.2.2.1.2.2.2.2.2.1 hf, Option.bind_some, m_seenOf i0.1 i0.2.2.1 i0.2.2.2.2.2.1.1.1 i0.2.2.2.1.2.2.2.2.2.1 hf, Option.bind_some]
    show (if nI (byF A v f) = 0 then _ else _) = _
    rw [if_neg (by rw [z_n0 hl]; exact e), ep]
    rfl
theorem op_doubted {A : sA} {Q : sQ} {v : Nat → Nat} {M : dM} (h : IV A Q v M) (x : Int32) : opV kQ A Q v M (fun b M2 => ∃ M1, f_ax_doubted x M = some (b, M1) ∧ f_mo_doubted x M1 = some (b, M2)) := by
  unfold f_ax_doubted f_mo_doubted
  refine opV_f h x (fun z1 z2 => opV_no rfl h (x := 0) (b := -1) ⟨M, ?_, ?_⟩) (fun f hf e z1 z2 => ?_)
  · rw [if_neg (by rw [z1]; exact Bool.false_ne_true)]
  · rw [if_neg (by rw [z2]; exact Bool.false_ne_true)]
  subst e
  have hn := h.1.2.2.1.1
  obtain ⟨M1, a1, a2, a3, a4, a5, a6⟩ := iv_study h (Or.inr rfl : (2 : Nat) = 1 ∨ (2 : Nat) = 2)
  have i0 := iv_0 a2 0
  have a1' : f_ax_study 2 M = some M1 := a1
  obtain ⟨M2, b1, b2, b3, b4, b5⟩ := m_knows i0.1 i0.2.2.1 i0.2.2.2.1 i0.2.2.2.2.2.1
  have c : chS kQ M M2 := ((a6.mono (by decide)).sI 66 0 0 rfl).trans (b5.mono (by decide))
  have hb : duF A Q v < 2 ^ 40 := Nat.lt_of_lt_of_le (bsN_lt _ _) (Nat.pow_le_pow_right (by decide) hn)
  refine ⟨nI (if (duF A Q v).testBit f = true then 1 else 0), M2, ⟨M1, ?_, ?_⟩, iv_keep i0 b5 (by decide +kernel), c⟩
  · rw [if_pos z1, a1', Option.bind_some, (a5 rfl).2.2, z_hasBitL (by omega) (by omega)]
    cases (duF A Q v).testBit f <;> rfl
  · rw [if_pos (z2 _ i0), b1, Option.bind_some, b4]
    by_cases e : (duF A Q v).testBit f = true
    · rw [if_pos (by rw [z_bitL1 (by omega) (by omega)]; exact e), if_pos e]; rfl
    · rw [if_neg (by rw [z_bitL1 (by omega) (by omega)]; exact e), if_neg e]; rfl
theorem op_settled {A : sA} {Q : sQ} {v : Nat → Nat} {M : dM} (h : IV A Q v M) : opV kQ A Q v M (fun b M2 => ∃ M1, f_ax_settled M = some (b, M1) ∧ f_mo_settled M1 = some (b, M2)) := by
  unfold f_ax_settled f_mo_settled
  have hn := h.1.2.2.1.1
  obtain ⟨M1, a1, a2, a3, a4, a5, a6⟩ := iv_study h (Or.inr rfl : (2 : Nat) = 1 ∨ (2 : Nat) = 2)
  have i0 := iv_0 a2 0
  have a1' : f_ax_study 2 M = some M1 := a1
  obtain ⟨M2, b1, b2, b3, b4, b5⟩ := m_knows i0.1 i0.2.2.1 i0.2.2.2.1 i0.2.2.2.2.2.1
  have c : chS kQ M M2 := ((a6.mono (by decide)).sI 66 0 0 rfl).trans (b5.mono (by decide))
  have i2 := iv_keep i0 b5 (by decide +kernel)
  have e0 : f_mo_settledBy (lN (duF A Q v)) 0 M2 = some (nI (seO A (duF A Q v) 0)) := m_settledBy i2.1 i2.2.2.1 (duF A Q v) 0
  refine ⟨nI (seO A (duF A Q v) 0), M2, ⟨M1, ?_, ?_⟩, i2, c⟩
  · rw [a1', Option.bind_some, (a5 rfl).2.2, c_allF a2.1 a2.2.1, z_andnL, c_settledWhen a2.1 a2.2.1, Option.bind_some, sc_se a2.1 (du := duF A Q v) (o := 0)]
    · intro b hb
      rw [andn_bit, allF_bit, decide_eq_true hb, Bool.true_and, Nat.or_zero]
    · intro b hb
      rw [Nat.testBit_or, andn_bit, allF_bit, decide_eq_true hb, Bool.true_and, Nat.zero_testBit]
      cases (duF A Q v).testBit b <;> rfl
  · rw [b1, Option.bind_some, b4, e0, Option.bind_some]
