/-! ===== stories counted, what is doubted ===== -/
noncomputable def exB (A : sA) (Q : sQ) (v : Nat → Nat) (s : Nat) : Bool := @decide (exP A Q v s) (Classical.propDecidable _)
theorem exB_iff (A : sA) (Q : sQ) (v : Nat → Nat) (s : Nat) : exB A Q v s = true ↔ exP A Q v s := by
  unfold exB
  exact @decide_eq_true_iff _ (Classical.propDecidable _)
/-- how many, the fewest, the first, in all, in some -/
def stN (E : Nat → Bool) : Nat → Nat × Nat × Nat × Nat × Nat
  | 0 => (0, 11, 0, 0, 0)
  | n + 1 => if E n = true then (if pc n 12 < (stN E n).2.1 then ((stN E n).1 + 1, pc n 12, n, n, n) else if pc n 12 = (stN E n).2.1 then ((stN E n).1 + 1, (stN E n).2.1, (stN E n).2.2.1, (stN E n).2.2.2.1 &&& n, (stN E n).2.2.2.2 ||| n) else ((stN E n).1 + 1, (stN E n).2.1, (stN E n).2.2.1, (stN E n).2.2.2.1, (stN E n).2.2.2.2)) else stN E n
theorem stN_ok (E : Nat → Bool) : ∀ n, n ≤ 1024 → (stN E n).1 ≤ n ∧ (stN E n).2.1 ≤ 11 ∧ (stN E n).2.2.1 < 1024 ∧ (stN E n).2.2.2.1 < 1024 ∧ (stN E n).2.2.2.2 < 1024 ∧ ((stN E n).1 = 0 → stN E n = (0, 11, 0, 0, 0))
  | 0, _ => ⟨Nat.le_refl _, (show 11 ≤ 11 from by decide), (show 0 < 1024 from by decide), (show 0 < 1024 from by decide), (show 0 < 1024 from by decide), fun _ => rfl⟩
  | n + 1, h => by
    obtain ⟨h1, h2, h3, h4, h5, h6⟩ := stN_ok E n (by omega)
    have hp : pc n 12 ≤ 10 := by
      rw [pc_ext (m := 10) (show n < 2 ^ 10 by omega) (by decide)]; exact pc_le _ _
    show (if E n = true then _ else stN E n).1 ≤ n + 1 ∧ _
    have e : stN E (n + 1) = if E n = true then (if pc n 12 < (stN E n).2.1 then ((stN E n).1 + 1, pc n 12, n, n, n) else if pc n 12 = (stN E n).2.1 then ((stN E n).1 + 1, (stN E n).2.1, (stN E n).2.2.1, (stN E n).2.2.2.1 &&& n, (stN E n).2.2.2.2 ||| n) else ((stN E n).1 + 1, (stN E n).2.1, (stN E n).2.2.1, (stN E n).2.2.2.1, (stN E n).2.2.2.2)) else stN E n := rfl
    rw [← e, e]
    by_cases c : E n = true
    · rw [if_pos c]
      by_cases c1 : pc n 12 < (stN E n).2.1
      · rw [if_pos c1]
        exact ⟨by show (stN E n).1 + 1 ≤ n + 1; omega, by show pc n 12 ≤ 11; omega, by show n < 1024; omega, by show n < 1024; omega, by show n < 1024; omega, fun z => absurd (show (stN E n).1 + 1 = 0 from z) (by omega)⟩
      · rw [if_neg c1]
        by_cases c2 : pc n 12 = (stN E n).2.1
        · rw [if_pos c2]
          exact ⟨by show (stN E n).1 + 1 ≤ n + 1; omega, h2, h3, Nat.lt_of_le_of_lt Nat.and_le_left h4, Nat.or_lt_two_pow (n := 10) h5 (by omega), fun z => absurd (show (stN E n).1 + 1 = 0 from z) (by omega)⟩
        · rw [if_neg c2]
          exact ⟨by show (stN E n).1 + 1 ≤ n + 1; omega, h2, h3, h4, h5, fun z => absurd (show (stN E n).1 + 1 = 0 from z) (by omega)⟩
    · rw [if_neg c]
      exact ⟨by omega, h2, h3, h4, h5, h6⟩
theorem stN_s (E : Nat → Bool) (n : Nat) : stN E (n + 1) = if E n = true then (if pc n 12 < (stN E n).2.1 then ((stN E n).1 + 1, pc n 12, n, n, n) else if pc n 12 = (stN E n).2.1 then ((stN E n).1 + 1, (stN E n).2.1, (stN E n).2.2.1, (stN E n).2.2.2.1 &&& n, (stN E n).2.2.2.2 ||| n) else ((stN E n).1 + 1, (stN E n).2.1, (stN E n).2.2.1, (stN E n).2.2.2.1, (stN E n).2.2.2.2)) else stN E n := rfl
def st5 (t : Nat × Nat × Nat × Nat × Nat) (M : dM) : Prop := gI M 45 9 = nI t.1 ∧ gI M 45 10 = nI t.2.1 ∧ gI M 45 11 = nI t.2.2.1 ∧ gI M 45 12 = nI t.2.2.2.1 ∧ gI M 45 13 = nI t.2.2.2.2
def kSt : List Nat := [5509, 5510, 5511, 5512, 5513]
theorem st5_sup (t : Nat × Nat × Nat × Nat × Nat) : supp kSt (st5 t) := by
  intro M M' e _ ⟨h1, h2, h3, h4, h5⟩
  refine ⟨?_, ?_, ?_, ?_, ?_⟩
  · rw [(e 45 9 rfl).1]; exact h1
  · rw [(e 45 10 rfl).1]; exact h2
  · rw [(e 45 11 rfl).1]; exact h3
  · rw [(e 45 12 rfl).1]; exact h4
  · rw [(e 45 13 rfl).1]; exact h5
theorem c_st {A : sA} {Q : sQ} {v : Nat → Nat} : ∀ (m s : Nat) (M : dM), s + m = 1024 → svp (fun s => ¬ exP A Q v s) M → st5 (stN (exB A Q v) s) M → ∃ M', l_sy_countStories_28 (nI s) M = some M' ∧ st5 (stN (exB A Q v) 1024) M' ∧ chS kSt M M' := by
  intro m
  induction m with
  | zero =>
    intro s M hs h t
    have e : s = 1024 := by omega
    subst e
    refine ⟨M, ?_, t, chS.refl _ _⟩
    unfold l_sy_countStories_28
    refine lpc_out ?_
    show b_sy_countStories_28_28 (nI 1024) M = _
    unfold b_sy_countStories_28_28
    rw [if_pos (by decide)]
  | succ m ih =>
    intro s M hs h t
    obtain ⟨o1, o2, o3, o4, o5, o6⟩ := stN_ok (exB A Q v) s (by omega)
    obtain ⟨t1, t2, t3, t4, t5⟩ := t
    have hp : pc s 24 = pc s 12 := by rw [pc_ext (m := 10) (show s < 2 ^ 10 by omega) (by decide), pc_ext (m := 10) (k := 12) (show s < 2 ^ 10 by omega) (by decide)]
    have hp2 := pc_le s 12
    have fin : ∀ Y, chS kSt M Y → st5 (stN (exB A Q v) (s + 1)) Y → b_sy_countStories_28_28 (nI s) M = some (.inl (nI (s + 1), Y)) → ∃ M', l_sy_countStories_28 (nI s) M = some M' ∧ st5 (stN (exB A Q v) 1024) M' ∧ chS kSt M M' := fun Y cY hY hb => by
      obtain ⟨M', a1, a2, a3⟩ := ih (s + 1) Y (by omega) (svp_ch h cY rfl) hY
      refine ⟨M', ?_, a2, cY.trans a3⟩
      unfold l_sy_countStories_28 at a1 ⊢
      exact lpc_step (s' := (nI (s + 1), Y)) hb a1
    have es : nI s + 1 = nI (s + 1) := z_add s 1
    have e9 : gI M 45 9 + 1 = nI ((stN (exB A Q v) s).1 + 1) := by rw [t1]; exact z_add _ 1
    have hd : ∀ X, X = sI M 45 9 (nI ((stN (exB A Q v) s).1 + 1)) → b_sy_countStories_28_28 (nI s) M = if gI M 48 s = 0 then (if nI (stN (exB A Q v) s).2.1 ≤ nI (pc s 12) then (if nI (pc s 12) = nI (stN (exB A Q v) s).2.1 then some (.inl (nI (s + 1), sI (sI X 45 12 (nI ((stN (exB A Q v) s).2.2.2.1 &&& s))) 45 13 (nI ((stN (exB A Q v) s).2.2.2.2 ||| s)))) else some (.inl (nI (s + 1), X))) else some (.inl (nI (s + 1), sI (sI (sI (sI X 45 10 (nI (pc s 12))) 45 11 (nI s)) 45 12 (nI s)) 45 13 (nI s)))) else some (.inl (nI (s + 1), M)) := fun X hX => by
      unfold b_sy_countStories_28_28
      rw [if_neg (show ¬ (1024 : Int32) ≤ nI s from z_nle (a := 1024) (by omega) (by omega) (by omega)), z_gd (z_in (n := s) (by omega) (by omega)), z_cl (n := s) (by omega), z_bcI (by omega), hp, es, e9, ← hX]
      have x10 : gI X 45 10 = nI (stN (exB A Q v) s).2.1 := by rw [hX, gI_sI, if_neg (by omega)]; exact t2
      have x12 : gI X 45 12 = nI (stN (exB A Q v) s).2.2.2.1 := by rw [hX, gI_sI, if_neg (by omega)]; exact t4
      have x13 : ∀ y, gI (sI X 45 12 y) 45 13 = nI (stN (exB A Q v) s).2.2.2.2 := fun y => by rw [gI_sI, if_neg (by omega), hX, gI_sI, if_neg (by omega)]; exact t5
      rw [x10, x12, x13, z_and, z_or]
    have hd' := hd _ rfl
    rcases h s (by omega) with ⟨a, b⟩ | ⟨a, b⟩
    · have ex : exB A Q v s = true := (exB_iff _ _ _ _).mpr (Classical.byContradiction b)
      rw [if_pos (show gI M 48 s = (0 : Int32) from a)] at hd'
      have cX : chS kSt M (sI M 45 9 (nI ((stN (exB A Q v) s).1 + 1))) := chS_sI M 45 9 _ rfl
      by_cases c1 : pc s 12 < (stN (exB A Q v) s).2.1
      · rw [if_neg (z_nle (by omega) (by omega) c1)] at hd'
        refine fin _ ((((cX.sI 45 10 _ rfl).sI 45 11 _ rfl).sI 45 12 _ rfl).sI 45 13 _ rfl) ?_ hd'
        rw [stN_s, if_pos ex, if_pos c1]
        refine ⟨?_, ?_, ?_, ?_, ?_⟩ <;> simp only [gI_sI, Nat.reduceEqDiff, and_false, and_true, if_false, if_true]
      · rw [if_pos (z_yle (by omega) (by omega) (by omega))] at hd'
        by_cases c2 : pc s 12 = (stN (exB A Q v) s).2.1
        · rw [if_pos (by rw [c2])] at hd'
          refine fin _ ((cX.sI 45 12 _ rfl).sI 45 13 _ rfl) ?_ hd'
          rw [stN_s, if_pos ex, if_neg c1, if_pos c2]
          refine ⟨?_, ?_, ?_, ?_, ?_⟩ <;> simp only [gI_sI, Nat.reduceEqDiff, and_false, and_true, if_false, if_true, t2, t3]
        · rw [if_neg (z_ne (by omega) (by omega) c2)] at hd'
          refine fin _ cX ?_ hd'
          rw [stN_s, if_pos ex, if_neg c1, if_neg c2]
          refine ⟨?_, ?_, ?_, ?_, ?_⟩ <;> simp only [gI_sI, Nat.reduceEqDiff, and_false, and_true, if_false, if_true, t2, t3, t4, t5]
    · have ex : ¬ exB A Q v s = true := fun z => b ((exB_iff _ _ _ _).mp z)
      rw [if_neg (show ¬ gI M 48 s = (0 : Int32) from by rw [a]; decide)] at hd'
      refine fin M (chS.refl _ _) ?_ hd'
      rw [stN_s, if_neg ex]
      exact ⟨t1, t2, t3, t4, t5⟩
noncomputable def sT (A : sA) (Q : sQ) (v : Nat → Nat) : Nat × Nat × Nat × Nat × Nat := stN (exB A Q v) 1024
theorem c_countStories {A : sA} {Q : sQ} {v : Nat → Nat} {M : dM} (h : svp (fun s => ¬ exP A Q v s) M) : ∃ M', f_sy_countStories M = some M' ∧ st5 (sT A Q v) M' ∧ chS kSt M M' := by
  have c : chS kSt M (sI (sI (sI (sI (sI M 45 9 0) 45 10 11) 45 11 0) 45 12 0) 45 13 0) := (((((chS.refl _ M).sI 45 9 _ rfl).sI 45 10 _ rfl).sI 45 11 _ rfl).sI 45 12 _ rfl).sI 45 13 _ rfl
  obtain ⟨M', a1, a2, a3⟩ := c_st (A := A) (Q := Q) (v := v) 1024 0 (sI (sI (sI (sI (sI M 45 9 0) 45 10 11) 45 11 0) 45 12 0) 45 13 0) rfl (svp_ch h c rfl) (by
    refine ⟨?_, ?_, ?_, ?_, ?_⟩ <;> simp only [gI_sI, Nat.reduceEqDiff, and_false, and_true, if_false, if_true] <;> rfl)
  have a1' : l_sy_countStories_28 0 (sI (sI (sI (sI (sI M 45 9 0) 45 10 11) 45 11 0) 45 12 0) 45 13 0) = some M' := a1
  refine ⟨M', ?_, a2, c.trans a3⟩
  unfold f_sy_countStories
  rw [a1']
  rfl
noncomputable def duB (A : sA) (Q : sQ) (v : Nat → Nat) (f : Nat) : Bool := !decide (eaF A Q (v 3) f = 0) || (sT A Q v).2.2.2.2.testBit (A 78 f)
noncomputable def duF (A : sA) (Q : sQ) (v : Nat → Nat) : Nat := bsN (duB A Q v) (A 66 9)
theorem sT_ok (A : sA) (Q : sQ) (v : Nat → Nat) : (sT A Q v).1 ≤ 1024 ∧ (sT A Q v).2.1 ≤ 11 ∧ (sT A Q v).2.2.1 < 1024 ∧ (sT A Q v).2.2.2.1 < 1024 ∧ (sT A Q v).2.2.2.2 < 1024 ∧ ((sT A Q v).1 = 0 → sT A Q v = (0, 11, 0, 0, 0)) := stN_ok _ 1024 (Nat.le_refl _)
theorem c_doubtL {A : sA} {Q : sQ} {v : Nat → Nat} (w : wfA A) : ∀ (m i : Nat) (M : dM), i + m = A 66 9 → rcA A M → rcJ A Q (v 3) M → st5 (sT A Q v) M → gJ M 45 7 = lN (bsN (duB A Q v) i) → ∃ M', l_sy_doubt_7 (nI i) M = some M' ∧ gJ M' 45 7 = lN (duF A Q v) ∧ chS [5507] M M' := by
  have hn := w.2.2.1.1
  obtain ⟨o1, o2, o3, o4, o5, o6⟩ := sT_ok A Q v
  intro m
  induction m with
  | zero =>
    intro i M hi rc j t h7
    have e : i = A 66 9 := by omega
    subst e
    refine ⟨M, ?_, h7, chS.refl _ _⟩
    unfold l_sy_doubt_7
    refine lpc_out ?_
    show b_sy_doubt_7_7 (nI (A 66 9)) M = _
    unfold b_sy_doubt_7_7
    rw [rc.2.2.1.1, if_pos (z_yle (by omega) (by omega) (Nat.le_refl _))]
  | succ m ih =>
    intro i M hi rc j t h7
    have hin : i < A 66 9 := by omega
    obtain ⟨e1, e2, e3, e4, e5, e6, e7⟩ := rc.2.2.1.2 i hin
    obtain ⟨q1, q2, q3, q4, q5, q6, q7, q8⟩ := w.2.2.1.2.1 i hin
    have hea := jdg_lt Q (fun k => nI (fc A (v 3) i k))
    have es : nI i + 1 = nI (i + 1) := z_add i 1
    have hd : b_sy_doubt_7_7 (nI i) M = if duB A Q v i = true then some (.inl (nI (i + 1), sJ M 45 7 (lN (bsN (duB A Q v) i ||| 2 ^ i)))) else some (.inl (nI (i + 1), M)) := by
      unfold b_sy_doubt_7_7 b_sy_doubt_7_50
      rw [rc.2.2.1.1, if_neg (z_nle (by omega) (by omega) hin), z_gd (z_in (n := i) (by omega) (by omega)), z_cl (n := i) (by omega), (j i hin).2.1, t.2.2.2.2, e5, z_hasBit (by omega) (by omega), h7, z_1shlL (by omega), fb_orL, es]
      unfold duB
      by_cases c : eaF A Q (v 3) i = 0
      · rw [if_pos (show nI _ = (0 : Int32) from by rw [c]; rfl), decide_eq_true c]
        by_cases c2 : (sT A Q v).2.2.2.2.testBit (A 78 i) = true
        · rw [if_pos c2, if_pos (by rw [c2]; rfl)]
        · rw [if_neg c2, if_neg (by rw [Bool.eq_false_iff.mpr c2]; decide)]
      · rw [if_neg (show ¬ nI _ = (0 : Int32) from z_ne (b := 0) (by unfold eaF; omega) (by omega) c), decide_eq_false c, if_pos (show (!false || (sT A Q v).2.2.2.2.testBit (A 78 i)) = true from rfl)]
    by_cases c : duB A Q v i = true
    · rw [if_pos c] at hd
      have cs : chS [5507] M (sJ M 45 7 (lN (bsN (duB A Q v) i ||| 2 ^ i))) := chS_sJ M 45 7 _ rfl
      obtain ⟨M', a1, a2, a3⟩ := ih (i + 1) _ (by omega) ((srcA A).use rc cs (by decide +kernel)) ((srcJ A Q (v 3)).use j cs (by decide)) ((st5_sup _).use t cs (by decide)) (by rw [gJ_sJ, if_pos ⟨rfl, rfl⟩, bsN_s, if_pos c])
      refine ⟨M', ?_, a2, cs.trans a3⟩
      unfold l_sy_doubt_7 at a1 ⊢
      exact lpc_step hd a1
    · rw [if_neg c] at hd
      obtain ⟨M', a1, a2, a3⟩ := ih (i + 1) M (by omega) rc j t (by rw [bsN_s, if_neg c]; exact h7)
      refine ⟨M', ?_, a2, a3⟩
      unfold l_sy_doubt_7 at a1 ⊢
      exact lpc_step hd a1
/-- the stories are told -/
def rcY (A : sA) (Q : sQ) (v : Nat → Nat) (M : dM) : Prop := rcM A Q v M ∧ st5 (sT A Q v) M ∧ gJ M 45 7 = lN (duF A Q v)
def kY : List Nat := [46, 47, 48, 5506, 5507, 5509, 5510, 5511, 5512, 5513]
theorem srcY (A : sA) (Q : sQ) (v : Nat → Nat) : supp kY (rcY A Q v) := by
  intro M M' e hw ⟨h1, h2, h3⟩
  refine ⟨srcM A Q v M M' (fun k j hk => e k j ?_) hw h1, st5_sup _ M M' (fun k j hk => e k j ?_) hw h2, ?_⟩
  · have : ∀ x, x ∈ ([46, 47, 5506] : List Nat) → kY.contains x = true := by decide
    exact this _ (List.contains_iff_mem.mp hk)
  · have : ∀ x, x ∈ kSt → kY.contains x = true := by decide
    exact this _ (List.contains_iff_mem.mp hk)
  · rw [(e 45 7 rfl).2]; exact h3
theorem c_tell {A : sA} {Q : sQ} {v : Nat → Nat} {M : dM} (w : wfA A) (rc : rcA A M) (wq : wQ Q v) (cw : rcW Q v M) (o : rcO A M) (j : rcJ A Q (v 3) M) : ∃ M', f_sy_tell M = some M' ∧ rcY A Q v M' ∧ chS kY M M' := by
  have c0 : chS kY M (sJ M 45 6 0) := chS_sJ M 45 6 _ rfl
  obtain ⟨M1, a1, a2, a3, a4⟩ := c_tell1 w wq (A 66 9) 0 (sJ M 45 6 0) (by omega) ((srcA A).use rc c0 (by decide +kernel)) (fun k hk => (c0.I 11 k rfl).trans (o k hk)) ((srcW Q v).use cw c0 (by decide)) ((srcJ A Q (v 3)).use j c0 (by decide)) (fun f hf => absurd hf (Nat.not_lt_zero _)) (by rw [gJ_sJ, if_pos ⟨rfl, rfl⟩]; rfl)
  have c1 : chS kY M M1 := c0.trans (a4.mono (by decide))
  have rc1 := (srcA A).use rc c1 (by decide +kernel)
  have j1 := (srcJ A Q (v 3)).use j c1 (by decide)
  obtain ⟨M2, b1, b2, b3⟩ := c_refuteAll (Q := Q) (v := v) w rc1 j1 ⟨a2, a3⟩
  obtain ⟨M3, d1, d2, d3⟩ := c_countStories b2
  have c2 : chS kY M1 M3 := (b3.mono (by decide)).trans (d3.mono (by decide))
  have c3 : chS kY M3 (sJ M3 45 7 0) := chS_sJ M3 45 7 _ rfl
  obtain ⟨M4, e1, e2, e3⟩ := c_doubtL w (A 66 9) 0 (sJ M3 45 7 0) (by omega) ((srcA A).use rc1 (c2.trans c3) (by decide +kernel)) ((srcJ A Q (v 3)).use j1 (c2.trans c3) (by decide)) ((st5_sup _).use d2 (chS_sJ (S := [5507]) M3 45 7 0 rfl) (by decide)) (by rw [gJ_sJ, if_pos ⟨rfl, rfl⟩]; rfl)
  have hM : rcM A Q v M4 := by
    have cc : chS [48, 5507, 5509, 5510, 5511, 5512, 5513] M1 M4 := (((b3.mono (by decide)).trans (d3.mono (by decide))).trans ((chS_sJ (S := [5507]) M3 45 7 0 rfl).mono (by decide))).trans (e3.mono (by decide))
    exact (srcM A Q v).use ⟨a2, a3⟩ cc (by decide)
  have hS : st5 (sT A Q v) M4 := (st5_sup _).use d2 ((chS_sJ (S := [5507]) M3 45 7 0 rfl).trans e3) (by decide)
  refine ⟨M4, ?_, ⟨hM, hS, e2⟩, ((c1.trans c2).trans c3).trans (e3.mono (by decide))⟩
  have e1' : l_sy_doubt_7 0 (sJ M3 45 7 0) = some M4 := e1
  have hout : bT (nI (A 66 9), M1) = some (.inr M4) := by
    show b_sy_tell_7_7 (nI (A 66 9)) M1 = _
    have hn := w.2.2.1.1
    unfold b_sy_tell_7_7 f_sy_doubt
    rw [rc1.2.2.1.1, if_pos (z_yle (by omega) (by omega) (Nat.le_refl _)), b1, Option.bind_some, d1, Option.bind_some, e1']
    rfl
  have hl : lpc bT (nI 0, sJ M 45 6 0) = some M4 := a1 _ (lpc_out hout)
  have hl' : l_sy_tell_7 0 (sJ M 45 6 0) = some M4 := hl
  unfold f_sy_tell
  rw [hl']
  rfl
