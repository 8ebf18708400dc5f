/-! ===== worlds: the days of a world ===== -/
noncomputable def stX (A : sA) (Q : sQ) (i h : Nat) (X : wX) : wX := dgX A Q i h (ptW A i h X.1, X.2)
noncomputable def runH (A : sA) (Q : sQ) (i : Nat) (X : wX) : Nat → wX
  | 0 => X
  | k + 1 => if (decide (A 72 i ≤ k) && decide (k ≤ A 73 i)) = true then stX A Q i k (runH A Q i X k) else runH A Q i X k
noncomputable def runL (A : sA) (Q : sQ) (s : Nat) : Nat → wX
  | 0 => ((s, fun _ => 0, fun _ => 0), 0, fun _ _ => 0)
  | k + 1 => runH A Q k (runL A Q s k) 24
noncomputable def uX (A : sA) (Q : sQ) (s : Nat) : wX := runL A Q s (A 66 3)
theorem runH_s (A : sA) (Q : sQ) (i : Nat) (X : wX) (k : Nat) : runH A Q i X (k + 1) = if (decide (A 72 i ≤ k) && decide (k ≤ A 73 i)) = true then stX A Q i k (runH A Q i X k) else runH A Q i X k := rfl
theorem stX_wf {A : sA} {Q : sQ} (w : wfA A) {X : wX} (hX : wfX A X) {i h : Nat} (hi : i < A 66 3) : wfX A (stX A Q i h X) := dgX_wf (X := (ptW A i h X.1, X.2)) w ⟨ptW_wf w.1 hX.1 hi h, hX.2⟩ hi
theorem stX_n (A : sA) (Q : sQ) (i h : Nat) (X : wX) : (stX A Q i h X).2.1 ≤ X.2.1 + 1 := dgX_n A Q i h (ptW A i h X.1, X.2)
theorem runH_wf {A : sA} {Q : sQ} (w : wfA A) {X : wX} (hX : wfX A X) {i : Nat} (hi : i < A 66 3) : ∀ k, wfX A (runH A Q i X k)
  | 0 => hX
  | k + 1 => by
    have ih := runH_wf (Q := Q) w hX hi k
    rw [runH_s]
    split
    · exact stX_wf w ih hi
    · exact ih
theorem runH_n (A : sA) (Q : sQ) (i : Nat) (X : wX) : ∀ k, (runH A Q i X k).2.1 ≤ X.2.1 + k
  | 0 => Nat.le_refl _
  | k + 1 => by
    have ih := runH_n A Q i X k
    rw [runH_s]
    split
    · have := stX_n A Q i k (runH A Q i X k)
      omega
    · omega
theorem runL_wf {A : sA} {Q : sQ} (w : wfA A) {s : Nat} (hs : s < 2147483648) : ∀ k, k ≤ A 66 3 → wfX A (runL A Q s k)
  | 0, _ => ⟨⟨hs, fun _ _ => ⟨Nat.zero_le _, fun j hj => absurd hj (Nat.not_lt_zero _)⟩⟩, fun k hk => absurd hk (Nat.not_lt_zero _)⟩
  | k + 1, hk => runH_wf w (runL_wf w hs k (by omega)) (by omega) 24
theorem runL_n (A : sA) (Q : sQ) (s : Nat) : ∀ k, (runL A Q s k).2.1 ≤ 24 * k
  | 0 => Nat.le_refl _
  | k + 1 => by
    have ih := runL_n A Q s k
    have := runH_n A Q k (runL A Q s k) 24
    show (runH A Q k (runL A Q s k) 24).2.1 ≤ _
    omega
theorem uX_n {A : sA} (w : wfA A) (Q : sQ) (s : Nat) : (uX A Q s).2.1 ≤ 1920 := by
  have := runL_n A Q s (A 66 3)
  have h := w.1.1
  show (runL A Q s (A 66 3)).2.1 ≤ 1920
  omega
/-! the class' loops -/
def lo40 (M M' : dM) : Prop := ∀ j, j < 680 → gI M' 40 j = gI M 40 j
theorem lo40.trans {M M' M'' : dM} (h : lo40 M M') (h' : lo40 M' M'') : lo40 M M'' := fun j hj => (h' j hj).trans (h j hj)
theorem c_71 {A : sA} {Q : sQ} {v : Nat → Nat} {X : wX} (x1 : Int32) (w : wfA A) (wq : wQ Q v) (hX : wfX A X) {i : Nat} (hi : i < A 66 3) (hn : X.2.1 ≤ 1896) : ∀ (m k : Nat) (M : dM), k + m = 24 → rcA A M → rcO A M → rcW Q v M → rcX (runH A Q i X k) M → ∃ M', l_wo_live_71 x1 (nI i) (nI k) M = some M' ∧ rcX (runH A Q i X 24) M' ∧ chS kDc M M' ∧ lo40 M M' := by
  have hL := w.1.1
  obtain ⟨p1, p2, p3, p4, p5⟩ := w.1.2 i hi
  intro m
  induction m with
  | zero =>
    intro k M hk rc o cw rx
    have e : k = 24 := by omega
    subst e
    refine ⟨M, ?_, rx, chS.refl _ _, fun _ _ => rfl⟩
    unfold l_wo_live_71
    refine lpc_out ?_
    show b_wo_live_71_71 x1 (nI i) (nI 24) M = _
    unfold b_wo_live_71_71
    rw [if_pos (show (24 : Int32) ≤ nI 24 from by decide)]
  | succ m ih =>
    intro k M hk rc o cw rx
    have hb := hrs_bit _ p5 (A 72 i) (by omega) p4 k (by omega)
    have hl := hrs_lt _ p5 (A 72 i) (by omega)
    obtain ⟨e7, e8, e9, e10⟩ := rc.1.2 i hi
    have hbd : b_wo_live_71_71 x1 (nI i) (nI k) M = if (decide (A 72 i ≤ k) && decide (k ≤ A 73 i)) = true then (f_wo_putOne (nI i) (nI k) M).bind fun q10 => gd (vp_in (gI q10 8 i) 8) <| if (gI q10 61 (gI q10 8 i).toNatClampNeg) ≤ 0 then b_wo_live_71_122 x1 (nI i) (nI k) 0 q10 else b_wo_live_71_122 x1 (nI i) (nI k) 1 q10 else some (.inl (nI (k + 1), M)) := by
      unfold b_wo_live_71_71
      rw [if_neg (show ¬ (24 : Int32) ≤ nI k from z_nle (a := 24) (by omega) (by omega) (by omega)), z_gd (z_in (n := i) (by omega) (by omega)), z_cl (n := i) (by omega), e10, z_hasBit (by omega) (by omega), hb, show nI k + 1 = nI (k + 1) from z_add k 1]
    by_cases c : (decide (A 72 i ≤ k) && decide (k ≤ A 73 i)) = true
    · have c2 : A 72 i ≤ k ∧ k ≤ A 73 i := by
        rw [Bool.and_eq_true, decide_eq_true_iff, decide_eq_true_iff] at c
        exact c
      have hrun : runH A Q i X (k + 1) = stX A Q i k (runH A Q i X k) := by rw [runH_s, if_pos c]
      have hwf := runH_wf (Q := Q) w hX hi k
      have hn2 := runH_n A Q i X k
      generalize runH A Q i X k = Y at rx hrun hwf hn2
      obtain ⟨M1, a1, a2, a3⟩ := c_put (h := k) w rc o hwf.1 rx.1 hi (by omega)
      have rc1 := (srcA A).use rc a3 (by decide +kernel)
      have cw1 := (srcW Q v).use cw a3 (by decide)
      have o1 : rcO A M1 := rcO_ch o a3 (by decide)
      have e8' : gI M1 8 i = nI (A 70 i) := (rc1.1.2 i hi).2.1
      obtain ⟨M2, b1, b2, b3, b4⟩ := c_dig (X := (ptW A i k Y.1, Y.2)) w rc1 o1 wq cw1 ⟨ptW_wf w.1 hwf.1 hi k, hwf.2⟩ ⟨a2, rcU_ch rx.2 a3 (by decide)⟩ x1 hi (show k < 24 by omega) c2.1 c2.2 (show Y.2.1 < 1920 by omega)
      have c12 : chS kDc M M2 := (a3.mono (by decide)).trans b3
      have rc2 := (srcA A).use rc c12 (by decide +kernel)
      have cw2 := (srcW Q v).use cw c12 (by decide)
      have o2 : rcO A M2 := rcO_ch o c12 (by decide)
      obtain ⟨M', f1, f2, f3, f4⟩ := ih (k + 1) M2 (by omega) rc2 o2 cw2 (by rw [hrun]; exact b2)
      refine ⟨M', ?_, f2, c12.trans f3, lo40.trans (M' := M2) (fun j hj => (b4 j hj).trans (a3.I 40 j rfl)) f4⟩
      unfold l_wo_live_71 at f1 ⊢
      refine lpc_step (s' := (nI (k + 1), M2)) ?_ f1
      show b_wo_live_71_71 x1 (nI i) (nI k) M = _
      rw [hbd, if_pos c, a1, Option.bind_some, e8', z_gd (z_in (n := A 70 i) (by omega) (by omega)), z_cl (n := A 70 i) (by omega)]
      exact b1
    · have hrun : runH A Q i X (k + 1) = runH A Q i X k := by rw [runH_s, if_neg c]
      obtain ⟨M', f1, f2, f3, f4⟩ := ih (k + 1) M (by omega) rc o cw (by rw [hrun]; exact rx)
      refine ⟨M', ?_, f2, f3, f4⟩
      unfold l_wo_live_71 at f1 ⊢
      refine lpc_step (s' := (nI (k + 1), M)) ?_ f1
      show b_wo_live_71_71 x1 (nI i) (nI k) M = _
      rw [hbd, if_neg c]
theorem c_58 {A : sA} {Q : sQ} {v : Nat → Nat} {s : Nat} (w : wfA A) (wq : wQ Q v) (hs : s < 2147483648) : ∀ (m k : Nat) (M : dM), k + m = A 66 3 → rcA A M → rcO A M → rcW Q v M → rcX (runL A Q s k) M → ∃ M', l_wo_live_58 (nI s) (nI k) M = some (sI M' 56 14 (nI s)) ∧ rcX (uX A Q s) M' ∧ chS kDc M M' ∧ lo40 M M' := by
  have hL := w.1.1
  intro m
  induction m with
  | zero =>
    intro k M hk rc o cw rx
    have e : k = A 66 3 := by omega
    subst e
    refine ⟨M, ?_, rx, chS.refl _ _, fun _ _ => rfl⟩
    unfold l_wo_live_58
    refine lpc_out ?_
    show b_wo_live_58_58 (nI s) (nI (A 66 3)) M = _
    unfold b_wo_live_58_58
    rw [rc.1.1, if_pos (z_yle (by omega) (by omega) (Nat.le_refl _))]
  | succ m ih =>
    intro k M hk rc o cw rx
    have hn := runL_n A Q s k
    obtain ⟨M1, a1, a2, a3, a4⟩ := c_71 (i := k) (X := runL A Q s k) (nI s) w wq (runL_wf w hs k (by omega)) (by omega) (by omega) 24 0 M rfl rc o cw rx
    have rc1 := (srcA A).use rc a3 (by decide +kernel)
    have cw1 := (srcW Q v).use cw a3 (by decide)
    have o1 : rcO A M1 := rcO_ch o a3 (by decide)
    obtain ⟨M', f1, f2, f3, f4⟩ := ih (k + 1) M1 (by omega) rc1 o1 cw1 a2
    refine ⟨M', ?_, f2, a3.trans f3, a4.trans f4⟩
    unfold l_wo_live_58 at f1 ⊢
    refine lpc_step (s' := (nI (k + 1), M1)) ?_ f1
    show b_wo_live_58_58 (nI s) (nI k) M = _
    unfold b_wo_live_58_58
    have a1' : l_wo_live_71 (nI s) (nI k) 0 M = some M1 := a1
    rw [rc.1.1, if_neg (z_nle (by omega) (by omega) (by omega)), a1', Option.bind_some, show nI k + 1 = nI (k + 1) from z_add k 1]
