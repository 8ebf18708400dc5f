/-! ===== the day of enough: the class ===== -/
def pfN (A : sA) (d : Nat) : Nat := fb_ct (fun f => decide (A 76 f ≤ d)) (A 66 9)
def pfx (A : sA) (d m : Nat) : Prop := m ≤ A 66 9 ∧ ∀ f, f < A 66 9 → (A 76 f ≤ d ↔ f < m)
theorem ct_lt (m : Nat) : ∀ n, m ≤ n → fb_ct (fun f => decide (f < m)) n = m
  | 0, h => by
    have : m = 0 := by omega
    subst this; rfl
  | n + 1, h => by
    rw [fb_ct_succ]
    by_cases c : m ≤ n
    · rw [ct_lt m n c, decide_eq_false (by omega)]; rfl
    · have : m = n + 1 := by omega
      subst this
      rw [fb_ct_all.mpr (fun k hk => decide_eq_true (by omega)), decide_eq_true (by omega)]; rfl
theorem pfx_N {A : sA} {d m : Nat} (h : pfx A d m) : m = pfN A d := by
  unfold pfN
  rw [fb_ct_cong (q := fun f => decide (f < m)) (fun f hf => decide_eq_decide.mpr (h.2 f hf)), ct_lt m _ h.1]
noncomputable def dfv (A : sA) (Q : sQ) (v : Nat → Nat) (d : Nat) : Nat → Int32 := fun k => nI (dfc A Q v d (pfN A d) k)
noncomputable def skD (A : sA) (Q : sQ) (v : Nat → Nat) : Nat → Nat → Int32
  | 0, _ => -1
  | n + 1, d => if lvN Q 20 (dfv A Q v d) = true then nI d else skD A Q v n (d + 1)
noncomputable def enN (A : sA) (Q : sQ) (v : Nat → Nat) : Int32 := if Q 20 = none then -1 else skD A Q v 1000 0
theorem dfc_mid (A : sA) (Q : sQ) (v : Nat → Nat) (d m k : Nat) (h1 : 1 ≤ k) (h7 : k < 7) : dfc A Q v d m k = dfc A Q v 0 m k := by
  unfold dfc
  have h : k = 1 ∨ k = 2 ∨ k = 3 ∨ k = 4 ∨ k = 5 ∨ k = 6 := by omega
  rcases h with rfl | rfl | rfl | rfl | rfl | rfl <;> rfl
theorem c_27 {A : sA} {Q : sQ} {v : Nat → Nat} (w : wfA A) {d : Nat} (hd : d < 1000) : ∀ (n x : Nat) (M : dM), x + n = A 66 9 → rcA A M → rcJ A Q (v 3) M → ciD A Q v x M → (∀ f, f < x → A 76 f ≤ d) → ∃ m M', l_ju_seekDay_27 (nI x) (nI d) M = some (nI m, M') ∧ pfx A d m ∧ ciD A Q v m M' ∧ chS [43, 44] M M' := by
  have hn := w.2.2.1.1
  intro n
  induction n with
  | zero =>
    intro x M hx rc j h hh
    have e : x = A 66 9 := by omega
    subst e
    refine ⟨A 66 9, M, ?_, ⟨Nat.le_refl _, fun f hf => ⟨fun _ => hf, fun _ => hh f hf⟩⟩, h, chS.refl _ _⟩
    unfold l_ju_seekDay_27
    refine lpc_out ?_
    show b_ju_seekDay_27_27 (nI (A 66 9)) (nI d) M = _
    unfold b_ju_seekDay_27_27
    rw [rc.2.2.1.1, if_pos (z_yle (by omega) (by omega) (Nat.le_refl _))]
  | succ n ih =>
    intro x M hx rc j h hh
    have hxn : x < A 66 9 := by omega
    have q3 := (w.2.2.1.2.1 x hxn).2.2.1
    have e15 : gI M 15 x = nI (A 76 x) := (rc.2.2.1.2 x hxn).2.2.1
    by_cases c : d < A 76 x
    · refine ⟨x, M, ?_, ⟨by omega, fun f hf => ⟨fun z => ?_, fun z => hh f z⟩⟩, h, chS.refl _ _⟩
      · unfold l_ju_seekDay_27
        refine lpc_out ?_
        show b_ju_seekDay_27_27 (nI x) (nI d) M = _
        unfold b_ju_seekDay_27_27
        rw [rc.2.2.1.1, if_neg (z_nle (by omega) (by omega) hxn), z_gd (z_in (n := x) (by omega) (by omega)), z_cl (n := x) (by omega), e15, if_pos (show nI d < nI _ from by rw [z_lt (by omega) (by omega)]; exact c)]
      · by_cases e : f < x
        · exact e
        · have := w.2.2.1.2.2 x f (by omega) hf
          omega
    · obtain ⟨M1, a1, a2, a3, a4, a5⟩ := c_addDay w rc j hxn h
      obtain ⟨m, M2, b1, b2, b3, b4⟩ := ih (x + 1) M1 (by omega) ((srcA A).use rc a3 (by decide +kernel)) ((srcJ A Q (v 3)).use j a3 (by decide)) a2 (fun f hf => by
        by_cases e : f = x
        · subst e; omega
        · exact hh f (by omega))
      refine ⟨m, M2, ?_, b2, b3, a3.trans b4⟩
      unfold l_ju_seekDay_27 at b1 ⊢
      refine lpc_step (s' := (nI (x + 1), M1)) ?_ b1
      show b_ju_seekDay_27_27 (nI x) (nI d) M = _
      unfold b_ju_seekDay_27_27
      rw [rc.2.2.1.1, if_neg (z_nle (by omega) (by omega) hxn), z_gd (z_in (n := x) (by omega) (by omega)), z_cl (n := x) (by omega), e15, if_neg (show ¬ nI d < nI _ from by rw [z_lt (by omega) (by omega)]; exact c), a1, Option.bind_some, show nI x + 1 = nI (x + 1) from z_add x 1]
theorem c_papers {A : sA} {M : dM} (w : wfA A) (rc : rcA A M) {d : Nat} (hd : d < 1000) : f_to_papersUpTo (nI d) M = some (nI (fb_ct (fun i => decide (A 113 i ≤ d)) (A 66 77))) := by
  have hp := w.2.2.2.2.1.1
  have rp := rc.2.2.2.2.1
  unfold f_to_papersUpTo
  have e0 : l_to_papersUpTo_4 (nI d) 0 0 M = some (nI (fb_ct (fun i => decide (A 113 i ≤ d)) (A 66 77))) := by
    unfold l_to_papersUpTo_4
    refine lpc_seq (body := fun s : Int32 × Int32 => b_to_papersUpTo_4_4 (nI d) s.1 s.2 M) (fun k => (nI (fb_ct (fun i => decide (A 113 i ≤ d)) k), nI k)) (A 66 77) ?_ ?_
    · intro k hk
      have e1 := rp.2 k hk
      have e2 := w.2.2.2.2.1.2 k hk
      show b_to_papersUpTo_4_4 (nI d) (nI (fb_ct (fun i => decide (A 113 i ≤ d)) k)) (nI k) M = some (.inl (nI (fb_ct (fun i => decide (A 113 i ≤ d)) (k + 1)), nI (k + 1)))
      unfold b_to_papersUpTo_4_4
      rw [rp.1, if_neg (z_nle (by omega) (by omega) hk), z_gd (z_in (n := k) (by omega) (by omega)), z_cl (n := k) (by omega), e1, show nI k + 1 = nI (k + 1) from z_add k 1, fb_ct_succ]
      by_cases c : d < A 113 k
      · rw [if_pos (show nI d < nI _ from by rw [z_lt (by omega) (by omega)]; exact c), if_neg (by rw [decide_eq_false (by omega)]; exact Bool.false_ne_true)]
        rfl
      · rw [if_neg (show ¬ nI d < nI _ from by rw [z_lt (by omega) (by omega)]; exact c), if_pos (decide_eq_true (by omega)), show nI (fb_ct (fun i => decide (A 113 i ≤ d)) k) + 1 = nI (fb_ct (fun i => decide (A 113 i ≤ d)) k + 1) from z_add _ 1]
    · show b_to_papersUpTo_4_4 (nI d) (nI (fb_ct (fun i => decide (A 113 i ≤ d)) (A 66 77))) (nI (A 66 77)) M = _
      unfold b_to_papersUpTo_4_4
      rw [rp.1, if_pos (z_yle (by omega) (by omega) (Nat.le_refl _))]
  rw [e0, Option.bind_some]
theorem c_20 {A : sA} {Q : sQ} {v : Nat → Nat} (w : wfA A) (wq : wQ Q v) {a b : Nat} {r c : List Nat} {D : gD} (hq : Q 20 = some (a, r, b, c, D)) : ∀ (n d x : Nat) (M : dM), d + n = 1000 → rcA A M → rcW Q v M → rcJ A Q (v 3) M → ciD A Q v x M → x ≤ A 66 9 → (∀ f, f < x → A 76 f ≤ d) → ∃ M', l_ju_seekDay_20 (nI x) (nI d) M = some (skD A Q v n d, M') ∧ chS [43, 44, 31] M M' := by
  have hn := w.2.2.1.1
  intro n
  induction n with
  | zero =>
    intro d x M hd rc cw j h hx hh
    have e : d = 1000 := by omega
    subst e
    refine ⟨M, ?_, chS.refl _ _⟩
    unfold l_ju_seekDay_20
    refine lpc_out ?_
    show b_ju_seekDay_20_20 (nI x) (nI 1000) M = _
    unfold b_ju_seekDay_20_20
    rw [if_pos (show (1000 : Int32) ≤ nI 1000 from by decide)]
    rfl
  | succ n ih =>
    intro d x M hd rc cw j h hx hh
    have hd' : d < 1000 := by omega
    obtain ⟨m, M1, a1, a2, a3, a4⟩ := c_27 w hd' (A 66 9 - x) x M (by omega) rc j h hh
    have rc1 := (srcA A).use rc a4 (by decide +kernel)
    have cw1 := (srcW Q v).use cw a4 (by decide)
    have j1 := (srcJ A Q (v 3)).use j a4 (by decide)
    have c0 : chS [43, 44] M1 (sI M1 43 0 (nI d)) := chS_sI M1 43 0 _ rfl
    have hpap := c_papers w ((srcA A).use rc1 c0 (by decide +kernel)) hd'
    generalize hN : sI (sI M1 43 0 (nI d)) 43 7 (nI (fb_ct (fun i => decide (A 113 i ≤ d)) (A 66 77))) = N
    have c1 : chS [43, 44] M1 N := by rw [← hN]; exact c0.sI 43 7 _ rfl
    have cwN := (srcW Q v).use cw1 c1 (by decide)
    have g := (wq.1 20 a r b c D (by decide) hq).2
    obtain ⟨x1, x2, x3, x4⟩ := (cwN.2 20 (by decide)).2 a r b c D hq
    have g8 : G 8 0 0 c r D := g
    obtain ⟨M2, b1, b2⟩ := c_valueOf43 (base := 0) g8 (by decide) (by decide) x1 x2 x3 rfl x4
    have em := pfx_N a2
    have eD : D (vC43 N 0) = D (dfv A Q v d) := G_cong g8 _ _ (fun k hk => by
      show gI N 43 (0 + k) = nI (dfc A Q v d (pfN A d) k)
      rw [Nat.zero_add, ← em]
      by_cases k0 : k = 0
      · subst k0; rw [← hN, gI_sI, if_neg (by omega), gI_sI, if_pos ⟨rfl, rfl⟩]; rfl
      by_cases k7 : k = 7
      · subst k7; rw [← hN, gI_sI, if_pos ⟨rfl, rfl⟩]; rfl
      rw [← hN, gI_sI, if_neg (by omega), gI_sI, if_neg (by omega), dfc_mid A Q v d m k (by omega) (by omega)]
      exact a3.1 k (by omega) (by omega))
    have c2 : chS [43, 44, 31] M M2 := (a4.mono (by decide)).trans ((c1.mono (by decide)).trans (b2.mono (by decide)))
    have elv : lvN Q 20 (dfv A Q v d) = decide (¬ D (dfv A Q v d) = 0) := lvN_some hq _
    have hbody : b_ju_seekDay_20_20 (nI x) (nI d) M = if lvN Q 20 (dfv A Q v d) = true then some (.inr (nI d, M2)) else some (.inl (nI m, nI (d + 1), M2)) := by
      unfold b_ju_seekDay_20_20 b_ju_seekDay_20_62
      rw [if_neg (show ¬ (1000 : Int32) ≤ nI d from z_nle (a := 1000) (by decide) (by omega) (by omega)), a1, Option.bind_some, hpap, Option.bind_some, hN]
      have b1' : f_la_valueOf_27_43 20 0 N = some (D (vC43 N 0), M2) := b1
      rw [b1', Option.bind_some, eD, elv, show nI d + 1 = nI (d + 1) from z_add d 1]
      by_cases z : D (dfv A Q v d) = 0
      · rw [if_pos z, if_neg (by rw [z]; decide)]
      · rw [if_neg z, if_pos (decide_eq_true z)]
    have esk : skD A Q v (n + 1) d = if lvN Q 20 (dfv A Q v d) = true then nI d else skD A Q v n (d + 1) := rfl
    rw [esk]
    by_cases z : lvN Q 20 (dfv A Q v d) = true
    · rw [if_pos z] at hbody ⊢
      refine ⟨M2, ?_, c2⟩
      unfold l_ju_seekDay_20
      exact lpc_out hbody
    · rw [if_neg z] at hbody ⊢
      have ci2 : ciD A Q v m M2 := by
        refine ⟨fun k h1 h7 => ?_, fun q hq => ?_⟩
        · rw [b2.I 43 k rfl, ← hN, gI_sI, if_neg (by omega), gI_sI, if_neg (by omega)]; exact a3.1 k h1 h7
        · rw [b2.I 44 q rfl, ← hN, gI_sI, if_neg (by omega), gI_sI, if_neg (by omega)]; exact a3.2 q hq
      obtain ⟨M3, d1, d2⟩ := ih (d + 1) m M2 (by omega) ((srcA A).use rc c2 (by decide +kernel)) ((srcW Q v).use cw c2 (by decide)) ((srcJ A Q (v 3)).use j c2 (by decide)) ci2 a2.1 (fun f hf => by
        have := (a2.2 f (by have := a2.1; omega)).mpr hf
        omega)
      refine ⟨M3, ?_, c2.trans d2⟩
      unfold l_ju_seekDay_20 at d1 ⊢
      exact lpc_step (s' := (nI m, nI (d + 1), M2)) hbody d1
theorem c_fill43 : ∀ (n x : Nat) (M : dM), x + n = 8 → (∀ k, k < x → gI M 43 k = 0) → ∃ M', l_jd_fill_43_5 0 (nI x) 8 M = some M' ∧ (∀ k, k < 8 → gI M' 43 k = 0) ∧ chS [43] M M' := by
  intro n
  induction n with
  | zero =>
    intro x M hx h
    have e : x = 8 := by omega
    subst e
    refine ⟨M, ?_, h, chS.refl _ _⟩
    unfold l_jd_fill_43_5
    refine lpc_out ?_
    show b_jd_fill_43_5_5 0 (nI 8) 8 M = _
    unfold b_jd_fill_43_5_5
    rw [if_pos (show (8 : Int32) ≤ nI 8 from by decide)]
  | succ n ih =>
    intro x M hx h
    obtain ⟨M2, b1, b2, b3⟩ := ih (x + 1) (sI M 43 x 0) (by omega) (fun k hk => by
      rw [gI_sI]
      split
      · rfl
      · exact h k (by omega))
    refine ⟨M2, ?_, b2, (chS_sI (S := [43]) M 43 x 0 rfl).trans b3⟩
    unfold l_jd_fill_43_5 at b1 ⊢
    refine lpc_step (s' := (nI (x + 1), sI M 43 x 0)) ?_ b1
    show b_jd_fill_43_5_5 0 (nI x) 8 M = _
    unfold b_jd_fill_43_5_5
    rw [if_neg (show ¬ (8 : Int32) ≤ nI x from z_nle (a := 8) (by decide) (by omega) (by omega)), z_gd (z_in (n := x) (by omega) (by omega)), z_cl (n := x) (by omega), show nI x + 1 = nI (x + 1) from z_add x 1]
theorem c_fill44 : ∀ (n x : Nat) (M : dM), x + n = 10 → (∀ k, k < x → gI M 44 k = 0) → ∃ M', l_jd_fill_44_5 0 (nI x) 10 M = some M' ∧ (∀ k, k < 10 → gI M' 44 k = 0) ∧ chS [44] M M' := by
  intro n
  induction n with
  | zero =>
    intro x M hx h
    have e : x = 10 := by omega
    subst e
    refine ⟨M, ?_, h, chS.refl _ _⟩
    unfold l_jd_fill_44_5
    refine lpc_out ?_
    show b_jd_fill_44_5_5 0 (nI 10) 10 M = _
    unfold b_jd_fill_44_5_5
    rw [if_pos (show (10 : Int32) ≤ nI 10 from by decide)]
  | succ n ih =>
    intro x M hx h
    obtain ⟨M2, b1, b2, b3⟩ := ih (x + 1) (sI M 44 x 0) (by omega) (fun k hk => by
      rw [gI_sI]
      split
      · rfl
      · exact h k (by omega))
    refine ⟨M2, ?_, b2, (chS_sI (S := [44]) M 44 x 0 rfl).trans b3⟩
    unfold l_jd_fill_44_5 at b1 ⊢
    refine lpc_step (s' := (nI (x + 1), sI M 44 x 0)) ?_ b1
    show b_jd_fill_44_5_5 0 (nI x) 10 M = _
    unfold b_jd_fill_44_5_5
    rw [if_neg (show ¬ (10 : Int32) ≤ nI x from z_nle (a := 10) (by decide) (by omega) (by omega)), z_gd (z_in (n := x) (by omega) (by omega)), z_cl (n := x) (by omega), show nI x + 1 = nI (x + 1) from z_add x 1]
