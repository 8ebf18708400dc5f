/-! ===== enough ===== -/
theorem pfx_ex {A : sA} (w : wfA A) (d : Nat) : pfx A d (pfN A d) := by
  have key : ∀ n, n ≤ A 66 9 → ∃ m, m ≤ n ∧ ∀ f, f < n → (A 76 f ≤ d ↔ f < m) := by
    intro n
    induction n with
    | zero => exact fun _ => ⟨0, Nat.le_refl _, fun f hf => absurd hf (Nat.not_lt_zero _)⟩
    | succ n ih =>
      intro hn
      by_cases c : A 76 n ≤ d
      · exact ⟨n + 1, Nat.le_refl _, fun f hf => ⟨fun _ => hf, fun _ => Nat.le_trans (w.2.2.1.2.2 f n (by omega) (by omega)) c⟩⟩
      · obtain ⟨m, h1, h2⟩ := ih (by omega)
        refine ⟨m, by omega, fun f hf => ?_⟩
        by_cases e : f = n
        · subst e
          exact ⟨fun z => absurd z c, fun z => absurd z (by omega)⟩
        · exact h2 f (by omega)
  obtain ⟨m, h1, h2⟩ := key (A 66 9) (Nat.le_refl _)
  have h : pfx A d m := ⟨h1, h2⟩
  rw [← pfx_N h]
  exact h
theorem m_2 : ∀ (n x : Nat) (x1 : Int32) (M : dM), x + n = 9 → (∀ k, 1 ≤ k → k < x → gI M 100 k = 0) → ∃ M', l_mo_laysDay_2 x1 (nI x) M = some M' ∧ (∀ k, 1 ≤ k → k < 9 → gI M' 100 k = 0) ∧ chS [100] M M' := by
  intro n
  induction n with
  | zero =>
    intro x x1 M hx h
    have e : x = 9 := by omega
    subst e
    refine ⟨M, ?_, h, chS.refl _ _⟩
    unfold l_mo_laysDay_2
    refine lpc_out ?_
    show b_mo_laysDay_2_2 x1 (nI 9) M = _
    unfold b_mo_laysDay_2_2
    rw [if_pos (show (9 : Int32) ≤ nI 9 from by decide)]
  | succ n ih =>
    intro x x1 M hx h
    obtain ⟨M2, b1, b2, b3⟩ := ih (x + 1) x1 (sI M 100 x 0) (by omega) (fun k h1 hk => by
      rw [gI_sI]
      split
      · rfl
      · exact h k h1 (by omega))
    refine ⟨M2, ?_, b2, (chS_sI (S := [100]) M 100 x 0 rfl).trans b3⟩
    unfold l_mo_laysDay_2 at b1 ⊢
    refine lpc_step (s' := (nI (x + 1), sI M 100 x 0)) ?_ b1
    show b_mo_laysDay_2_2 x1 (nI x) M = _
    unfold b_mo_laysDay_2_2
    rw [if_neg (show ¬ (9 : Int32) ≤ nI x from z_nle (a := 9) (by decide) (by omega) (by omega)), z_gd (z_in (n := x) (by omega) (by omega)), z_cl (n := x) (by omega), show nI x + 1 = nI (x + 1) from z_add x 1]
theorem m_258 {A : sA} {d : Nat} (w : wfA A) (hd : d < 1000) : ∀ (n x : Nat) (M : dM), x + n = A 66 77 → rmA A M → gI M 100 8 = nI (fb_ct (fun i => decide (A 113 i ≤ d)) x) → ∃ M', l_mo_laysDay_258 (nI d) (nI x) M = some M' ∧ gI M' 100 8 = nI (fb_ct (fun i => decide (A 113 i ≤ d)) (A 66 77)) ∧ chS [100] M M' ∧ ∀ j, j ≠ 8 → gI M' 100 j = gI M 100 j := by
  have hp := w.2.2.2.2.1.1
  intro n
  induction n with
  | zero =>
    intro x M hx rm h
    have e : x = A 66 77 := by omega
    subst e
    refine ⟨M, ?_, h, chS.refl _ _, fun _ _ => rfl⟩
    unfold l_mo_laysDay_258
    refine lpc_out ?_
    show b_mo_laysDay_258_258 (nI d) (nI (A 66 77)) M = _
    unfold b_mo_laysDay_258_258
    rw [rm.2.2.2.2.1.1, if_pos (z_yle (by omega) (by omega) (Nat.le_refl _))]
  | succ n ih =>
    intro x M hx rm h
    have hxn : x < A 66 77 := by omega
    have e1 := rm.2.2.2.2.1.2 x hxn
    have e2 := w.2.2.2.2.1.2 x hxn
    have c8 : (8 : Int32).toNatClampNeg = 8 := rfl
    have hb : b_mo_laysDay_258_258 (nI d) (nI x) M = some (.inl (nI (x + 1), sI M 100 8 (nI (fb_ct (fun i => decide (A 113 i ≤ d)) (x + 1))))) := by
      unfold b_mo_laysDay_258_258 b_mo_laysDay_258_289
      rw [rm.2.2.2.2.1.1, if_neg (z_nle (by omega) (by omega) hxn), z_gd (z_in (n := x) (by omega) (by omega)), z_cl (n := x) (by omega), e1, h, c8, show nI x + 1 = nI (x + 1) from z_add x 1, ct_s (fun i => A 113 i ≤ d) x]
      by_cases c : d < A 113 x
      · rw [if_pos (show nI d < nI _ from by rw [z_lt (by omega) (by omega)]; exact c), if_neg (show ¬ A 113 x ≤ d by omega), z_gd (show (vp_in (8 : Int32) 20) = True from z_in (n := 8) (by omega) (by omega)), show nI (fb_ct (fun i => decide (A 113 i ≤ d)) x) + 0 = nI (fb_ct (fun i => decide (A 113 i ≤ d)) x + 0) from z_add _ 0]
      · rw [if_neg (show ¬ nI d < nI _ from by rw [z_lt (by omega) (by omega)]; exact c), if_pos (show A 113 x ≤ d by omega), z_gd (show (vp_in (8 : Int32) 20) = True from z_in (n := 8) (by omega) (by omega)), show nI (fb_ct (fun i => decide (A 113 i ≤ d)) x) + 1 = nI (fb_ct (fun i => decide (A 113 i ≤ d)) x + 1) from z_add _ 1]
    have c0 : chS [100] M (sI M 100 8 (nI (fb_ct (fun i => decide (A 113 i ≤ d)) (x + 1)))) := chS_sI M 100 8 _ rfl
    obtain ⟨M2, b1, b2, b3, b4⟩ := ih (x + 1) _ (by omega) ((srmA A).use rm c0 (by decide +kernel)) (by rw [gI_sI, if_pos ⟨rfl, rfl⟩])
    refine ⟨M2, ?_, b2, c0.trans b3, fun j hj => (b4 j hj).trans (by rw [gI_sI, if_neg (by omega)])⟩
    unfold l_mo_laysDay_258 at b1 ⊢
    exact lpc_step (s' := (nI (x + 1), _)) hb b1
theorem m_laysDay {A : sA} {Q : sQ} {v : Nat → Nat} {M : dM} {d : Nat} (w : wfA A) (wq : wQ Q v) (hd : d < 1000) (g : rgE A Q v M) : ∃ M', f_mo_laysDay (nI d) M = some M' ∧ (∀ k, k < 8 → vM M' k = dfv A Q v d k) ∧ chS [100] M M' := by
  have hp := pfx_ex w d
  obtain ⟨M1, a1, a2, a3⟩ := m_2 8 1 (nI d) M rfl (fun k h1 h2 => absurd h2 (by omega))
  have c1 : chS [100] M (sI M1 100 1 (nI d)) := a3.sI 100 1 _ rfl
  have r0 : riD A Q v d (pfN A d) (min 0 (pfN A d)) (sI M1 100 1 (nI d)) := by
    rw [Nat.zero_min]
    refine ⟨by rw [gI_sI, if_pos ⟨rfl, rfl⟩], by rw [gI_sI, if_neg (by omega)]; exact a2 8 (by omega) (by omega), fun k h1 h7 => ?_⟩
    rw [gI_sI, if_neg (by omega), a2 (1 + k) (by omega) (by omega)]
    have hk : k = 1 ∨ k = 2 ∨ k = 3 ∨ k = 4 ∨ k = 5 ∨ k = 6 := by omega
    rcases hk with rfl | rfl | rfl | rfl | rfl | rfl <;> rfl
  obtain ⟨M2, b1, b2, b3⟩ := m_30 w wq hd hp (A 66 9) 0 _ (Nat.zero_add _) (rgE_k g (c1.mono (by decide))) r0
  have c2 := c1.trans b3
  obtain ⟨M3, d1, d2, d3, d4⟩ := m_258 (d := d) w hd (A 66 77) 0 M2 (Nat.zero_add _) ((srmA A).use g.1 c2 (by decide +kernel)) b2.2.1
  refine ⟨M3, ?_, fun k hk => ?_, c2.trans d3⟩
  · unfold f_mo_laysDay
    have a1' : l_mo_laysDay_2 (nI d) 1 M = some M1 := a1
    have b1' : l_mo_laysDay_30 (nI d) 0 (sI M1 100 1 (nI d)) = some M2 := b1
    have d1' : l_mo_laysDay_258 (nI d) 0 M2 = some M3 := d1
    rw [a1', Option.bind_some, b1', Option.bind_some, d1', Option.bind_some]
  · show gI M3 100 (1 + k) = nI (dfc A Q v d (pfN A d) k)
    by_cases k7 : k = 7
    · subst k7; exact d2
    · rw [d4 (1 + k) (by omega)]
      by_cases k0 : k = 0
      · subst k0; exact b2.1
      · rw [b2.2.2 k (by omega) (by omega), dfc_mid A Q v d _ k (by omega) (by omega)]
        unfold rfc
        by_cases k5 : k = 5
        · subst k5; rw [if_pos rfl, mx_same]; rfl
        · rw [if_neg k5]
def kE9 : List Nat := kEa ++ [104, 114]
theorem m_e19 {A : sA} {Q : sQ} {v : Nat → Nat} (w : wfA A) (wq : wQ Q v) : ∀ (n x : Nat) (M : dM), x + n = A 66 9 → rmA A M → rmW Q v M → (∀ f, f < x → gI M 104 f = nI (eaF A Q (v 3) f) ∧ gI M 114 f = nI (fc A (v 3) f 14)) → ∃ M', l_mo_enough_19 (nI x) M = some M' ∧ rgE A Q v M' ∧ chS kE9 M M' := by
  have hn := w.2.2.1.1
  intro n
  induction n with
  | zero =>
    intro x M hx rm mw h
    have e : x = A 66 9 := by omega
    subst e
    refine ⟨M, ?_, ⟨rm, mw, h⟩, chS.refl _ _⟩
    unfold l_mo_enough_19
    refine lpc_out ?_
    show b_mo_enough_19_19 (nI (A 66 9)) M = _
    unfold b_mo_enough_19_19
    rw [rm.2.2.1.1, if_pos (z_yle (by omega) (by omega) (Nat.le_refl _))]
  | succ n ih =>
    intro x M hx rm mw h
    have hxn : x < A 66 9 := by omega
    obtain ⟨M1, a1, a2⟩ := m_eachOf w rm wq mw hxn
    have c1 : chS kE9 M (sI M1 104 x (nI (eaF A Q (v 3) x))) := (a2.mono (by decide)).sI 104 x _ rfl
    have rm1 := (srmA A).use rm c1 (by decide +kernel)
    have mw1 := rmW_w mw c1 (by decide)
    have hf : f_mo_factOf (nI x) 14 (sI M1 104 x (nI (eaF A Q (v 3) x))) = some (nI (fc A (v 3) x 14)) := m_factOf w rm1 mw1.1.2 wq.2.2.2.2.2.2.1 hxn (k := 14) (by decide)
    have c2 : chS kE9 M (sI (sI M1 104 x (nI (eaF A Q (v 3) x))) 114 x (nI (fc A (v 3) x 14))) := c1.sI 114 x _ rfl
    obtain ⟨M2, b1, b2, b3⟩ := ih (x + 1) _ (by omega) ((srmA A).use rm c2 (by decide +kernel)) (rmW_w mw c2 (by decide)) (fun f hf => by
      by_cases e : f = x
      · subst e
        exact ⟨by rw [gI_sI, if_neg (by omega), gI_sI, if_pos ⟨rfl, rfl⟩], by rw [gI_sI, if_pos ⟨rfl, rfl⟩]⟩
      · refine ⟨?_, ?_⟩
        · rw [gI_sI, if_neg (by omega), gI_sI, if_neg (by omega), a2.I 104 f rfl]; exact (h f (by omega)).1
        · rw [gI_sI, if_neg (by omega), gI_sI, if_neg (by omega), a2.I 114 f rfl]; exact (h f (by omega)).2)
    refine ⟨M2, ?_, b2, c2.trans b3⟩
    unfold l_mo_enough_19 at b1 ⊢
    refine lpc_step (s' := (nI (x + 1), _)) ?_ b1
    show b_mo_enough_19_19 (nI x) M = _
    unfold b_mo_enough_19_19
    rw [rm.2.2.1.1, if_neg (z_nle (by omega) (by omega) hxn), a1, Option.bind_some, z_gd (z_in (n := x) (by omega) (by omega)), z_cl (n := x) (by omega), hf, Option.bind_some, show nI x + 1 = nI (x + 1) from z_add x 1]
theorem m_e59 {A : sA} {Q : sQ} {v : Nat → Nat} (w : wfA A) (wq : wQ Q v) {a b : Nat} {r c : List Nat} {D : gD} (hq : Q 20 = some (a, r, b, c, D)) : ∀ (n d : Nat) (M : dM), d + n = 1000 → rgE A Q v M → ∃ M', l_mo_enough_59 (nI d) M = some (skD A Q v n d, M') ∧ chS kEa M M' := by
  intro n
  induction n with
  | zero =>
    intro d M hd g
    have e : d = 1000 := by omega
    subst e
    refine ⟨M, ?_, chS.refl _ _⟩
    unfold l_mo_enough_59
    refine lpc_out ?_
    show b_mo_enough_59_59 (nI 1000) M = _
    unfold b_mo_enough_59_59
    rw [if_pos (show (1000 : Int32) ≤ nI 1000 from by decide)]
    rfl
  | succ n ih =>
    intro d M hd g
    have hd' : d < 1000 := by omega
    obtain ⟨M1, a1, a2, a3⟩ := m_laysDay w wq hd' g
    have g1 := rgE_k g (a3.mono (by decide))
    obtain ⟨M2, b1, b2⟩ := m_slot (l := 20) wq g1.2.1 (by decide) hq
    have b1' : f_mo_worth 20 M1 = some (D (vM M1), M2) := b1
    have gg := (wq.1 20 a r b c D (by decide) hq).2
    have eD : D (vM M1) = D (dfv A Q v d) := G_cong gg _ _ (fun k hk => a2 k hk)
    have elv : lvN Q 20 (dfv A Q v d) = decide (¬ D (dfv A Q v d) = 0) := lvN_some hq _
    have c2 : chS kEa M M2 := (a3.mono (by decide)).trans (b2.mono (by decide))
    have hbody : b_mo_enough_59_59 (nI d) M = if lvN Q 20 (dfv A Q v d) = true then some (.inr (nI d, M2)) else some (.inl (nI (d + 1), M2)) := by
      unfold b_mo_enough_59_59
      rw [if_neg (show ¬ (1000 : Int32) ≤ nI d from z_nle (a := 1000) (by decide) (by omega) (by omega)), a1, Option.bind_some, b1', Option.bind_some, eD, elv, show nI d + 1 = nI (d + 1) from z_add d 1]
      by_cases z : D (dfv A Q v d) = 0
      · rw [if_pos z, if_neg (by rw [z]; decide)]
      · rw [if_neg z, if_pos (decide_eq_true z)]
    have esk : skD A Q v (n + 1) d = if lvN Q 20 (dfv A Q v d) = true then nI d else skD A Q v n (d + 1) := rfl
    rw [esk]
    by_cases z : lvN Q 20 (dfv A Q v d) = true
    · rw [if_pos z] at hbody ⊢
      refine ⟨M2, ?_, c2⟩
      unfold l_mo_enough_59
      exact lpc_out hbody
    · rw [if_neg z] at hbody ⊢
      obtain ⟨M3, d1, d2⟩ := ih (d + 1) M2 (by omega) (rgE_k g (c2.mono (by decide)))
      refine ⟨M3, ?_, c2.trans d2⟩
      unfold l_mo_enough_59 at d1 ⊢
      exact lpc_step (s' := (nI (d + 1), M2)) hbody d1
