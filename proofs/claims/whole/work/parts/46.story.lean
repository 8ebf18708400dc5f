/-! ===== stories, the class ===== -/
def bsN (p : Nat → Bool) : Nat → Nat
  | 0 => 0
  | n + 1 => if p n = true then bsN p n ||| 2 ^ n else bsN p n
theorem bsN_s (p : Nat → Bool) (n : Nat) : bsN p (n + 1) = if p n = true then bsN p n ||| 2 ^ n else bsN p n := rfl
theorem bsN_bit (p : Nat → Bool) (b : Nat) : ∀ n, (bsN p n).testBit b = (decide (b < n) && p b)
  | 0 => by simp [bsN]
  | n + 1 => by
    have ih := bsN_bit p b n
    rw [bsN_s]
    by_cases c : p n = true
    · rw [if_pos c, fb_bit_set, ih]
      by_cases e : b = n
      · subst e; simp [c]
      · have e1 : decide (b < n + 1) = decide (b < n) := decide_eq_decide.mpr (by omega)
        rw [e1]; simp [e]
    · rw [if_neg c, ih]
      by_cases e : b = n
      · subst e; simp [c]
      · have e1 : decide (b < n + 1) = decide (b < n) := decide_eq_decide.mpr (by omega)
        rw [e1]
theorem bsN_lt (p : Nat → Bool) : ∀ n, bsN p n < 2 ^ n
  | 0 => by show 0 < 2 ^ 0; decide
  | n + 1 => by
    have ih := bsN_lt p n
    have h2 : (2 : Nat) ^ (n + 1) = 2 ^ n * 2 := Nat.pow_succ ..
    rw [bsN_s]
    split
    · exact Nat.or_lt_two_pow (by omega) (by rw [h2]; have := Nat.two_pow_pos n; omega)
    · omega
noncomputable def byF (A : sA) (v : Nat → Nat) (f : Nat) : Nat := canF A (v 2) f &&& seF A (v 2) f
noncomputable def mayF (A : sA) (v : Nat → Nat) (f : Nat) : Nat := if byF A v f = 0 then canF A (v 2) f else byF A v f
noncomputable def putF (A : sA) (Q : sQ) (v : Nat → Nat) (f : Nat) : Bool := !decide (byF A v f = 0) || decide (eaF A Q (v 3) f = 2)
theorem canF_lt {A : sA} (w : wfL A) (since f : Nat) : canF A since f < 1024 := canN_lt w since f _ (Nat.le_refl _)
theorem byF_lt {A : sA} (w : wfL A) (v : Nat → Nat) (f : Nat) : byF A v f < 1024 := Nat.lt_of_le_of_lt Nat.and_le_left (canF_lt w (v 2) f)
theorem mayF_lt {A : sA} (w : wfL A) (v : Nat → Nat) (f : Nat) : mayF A v f < 1024 := by
  unfold mayF
  split
  · exact canF_lt w _ f
  · exact byF_lt w v f
theorem srcJ (A : sA) (Q : sQ) (far : Nat) : supp [40, 41, 42] (rcJ A Q far) := by
  intro M M' e _ h f hf
  obtain ⟨h1, h2, h3⟩ := h f hf
  refine ⟨fun k hk => ?_, ?_, ?_⟩
  · rw [(e 40 _ rfl).1]; exact h1 k hk
  · rw [(e 41 f rfl).1]; exact h2
  · rw [(e 42 f rfl).2]; exact h3
noncomputable def bT : Int32 × dM → Option ((Int32 × dM) ⊕ dM) := fun s => b_sy_tell_7_7 s.1 s.2
theorem c_tell1 {A : sA} {Q : sQ} {v : Nat → Nat} (w : wfA A) (wq : wQ Q v) : ∀ (m i : Nat) (M : dM), i + m = A 66 9 → rcA A M → rcO A M → rcW Q v M → rcJ A Q (v 3) M → (∀ f, f < i → gI M 46 f = nI (canF A (v 2) f) ∧ gI M 47 f = nI (mayF A v f)) → gJ M 45 6 = lN (bsN (putF A Q v) i) → ∃ M', comes bT (nI i, M) (nI (A 66 9), M') ∧ (∀ f, f < A 66 9 → gI M' 46 f = nI (canF A (v 2) f) ∧ gI M' 47 f = nI (mayF A v f)) ∧ gJ M' 45 6 = lN (bsN (putF A Q v) (A 66 9)) ∧ chS [46, 47, 5506] M M' := by
  have hn := w.2.2.1.1
  intro m
  induction m with
  | zero =>
    intro i M hi rc o cw j hD h6
    have e : i = A 66 9 := by omega
    subst e
    exact ⟨M, comes.refl, hD, h6, chS.refl _ _⟩
  | succ m ih =>
    intro i M hi rc o cw j hD h6
    have hin : i < A 66 9 := by omega
    have hca := canF_lt w.1 (v 2) i
    have hby := byF_lt w.1 v i
    have hma := mayF_lt w.1 v i
    have hea := jdg_lt Q (fun k => nI (fc A (v 3) i k))
    have c1 : chS [46, 47, 5506] M (sI M 46 i (nI (canF A (v 2) i))) := chS_sI M 46 i _ rfl
    have e41 : gI (sI (sI M 46 i (nI (canF A (v 2) i))) 47 i (nI (mayF A v i))) 41 i = nI (eaF A Q (v 3) i) := by
      rw [gI_sI, if_neg (by omega), gI_sI, if_neg (by omega)]; exact (j i hin).2.1
    have c2 : chS [46, 47, 5506] M (sI (sI M 46 i (nI (canF A (v 2) i))) 47 i (nI (mayF A v i))) := c1.sI 47 i _ rfl
    have g46 : ∀ f, gI (sI (sI M 46 i (nI (canF A (v 2) i))) 47 i (nI (mayF A v i))) 46 f = if f = i then nI (canF A (v 2) i) else gI M 46 f := fun f => by
      rw [gI_sI, if_neg (by omega), gI_sI]
      simp only [true_and]
    have g47 : ∀ f, gI (sI (sI M 46 i (nI (canF A (v 2) i))) 47 i (nI (mayF A v i))) 47 f = if f = i then nI (mayF A v i) else gI M 47 f := fun f => by
      rw [gI_sI, gI_sI, if_neg (show ¬ (47 = 46 ∧ f = i) by omega)]
      simp only [true_and]
    have g6 : gJ (sI (sI M 46 i (nI (canF A (v 2) i))) 47 i (nI (mayF A v i))) 45 6 = lN (bsN (putF A Q v) i) := h6
    have body : b_sy_tell_7_7 (nI i) M = if putF A Q v i = true then b_sy_tell_7_79 (nI i) (sI (sI M 46 i (nI (canF A (v 2) i))) 47 i (nI (mayF A v i))) else some (.inl (nI (i + 1), sI (sI M 46 i (nI (canF A (v 2) i))) 47 i (nI (mayF A v i)))) := by
      unfold b_sy_tell_7_7
      have rc1 : rcA A (sI M 46 i (nI (canF A (v 2) i))) := (srcA A).use rc c1 (by decide +kernel)
      have e46 : gI (sI M 46 i (nI (canF A (v 2) i))) 46 i = nI (canF A (v 2) i) := by rw [gI_sI, if_pos ⟨rfl, rfl⟩]
      rw [rc.2.2.1.1, if_neg (z_nle (by omega) (by omega) hin), c_whoCan w rc o cw.1.2.2.1 wq.2.2.2.2.2.1 hin, Option.bind_some, z_gd (z_in (n := i) (by omega) (by omega)), z_cl (n := i) (by omega), c_seen w rc1 ((c1.I 27 6 rfl).trans cw.1.2.2.1) wq.2.2.2.2.2.1 hin, Option.bind_some, e46, z_and, show seF A (v 2) i &&& canF A (v 2) i = byF A v i from Nat.and_comm _ _]
      unfold b_sy_tell_7_61
      rw [z_gd (z_in (n := i) (by omega) (by omega)), z_gd (z_in (n := i) (by omega) (by omega)), z_gd (z_in (n := i) (by omega) (by omega)), z_cl (n := i) (by omega), show nI i + 1 = nI (i + 1) from z_add i 1]
      by_cases c : byF A v i = 0
      · have em : mayF A v i = canF A (v 2) i := by unfold mayF; rw [if_pos c]
        rw [em] at e41
        rw [em, if_pos (show nI (byF A v i) = (0 : Int32) from by rw [c]; rfl), if_pos (show nI (byF A v i) = (0 : Int32) from by rw [c]; rfl), e41]
        by_cases c2 : eaF A Q (v 3) i = 2
        · rw [if_pos (show nI _ = (2 : Int32) from by rw [c2]; rfl), if_pos (show putF A Q v i = true from by unfold putF; rw [decide_eq_true c2, Bool.or_true])]
        · rw [if_neg (show ¬ nI _ = (2 : Int32) from z_ne (b := 2) (by unfold eaF; omega) (by omega) c2), if_neg (show ¬ putF A Q v i = true from by unfold putF; rw [decide_eq_false c2, decide_eq_true c]; decide)]
      · have em : mayF A v i = byF A v i := by unfold mayF; rw [if_neg c]
        rw [em, if_neg (show ¬ nI (byF A v i) = (0 : Int32) from z_ne (b := 0) (by omega) (by omega) c), if_neg (show ¬ nI (byF A v i) = (0 : Int32) from z_ne (b := 0) (by omega) (by omega) c), if_pos (show putF A Q v i = true from by unfold putF; rw [decide_eq_false c]; rfl)]
    generalize sI (sI M 46 i (nI (canF A (v 2) i))) 47 i (nI (mayF A v i)) = X at c2 g46 g47 g6 body
    have fin : ∀ Y, chS [5506] X Y → gJ Y 45 6 = lN (bsN (putF A Q v) (i + 1)) → b_sy_tell_7_7 (nI i) M = some (.inl (nI (i + 1), Y)) → ∃ M', comes bT (nI i, M) (nI (A 66 9), M') ∧ (∀ f, f < A 66 9 → gI M' 46 f = nI (canF A (v 2) f) ∧ gI M' 47 f = nI (mayF A v f)) ∧ gJ M' 45 6 = lN (bsN (putF A Q v) (A 66 9)) ∧ chS [46, 47, 5506] M M' := fun Y cY hY hb => by
      have c3 : chS [46, 47, 5506] M Y := c2.trans (cY.mono (by decide))
      obtain ⟨M', a1, a2, a3, a4⟩ := ih (i + 1) Y (by omega) ((srcA A).use rc c3 (by decide +kernel)) (fun k hk => (c3.I 11 k rfl).trans (o k hk)) ((srcW Q v).use cw c3 (by decide)) ((srcJ A Q (v 3)).use j c3 (by decide)) (fun f hf => by
        rw [cY.I 46 f rfl, cY.I 47 f rfl, g46, g47]
        by_cases e : f = i
        · rw [if_pos e, if_pos e, e]; exact ⟨rfl, rfl⟩
        · rw [if_neg e, if_neg e]; exact hD f (by omega)) hY
      exact ⟨M', (comes.step hb).trans a1, a2, a3, c3.trans a4⟩
    by_cases c : putF A Q v i = true
    · rw [if_pos c] at body
      refine fin (sJ X 45 6 (lN (bsN (putF A Q v) (i + 1)))) (chS_sJ X 45 6 _ rfl) (by rw [gJ_sJ, if_pos ⟨rfl, rfl⟩]) ?_
      rw [body]
      unfold b_sy_tell_7_79
      rw [g6, z_1shlL (by omega), fb_orL, bsN_s, if_pos c, show nI i + 1 = nI (i + 1) from z_add i 1]
    · rw [if_neg c] at body
      exact fin X (chS.refl _ _) (by rw [bsN_s, if_neg c]; exact g6) body
/-! refuted sets -/
def svp (R : Nat → Prop) (M : dM) : Prop := ∀ s, s < 1024 → (gI M 48 s = nI 0 ∧ ¬ R s) ∨ (gI M 48 s = nI 1 ∧ R s)
theorem svp_ch {R : Nat → Prop} {S : List Nat} {M M' : dM} (h : svp R M) (c : chS S M M') (hd : S.contains 48 = false) : svp R M' := fun s hs => by
  rw [c.I 48 s hd]
  exact h s hs
theorem svp_cong {R R' : Nat → Prop} {M : dM} (h : svp R M) (e : ∀ s, s < 1024 → (R s ↔ R' s)) : svp R' M := fun s hs => by
  rcases h s hs with ⟨a, b⟩ | ⟨a, b⟩
  · exact Or.inl ⟨a, fun z => b ((e s hs).mpr z)⟩
  · exact Or.inr ⟨a, (e s hs).mp b⟩
def rf (N : Nat → Prop) (s : Nat) : Prop := ∃ H, N H ∧ s = andn 1023 H
theorem andn_lt (H : Nat) : andn 1023 H < 1024 := by
  unfold andn
  exact Nat.xor_lt_two_pow (n := 10) (by decide) (Nat.lt_of_le_of_lt Nat.and_le_left (by decide))
theorem c_refute {N : Nat → Prop} {M : dM} (h : svp (rf N) M) (H : Nat) : ∃ M', f_sy_refuteWithout (nI H) M = some M' ∧ svp (rf (fun x => N x ∨ x = H)) M' ∧ chS [48] M M' := by
  have hl := andn_lt H
  unfold f_sy_refuteWithout
  rw [show (1023 : Int32) = nI 1023 from rfl, z_andn, z_gd (z_in (n := andn 1023 H) hl (by omega)), z_cl (n := andn 1023 H) (by omega)]
  refine ⟨_, rfl, fun s hs => ?_, chS_sI M 48 _ _ rfl⟩
  rw [gI_sI]
  by_cases e : s = andn 1023 H
  · rw [if_pos ⟨rfl, e⟩]
    exact Or.inr ⟨rfl, H, Or.inr rfl, e⟩
  · rw [if_neg (fun z => e z.2)]
    rcases h s hs with ⟨a, b⟩ | ⟨a, b⟩
    · refine Or.inl ⟨a, ?_⟩
      rintro ⟨x, hx | hx, hy⟩
      · exact b ⟨x, hx, hy⟩
      · rw [hx] at hy; exact e hy
    · obtain ⟨x, hx, hy⟩ := b
      exact Or.inr ⟨a, x, Or.inl hx, hy⟩
theorem c_clear : ∀ (m i : Nat) (M : dM), i + m = 1024 → (∀ s, s < i → gI M 48 s = nI 0) → ∃ M', l_sy_refuteAll_2 (nI i) M = some M' ∧ (∀ s, s < 1024 → gI M' 48 s = nI 0) ∧ chS [48] M M' := by
  intro m
  induction m with
  | zero =>
    intro i M hi h
    refine ⟨M, ?_, fun s hs => h s (by omega), chS.refl _ _⟩
    unfold l_sy_refuteAll_2
    refine lpc_out ?_
    show b_sy_refuteAll_2_2 (nI i) M = _
    unfold b_sy_refuteAll_2_2
    rw [if_pos (show (1024 : Int32) ≤ nI i from z_yle (a := 1024) (by omega) (by omega) (by omega))]
  | succ m ih =>
    intro i M hi h
    have c : chS [48] M (sI M 48 i 0) := chS_sI M 48 i _ rfl
    obtain ⟨M', a1, a2, a3⟩ := ih (i + 1) (sI M 48 i 0) (by omega) (fun s hs => by
      rw [gI_sI]
      by_cases e : s = i
      · rw [if_pos ⟨rfl, e⟩]; rfl
      · rw [if_neg (fun z => e z.2)]; exact h s (by omega))
    refine ⟨M', ?_, a2, c.trans a3⟩
    unfold l_sy_refuteAll_2 at a1 ⊢
    refine lpc_step (s' := (nI (i + 1), sI M 48 i 0)) ?_ a1
    show b_sy_refuteAll_2_2 (nI i) M = _
    unfold b_sy_refuteAll_2_2
    rw [if_neg (show ¬ (1024 : Int32) ≤ nI i from z_nle (a := 1024) (by omega) (by omega) (by omega)), z_gd (z_in (n := i) (by omega) (by omega)), z_cl (n := i) (by omega), show nI i + 1 = nI (i + 1) from z_add i 1]
/-- what is needed by the first i finds; with the twins of find i among the first k -/
def nd1 (A : sA) (Q : sQ) (v : Nat → Nat) (f H : Nat) : Prop := (putF A Q v f = true ∧ H = mayF A v f) ∨ ∃ g, g < f ∧ tw A (v 3) f g = true ∧ H = mayF A v f ||| mayF A v g
def nd (A : sA) (Q : sQ) (v : Nat → Nat) (i H : Nat) : Prop := ∃ f, f < i ∧ nd1 A Q v f H
def rcM (A : sA) (Q : sQ) (v : Nat → Nat) (M : dM) : Prop := (∀ f, f < A 66 9 → gI M 46 f = nI (canF A (v 2) f) ∧ gI M 47 f = nI (mayF A v f)) ∧ gJ M 45 6 = lN (bsN (putF A Q v) (A 66 9))
theorem srcM (A : sA) (Q : sQ) (v : Nat → Nat) : supp [46, 47, 5506] (rcM A Q v) := by
  intro M M' e _ ⟨h1, h2⟩
  refine ⟨fun f hf => ?_, ?_⟩
  · rw [(e 46 f rfl).1, (e 47 f rfl).1]; exact h1 f hf
  · rw [(e 45 6 rfl).2]; exact h2
theorem c_ref58 {A : sA} {Q : sQ} {v : Nat → Nat} (w : wfA A) {i : Nat} (hi : i < A 66 9) : ∀ (m k : Nat) (N : Nat → Prop) (M : dM), k + m = i → rcJ A Q (v 3) M → rcM A Q v M → svp (rf N) M → ∃ M', l_sy_refuteAll_58 (nI i) (nI k) M = some M' ∧ svp (rf (fun H => N H ∨ ∃ g, k ≤ g ∧ g < i ∧ tw A (v 3) i g = true ∧ H = mayF A v i ||| mayF A v g)) M' ∧ chS [48] M M' := by
  have hn := w.2.2.1.1
  intro m
  induction m with
  | zero =>
    intro k N M hk j hm h
    refine ⟨M, ?_, svp_cong h (fun s _ => ⟨fun ⟨H, a, b⟩ => ⟨H, Or.inl a, b⟩, fun ⟨H, a, b⟩ => a.elim (fun z => ⟨H, z, b⟩) (fun ⟨g, g1, g2, _⟩ => by omega)⟩), chS.refl _ _⟩
    unfold l_sy_refuteAll_58
    refine lpc_out ?_
    show b_sy_refuteAll_58_58 (nI i) (nI k) M = _
    unfold b_sy_refuteAll_58_58
    rw [if_pos (z_yle (by omega) (by omega) (by omega))]
  | succ m ih =>
    intro k N M hk j hm h
    have hb2 := twB_lt A (v 3) i (A 66 9)
    have h2 : (2 : Nat) ^ A 66 9 ≤ 2 ^ 40 := Nat.pow_le_pow_right (by decide) hn
    have ebit : f_ax_hasBit (gJ M 42 i) (nI k) = tw A (v 3) i k := by
      rw [(j i hi).2.2, z_hasBitL (by omega) (by omega), twB_bit, decide_eq_true (show k < A 66 9 by omega), Bool.true_and]
    by_cases c : tw A (v 3) i k = true
    · obtain ⟨M1, a1, a2, a3⟩ := c_refute h (mayF A v i ||| mayF A v k)
      obtain ⟨M', b1, b2, b3⟩ := ih (k + 1) _ M1 (by omega) ((srcJ A Q (v 3)).use j a3 (by decide)) ((srcM A Q v).use hm a3 (by decide)) a2
      refine ⟨M', ?_, svp_cong b2 (fun s _ => ?_), a3.trans b3⟩
      · unfold l_sy_refuteAll_58 at b1 ⊢
        refine lpc_step (s' := (nI (k + 1), M1)) ?_ b1
        show b_sy_refuteAll_58_58 (nI i) (nI k) M = _
        unfold b_sy_refuteAll_58_58
        rw [if_neg (z_nle (by omega) (by omega) (by omega)), z_gd (z_in (n := i) (by omega) (by omega)), z_cl (n := i) (by omega), ebit, if_pos c, z_gd (z_in (n := k) (by omega) (by omega)), z_cl (n := k) (by omega), (hm.1 i hi).2, (hm.1 k (by omega)).2, z_or, a1, Option.bind_some, show nI k + 1 = nI (k + 1) from z_add k 1]
      · constructor
        · rintro ⟨H, (z | z) | ⟨g, g1, g2, g3, g4⟩, e⟩
          · exact ⟨H, Or.inl z, e⟩
          · exact ⟨H, Or.inr ⟨k, Nat.le_refl _, by omega, c, z⟩, e⟩
          · exact ⟨H, Or.inr ⟨g, by omega, g2, g3, g4⟩, e⟩
        · rintro ⟨H, z | ⟨g, g1, g2, g3, g4⟩, e⟩
          · exact ⟨H, Or.inl (Or.inl z), e⟩
          · by_cases eg : g = k
            · subst eg; exact ⟨H, Or.inl (Or.inr g4), e⟩
            · exact ⟨H, Or.inr ⟨g, by omega, g2, g3, g4⟩, e⟩
    · obtain ⟨M', b1, b2, b3⟩ := ih (k + 1) N M (by omega) j hm h
      refine ⟨M', ?_, svp_cong b2 (fun s _ => ?_), b3⟩
      · unfold l_sy_refuteAll_58 at b1 ⊢
        refine lpc_step (s' := (nI (k + 1), M)) ?_ b1
        show b_sy_refuteAll_58_58 (nI i) (nI k) M = _
        unfold b_sy_refuteAll_58_58
        rw [if_neg (z_nle (by omega) (by omega) (by omega)), z_gd (z_in (n := i) (by omega) (by omega)), z_cl (n := i) (by omega), ebit, if_neg c, show nI k + 1 = nI (k + 1) from z_add k 1]
      · constructor
        · rintro ⟨H, z | ⟨g, g1, g2, g3, g4⟩, e⟩
          · exact ⟨H, Or.inl z, e⟩
          · exact ⟨H, Or.inr ⟨g, by omega, g2, g3, g4⟩, e⟩
        · rintro ⟨H, z | ⟨g, g1, g2, g3, g4⟩, e⟩
          · exact ⟨H, Or.inl z, e⟩
          · by_cases eg : g = k
            · subst eg; exact absurd g3 c
            · exact ⟨H, Or.inr ⟨g, by omega, g2, g3, g4⟩, e⟩
/-! a pass over the sets -/
theorem or_bit_lt {s k : Nat} (hs : s < 1024) (hk : k < 10) : s ||| 2 ^ k < 1024 := Nat.or_lt_two_pow (n := 10) hs (Nat.pow_lt_pow_right (by decide) hk)
theorem or_bit_ge (s k : Nat) : s ≤ s ||| 2 ^ k := Nat.left_le_or
theorem or_bit_id {s k : Nat} : (s ||| 2 ^ k) ||| 2 ^ k = s ||| 2 ^ k := by rw [Nat.or_assoc, Nat.or_self]
theorem c_sp10 {k : Nat} (hk : k < 10) (R : Nat → Prop) : ∀ (m s : Nat) (M : dM), s + m = 1024 → (∀ x, x < 1024 → (gI M 48 x = nI 0 ∧ ¬ (R x ∨ (x < s ∧ R (x ||| 2 ^ k)))) ∨ (gI M 48 x = nI 1 ∧ (R x ∨ (x < s ∧ R (x ||| 2 ^ k))))) → ∃ M', l_sy_spreadToSmaller_10 (nI k) (nI s) M = some M' ∧ svp (fun x => R x ∨ R (x ||| 2 ^ k)) M' ∧ chS [48] M M' := by
  intro m
  induction m with
  | zero =>
    intro s M hs h
    refine ⟨M, ?_, fun x hx => ?_, chS.refl _ _⟩
    · unfold l_sy_spreadToSmaller_10
      refine lpc_out ?_
      show b_sy_spreadToSmaller_10_10 (nI k) (nI s) M = _
      unfold b_sy_spreadToSmaller_10_10
      rw [if_pos (show (1024 : Int32) ≤ nI s from z_yle (a := 1024) (by omega) (by omega) (by omega))]
    · rcases h x hx with ⟨a, b⟩ | ⟨a, b⟩
      · exact Or.inl ⟨a, fun z => b (z.imp id (fun y => ⟨by omega, y⟩))⟩
      · exact Or.inr ⟨a, b.imp id (fun y => y.2)⟩
  | succ m ih =>
    intro s M hs h
    have hs1 : s < 1024 := by omega
    have ho := or_bit_lt hs1 hk
    have hge := or_bit_ge s k
    have e48 : (gI M 48 (s ||| 2 ^ k) = nI 0 ∧ ¬ R (s ||| 2 ^ k)) ∨ (gI M 48 (s ||| 2 ^ k) = nI 1 ∧ R (s ||| 2 ^ k)) := by
      rcases h _ ho with ⟨a, b⟩ | ⟨a, b⟩
      · exact Or.inl ⟨a, fun z => b (Or.inl z)⟩
      · refine Or.inr ⟨a, b.elim id (fun y => ?_)⟩
        rw [or_bit_id] at y
        exact y.2
    have hd : b_sy_spreadToSmaller_10_10 (nI k) (nI s) M = if gI M 48 (s ||| 2 ^ k) = 0 then some (.inl (nI (s + 1), M)) else some (.inl (nI (s + 1), sI M 48 s 1)) := by
      unfold b_sy_spreadToSmaller_10_10
      rw [if_neg (show ¬ (1024 : Int32) ≤ nI s from z_nle (a := 1024) (by omega) (by omega) (by omega)), z_1shl (by omega), z_or, z_gd (z_in (n := s ||| 2 ^ k) ho (by omega)), z_cl (n := s ||| 2 ^ k) (by omega), z_gd (z_in (n := s) hs1 (by omega)), z_cl (n := s) (by omega), show nI s + 1 = nI (s + 1) from z_add s 1]
    rcases e48 with ⟨a, b⟩ | ⟨a, b⟩
    · rw [if_pos (show gI M 48 (s ||| 2 ^ k) = (0 : Int32) from a)] at hd
      obtain ⟨M', b1, b2, b3⟩ := ih (s + 1) M (by omega) (fun x hx => by
        rcases h x hx with ⟨c, d⟩ | ⟨c, d⟩
        · refine Or.inl ⟨c, fun z => z.elim (fun y => d (Or.inl y)) (fun y => ?_)⟩
          by_cases e : x = s
          · rw [e] at y; exact b y.2
          · exact d (Or.inr ⟨by omega, y.2⟩)
        · exact Or.inr ⟨c, d.imp id (fun y => ⟨by omega, y.2⟩)⟩)
      refine ⟨M', ?_, b2, b3⟩
      unfold l_sy_spreadToSmaller_10 at b1 ⊢
      exact lpc_step (s' := (nI (s + 1), M)) hd b1
    · rw [if_neg (show ¬ gI M 48 (s ||| 2 ^ k) = (0 : Int32) from by rw [a]; decide)] at hd
      have c : chS [48] M (sI M 48 s 1) := chS_sI M 48 s _ rfl
      obtain ⟨M', b1, b2, b3⟩ := ih (s + 1) (sI M 48 s 1) (by omega) (fun x hx => by
        rw [gI_sI]
        by_cases e : x = s
        · rw [if_pos ⟨rfl, e⟩, e]
          exact Or.inr ⟨rfl, Or.inr ⟨by omega, b⟩⟩
        · rw [if_neg (fun z => e z.2)]
          rcases h x hx with ⟨c, d⟩ | ⟨c, d⟩
          · exact Or.inl ⟨c, fun z => z.elim (fun y => d (Or.inl y)) (fun y => d (Or.inr ⟨by omega, y.2⟩))⟩
          · exact Or.inr ⟨c, d.imp id (fun y => ⟨by omega, y.2⟩)⟩)
      refine ⟨M', ?_, b2, c.trans b3⟩
      unfold l_sy_spreadToSmaller_10 at b1 ⊢
      exact lpc_step (s' := (nI (s + 1), sI M 48 s 1)) hd b1
def spK (R : Nat → Prop) (k s : Nat) : Prop := ∃ r, r < 1024 ∧ R r ∧ ∀ i, (s.testBit i = true → r.testBit i = true) ∧ (r.testBit i = true → s.testBit i = true ∨ i < k)
theorem spK_0 {R : Nat → Prop} {s : Nat} (hs : s < 1024) : spK R 0 s ↔ R s := by
  constructor
  · rintro ⟨r, h1, h2, h3⟩
    have : s = r := nat_bits fun i => by
      rw [Bool.eq_iff_iff]
      exact ⟨(h3 i).1, fun z => ((h3 i).2 z).resolve_right (by omega)⟩
    rw [this]; exact h2
  · intro h
    exact ⟨s, hs, h, fun i => ⟨id, Or.inl⟩⟩
theorem spK_s {R : Nat → Prop} {k s : Nat} : spK R (k + 1) s ↔ (spK R k s ∨ spK R k (s ||| 2 ^ k)) := by
  constructor
  · rintro ⟨r, h1, h2, h3⟩
    by_cases c : r.testBit k = true
    · refine Or.inr ⟨r, h1, h2, fun i => ⟨fun z => ?_, fun z => ?_⟩⟩
      · rw [fb_bit_set, Bool.or_eq_true, decide_eq_true_iff] at z
        rcases z with z | z
        · exact (h3 i).1 z
        · rw [z]; exact c
      · rw [fb_bit_set, Bool.or_eq_true, decide_eq_true_iff]
        rcases (h3 i).2 z with y | y
        · exact Or.inl (Or.inl y)
        · by_cases e : i = k
          · exact Or.inl (Or.inr e)
          · exact Or.inr (by omega)
    · refine Or.inl ⟨r, h1, h2, fun i => ⟨(h3 i).1, fun z => ?_⟩⟩
      rcases (h3 i).2 z with y | y
      · exact Or.inl y
      · by_cases e : i = k
        · rw [e] at z; exact absurd z c
        · exact Or.inr (by omega)
  · rintro (⟨r, h1, h2, h3⟩ | ⟨r, h1, h2, h3⟩)
    · exact ⟨r, h1, h2, fun i => ⟨(h3 i).1, fun z => ((h3 i).2 z).imp id (fun y => by omega)⟩⟩
    · refine ⟨r, h1, h2, fun i => ⟨fun z => (h3 i).1 ?_, fun z => ?_⟩⟩
      · rw [fb_bit_set, z]; rfl
      · rcases (h3 i).2 z with y | y
        · rw [fb_bit_set, Bool.or_eq_true, decide_eq_true_iff] at y
          rcases y with y | y
          · exact Or.inl y
          · exact Or.inr (by omega)
        · exact Or.inr (by omega)
theorem c_sp2 (R : Nat → Prop) : ∀ (m k : Nat) (M : dM), k + m = 10 → svp (spK R k) M → ∃ M', l_sy_spreadToSmaller_2 (nI k) M = some M' ∧ svp (spK R 10) M' ∧ chS [48] M M' := by
  intro m
  induction m with
  | zero =>
    intro k M hk h
    have e : k = 10 := by omega
    subst e
    refine ⟨M, ?_, h, chS.refl _ _⟩
    unfold l_sy_spreadToSmaller_2
    refine lpc_out ?_
    show b_sy_spreadToSmaller_2_2 (nI 10) M = _
    unfold b_sy_spreadToSmaller_2_2
    rw [if_pos (by decide)]
  | succ m ih =>
    intro k M hk h
    obtain ⟨M1, a1, a2, a3⟩ := c_sp10 (k := k) (by omega) (spK R k) 1024 0 M rfl (fun x hx => by
      rcases h x hx with ⟨c, d⟩ | ⟨c, d⟩
      · exact Or.inl ⟨c, fun z => z.elim d (fun y => absurd y.1 (Nat.not_lt_zero _))⟩
      · exact Or.inr ⟨c, Or.inl d⟩)
    obtain ⟨M', b1, b2, b3⟩ := ih (k + 1) M1 (by omega) (svp_cong a2 (fun s _ => spK_s.symm))
    refine ⟨M', ?_, b2, a3.trans b3⟩
    unfold l_sy_spreadToSmaller_2 at b1 ⊢
    refine lpc_step (s' := (nI (k + 1), M1)) ?_ b1
    show b_sy_spreadToSmaller_2_2 (nI k) M = _
    unfold b_sy_spreadToSmaller_2_2
    have a1' : l_sy_spreadToSmaller_10 (nI k) 0 M = some M1 := a1
    rw [if_neg (show ¬ (10 : Int32) ≤ nI k from z_nle (a := 10) (by omega) (by omega) (by omega)), a1', Option.bind_some, show nI k + 1 = nI (k + 1) from z_add k 1]
/-- a set explains all -/
def exP (A : sA) (Q : sQ) (v : Nat → Nat) (s : Nat) : Prop := ∀ H, nd A Q v (A 66 9) H → H &&& s ≠ 0
theorem nd_lt {A : sA} {Q : sQ} {v : Nat → Nat} (w : wfL A) {i H : Nat} (h : nd A Q v i H) : H < 1024 := by
  obtain ⟨f, _, ⟨_, e⟩ | ⟨g, _, _, e⟩⟩ := h
  · rw [e]; exact mayF_lt w v f
  · rw [e]; exact Nat.or_lt_two_pow (n := 10) (mayF_lt w v f) (mayF_lt w v g)
theorem sp_ex {A : sA} {Q : sQ} {v : Nat → Nat} (w : wfL A) {s : Nat} (hs : s < 1024) : spK (rf (nd A Q v (A 66 9))) 10 s ↔ ¬ exP A Q v s := by
  have hb : ∀ i, (1023 : Nat).testBit i = decide (i < 10) := fun i => Nat.testBit_two_pow_sub_one 10 i
  constructor
  · rintro ⟨r, h1, ⟨H, h2, h3⟩, h4⟩ hx
    apply hx H h2
    refine nat_bits fun i => ?_
    rw [Nat.testBit_and, Nat.zero_testBit]
    by_cases c : s.testBit i = true
    · have := (h4 i).1 c
      rw [h3, andn_bit, Bool.and_eq_true] at this
      have h5 : H.testBit i = false := by
        cases hh : H.testBit i with
        | false => rfl
        | true => rw [hh] at this; exact absurd this.2 (by decide)
      rw [h5, Bool.false_and]
    · rw [Bool.eq_false_iff.mpr c, Bool.and_false]
  · intro h
    have h' : ∃ H, nd A Q v (A 66 9) H ∧ H &&& s = 0 := by
      apply Classical.byContradiction
      intro z
      exact h (fun H hH e => z ⟨H, hH, e⟩)
    obtain ⟨H, h1, h2⟩ := h'
    refine ⟨andn 1023 H, andn_lt H, ⟨H, h1, rfl⟩, fun i => ⟨fun z => ?_, fun z => ?_⟩⟩
    · have hi : i < 10 := by
        by_cases q : i < 10
        · exact q
        · have := Nat.testBit_lt_two_pow (x := s) (i := i) (Nat.lt_of_lt_of_le (show s < 2 ^ 10 from hs) (Nat.pow_le_pow_right (by decide) (show 10 ≤ i by omega)))
          rw [this] at z; cases z
      rw [andn_bit, hb, decide_eq_true hi, Bool.true_and]
      have : (H &&& s).testBit i = false := by rw [h2]; exact Nat.zero_testBit i
      rw [Nat.testBit_and, z, Bool.and_true] at this
      rw [this]; rfl
    · rw [andn_bit, hb, Bool.and_eq_true, decide_eq_true_iff] at z
      exact Or.inr z.1
theorem c_ref24 {A : sA} {Q : sQ} {v : Nat → Nat} (w : wfA A) : ∀ (m i : Nat) (M : dM), i + m = A 66 9 → rcA A M → rcJ A Q (v 3) M → rcM A Q v M → svp (rf (nd A Q v i)) M → ∃ M', l_sy_refuteAll_24 (nI i) M = some M' ∧ svp (fun s => ¬ exP A Q v s) M' ∧ chS [48] M M' := by
  have hn := w.2.2.1.1
  intro m
  induction m with
  | zero =>
    intro i M hi rc j hm h
    have e : i = A 66 9 := by omega
    subst e
    obtain ⟨M', a1, a2, a3⟩ := c_sp2 (rf (nd A Q v (A 66 9))) 10 0 M rfl (svp_cong h (fun s hs => (spK_0 hs).symm))
    refine ⟨M', ?_, svp_cong a2 (fun s hs => sp_ex w.1 hs), a3⟩
    unfold l_sy_refuteAll_24
    refine lpc_out ?_
    show b_sy_refuteAll_24_24 (nI (A 66 9)) M = _
    have a1' : l_sy_spreadToSmaller_2 0 M = some M' := a1
    unfold b_sy_refuteAll_24_24 f_sy_spreadToSmaller
    rw [rc.2.2.1.1, if_pos (z_yle (by omega) (by omega) (Nat.le_refl _)), a1']
    rfl
  | succ m ih =>
    intro i M hi rc j hm h
    have hin : i < A 66 9 := by omega
    have hpb := bsN_lt (putF A Q v) (A 66 9)
    have h2 : (2 : Nat) ^ A 66 9 ≤ 2 ^ 40 := Nat.pow_le_pow_right (by decide) hn
    have ebit : f_ax_hasBit (gJ M 45 6) (nI i) = putF A Q v i := by
      rw [hm.2, z_hasBitL (by omega) (by omega), bsN_bit, decide_eq_true hin, Bool.true_and]
    have go : ∀ (N : Nat → Prop) M1, chS [48] M M1 → svp (rf N) M1 → (∀ H, N H ↔ (nd A Q v i H ∨ (putF A Q v i = true ∧ H = mayF A v i))) → b_sy_refuteAll_24_24 (nI i) M = b_sy_refuteAll_24_56 (nI i) M1 → ∃ M', l_sy_refuteAll_24 (nI i) M = some M' ∧ svp (fun s => ¬ exP A Q v s) M' ∧ chS [48] M M' := fun N M1 c1 h1 hN hb => by
      obtain ⟨M2, b1, b2, b3⟩ := c_ref58 w hin i 0 N M1 (by omega) ((srcJ A Q (v 3)).use j c1 (by decide)) ((srcM A Q v).use hm c1 (by decide)) h1
      have c2 := c1.trans b3
      obtain ⟨M', d1, d2, d3⟩ := ih (i + 1) M2 (by omega) ((srcA A).use rc c2 (by decide +kernel)) ((srcJ A Q (v 3)).use j c2 (by decide)) ((srcM A Q v).use hm c2 (by decide)) (svp_cong b2 (fun s _ => by
        constructor
        · rintro ⟨H, z | ⟨g, g1, g2, g3, g4⟩, e⟩
          · rcases (hN H).mp z with ⟨f, hf, y⟩ | y
            · exact ⟨H, ⟨f, by omega, y⟩, e⟩
            · exact ⟨H, ⟨i, by omega, Or.inl y⟩, e⟩
          · exact ⟨H, ⟨i, by omega, Or.inr ⟨g, g2, g3, g4⟩⟩, e⟩
        · rintro ⟨H, ⟨f, hf, y⟩, e⟩
          by_cases ef : f = i
          · subst ef
            rcases y with y | ⟨g, g2, g3, g4⟩
            · exact ⟨H, Or.inl ((hN H).mpr (Or.inr y)), e⟩
            · exact ⟨H, Or.inr ⟨g, Nat.zero_le _, g2, g3, g4⟩, e⟩
          · exact ⟨H, Or.inl ((hN H).mpr (Or.inl ⟨f, by omega, y⟩)), e⟩))
      refine ⟨M', ?_, d2, c2.trans d3⟩
      unfold l_sy_refuteAll_24 at d1 ⊢
      refine lpc_step (s' := (nI (i + 1), M2)) ?_ d1
      show b_sy_refuteAll_24_24 (nI i) M = _
      rw [hb]
      unfold b_sy_refuteAll_24_56
      have b1' : l_sy_refuteAll_58 (nI i) 0 M1 = some M2 := b1
      rw [b1', Option.bind_some, show nI i + 1 = nI (i + 1) from z_add i 1]
    by_cases c : putF A Q v i = true
    · obtain ⟨M1, a1, a2, a3⟩ := c_refute h (mayF A v i)
      refine go _ M1 a3 a2 (fun H => ⟨fun z => z.imp id (fun y => ⟨c, y⟩), fun z => z.imp id (fun y => y.2)⟩) ?_
      unfold b_sy_refuteAll_24_24
      rw [rc.2.2.1.1, if_neg (z_nle (by omega) (by omega) hin), ebit, if_pos c, z_gd (z_in (n := i) (by omega) (by omega)), z_cl (n := i) (by omega), (hm.1 i hin).2, a1, Option.bind_some]
    · refine go (nd A Q v i) M (chS.refl _ _) h (fun H => ⟨Or.inl, fun z => z.elim id (fun y => absurd y.1 c)⟩) ?_
      unfold b_sy_refuteAll_24_24
      rw [rc.2.2.1.1, if_neg (z_nle (by omega) (by omega) hin), ebit, if_neg c]
theorem c_refuteAll {A : sA} {Q : sQ} {v : Nat → Nat} {M : dM} (w : wfA A) (rc : rcA A M) (j : rcJ A Q (v 3) M) (hm : rcM A Q v M) : ∃ M', f_sy_refuteAll M = some M' ∧ svp (fun s => ¬ exP A Q v s) M' ∧ chS [48] M M' := by
  obtain ⟨M1, a1, a2, a3⟩ := c_clear 1024 0 M rfl (fun s hs => absurd hs (Nat.not_lt_zero _))
  obtain ⟨M2, b1, b2, b3⟩ := c_ref24 (Q := Q) (v := v) w (A 66 9) 0 M1 (by omega) ((srcA A).use rc a3 (by decide +kernel)) ((srcJ A Q (v 3)).use j a3 (by decide)) ((srcM A Q v).use hm a3 (by decide)) (fun s hs => Or.inl ⟨a2 s hs, fun ⟨_, ⟨f, hf, _⟩, _⟩ => absurd hf (Nat.not_lt_zero _)⟩)
  have a1' : l_sy_refuteAll_2 0 M = some M1 := a1
  have b1' : l_sy_refuteAll_24 0 M1 = some M2 := b1
  refine ⟨M2, ?_, b2, a3.trans b3⟩
  unfold f_sy_refuteAll
  rw [a1', Option.bind_some, b1']
  rfl
