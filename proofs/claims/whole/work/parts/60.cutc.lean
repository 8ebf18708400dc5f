/-! ===== cut: the class ===== -/
def faP (A : sA) (c S : Nat) : Bool := !(swO A S).testBit c
def uB (A : sA) (b : Nat) : Bool := (usF A).testBit b
theorem faP_used {A : sA} {c : Nat} : ∀ S S', (∀ b, uB A b = true → S.testBit b = S'.testBit b) → faP A c S = faP A c S' := fun S S' h => by
  unfold faP
  rw [swO_used (A := A) (out := S) (out' := S') (fun b hb => (h b hb).symm)]
def pkR : Nat → List Nat → dM → Prop
  | 0, l, _ => l = []
  | m + 1, l, M => ∃ x l', l = x :: l' ∧ gI M 54 m = nI x ∧ pkR m l' M
theorem pkR_keep : ∀ (m : Nat) (l : List Nat) (M M' : dM), (∀ j, j < m → gI M' 54 j = gI M 54 j) → pkR m l M → pkR m l M'
  | 0, _, _, _, _, h => h
  | m + 1, l, M, M', e, ⟨x, l', h1, h2, h3⟩ => ⟨x, l', h1, (e m (by omega)).trans h2, pkR_keep m l' M M' (fun j hj => e j (by omega)) h3⟩
def k54 (m : Nat) (M M' : dM) : Prop := chS [54] M M' ∧ ∀ j, m ≤ j → gI M' 54 j = gI M 54 j
theorem k54.trans {m : Nat} {M M' M'' : dM} (h : k54 m M M') (h' : k54 m M' M'') : k54 m M M'' := ⟨h.1.trans h'.1, fun j hj => (h'.2 j hj).trans (h.2 j hj)⟩
def lfN (A : sA) (out : Nat) : Nat := andn (allF A) out
theorem lfN_bit (A : sA) (out b : Nat) : (lfN A out).testBit b = (decide (b < A 66 9) && !out.testBit b) := by
  unfold lfN
  rw [andn_bit, allF_bit]
theorem lfN_del (A : sA) (out x : Nat) : andn (lfN A out) (2 ^ x) = lfN A (out ||| 2 ^ x) := nat_bits fun b => by
  rw [andn_bit, lfN_bit, lfN_bit, fb_bit_set, Nat.testBit_two_pow, show decide (x = b) = decide (b = x) from decide_eq_decide.mpr ⟨Eq.symm, Eq.symm⟩]
  cases decide (b < A 66 9) <;> cases out.testBit b <;> cases decide (b = x) <;> rfl
theorem c_stLf {A : sA} {M : dM} (w : wfA A) (rc : rcA A M) (out : Nat) : f_cl_standWith (lN (lfN A out)) M = some (nI (swO A out)) := by
  rw [c_standWith w rc, sw_eq w (out := out)]
  intro b hb
  rw [lfN_bit, decide_eq_true hb, Bool.true_and]
theorem c_stPr {A : sA} {M : dM} (w : wfA A) (rc : rcA A M) {out fr : Nat} (hf : fr ≤ A 66 9) : f_cl_standWith (lN (lfN A out) &&& (((1 : Int64) <<< ((nI fr).toInt64 &&& 63)) - 1)) M = some (nI (swO A (out ||| andn (allF A) (2 ^ fr - 1)))) := by
  have hn := w.2.2.1.1
  have h2 : (2 : Nat) ^ fr ≤ 2 ^ 40 := Nat.pow_le_pow_right (by decide) (by omega)
  have h3 : (0 : Nat) < 2 ^ fr := Nat.pow_pos (by decide)
  have hl : lfN A out < 2 ^ A 66 9 := andn_le out (by unfold allF; have : (0 : Nat) < 2 ^ A 66 9 := Nat.pow_pos (by decide); omega)
  have h4 : (2 : Nat) ^ A 66 9 ≤ 2 ^ 40 := Nat.pow_le_pow_right (by decide) hn
  rw [z_1shlL (by omega), show (1 : Int64) = lN 1 from rfl, z_lsub (by omega), z_land (by omega) (by omega), c_standWith w rc, sw_eq w (out := out ||| andn (allF A) (2 ^ fr - 1))]
  intro b hb
  rw [Nat.testBit_and, lfN_bit, Nat.testBit_two_pow_sub_one, Nat.testBit_or, andn_bit, allF_bit, Nat.testBit_two_pow_sub_one, decide_eq_true hb]
  cases out.testBit b <;> cases decide (b < fr) <;> rfl
theorem sw_bit {A : sA} {M : dM} (w : wfA A) (out : Nat) {c : Nat} (hc : c < 12) : f_ax_hasBit (nI (swO A out)).toInt64 (nI c) = (swO A out).testBit c := by
  have := swO_lt w out
  exact z_hasBit (by omega) (by omega)
theorem usN_lt {A : sA} (w : wfA A) : ∀ n, n ≤ A 66 69 → usN A n < 2 ^ 40
  | 0, _ => (show (0 : Nat) < 2 ^ 40 from by decide)
  | n + 1, h => by
    show usN A n ||| A 109 n < 2 ^ 40
    exact Nat.or_lt_two_pow (usN_lt w n (by omega)) (gf_lt w (by omega))
theorem usF_lt {A : sA} (w : wfA A) : usF A < 2 ^ 40 := usN_lt w _ (Nat.le_refl _)
theorem c_cuts {A : sA} (w : wfA A) {c : Nat} (hc : c < 12) : ∀ (m F fr out : Nat) (M : dM), m ≤ 3 → m ≤ F → fr ≤ A 66 9 → rcA A M → ∃ M', fr_cl_cuts (F + 1) (nI c) (nI m) (nI fr) (lN (lfN A out)) (lN (usF A)) M = some ((srU (faP A c) (A 66 9) (uB A) m fr out).isSome, M') ∧ (∀ l, srU (faP A c) (A 66 9) (uB A) m fr out = some l → pkR m l M') ∧ k54 m M M' := by
  have hn := w.2.2.1.1
  have hu : usF A < 2 ^ 40 := usF_lt w
  intro m
  induction m with
  | zero =>
    intro F fr out M _ _ _ rc
    refine ⟨M, ?_, fun l h => ?_, ⟨chS.refl _ _, fun _ _ => rfl⟩⟩
    · show f_cl_cuts (fr_cl_cuts F) (nI c) (nI 0) (nI fr) (lN (lfN A out)) (lN (usF A)) M = _
      unfold f_cl_cuts t_cl_cuts_10
      rw [if_pos (show nI 0 < (1 : Int32) from by decide), c_stLf w rc, Option.bind_some, sw_bit (M := M) w out hc]
      show _ = some ((if faP A c out = true then some [] else none : Option (List Nat)).isSome, M)
      unfold faP
      cases (swO A out).testBit c <;> rfl
    · have h' : (if faP A c out = true then some [] else none) = some l := h
      split at h'
      · cases h'; rfl
      · cases h'
  | succ m ih =>
    intro F fr out M hm hF hfr rc
    obtain ⟨F', rfl⟩ : ∃ F', F = F' + 1 := ⟨F - 1, by omega⟩
    -- the loop
    have loop : ∀ d x (M : dM), x + d = A 66 9 → rcA A M → ∃ M', l_cl_cuts_55 (fr_cl_cuts (F' + 1)) (nI c) (nI (m + 1)) (lN (lfN A out)) (lN (usF A)) (nI x) M = some ((fsN (fun x => if uB A x = true then srU (faP A c) (A 66 9) (uB A) m (x + 1) (out ||| 2 ^ x) else none) x d).isSome, M') ∧ (∀ l, fsN (fun x => if uB A x = true then srU (faP A c) (A 66 9) (uB A) m (x + 1) (out ||| 2 ^ x) else none) x d = some l → pkR (m + 1) l M') ∧ k54 (m + 1) M M' := by
      intro d
      induction d with
      | zero =>
        intro x M hx rc
        have e : x = A 66 9 := by omega
        subst e
        refine ⟨M, ?_, fun l h => (by cases h), ⟨chS.refl _ _, fun _ _ => rfl⟩⟩
        unfold l_cl_cuts_55
        refine lpc_out ?_
        show b_cl_cuts_55_55 (fr_cl_cuts (F' + 1)) (nI c) (nI (m + 1)) (lN (lfN A out)) (lN (usF A)) (nI (A 66 9)) M = _
        unfold b_cl_cuts_55_55
        rw [rc.2.2.1.1, if_pos (z_yle (by omega) (by omega) (Nat.le_refl _))]
        rfl
      | succ d ihd =>
        intro x M hx rc
        have hxn : x < A 66 9 := by omega
        have ex : nI x + 1 = nI (x + 1) := z_add x 1
        have em : nI (m + 1) - 1 = nI m := by rw [show (1 : Int32) = nI 1 from rfl, z_subI (by omega)]; rfl
        have hb : ∀ X, b_cl_cuts_55_55 (fr_cl_cuts (F' + 1)) (nI c) (nI (m + 1)) (lN (lfN A out)) (lN (usF A)) (nI x) M = X → b_cl_cuts_55_55 (fr_cl_cuts (F' + 1)) (nI c) (nI (m + 1)) (lN (lfN A out)) (lN (usF A)) (nI x) M = X := fun _ h => h
        have efs : fsN (fun x => if uB A x = true then srU (faP A c) (A 66 9) (uB A) m (x + 1) (out ||| 2 ^ x) else none) x (d + 1) = (match (if uB A x = true then srU (faP A c) (A 66 9) (uB A) m (x + 1) (out ||| 2 ^ x) else none) with | some l => some (x :: l) | none => fsN (fun x => if uB A x = true then srU (faP A c) (A 66 9) (uB A) m (x + 1) (out ||| 2 ^ x) else none) (x + 1) d) := rfl
        by_cases c1 : uB A x = true
        · have c0 : k54 (m + 1) M (sI M 54 m (nI x)) := ⟨chS_sI M 54 m _ rfl, fun j hj => by rw [gI_sI, if_neg (by omega)]⟩
          obtain ⟨M1, a1, a2, a3⟩ := ih F' (x + 1) (out ||| 2 ^ x) (sI M 54 m (nI x)) (by omega) (by omega) (by omega) ((srcA A).use rc c0.1 (by decide +kernel))
          have k1 : k54 (m + 1) M M1 := c0.trans ⟨a3.1, fun j hj => a3.2 j (by omega)⟩
          have hbody : b_cl_cuts_55_55 (fr_cl_cuts (F' + 1)) (nI c) (nI (m + 1)) (lN (lfN A out)) (lN (usF A)) (nI x) M = if (srU (faP A c) (A 66 9) (uB A) m (x + 1) (out ||| 2 ^ x)).isSome = true then some (.inr (true, M1)) else some (.inl (nI (x + 1), M1)) := by
            unfold b_cl_cuts_55_55
            rw [rc.2.2.1.1, if_neg (z_nle (by omega) (by omega) hxn), z_hasBitL (by omega) (by omega), if_pos (show (usF A).testBit x = true from c1), em, z_gd (z_in (n := m) (by omega) (by omega)), z_cl (n := m) (by omega), z_1shlL (by omega), z_andnL, lfN_del, ex, a1, Option.bind_some]
          rw [if_pos c1] at efs
          cases hs : srU (faP A c) (A 66 9) (uB A) m (x + 1) (out ||| 2 ^ x) with
          | some l =>
            rw [hs] at efs hbody
            refine ⟨M1, ?_, fun l' h => ?_, k1⟩
            · unfold l_cl_cuts_55
              rw [efs]
              exact lpc_out hbody
            · rw [efs] at h
              cases h
              refine ⟨x, l, rfl, ?_, a2 l hs⟩
              rw [a3.2 m (Nat.le_refl _), gI_sI, if_pos ⟨rfl, rfl⟩]
          | none =>
            rw [hs] at efs hbody
            obtain ⟨M2, b1, b2, b3⟩ := ihd (x + 1) M1 (by omega) ((srcA A).use rc k1.1 (by decide +kernel))
            refine ⟨M2, ?_, fun l' h => b2 l' (by rw [efs] at h; exact h), k1.trans b3⟩
            rw [efs]
            unfold l_cl_cuts_55 at b1 ⊢
            exact lpc_step (s' := (nI (x + 1), M1)) hbody b1
        · rw [if_neg c1] at efs
          have hbody : b_cl_cuts_55_55 (fr_cl_cuts (F' + 1)) (nI c) (nI (m + 1)) (lN (lfN A out)) (lN (usF A)) (nI x) M = some (.inl (nI (x + 1), M)) := by
            unfold b_cl_cuts_55_55
            rw [rc.2.2.1.1, if_neg (z_nle (by omega) (by omega) hxn), z_hasBitL (by omega) (by omega), if_neg (show ¬ (usF A).testBit x = true from c1), ex]
          obtain ⟨M2, b1, b2, b3⟩ := ihd (x + 1) M (by omega) rc
          refine ⟨M2, ?_, fun l' h => b2 l' (by rw [efs] at h; exact h), b3⟩
          rw [efs]
          unfold l_cl_cuts_55 at b1 ⊢
          exact lpc_step (s' := (nI (x + 1), M)) hbody b1
    have hF2 : fr_cl_cuts (F' + 1 + 1) (nI c) (nI (m + 1)) (nI fr) (lN (lfN A out)) (lN (usF A)) M = f_cl_cuts (fr_cl_cuts (F' + 1)) (nI c) (nI (m + 1)) (nI fr) (lN (lfN A out)) (lN (usF A)) M := rfl
    rw [hF2]
    unfold f_cl_cuts
    rw [if_neg (show ¬ nI (m + 1) < (1 : Int32) from by rw [show (1 : Int32) = nI 1 from rfl, z_lt (by omega) (by omega)]; omega), if_pos (show nI (m + 1) ≤ (3 : Int32) from z_yle (b := 3) (by omega) (by decide) (by omega)), c_stPr w rc hfr, Option.bind_some, sw_bit (M := M) w _ hc]
    by_cases cp : (swO A (out ||| andn (allF A) (2 ^ fr - 1))).testBit c = true
    · have e : srU (faP A c) (A 66 9) (uB A) (m + 1) fr out = none := srU_prune (m + 1) fr out (fun S hS => by
        unfold faP
        rw [swO_mono (A := A) (out := out ||| andn (allF A) (2 ^ fr - 1)) (out' := S) (fun b hb => ?_) cp]
        · rfl
        · rw [Nat.testBit_or, andn_bit, allF_bit, Nat.testBit_two_pow_sub_one]
          rcases hS b hb with z | ⟨z1, z2⟩
          · rw [z]; rfl
          · rw [decide_eq_true z2, decide_eq_false (by omega)]; simp)
      rw [if_pos cp, e]
      exact ⟨M, rfl, fun l h => (by cases h), ⟨chS.refl _ _, fun _ _ => rfl⟩⟩
    · rw [if_neg cp]
      obtain ⟨M1, a1, a2, a3⟩ := loop (A 66 9 - fr) fr M (by omega) rc
      rw [a1, Option.bind_some]
      exact ⟨M1, rfl, a2, a3⟩
