/-! ===== the law: rows (made by genlaw.py) ===== -/
abbrev lawY : mz_M := (yL_law, cL_law, 7, ret)
abbrev lawW (P : gz_C) (d mc ms : Nat) (Q : mz_P) (pc : Nat) (L : List (Option Value)) (st : List Value) (M : dM) : Prop := gz_wp P lawY d mc ms Q pc L st LL (RR M.2.2) M.1 M.2.1
/-- what the law knows besides: the script, the exceptions' words (E) -/
def lawP (E : gz_C) (b Ls : Nat) (xs : Nat → Int32) : gz_C := fun p l e Rm s m args below meth c D cid ad0 n0 A MC MS Z => va_X b Ls xs s s.heap ∧ b < s.heap.size ∧ ¬ A b ∧ ad0 4000000 = b ∧ E p l e Rm s m args below meth c D cid ad0 n0 A MC MS Z
def lawL (i : Nat) : List (Option Value) := [some (.ref 4000000), some (.ref 0), some (.ref 66), some (.ref 132), some (.int (nI (8 * i))), none, none]
def lawQ : mz_P := fun r _ _ _ _ => r = some (.int 1)
section LAWR
variable {E : gz_C} {b0 Ls : Nat} {xs : Nat → Int32} {P : gz_C} {y : mz_M} {d mc ms : Nat} {Q : mz_P} {pc n : Nat} {L L2 : List (Option Value)} {st : List Value} {Λ : List mz_Kd} {R : mz_R} {I : mz_I} {J : mz_J} {M : dM} {k i ci j : Nat}
theorem gx_wk (h : wk L L2) (hk : gz_wp P y d mc ms Q pc L2 st Λ R I J) : gz_wp P y d mc ms Q pc L st Λ R I J := by
  intro p l e Rm s m args below meth c D cid ad0 n0 A MC MS Z hF hG9 hE ad H locs cells slots ls hD hL
  exact hk _ _ _ _ _ _ _ _ _ _ _ _ _ _ _ _ _ _ hF hG9 hE _ _ _ _ _ _ hD ⟨hL.1, hL.2.1, fun a v ha => hL.2.2 a v (wk_get h a v ha)⟩
theorem gx_less {mc' ms' : Nat} (h1 : mc ≤ mc') (h2 : ms ≤ ms') (hk : gz_wp P y d mc ms Q pc L st Λ R I J) : gz_wp P y d mc' ms' Q pc L st Λ R I J := by
  intro p l e Rm s m args below meth c D cid ad0 n0 A MC MS Z hF hG9 hE ad H locs cells slots ls hD hL
  obtain ⟨g1, g2, g3, g4, g5, g6, g7, g8⟩ := hD
  exact hk _ _ _ _ _ _ _ _ _ _ _ _ _ _ _ _ _ _ hF hG9 hE _ _ _ _ _ _ ⟨g1, g2, g3, g4, g5, by omega, by omega, g8⟩ hL
theorem gx_sld (h : mz_d y.2.1 pc n 1 .iaload) {a : Int32} (hin : vp_in a Ls) (kk : gz_wp (lawP E b0 Ls xs) y d mc ms Q n L (.int (xs a.toNatClampNeg) :: st) Λ R I J) : gz_wp (lawP E b0 Ls xs) y d mc ms Q pc L (.int a :: .ref 4000000 :: st) Λ R I J := by
  obtain ⟨hd, rfl⟩ := h
  intro p l e Rm s m args below meth c D cid ad0 n0 A MC MS Z hF hG9 hE ad H locs cells slots ls hD hL
  have K := kk _ _ _ _ _ _ _ _ _ _ _ _ _ _ _ _ _ _ hF hG9 hE _ _ _ _ _ _ hD hL
  obtain ⟨hX, hb, hA, ha, hEx⟩ := hG9
  have e1 : ad 4000000 = b0 := (hD.1 _ (Or.inr (by omega))).trans ha
  show W p l e Rm s m args below meth c H locs cells slots Z (F0 m pc ls (.int a :: .ref (ad 4000000) :: mz_st ad st))
  rw [e1]
  exact va_sld hF.1.1 hF.1.2.1 hX hb hA hD.2.2.2.2.1 hin hd K
theorem gx_slen (h : mz_d y.2.1 pc n 1 .arraylength) (kk : gz_wp (lawP E b0 Ls xs) y d mc ms Q n L (.int (Int32.ofNat Ls) :: st) Λ R I J) : gz_wp (lawP E b0 Ls xs) y d mc ms Q pc L (.ref 4000000 :: st) Λ R I J := by
  obtain ⟨hd, rfl⟩ := h
  intro p l e Rm s m args below meth c D cid ad0 n0 A MC MS Z hF hG9 hE ad H locs cells slots ls hD hL
  have K := kk _ _ _ _ _ _ _ _ _ _ _ _ _ _ _ _ _ _ hF hG9 hE _ _ _ _ _ _ hD hL
  obtain ⟨hX, hb, hA, ha, hEx⟩ := hG9
  have e1 : ad 4000000 = b0 := (hD.1 _ (Or.inr (by omega))).trans ha
  show W p l e Rm s m args below meth c H locs cells slots Z (F0 m pc ls (.ref (ad 4000000) :: mz_st ad st))
  rw [e1]
  exact va_slen hF.1.1 hF.1.2.1 hX hb hA hD.2.2.2.2.1 hd K
set_option maxRecDepth 100000 in
theorem lx_arg (k : Nat) (hk : 8 * i + k < Ls) (hL : Ls ≤ 4096) (d0 : decode cL_law pc = .ok (.aload_n 0, 1)) (d1 : decode cL_law (pc + 1) = .ok (.iload 4, 2)) (d2 : decode cL_law (pc + 3) = .ok (.iconst (k : Int), 1)) (hv : Int32.ofInt (k : Int) = nI k) (d3 : decode cL_law (pc + 4) = .ok (.iadd, 1)) (d4 : decode cL_law (pc + 5) = .ok (.iaload, 1)) (h0 : L[0]? = some (some (.ref 4000000))) (h4 : L[4]? = some (some (.int (nI (8 * i))))) (kk : gz_wp (lawP E b0 Ls xs) lawY d mc ms Q (pc + 6) L (.int (xs (8 * i + k)) :: st) Λ R I J) : gz_wp (lawP E b0 Ls xs) lawY d mc ms Q pc L st Λ R I J := by
  refine gx_aload_n (i := 0) (n := pc + 1) ⟨d0, rfl⟩ h0 ?_
  refine gx_iload (i := 4) (n := pc + 3) ⟨d1, rfl⟩ h4 ?_
  refine gx_iconst (v := nI k) (n := pc + 4) ⟨d2, rfl⟩ hv ?_
  refine gx_iadd (n := pc + 5) ⟨d3, rfl⟩ ?_
  rw [z_add]
  refine gx_sld (n := pc + 6) ⟨d4, rfl⟩ (of_eq_true (z_in hk (by omega))) ?_
  rw [z_cl (n := 8 * i + k) (by omega)]
  exact kk
set_option maxRecDepth 100000 in
theorem lx_argB (k : Nat) (hk : 8 * i + k < Ls) (hL : Ls ≤ 4096) (d0 : decode cL_law pc = .ok (.aload_n 0, 1)) (d1 : decode cL_law (pc + 1) = .ok (.iload 4, 2)) (d2 : decode cL_law (pc + 3) = .ok (.bipush (k : Int), 2)) (hv : (Int8.ofInt (k : Int)).toInt32 = nI k) (d3 : decode cL_law (pc + 5) = .ok (.iadd, 1)) (d4 : decode cL_law (pc + 6) = .ok (.iaload, 1)) (h0 : L[0]? = some (some (.ref 4000000))) (h4 : L[4]? = some (some (.int (nI (8 * i))))) (kk : gz_wp (lawP E b0 Ls xs) lawY d mc ms Q (pc + 7) L (.int (xs (8 * i + k)) :: st) Λ R I J) : gz_wp (lawP E b0 Ls xs) lawY d mc ms Q pc L st Λ R I J := by
  refine gx_aload_n (i := 0) (n := pc + 1) ⟨d0, rfl⟩ h0 ?_
  refine gx_iload (i := 4) (n := pc + 3) ⟨d1, rfl⟩ h4 ?_
  refine gx_bipush (v := nI k) (n := pc + 5) ⟨d2, rfl⟩ hv ?_
  refine gx_iadd (n := pc + 6) ⟨d3, rfl⟩ ?_
  rw [z_add]
  refine gx_sld (n := pc + 7) ⟨d4, rfl⟩ (of_eq_true (z_in hk (by omega))) ?_
  rw [z_cl (n := 8 * i + k) (by omega)]
  exact kk
end LAWR
