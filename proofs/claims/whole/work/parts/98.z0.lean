/-! ===== exceptions: what is known, a static call row, the throw row ===== -/
def ezBad : List Cond := [.declares (Bundle.initS "java/lang/RuntimeException"), .declares (Bundle.initS "java/lang/Exception"), .declares (Bundle.initS Bundle.tN), .castable ezC ezC]
theorem ezW_ot : (Cond.classLink "AxesAtDawn" 149 ezC :: Cond.initialized ezC :: ezW).all vx_ot = true := by decide +kernel
def ezIx : List Nat := [1460, 1461, 1462, 1463, 126, 1441, 1450, 1452, 1455, 1457, 1442, 1443, 139, 140, 1444, 1449, 1453, 1473, 1431, 1474, 1433, 1475, 1435, 1445, 1447, 1437, 1469, 1470, 1472, 1437, 1460, 1463, 1463, 1464, 1465, 1466, 1466, 1467, 1468, 1469, 1459, 1420, 1428, 1429, 1430, 1432, 1434, 1436, 1440, 1439, 1438]
theorem ezW_ix : ezW.filter goodWord = ezIx.filterMap (fun i => lw_tbl[i]?) := by decide +kernel
theorem ezW_b : (ezW.filter (fun w => !goodWord w)).all (fun w => decide (w ∈ ezBad)) = true := by decide +kernel
theorem ezW_g : ∀ w ∈ ezW.filter goodWord, w ∈ mz_gt := fun w hw => by
  have h2 : goodWord w = true := (List.mem_filter.mp hw).2
  rw [ezW_ix] at hw
  obtain ⟨i, -, hi⟩ := List.mem_filterMap.mp hw
  exact List.mem_filter.mpr ⟨List.mem_of_getElem? hi, h2⟩
theorem ezk_149 : Cond.classLink "AxesAtDawn" 149 ezC ∈ mz_gt := mz_in 1419 (by decide +kernel) (by decide +kernel)
theorem ezk_ini : Cond.initialized ezC ∈ mz_gt := mz_in 129 (by decide +kernel) (by decide +kernel)
/-- what an exception needs of the heap and the tables -/
def ezX (A : Nat → Prop) (U : State) (H : Heap) : Prop := vx_Zq Bundle.tN "UNASSIGNED_STACK" Bundle.steD A U H ∧ vx_Zq Bundle.tN "SUPPRESSED_SENTINEL" Bundle.listD A U H ∧ ∀ w ∈ ezBad, va_Nw w U
theorem ezBad_warm {w : Cond} (hw : w ∈ ezBad) {s U : State} (hW : s.WarmedH U.vm) (h : va_Nw w s) : va_Nw w U := by
  simp only [ezBad, List.mem_cons, List.not_mem_nil, or_false] at hw
  rcases hw with rfl | rfl | rfl | rfl
  · exact va_Nw.warmD hW h
  · exact va_Nw.warmD hW h
  · exact va_Nw.warmD hW h
  · exact va_Nw.warmC hW h
theorem ezBad_tab {w : Cond} (hw : w ∈ ezBad) : w.onTables = true := by
  simp only [ezBad, List.mem_cons, List.not_mem_nil, or_false] at hw
  rcases hw with rfl | rfl | rfl | rfl <;> rfl
theorem ezX.call {A A' : Nat → Prop} {s U : State} {H : Heap} {locs : List Loc} (h : ezX A s s.heap) (hS : va_S A s.heap H locs) (hW : s.WarmedH U.vm) (hU : U.heap = H) (hA : ∀ q, A' q → A q) : ezX A' U U.heap := by
  subst hU
  obtain ⟨h1, h2, h3⟩ := h
  have hq : ∀ a : Nat, a < s.heap.size → ¬ A a → U.heap[a]? = s.heap[a]? := hS.2.1
  exact ⟨((h1.kept hq).moved hW.alike).narrow hA, ((h2.kept hq).moved hW.alike).narrow hA, fun w hw => ezBad_warm hw hW (h3 w hw)⟩
theorem ezX.same {A : Nat → Prop} {u U : State} (h : ezX A u u.heap) (hv : U.vm = u.vm) (hh : U.heap = u.heap) : ezX A U U.heap := by
  obtain ⟨h1, h2, h3⟩ := h
  have hal : u.vm.Alike U.vm := by rw [hv]; exact Vm.Alike.refl _
  rw [hh]
  exact ⟨h1.moved hal, h2.moved hal, fun w hw => (h3 w hw).same (ezBad_tab hw) hv.symm⟩
theorem ez_w {cid : FieldType → ClassId} {ad ad' : Nat → Nat} {Λ : List mz_Kd} {R : mz_R} {I : mz_I} {J : mz_J} (hC : mz_cl R Λ) (h : ∀ k, k < Λ.length ∨ 1000000 ≤ k → ad' k = ad k) : mz_w cid ad' R I J Λ = mz_w cid ad R I J Λ := by
  have hfv : ∀ (k j : Nat) (ty : FieldType), k < Λ.length → mz_fv ad' R I J k j ty = mz_fv ad R I J k j ty := by
    intro k j ty hk
    have hm : (R k j).map ad' = (R k j).map ad := by
      cases hr : R k j with
      | none => rfl
      | some z =>
        show some (ad' z) = some (ad z)
        rw [h z (hC k hk j z hr)]
    cases ty <;> simp only [mz_fv, hm]
  have he : ∀ (k : Nat) (y : mz_Kd), k < Λ.length → mz_e cid ad' R I J k y = mz_e cid ad R I J k y := by
    intro k y hk
    cases y with
    | inl a => rfl
    | inr ci =>
      simp only [mz_e, mz_fs]
      congr 2
      exact List.map_congr_left fun j _ => hfv k j _ hk
  apply List.ext_getElem?
  intro k
  by_cases h1 : k < Λ.length
  · obtain ⟨y, hy⟩ : ∃ y, Λ[k]? = some y := ⟨_, List.getElem?_eq_getElem h1⟩
    rw [mz_w_get hy, mz_w_get hy, h k (Or.inl h1), he k y h1]
  · rw [List.getElem?_eq_none (by rw [mz_w_len]; omega), List.getElem?_eq_none (by rw [mz_w_len]; omega)]
/-- what is known where the exception has left the method -/
def ezXC (D : va_G) (cid : FieldType → ClassId) (ad : Nat → Nat) (Λ : List mz_Kd) (R : mz_R) (I : mz_I) (J : mz_J) (A : Nat → Prop) : String → State → State → Prop := fun E st t => E = ezC ∧ va_P D vwCl (mz_w cid ad R I J Λ) t.heap ∧ va_F A st t
def ezPc (D : va_G) (cid : FieldType → ClassId) (ad : Nat → Nat) (sz : Nat) (vs : List Value) (Λ : List mz_Kd) (R : mz_R) (I : mz_I) (J : mz_J) : Array Value → State → Prop := fun a U => mz_Pc D cid ad sz vs Λ R I J a U ∧ ezX (mz_A ad Λ.length sz) U U.heap
theorem ez_blind {D : va_G} {cid : FieldType → ClassId} {ad : Nat → Nat} {sz : Nat} {vs : List Value} {Λ : List mz_Kd} {R : mz_R} {I : mz_I} {J : mz_J} : FrameBlind (ezPc D cid ad sz vs Λ R I J) := by
  intro a U g mk q
  exact ⟨mz_blind a U g mk q.1, ezX.same (U := U.calling g mk a) q.2 rfl rfl⟩
/-- the further facts in a body that throws -/
def ezZ (Λ : List mz_Kd) (R : mz_R) (I : mz_I) (J : mz_J) : gz_C := fun p l e Rm s m args below meth c D cid ad0 n0 A MC MS Z => l.stackTraces = false ∧ (∀ x ∈ c.exceptionTable.toList, False) ∧ ezX A s s.heap ∧ n0 = Λ.length ∧ Z = vx_MQ below (fun _ _ _ _ => False) (ezXC D cid ad0 Λ R I J A) args s MC MS A
section EZR
variable {P : gz_C} {y : mz_M} {d mc ms : Nat} {Q : mz_P} {pc n : Nat} {L : List (Option Value)} {st : List Value} {Λ : List mz_Kd} {R : mz_R} {I : mz_I} {J : mz_J} {k i ci j : Nat} {y' : mz_M} {d' mc1 ms1 np : Nat} {vs st0 : List Value} {Q' : mz_P}
theorem gx_callS (h : mz_d y.2.1 pc n 3 (.invokestatic i)) (hm : mz_mk y' np) (hl : mz_ml y.1.cls i y'.1) (hv : Cond.static y'.1 ∈ mz_gt) (hok : mz_Ok y' d' mc1 ms1 vs Λ R I J Q') (hst : st0 = vs.reverse ++ st) (hnp : vs.length = np) (hd' : d' + 1 ≤ d) (hsm : (st.map (fun v => v.category)).sum ≤ 8) (hLr : mz_rL Λ.length L = true) (hSr : mz_rS Λ.length st = true) (kk : ∀ (r : Option Value) (Λ' : List mz_Kd) (R' : mz_R) (I' : mz_I) (J' : mz_J), Q' r Λ' R' I' J' → gz_wp P y d mc ms Q n L (r.toList ++ st) Λ' R' I' J') : gz_wp P y d (mc1 + mc) (ms1 + ms) Q pc L st0 Λ R I J := by
  obtain ⟨hd, rfl⟩ := h
  intro p l e Rm s m args below meth c D cid ad0 n0 A MC MS Z hF hG9 hE ad H locs cells slots ls hD hL
  subst hst
  obtain ⟨hc1, hc2, ⟨hc3, hc4, hc5⟩, hc6⟩ := hm
  have hts := hF.1.2.2.2.2
  have hO5 := hF.2.2.2.2.2.2.1.2.2.2.2
  have hgd := mz_good hc1
  have hfr : (mz_rm d' mc1 ms1).frames + 1 ≤ Rm.frames ∧ 8 + (y'.2.2.1 + 11) + (mz_rm d' mc1 ms1).locals ≤ Rm.locals := by
    have h1 := hF.2.2.2.2.2.2.2.2.2.1
    have h2 := hF.2.2.2.2.2.2.2.2.2.2
    have h3 : (mz_rm d' mc1 ms1).frames = d' := rfl
    have h4 : (mz_rm d' mc1 ms1).locals = 64 * d' := rfl
    omega
  have hcs : cells + mc1 ≤ Rm.cells ∧ slots + ms1 ≤ Rm.slots := by
    have h1 := hF.2.2.2.2.2.2.2.1
    have h2 := hF.2.2.2.2.2.2.2.2.1
    have h3 := hD.2.2.2.2.2.1
    have h4 := hD.2.2.2.2.2.2.1
    omega
  have hroom : 2 * (F0 m pc ls (mz_st ad (vs.reverse ++ st))).monitorRoom + ((mz_st ad st).map fun v => v.category).sum ≤ 8 := lv_room (by rw [mz_st_cat]; exact hsm)
  have hr : va_Run p l e Rm s m args below meth c H locs cells slots mc1 ms1 (F0 m pc ls (mz_st ad (vs.reverse ++ st))) (mz_st ad st) (mz_Qc D cid ad Λ.length (mz_A ad Λ.length H.size) Q' ((vs).map (mz_v ad)).toArray) (mz_A ad Λ.length H.size) := by
    rcases hl with hl | ⟨host, hl⟩
    · exact va_runS (As := vs.map (mz_v ad)) (rest := mz_st ad st) ⟨hF.1.1, hF.1.2.1, hF.1.2.2.1, hF.1.2.2.2.1, hts⟩ (hok l D cid ad H.size) ⟨callB_of np hts hgd rfl rfl rfl (hts _ hc2) (hts _ hl) ⟨hc3, hc4, hc5⟩ hfr, hts _ hv⟩ ⟨mz_blind, fun U hU hW => mz_pre hF.2.2.2.2.1 hF.2.2.2.2.2.2.1 hF.2.2.2.2.2.1 hD vs U hU hW⟩ rfl (by rw [List.length_map]; exact hnp) hL.1 (by simp [mz_st, mz_v]) hroom hd hcs
    · exact va_runSN (As := vs.map (mz_v ad)) (rest := mz_st ad st) ⟨hF.1.1, hF.1.2.1, hF.1.2.2.1, hF.1.2.2.2.1, hts⟩ (hok l D cid ad H.size) ⟨va_cnB np hts hgd rfl rfl rfl (hO5 _ hl) (hts _ hc2) ⟨hc3, hc4, hc5⟩ hfr, hts _ hv, trivial⟩ ⟨mz_blind, fun U hU hW => mz_pre hF.2.2.2.2.1 hF.2.2.2.2.2.2.1 hF.2.2.2.2.2.1 hD vs U hU hW⟩ rfl (by rw [List.length_map]; exact hnp) hL.1 (by simp [mz_st, mz_v]) hroom hd hcs
  refine mz_back (mc := mc) (ms := ms) hF.2.2.2.2.2.1 hr hD (fun r Λ' R' I' J' ad' H' locs' hQ hag hDy => ?_)
  · have K := kk r Λ' R' I' J' hQ _ _ _ _ _ _ _ _ _ _ _ _ _ _ _ _ _ _ hF hG9 hE _ _ _ _ _ _ hDy (mz_L_re hag hLr hL)
    have e : mz_st ad' (r.toList ++ st) = (r.map (mz_v ad')).toList ++ mz_st ad st := by
      rw [← mz_st_re hag hSr]
      cases r <;> rfl
    rw [e] at K
    exact K
theorem ez_thr (hy : y.1.cls = "AxesAtDawn") (h0 : decode y.2.1 pc = .ok (.new 149, 3)) (h3 : decode y.2.1 (pc + 3) = .ok (.dup, 1)) (h4 : decode y.2.1 (pc + 4) = .ok (.ldc 151, 2)) (h6 : decode y.2.1 (pc + 6) = .ok (.invokespecial 153, 3)) (h9 : decode y.2.1 (pc + 9) = .ok (.athrow, 1)) (hd : 6 ≤ d) : gz_wp (ezZ Λ R I J) y d 1 6 Q pc L [] Λ R I J := by
  intro p l e Rm s m args below meth c D cid ad0 n0 A MC MS Z hF hG9 hE ad H locs cells slots ls hD hL
  obtain ⟨hl, ht, hX, rfl, rfl⟩ := hG9
  obtain ⟨⟨hx, hb, hml, hown, hts⟩, hlk, hrt, hnm, hK, hA, hRO, hMC, hMS, hfr, hlo⟩ := hF
  obtain ⟨g1, g2, g3, g4, g5, g6, g7, g8⟩ := hD
  rw [hy] at hown
  have hstr : vk_R "AxesAtDawn" 151 "no such find or fact" (ad0 1000008) s := hRO.2.1 8 ("AxesAtDawn", 151, "no such find or fact") rfl
  have hat : ∀ w ∈ ezW, w.before args s = true := vx_hat (B := ezBad) (fun w hw => hts w (ezW_g w hw)) (fun w hw => of_decide_eq_true (List.all_eq_true.mp ezW_b w hw)) (fun w hw => (hX.2.2 w hw).use (ezBad_tab hw))
  have hgo : ∀ w ∈ Cond.classLink "AxesAtDawn" 149 ezC :: Cond.initialized ezC :: ezW, vx_ot w = true := fun w hw => List.all_eq_true.mp ezW_ot w hw
  have hr1 : 5 < Rm.frames := by omega
  have hr2 : 0 + 82 ≤ Rm.locals := by omega
  refine ez_throw (A := A) (text := "no such find or fact") (is := 151) (pn := pc + 6) (sa := ad0 1000008) hx hb hl hown (hts _ ezk_149) (hts _ ezk_ini) hstr hat hgo hX.1 hX.2.1 g5 (hL.1.trans hml.symm) h0 h3 (Or.inl ⟨h4, rfl⟩) h6 h9 (fun x hx => (ht x hx).elim) hr1 hr2 (by omega) (by omega) hlk (fun t hal h1 h2 => ?_) g5.2.2 (by omega) (by omega)
  refine ⟨rfl, ?_, Nat.le_trans g5.1 h1, fun q hq hn => (h2 q (Nat.lt_of_lt_of_le hq g5.1)).trans (g5.2.1 q hq hn)⟩
  rw [← ez_w g8 g1]
  exact g3.kept (fun k q hk => h2 q.1 (vx_lt g3 hk))
theorem ez_thrW (hy : y.1.cls = "AxesAtDawn") (h0 : decode y.2.1 pc = .ok (.new 149, 3)) (h3 : decode y.2.1 (pc + 3) = .ok (.dup, 1)) (h4 : decode y.2.1 (pc + 4) = .ok (.ldc_w 349, 3)) (h6 : decode y.2.1 (pc + 7) = .ok (.invokespecial 153, 3)) (h9 : decode y.2.1 (pc + 10) = .ok (.athrow, 1)) (hd : 6 ≤ d) : gz_wp (ezZ Λ R I J) y d 1 6 Q pc L [] Λ R I J := by
  intro p l e Rm s m args below meth c D cid ad0 n0 A MC MS Z hF hG9 hE ad H locs cells slots ls hD hL
  obtain ⟨hl, ht, hX, rfl, rfl⟩ := hG9
  obtain ⟨⟨hx, hb, hml, hown, hts⟩, hlk, hrt, hnm, hK, hA, hRO, hMC, hMS, hfr, hlo⟩ := hF
  obtain ⟨g1, g2, g3, g4, g5, g6, g7, g8⟩ := hD
  rw [hy] at hown
  have hstr : vk_R "AxesAtDawn" 349 "no such worlds or answer" (ad0 1000009) s := hRO.2.1 9 ("AxesAtDawn", 349, "no such worlds or answer") rfl
  have hat : ∀ w ∈ ezW, w.before args s = true := vx_hat (B := ezBad) (fun w hw => hts w (ezW_g w hw)) (fun w hw => of_decide_eq_true (List.all_eq_true.mp ezW_b w hw)) (fun w hw => (hX.2.2 w hw).use (ezBad_tab hw))
  have hgo : ∀ w ∈ Cond.classLink "AxesAtDawn" 149 ezC :: Cond.initialized ezC :: ezW, vx_ot w = true := fun w hw => List.all_eq_true.mp ezW_ot w hw
  have hr1 : 5 < Rm.frames := by omega
  have hr2 : 0 + 82 ≤ Rm.locals := by omega
  refine ez_throw (A := A) (text := "no such worlds or answer") (is := 349) (pn := pc + 7) (sa := ad0 1000009) hx hb hl hown (hts _ ezk_149) (hts _ ezk_ini) hstr hat hgo hX.1 hX.2.1 g5 (hL.1.trans hml.symm) h0 h3 (Or.inr ⟨h4, rfl⟩) h6 h9 (fun x hx => (ht x hx).elim) hr1 hr2 (by omega) (by omega) hlk (fun t hal h1 h2 => ?_) g5.2.2 (by omega) (by omega)
  refine ⟨rfl, ?_, Nat.le_trans g5.1 h1, fun q hq hn => (h2 q (Nat.lt_of_lt_of_le hq g5.1)).trans (g5.2.1 q hq hn)⟩
  rw [← ez_w g8 g1]
  exact g3.kept (fun k q hk => h2 q.1 (vx_lt g3 hk))
end EZR
