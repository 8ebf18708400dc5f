/-! ===== calls ===== -/
def mz_mk (y : mz_M) (np : Nat) : Prop := Cond.code y.1 y.2.1 y.2.2.1 y.2.2.2 ∈ mz_gt ∧ Cond.initialized y.1.cls ∈ mz_gt ∧ (y.1.cls ≠ "java/lang/invoke/MethodHandle" ∧ y.1.cls ≠ "java/lang/invoke/VarHandle" ∧ (parseMethodDescriptor y.1.desc).map (fun d => d.parameters.length) = some np) ∧ y.2.2.1 ≤ 45
def mz_ml (own : String) (i : Nat) (y : MethodName) : Prop := Cond.methodLink own i y ∈ mz_gt ∨ ∃ host, Cond.methodLinkNest own i y host ∈ mz_nl
def mz_vi (y : mz_M) : Prop := Cond.instanceMethod y.1 ∈ mz_gt ∧ Cond.selects y.1.cls y.1 y.1 ∈ mz_gt
def mz_cn (ci : Nat) : String := match vwCl[ci]? with
  | some r => r.1
  | none => ""
def mz_rv (n : Nat) (v : Value) : Bool := match v with
  | .ref k => Nat.ble (k + 1) n || Nat.ble 1000000 k
  | _ => true
def mz_rS (n : Nat) (st : List Value) : Bool := st.all (mz_rv n)
def mz_ro (n : Nat) (o : Option Value) : Bool := match o with
  | some v => mz_rv n v
  | none => true
def mz_rL (n : Nat) (L : List (Option Value)) : Bool := L.all (mz_ro n)
theorem mz_rv_of {n : Nat} {v : Value} (h : mz_rv n v = true) : ∀ k, v = .ref k → k < n ∨ 1000000 ≤ k := by
  intro k e
  subst e
  rcases (Bool.or_eq_true _ _).mp h with h | h
  · exact Or.inl (Nat.le_of_ble_eq_true h)
  · exact Or.inr (Nat.le_of_ble_eq_true h)
theorem mz_st_re {ad ad' : Nat → Nat} {n : Nat} (h : ∀ k, k < n ∨ 1000000 ≤ k → ad' k = ad k) {st : List Value} (hs : mz_rS n st = true) : mz_st ad' st = mz_st ad st := by
  refine List.map_congr_left fun v hv => mz_v_re h (mz_rv_of (List.all_eq_true.mp hs v hv))
theorem mz_L_re {ad ad' : Nat → Nat} {n nL : Nat} {ls : Array Slot} (h : ∀ k, k < n ∨ 1000000 ≤ k → ad' k = ad k) {L : List (Option Value)} (hs : mz_rL n L = true) (hL : mz_L ad ls nL L) : mz_L ad' ls nL L := by
  refine ⟨hL.1, hL.2.1, fun i v hi => ?_⟩
  rw [mz_v_re h (mz_rv_of (List.all_eq_true.mp hs (some v) (List.mem_of_getElem? hi)))]
  exact hL.2.2 i v hi
theorem mz_st_cat {ad : Nat → Nat} {st : List Value} : (mz_st ad st).map (fun v => v.category) = st.map (fun v => v.category) := by
  simp [mz_st, Function.comp_def, mz_v_cat]
theorem mz_nw {w : Cond} {args : Array Value} {s : State} (h : w.before args s = true) (hw : w.onTables = true := by rfl) : va_Nw w s := va_tabs hw rfl h
theorem mz_back {p : Program} {l : Launch} {e : Env} {Rm : Room} {s : State} {m : MethodId} {args : Array Value} {below : List Frame} {meth : Method} {c : Code} {D : va_G} {cid : FieldType → ClassId} {ad0 : Nat → Nat} {n0 : Nat} {A : Nat → Prop} {MC MS : Nat} {Z : State → Prop} {ad : Nat → Nat} {H : Heap} {locs : List Loc} {cells slots : Nat} {ls : Array Slot} {Λ : List mz_Kd} {R : mz_R} {I : mz_I} {J : mz_J} {mc ms mc1 ms1 pc : Nat} {st0 rest : List Value} {Q' : mz_P} {a : Array Value}
    (hA : ∀ q : Nat, s.heap.size ≤ q → A q)
    (hr : va_Run p l e Rm s m args below meth c H locs cells slots mc1 ms1 (F0 m pc ls st0) rest (mz_Qc D cid ad Λ.length (mz_A ad Λ.length H.size) Q' a) (mz_A ad Λ.length H.size)) (hD : mz_Dy s D cid ad0 n0 A MC MS (mc1 + mc) (ms1 + ms) ad H locs cells slots Λ R I J)
    (kk : ∀ (r : Option Value) (Λ' : List mz_Kd) (R' : mz_R) (I' : mz_I) (J' : mz_J) (ad' : Nat → Nat) (H' : Heap) (locs' : List Loc), Q' r Λ' R' I' J' → (∀ k, k < Λ.length ∨ 1000000 ≤ k → ad' k = ad k) → mz_Dy s D cid ad0 n0 A MC MS mc ms ad' H' locs' (cells + mc1) (slots + ms1) Λ' R' I' J' → W p l e Rm s m args below meth c H' locs' (cells + mc1) (slots + ms1) Z (F0 m (pc + 3) ls ((r.map (mz_v ad')).toList ++ rest))) : W p l e Rm s m args below meth c H locs cells slots Z (F0 m pc ls st0) := by
  obtain ⟨hD1, hD2, hP, hDD, hS, hm1, hm2, hC⟩ := hD
  have hsub : ∀ q, mz_A ad Λ.length H.size q → A q := by
    rintro q (⟨k, hk, rfl⟩ | hq)
    · exact mz_wA hDD hk
    · exact hA q (Nat.le_trans hS.1 hq)
  intro T hT X
  obtain ⟨v, st₀, t, T', Lc, h0, X', hL, e1, e2, ⟨⟨r, Λ', R', I', J', ad', hv, hQ, hag, hle, hP1, hD1', hC1⟩, hz, hk⟩, stp⟩ := hr T hT X
  cases hv
  rw [h0] at hz hk
  have hS' : va_S A s.heap T'.heap (locs ++ Lc) := by
    refine ⟨Nat.le_trans hS.1 (by rw [e1]; exact hz), fun q h1 h2 => ?_, fun q hq => ?_⟩
    · rw [e1, hk q (Nat.lt_of_lt_of_le h1 hS.1) (fun z => h2 (hsub q z))]
      exact hS.2.1 q h1 h2
    · rcases List.mem_append.mp hq with h | h
      · exact hS.2.2 q h
      · exact hsub _ (hL q h)
  have hDy : mz_Dy s D cid ad0 n0 A MC MS mc ms ad' T'.heap (locs ++ Lc) (cells + mc1) (slots + ms1) Λ' R' I' J' := by
    refine ⟨fun k hk => ?_, Nat.le_trans hD2 hle, by rw [e1]; exact hP1, ⟨hD1'.1, fun k q hk => hsub _ (hD1'.2 k q hk)⟩, hS', by omega, by omega, hC1⟩
    rw [hag k (hk.elim (fun h => Or.inl (Nat.lt_of_lt_of_le h hD2)) Or.inr)]
    exact hD1 k hk
  obtain ⟨t2, a1, b1⟩ := kk r Λ' R' I' J' ad' T'.heap (locs ++ Lc) hQ hag hDy T' rfl X'
  exact ⟨t2, stp t2 a1, b1⟩
section MZC
variable {y : mz_M} {d mc ms : Nat} {Q : mz_P} {pc n : Nat} {L : List (Option Value)} {st : List Value} {Λ : List mz_Kd} {R : mz_R} {I : mz_I} {J : mz_J} {k i ci j : Nat} {y' : mz_M} {d' mc1 ms1 np : Nat} {vs st0 : List Value} {Q' : mz_P}
theorem mz_pre {s : State} {D : va_G} {cid : FieldType → ClassId} {ad0 : Nat → Nat} {n0 : Nat} {A : Nat → Prop} {MC MS mc ms : Nat} {ad : Nat → Nat} {H : Heap} {locs : List Loc} {cells slots : Nat} (hK : va_K D vwCl (mz_tys cid) s) (hO : mz_RO ad0 A s s.heap) (hA : ∀ q : Nat, s.heap.size ≤ q → A q) (hD : mz_Dy s D cid ad0 n0 A MC MS mc ms ad H locs cells slots Λ R I J) (vs : List Value) : ∀ U : State, U.heap = H → s.WarmedH U.vm → mz_Pc D cid ad H.size vs Λ R I J (vs.map (mz_v ad)).toArray U := by
  intro U hU hW
  obtain ⟨hD1, hD2, hP, hDD, hS, hm1, hm2, hC⟩ := hD
  refine ⟨rfl, by rw [hU], by rw [hU]; exact hP, va_K.moved hW.alike hK, ⟨hDD.1, fun _ _ _ => trivial⟩, hC, hO.call hS hW hU ?_ (fun k hk => hD1 k (Or.inr hk))⟩
  rintro q (⟨k, hk, rfl⟩ | hq)
  · exact mz_wA hDD hk
  · exact hA q (Nat.le_trans hS.1 hq)
theorem x_callV (h : mz_d y.2.1 pc n 3 (.invokevirtual i)) (hm : mz_mk y' np) (hl : mz_ml y.1.cls i y'.1) (hv : mz_vi y') (hk : Λ[k]? = some (.inr ci)) (hci : mz_cn ci = y'.1.cls) (hne : y'.1.cls ≠ "") (hok : mz_Ok y' d' mc1 ms1 (.ref k :: vs) Λ R I J Q') (hst : st0 = vs.reverse ++ .ref k :: st) (hnp : vs.length = np) (hd' : d' + 1 ≤ d) (hsm : (st.map (fun v => v.category)).sum ≤ 8) (hLr : mz_rL Λ.length L = true) (hSr : mz_rS Λ.length st = true) (kk : ∀ (r : Option Value) (Λ' : List mz_Kd) (R' : mz_R) (I' : mz_I) (J' : mz_J), Q' r Λ' R' I' J' → mz_wp y d mc ms Q n L (r.toList ++ st) Λ' R' I' J') : mz_wp y d (mc1 + mc) (ms1 + ms) Q pc L st0 Λ R I J := by
  obtain ⟨hd, rfl⟩ := h
  intro p l e Rm s m args below meth c D cid ad0 n0 A MC MS Z hF hE ad H locs cells slots ls hD hL
  subst hst
  obtain ⟨hc1, hc2, ⟨hc3, hc4, hc5⟩, hc6⟩ := hm
  have hts := hF.1.2.2.2.2
  have hO5 := hF.2.2.2.2.2.2.1.2.2.2.2
  have hgd := mz_good hc1
  have hfr : (mz_rm d' mc1 ms1).frames + 1 ≤ Rm.frames ∧ 8 + (y'.2.2.1 + 11) + (mz_rm d' mc1 ms1).locals ≤ Rm.locals := by
    have h1 := hF.2.2.2.2.2.2.2.2.2.1
    have h2 := hF.2.2.2.2.2.2.2.2.2.2
    have h3 : (mz_rm d' mc1 ms1).frames = d' := rfl
    have h4 : (mz_rm d' mc1 ms1).locals = 64 * d' := rfl
    omega
  have hcs : cells + mc1 ≤ Rm.cells ∧ slots + ms1 ≤ Rm.slots := by
    have h1 := hF.2.2.2.2.2.2.2.1
    have h2 := hF.2.2.2.2.2.2.2.2.1
    have h3 := hD.2.2.2.2.2.1
    have h4 := hD.2.2.2.2.2.2.1
    omega
  have hroom : 2 * (F0 m pc ls (mz_st ad (vs.reverse ++ .ref k :: st))).monitorRoom + ((mz_st ad st).map fun v => v.category).sum ≤ 8 := lv_room (by rw [mz_st_cat]; exact hsm)
  have hr : va_Run p l e Rm s m args below meth c H locs cells slots mc1 ms1 (F0 m pc ls (mz_st ad (vs.reverse ++ .ref k :: st))) (mz_st ad st) (mz_Qc D cid ad Λ.length (mz_A ad Λ.length H.size) Q' (((.ref k :: vs)).map (mz_v ad)).toArray) (mz_A ad Λ.length H.size) := by
    rcases hl with hl | ⟨host, hl⟩
    · obtain ⟨q, hq, hqn⟩ : ∃ q : vw_C, vwCl[ci]? = some q ∧ q.1 = y'.1.cls := by
        unfold mz_cn at hci
        split at hci
        · rename_i r hr; exact ⟨r, hr, hci⟩
        · exact absurd hci.symm hne
      exact va_runV (As := vs.map (mz_v ad)) (rest := mz_st ad st) (b := ad k) ⟨hF.1.1, hF.1.2.1, hF.1.2.2.1, hF.1.2.2.2.1, hts⟩ (hok l D cid ad H.size) ⟨callB_of np hts hgd rfl rfl rfl (hts _ hc2) (hts _ hl) ⟨hc3, hc4, hc5⟩ hfr, hts _ hv.1, hts _ hv.2⟩ ⟨mz_blind, (by have := va_recv (s := s) hF.2.2.2.2.1 hD.2.2.1 (ci := ci) (q0 := k) hq (mz_w_get hk); rwa [hqn] at this), fun U hU hW => mz_pre hF.2.2.2.2.1 hF.2.2.2.2.2.2.1 hF.2.2.2.2.2.1 hD (.ref k :: vs) U hU hW⟩ rfl (by rw [List.length_map]; exact hnp) hL.1 (by simp [mz_st, mz_v]) hroom hd hcs
    · obtain ⟨q, hq, hqn⟩ : ∃ q : vw_C, vwCl[ci]? = some q ∧ q.1 = y'.1.cls := by
        unfold mz_cn at hci
        split at hci
        · rename_i r hr; exact ⟨r, hr, hci⟩
        · exact absurd hci.symm hne
      exact va_runVN (As := vs.map (mz_v ad)) (rest := mz_st ad st) (b := ad k) ⟨hF.1.1, hF.1.2.1, hF.1.2.2.1, hF.1.2.2.2.1, hts⟩ (hok l D cid ad H.size) ⟨va_cnB np hts hgd rfl rfl rfl (hO5 _ hl) (hts _ hc2) ⟨hc3, hc4, hc5⟩ hfr, hts _ hv.1, hts _ hv.2⟩ ⟨mz_blind, (by have := va_recv (s := s) hF.2.2.2.2.1 hD.2.2.1 (ci := ci) (q0 := k) hq (mz_w_get hk); rwa [hqn] at this), fun U hU hW => mz_pre hF.2.2.2.2.1 hF.2.2.2.2.2.2.1 hF.2.2.2.2.2.1 hD (.ref k :: vs) U hU hW⟩ rfl (by rw [List.length_map]; exact hnp) hL.1 (by simp [mz_st, mz_v]) hroom hd hcs
  refine mz_back (mc := mc) (ms := ms) hF.2.2.2.2.2.1 hr hD (fun r Λ' R' I' J' ad' H' locs' hQ hag hDy => ?_)
  · have K := kk r Λ' R' I' J' hQ _ _ _ _ _ _ _ _ _ _ _ _ _ _ _ _ _ _ hF hE _ _ _ _ _ _ hDy (mz_L_re hag hLr hL)
    have e : mz_st ad' (r.toList ++ st) = (r.map (mz_v ad')).toList ++ mz_st ad st := by
      rw [← mz_st_re hag hSr]
      cases r <;> rfl
    rw [e] at K
    exact K
theorem x_callS (h : mz_d y.2.1 pc n 3 (.invokestatic i)) (hm : mz_mk y' np) (hl : mz_ml y.1.cls i y'.1) (hv : Cond.static y'.1 ∈ mz_gt) (hok : mz_Ok y' d' mc1 ms1 vs Λ R I J Q') (hst : st0 = vs.reverse ++ st) (hnp : vs.length = np) (hd' : d' + 1 ≤ d) (hsm : (st.map (fun v => v.category)).sum ≤ 8) (hLr : mz_rL Λ.length L = true) (hSr : mz_rS Λ.length st = true) (kk : ∀ (r : Option Value) (Λ' : List mz_Kd) (R' : mz_R) (I' : mz_I) (J' : mz_J), Q' r Λ' R' I' J' → mz_wp y d mc ms Q n L (r.toList ++ st) Λ' R' I' J') : mz_wp y d (mc1 + mc) (ms1 + ms) Q pc L st0 Λ R I J := by
  obtain ⟨hd, rfl⟩ := h
  intro p l e Rm s m args below meth c D cid ad0 n0 A MC MS Z hF hE ad H locs cells slots ls hD hL
  subst hst
  obtain ⟨hc1, hc2, ⟨hc3, hc4, hc5⟩, hc6⟩ := hm
  have hts := hF.1.2.2.2.2
  have hO5 := hF.2.2.2.2.2.2.1.2.2.2.2
  have hgd := mz_good hc1
  have hfr : (mz_rm d' mc1 ms1).frames + 1 ≤ Rm.frames ∧ 8 + (y'.2.2.1 + 11) + (mz_rm d' mc1 ms1).locals ≤ Rm.locals := by
    have h1 := hF.2.2.2.2.2.2.2.2.2.1
    have h2 := hF.2.2.2.2.2.2.2.2.2.2
    have h3 : (mz_rm d' mc1 ms1).frames = d' := rfl
    have h4 : (mz_rm d' mc1 ms1).locals = 64 * d' := rfl
    omega
  have hcs : cells + mc1 ≤ Rm.cells ∧ slots + ms1 ≤ Rm.slots := by
    have h1 := hF.2.2.2.2.2.2.2.1
    have h2 := hF.2.2.2.2.2.2.2.2.1
    have h3 := hD.2.2.2.2.2.1
    have h4 := hD.2.2.2.2.2.2.1
    omega
  have hroom : 2 * (F0 m pc ls (mz_st ad (vs.reverse ++ st))).monitorRoom + ((mz_st ad st).map fun v => v.category).sum ≤ 8 := lv_room (by rw [mz_st_cat]; exact hsm)
  have hr : va_Run p l e Rm s m args below meth c H locs cells slots mc1 ms1 (F0 m pc ls (mz_st ad (vs.reverse ++ st))) (mz_st ad st) (mz_Qc D cid ad Λ.length (mz_A ad Λ.length H.size) Q' ((vs).map (mz_v ad)).toArray) (mz_A ad Λ.length H.size) := by
    rcases hl with hl | ⟨host, hl⟩
    · exact va_runS (As := vs.map (mz_v ad)) (rest := mz_st ad st) ⟨hF.1.1, hF.1.2.1, hF.1.2.2.1, hF.1.2.2.2.1, hts⟩ (hok l D cid ad H.size) ⟨callB_of np hts hgd rfl rfl rfl (hts _ hc2) (hts _ hl) ⟨hc3, hc4, hc5⟩ hfr, hts _ hv⟩ ⟨mz_blind, fun U hU hW => mz_pre hF.2.2.2.2.1 hF.2.2.2.2.2.2.1 hF.2.2.2.2.2.1 hD vs U hU hW⟩ rfl (by rw [List.length_map]; exact hnp) hL.1 (by simp [mz_st, mz_v]) hroom hd hcs
    · exact va_runSN (As := vs.map (mz_v ad)) (rest := mz_st ad st) ⟨hF.1.1, hF.1.2.1, hF.1.2.2.1, hF.1.2.2.2.1, hts⟩ (hok l D cid ad H.size) ⟨va_cnB np hts hgd rfl rfl rfl (hO5 _ hl) (hts _ hc2) ⟨hc3, hc4, hc5⟩ hfr, hts _ hv, trivial⟩ ⟨mz_blind, fun U hU hW => mz_pre hF.2.2.2.2.1 hF.2.2.2.2.2.2.1 hF.2.2.2.2.2.1 hD vs U hU hW⟩ rfl (by rw [List.length_map]; exact hnp) hL.1 (by simp [mz_st, mz_v]) hroom hd hcs
  refine mz_back (mc := mc) (ms := ms) hF.2.2.2.2.2.1 hr hD (fun r Λ' R' I' J' ad' H' locs' hQ hag hDy => ?_)
  · have K := kk r Λ' R' I' J' hQ _ _ _ _ _ _ _ _ _ _ _ _ _ _ _ _ _ _ hF hE _ _ _ _ _ _ hDy (mz_L_re hag hLr hL)
    have e : mz_st ad' (r.toList ++ st) = (r.map (mz_v ad')).toList ++ mz_st ad st := by
      rw [← mz_st_re hag hSr]
      cases r <;> rfl
    rw [e] at K
    exact K
theorem x_callI (h : mz_d y.2.1 pc n 3 (.invokespecial i)) (hm : mz_mk y' np) (hl : mz_ml y.1.cls i y'.1) (hv : Cond.instanceMethod y'.1 ∈ mz_gt) (hin : y'.1.name = "<init>") (hrn : y'.2.2.2 = none) (hok : mz_Ok y' d' mc1 ms1 (.ref k :: vs) Λ R I J Q') (hst : st0 = vs.reverse ++ .ref k :: st) (hnp : vs.length = np) (hd' : d' + 1 ≤ d) (hsm : (st.map (fun v => v.category)).sum ≤ 8) (hLr : mz_rL Λ.length L = true) (hSr : mz_rS Λ.length st = true) (kk : ∀ (r : Option Value) (Λ' : List mz_Kd) (R' : mz_R) (I' : mz_I) (J' : mz_J), Q' r Λ' R' I' J' → mz_wp y d mc ms Q n L (r.toList ++ st) Λ' R' I' J') : mz_wp y d (mc1 + mc) (ms1 + ms) Q pc L st0 Λ R I J := by
  obtain ⟨hd, rfl⟩ := h
  intro p l e Rm s m args below meth c D cid ad0 n0 A MC MS Z hF hE ad H locs cells slots ls hD hL
  subst hst
  obtain ⟨hc1, hc2, ⟨hc3, hc4, hc5⟩, hc6⟩ := hm
  have hts := hF.1.2.2.2.2
  have hO5 := hF.2.2.2.2.2.2.1.2.2.2.2
  have hgd := mz_good hc1
  have hfr : (mz_rm d' mc1 ms1).frames + 1 ≤ Rm.frames ∧ 8 + (y'.2.2.1 + 11) + (mz_rm d' mc1 ms1).locals ≤ Rm.locals := by
    have h1 := hF.2.2.2.2.2.2.2.2.2.1
    have h2 := hF.2.2.2.2.2.2.2.2.2.2
    have h3 : (mz_rm d' mc1 ms1).frames = d' := rfl
    have h4 : (mz_rm d' mc1 ms1).locals = 64 * d' := rfl
    omega
  have hcs : cells + mc1 ≤ Rm.cells ∧ slots + ms1 ≤ Rm.slots := by
    have h1 := hF.2.2.2.2.2.2.2.1
    have h2 := hF.2.2.2.2.2.2.2.2.1
    have h3 := hD.2.2.2.2.2.1
    have h4 := hD.2.2.2.2.2.2.1
    omega
  have hroom : 2 * (F0 m pc ls (mz_st ad (vs.reverse ++ .ref k :: st))).monitorRoom + ((mz_st ad st).map fun v => v.category).sum ≤ 8 := lv_room (by rw [mz_st_cat]; exact hsm)
  have hr : va_Run p l e Rm s m args below meth c H locs cells slots mc1 ms1 (F0 m pc ls (mz_st ad (vs.reverse ++ .ref k :: st))) (mz_st ad st) (mz_Qc D cid ad Λ.length (mz_A ad Λ.length H.size) Q' (((.ref k :: vs)).map (mz_v ad)).toArray) (mz_A ad Λ.length H.size) := by
    rcases hl with hl | ⟨host, hl⟩
    · exact va_runI (As := vs.map (mz_v ad)) (rest := mz_st ad st) (b := ad k) ⟨hF.1.1, hF.1.2.1, hF.1.2.2.1, hF.1.2.2.2.1, hts⟩ (hok l D cid ad H.size) ⟨callB_of np hts hgd (by unfold mz_ws; rw [hrn]) rfl rfl (hts _ hc2) (hts _ hl) ⟨hc3, hc4, hc5⟩ hfr, hin, hts _ hv⟩ ⟨mz_blind, fun U hU hW => mz_pre hF.2.2.2.2.1 hF.2.2.2.2.2.2.1 hF.2.2.2.2.2.1 hD (.ref k :: vs) U hU hW⟩ rfl (by rw [List.length_map]; exact hnp) hL.1 (by simp [mz_st, mz_v]) hroom hd hcs
    · exact va_runIN (As := vs.map (mz_v ad)) (rest := mz_st ad st) (b := ad k) ⟨hF.1.1, hF.1.2.1, hF.1.2.2.1, hF.1.2.2.2.1, hts⟩ (hok l D cid ad H.size) ⟨va_cnB np hts hgd (by unfold mz_ws; rw [hrn]) rfl rfl (hO5 _ hl) (hts _ hc2) ⟨hc3, hc4, hc5⟩ hfr, hin, hts _ hv⟩ ⟨mz_blind, fun U hU hW => mz_pre hF.2.2.2.2.1 hF.2.2.2.2.2.2.1 hF.2.2.2.2.2.1 hD (.ref k :: vs) U hU hW⟩ rfl (by rw [List.length_map]; exact hnp) hL.1 (by simp [mz_st, mz_v]) hroom hd hcs
  refine mz_back (mc := mc) (ms := ms) hF.2.2.2.2.2.1 hr hD (fun r Λ' R' I' J' ad' H' locs' hQ hag hDy => ?_)
  · have K := kk r Λ' R' I' J' hQ _ _ _ _ _ _ _ _ _ _ _ _ _ _ _ _ _ _ hF hE _ _ _ _ _ _ hDy (mz_L_re hag hLr hL)
    have e : mz_st ad' (r.toList ++ st) = (r.map (mz_v ad')).toList ++ mz_st ad st := by
      rw [← mz_st_re hag hSr]
      cases r <;> rfl
    rw [e] at K
    exact K
theorem x_callT (h : mz_d y.2.1 pc n 3 (.invokevirtual i)) (hm : mz_mk y' np) (hl : mz_ml y.1.cls i y'.1) (hv : mz_vi y') {sx : Nat} (hs : sx < 10) (hcT : y'.1.cls = "java/lang/String") (hok : mz_Ok y' d' mc1 ms1 (.ref (1000000 + sx) :: vs) Λ R I J Q') (hst : st0 = vs.reverse ++ .ref (1000000 + sx) :: st) (hnp : vs.length = np) (hd' : d' + 1 ≤ d) (hsm : (st.map (fun v => v.category)).sum ≤ 8) (hLr : mz_rL Λ.length L = true) (hSr : mz_rS Λ.length st = true) (kk : ∀ (r : Option Value) (Λ' : List mz_Kd) (R' : mz_R) (I' : mz_I) (J' : mz_J), Q' r Λ' R' I' J' → mz_wp y d mc ms Q n L (r.toList ++ st) Λ' R' I' J') : mz_wp y d (mc1 + mc) (ms1 + ms) Q pc L st0 Λ R I J := by
  obtain ⟨hd, rfl⟩ := h
  intro p l e Rm s m args below meth c D cid ad0 n0 A MC MS Z hF hE ad H locs cells slots ls hD hL
  subst hst
  obtain ⟨hc1, hc2, ⟨hc3, hc4, hc5⟩, hc6⟩ := hm
  have hts := hF.1.2.2.2.2
  have hO5 := hF.2.2.2.2.2.2.1.2.2.2.2
  have hgd := mz_good hc1
  have hfr : (mz_rm d' mc1 ms1).frames + 1 ≤ Rm.frames ∧ 8 + (y'.2.2.1 + 11) + (mz_rm d' mc1 ms1).locals ≤ Rm.locals := by
    have h1 := hF.2.2.2.2.2.2.2.2.2.1
    have h2 := hF.2.2.2.2.2.2.2.2.2.2
    have h3 : (mz_rm d' mc1 ms1).frames = d' := rfl
    have h4 : (mz_rm d' mc1 ms1).locals = 64 * d' := rfl
    omega
  have hcs : cells + mc1 ≤ Rm.cells ∧ slots + ms1 ≤ Rm.slots := by
    have h1 := hF.2.2.2.2.2.2.2.1
    have h2 := hF.2.2.2.2.2.2.2.2.1
    have h3 := hD.2.2.2.2.2.1
    have h4 := hD.2.2.2.2.2.2.1
    omega
  have hroom : 2 * (F0 m pc ls (mz_st ad (vs.reverse ++ .ref (1000000 + sx) :: st))).monitorRoom + ((mz_st ad st).map fun v => v.category).sum ≤ 8 := lv_room (by rw [mz_st_cat]; exact hsm)
  have hr : va_Run p l e Rm s m args below meth c H locs cells slots mc1 ms1 (F0 m pc ls (mz_st ad (vs.reverse ++ .ref (1000000 + sx) :: st))) (mz_st ad st) (mz_Qc D cid ad Λ.length (mz_A ad Λ.length H.size) Q' (((.ref (1000000 + sx) :: vs)).map (mz_v ad)).toArray) (mz_A ad Λ.length H.size) := by
    rcases hl with hl | ⟨host, hl⟩
    · exact va_runV (As := vs.map (mz_v ad)) (rest := mz_st ad st) (b := ad (1000000 + sx)) ⟨hF.1.1, hF.1.2.1, hF.1.2.2.1, hF.1.2.2.2.1, hts⟩ (hok l D cid ad H.size) ⟨callB_of np hts hgd rfl rfl rfl (hts _ hc2) (hts _ hl) ⟨hc3, hc4, hc5⟩ hfr, hts _ hv.1, hts _ hv.2⟩ ⟨mz_blind, (by rw [hcT, hD.1 _ (Or.inr (by omega))]; exact vk_recv (s := s) (i := sx) (adK := fun i => ad0 (1000000 + i)) hF.2.2.2.2.2.2.1.1 hs hD.2.2.2.2.1), fun U hU hW => mz_pre hF.2.2.2.2.1 hF.2.2.2.2.2.2.1 hF.2.2.2.2.2.1 hD (.ref (1000000 + sx) :: vs) U hU hW⟩ rfl (by rw [List.length_map]; exact hnp) hL.1 (by simp [mz_st, mz_v]) hroom hd hcs
    · exact va_runVN (As := vs.map (mz_v ad)) (rest := mz_st ad st) (b := ad (1000000 + sx)) ⟨hF.1.1, hF.1.2.1, hF.1.2.2.1, hF.1.2.2.2.1, hts⟩ (hok l D cid ad H.size) ⟨va_cnB np hts hgd rfl rfl rfl (hO5 _ hl) (hts _ hc2) ⟨hc3, hc4, hc5⟩ hfr, hts _ hv.1, hts _ hv.2⟩ ⟨mz_blind, (by rw [hcT, hD.1 _ (Or.inr (by omega))]; exact vk_recv (s := s) (i := sx) (adK := fun i => ad0 (1000000 + i)) hF.2.2.2.2.2.2.1.1 hs hD.2.2.2.2.1), fun U hU hW => mz_pre hF.2.2.2.2.1 hF.2.2.2.2.2.2.1 hF.2.2.2.2.2.1 hD (.ref (1000000 + sx) :: vs) U hU hW⟩ rfl (by rw [List.length_map]; exact hnp) hL.1 (by simp [mz_st, mz_v]) hroom hd hcs
  refine mz_back (mc := mc) (ms := ms) hF.2.2.2.2.2.1 hr hD (fun r Λ' R' I' J' ad' H' locs' hQ hag hDy => ?_)
  · have K := kk r Λ' R' I' J' hQ _ _ _ _ _ _ _ _ _ _ _ _ _ _ _ _ _ _ hF hE _ _ _ _ _ _ hDy (mz_L_re hag hLr hL)
    have e : mz_st ad' (r.toList ++ st) = (r.map (mz_v ad')).toList ++ mz_st ad st := by
      rw [← mz_st_re hag hSr]
      cases r <;> rfl
    rw [e] at K
    exact K
end MZC
