/-! ===== fact and parted of the law: what is thrown is caught ===== -/
def ezHh : List (Nat × Nat × Nat × Nat) := [((0 : Nat), (10 : Nat), (13 : Nat), (13 : Nat))]
def ez_ws (y : mz_M) : List Cond := .codeWith y.1 y.2.1 y.2.2.1 y.2.2.2 ezHh :: mz_gt
/-- the contract of a method that may throw inside: what exceptions need is known -/
def ezO (y : mz_M) (d : Nat) (vs : List Value) (M : dM) (r : Option Value) (M' : dM) : Prop := ∀ (l : Launch) (D : va_G) (cid : FieldType → ClassId) (ad : Nat → Nat) (sz : Nat), l.stackTraces = false → Met l y.1 (ez_ws y) (mz_rm d 1 6) (ezPc D cid ad sz vs LL (RR M.2.2) M.1 M.2.1) (mz_Qc D cid ad LL.length (mz_A ad LL.length sz) (mQ r M')) 1 6 (mz_A ad LL.length sz)
/-- the further facts in its body -/
def ezH : gz_C := fun p l e Rm s m args below meth c D cid ad0 n0 A MC MS Z => l.stackTraces = false ∧ c.exceptionTable.toList = tableOf ezHh ∧ ezX A s s.heap ∧ n0 = LL.length
theorem ez_ok {y : mz_M} {d : Nat} {vs : List Value} {M M' : dM} {r : Option Value} {L0 : List (Option Value)} (hy : plainName y.1.cls = true) (hlen : (mz_en vs).length ≤ y.2.2.1) (hL0 : mz_en vs ++ List.replicate (y.2.2.1 - (mz_en vs).length) none = L0) (h : gz_wp ezH y d 1 6 (mQ r M') 0 L0 [] LL (RR M.2.2) M.1 M.2.1) : ezO y d vs M r M' := by
  intro l D cid ad sz hl
  refine va_MetW (cc := y.2.1) (maxL := y.2.2.1) (ret := y.2.2.2) (hh := ezHh) hy rfl ?_
  intro p e s m args below meth c s₁ B hml hv
  obtain ⟨⟨rfl, hsz, hP, hK, hD0, hC, hO⟩, hX⟩ := hv
  have hts := atoms_spec (ws := ez_ws y) B.pre
  have hown : s.vm.findClass y.1.cls = some m.cls := findClass_of_methodNamed B.named
  have hin : meth.name = y.1.name := (name_of_methodNamed B.named B.method).1
  have htab : c.exceptionTable.toList = tableOf ezHh := vx_table (x := y.1) B (hts _ List.mem_cons_self)
  subst hsz
  have hl2 := lv_entry (vs.map (mz_v ad)) (n := y.2.2.1) (by rw [mz_en_len]; exact hlen)
  rw [lg_entry_eq]
  generalize (lg_sl (vs.map (mz_v ad)) ++ List.replicate (y.2.2.1 - (lg_sl (vs.map (mz_v ad))).length) Slot.unset).toArray = ls at hl2 ⊢
  have hD : va_D (mz_A ad LL.length s.heap.size) (mz_w cid ad (RR M.2.2) M.1 M.2.1 LL) := by
    refine ⟨hD0.1, fun k q hk => Or.inl ⟨k, ?_, ?_⟩⟩
    · have := (List.getElem?_eq_some_iff.mp hk).1
      rwa [mz_w_len] at this
    · have hlt := (List.getElem?_eq_some_iff.mp hk).1
      rw [mz_w_len] at hlt
      rw [mz_w_get (List.getElem?_eq_getElem hlt)] at hk
      cases hk
      rfl
  refine h p l e (mz_rm d 1 6) s m _ below meth c D cid ad LL.length (mz_A ad LL.length s.heap.size) 1 6 _ ⟨⟨B.exec, B.bytes, hml, hown, fun w hw => hts w (List.mem_cons_of_mem _ hw)⟩, B.notSynchronized, B.returns, hin, hK, fun q hq => Or.inr hq, hO, Nat.le_refl _, Nat.le_refl _, Nat.le_refl _, Nat.le_refl _⟩ ⟨hl, htab, hX, rfl⟩ ?_ ad s.heap [] 0 0 ls ⟨fun _ _ => rfl, Nat.le_refl _, hP, hD, va_S.rf, by omega, by omega, hC⟩ ?_
  · intro ad' H locs cells slots mc' ms' Λ' R' I' J' ls' pc' r hDy hRt hQ
    obtain ⟨g1, g2, g3, g4, g5, g6, g7, g8⟩ := hDy
    have hq : ∀ t : State, t.heap = H → s.WarmedH t.vm → mz_Qc D cid ad LL.length (mz_A ad LL.length s.heap.size) _ (vs.map (mz_v ad)).toArray s (.returned (r.map (mz_v ad'))) t := fun t ht hW => ⟨⟨r, Λ', R', I', J', ad', rfl, hQ, g1, g2, by rw [ht]; exact g3, g4, g8⟩, g5.F ht⟩
    refine W.widen (k := 1) (n := 6) (by omega) (by omega) ?_
    match r, hRt, hq with
    | none, hRt, hq => exact W.vret B.exec B.bytes (B.returns.trans hRt.2) hq g5.2.2 hRt.1
    | some (.int v), hRt, hq =>
      obtain ⟨hd, ty, hty, hn⟩ := hRt
      exact W.zret B.exec B.bytes (B.returns.trans hty) hn hq g5.2.2 hd
    | some (.long v), hRt, hq => exact W.lret B.exec B.bytes (B.returns.trans hRt.2) hq g5.2.2 hRt.1
  · subst hL0
    refine mz_L.of hl2 fun i v hi => ?_
    have hi2 : (mz_en vs)[i]? = some (some v) := by
      by_cases hlt : i < (mz_en vs).length
      · rwa [List.getElem?_append_left hlt] at hi
      · rw [List.getElem?_append_right (by omega), List.getElem?_replicate] at hi
        split at hi <;> cases hi
    have := mz_en_mem (ad := ad) vs 0 i v hi2
    rwa [Nat.zero_add] at this
theorem ezk_13 : Cond.classLink "AxesAtDawnLaw" 13 ezC ∈ mz_gt := mz_in 1414 (by decide +kernel) (by decide +kernel)
/-- a call that throws, caught at 13, laid into place 4 of the locals -/
theorem ez_callX {y : mz_M} {d i k ci np : Nat} {Q : mz_P} {L : List (Option Value)} {st st0 vs : List Value} {M : dM} {y' : mz_M} {d' : Nat} (hyc : y.1.cls = "AxesAtDawnLaw") (hd : decode y.2.1 5 = .ok (.invokevirtual i, 3)) (hm : mz_mk y' np) (hl : Cond.methodLink y.1.cls i y'.1 ∈ mz_gt) (hv : mz_vi y') (hk : LL[k]? = some (.inr ci)) (hci : mz_cn ci = y'.1.cls) (hne : y'.1.cls ≠ "")
    (hbad : ∀ (l : Launch) (D : va_G) (cid : FieldType → ClassId) (ad : Nat → Nat) (sz : Nat), l.stackTraces = false → vx_Met l y'.1 (mz_ws y') (mz_rm d' 1 6) (ezPc D cid ad sz (.ref k :: vs) LL (RR M.2.2) M.1 M.2.1) (fun _ _ _ _ => False) (ezXC D cid ad LL (RR M.2.2) M.1 M.2.1 (mz_A ad LL.length sz)) 1 6 (mz_A ad LL.length sz))
    (hst : st0 = vs.reverse ++ .ref k :: st) (hnp : vs.length = np) (hd' : d' + 1 ≤ d) (hsm : (st.map (fun v => v.category)).sum ≤ 8) (hLr : mz_rL 133 L = true)
    (hda : decode y.2.1 13 = .ok (.astore 4, 2)) (hn : 4 < y.2.2.1) (hp : ∀ o, L[4 - 1]? = some o → 4 = 0 ∨ mz_c2 o = false) (kk : gz_wp ezH y d 0 0 Q 15 (L.set 4 (some (.ref 900000))) [] LL (RR M.2.2) M.1 M.2.1) : gz_wp ezH y d 1 6 Q 5 L st0 LL (RR M.2.2) M.1 M.2.1 := by
  intro p l e Rm s m args below meth c D cid ad0 n0 A MC MS Z hF hG9 hE ad H locs cells slots ls hD hL
  have hG := hG9
  obtain ⟨hl9, htab, hX, hn0⟩ := hG9
  subst hst
  obtain ⟨hc1, hc2, ⟨hc3, hc4, hc5⟩, hc6⟩ := hm
  have hts := hF.1.2.2.2.2
  have hA := hF.2.2.2.2.2.1
  have hgd := mz_good hc1
  have hfr : (mz_rm d' 1 6).frames + 1 ≤ Rm.frames ∧ 8 + (y'.2.2.1 + 11) + (mz_rm d' 1 6).locals ≤ Rm.locals := by
    have h1 := hF.2.2.2.2.2.2.2.2.2.1
    have h2 := hF.2.2.2.2.2.2.2.2.2.2
    have h3 : (mz_rm d' 1 6).frames = d' := rfl
    have h4 : (mz_rm d' 1 6).locals = 64 * d' := rfl
    omega
  have hcs : cells + 1 ≤ Rm.cells ∧ slots + 6 ≤ Rm.slots := by
    have h1 := hF.2.2.2.2.2.2.2.1
    have h2 := hF.2.2.2.2.2.2.2.2.1
    have h3 := hD.2.2.2.2.2.1
    have h4 := hD.2.2.2.2.2.2.1
    omega
  have hroom : 2 * (F0 m 5 ls (mz_st ad (vs.reverse ++ .ref k :: st))).monitorRoom + ((mz_st ad st).map fun v => v.category).sum ≤ 8 := lv_room (by rw [mz_st_cat]; exact hsm)
  have hpre := fun U hU hW => mz_pre hF.2.2.2.2.1 hF.2.2.2.2.2.2.1 hA hD (.ref k :: vs) U hU hW
  obtain ⟨hD1, hD2, hP, hDD, hS, hm1, hm2, hC⟩ := hD
  have hsub : ∀ q, mz_A ad LL.length H.size q → A q := by
    rintro q (⟨k, hk, rfl⟩ | hq)
    · exact mz_wA hDD hk
    · exact hA q (Nat.le_trans hS.1 hq)
  have hr : vx_Run p l e Rm s m args below meth c H locs cells slots 1 6 (F0 m 5 ls (mz_st ad (vs.reverse ++ .ref k :: st))) (mz_st ad st) (fun _ _ _ => False) (ezXC D cid ad LL (RR M.2.2) M.1 M.2.1 (mz_A ad LL.length H.size)) (mz_A ad LL.length H.size) := by
    obtain ⟨q, hq, hqn⟩ : ∃ q : vw_C, vwCl[ci]? = some q ∧ q.1 = y'.1.cls := by
      unfold mz_cn at hci
      split at hci
      · rename_i r hr; exact ⟨r, hr, hci⟩
      · exact absurd hci.symm hne
    exact vx_runV (As := vs.map (mz_v ad)) (rest := mz_st ad st) (b := ad k) ⟨hF.1.1, hF.1.2.1, hF.1.2.2.1, hF.1.2.2.2.1, hts⟩ (hbad l D cid ad H.size hl9) ⟨callB_of np hts hgd rfl rfl rfl (hts _ hc2) (hts _ hl) ⟨hc3, hc4, hc5⟩ hfr, hts _ hv.1, hts _ hv.2⟩ ⟨ez_blind, (by have := va_recv (s := s) hF.2.2.2.2.1 hP (ci := ci) (q0 := k) hq (mz_w_get hk); rwa [hqn] at this), fun U hU hW => ⟨hpre U hU hW, by have := hX.call (A' := mz_A ad LL.length H.size) hS hW hU hsub; exact this⟩⟩ rfl (by rw [List.length_map]; exact hnp) hL.1 (by simp [mz_st, mz_v]) hroom hd hcs
  intro T hT X
  rcases hr T hT X with ⟨v, st₀, t, T', Lc, h0, X', hLc, e1, e2, hq, stp⟩ | ⟨q, st₀, t, T', Lc, E, ce, h0, X', hLc, e1, e2, ⟨rfl, hP1, hz, hkz⟩, hce, hcv, hcl, stp⟩
  · exact hq.elim
  rw [h0] at hz hkz
  have hS' : va_S A s.heap T'.heap (locs ++ Lc) := by
    refine ⟨Nat.le_trans hS.1 (by rw [e1]; exact hz), fun q h1 h2 => ?_, fun q hq => ?_⟩
    · rw [e1, hkz q (Nat.lt_of_lt_of_le h1 hS.1) (fun z => h2 (hsub q z))]
      exact hS.2.1 q h1 h2
    · rcases List.mem_append.mp hq with h | h
      · exact hS.2.2 q h
      · exact hsub _ (hLc q h)
  have hag : ∀ k, k < 133 ∨ 1000000 ≤ k → gz_ad ad 900000 q k = ad k := fun k hk => gz_ad_k (by omega)
  have hw := ez_w (cid := cid) (I := M.1) (J := M.2.1) hC (by rw [LL_len]; exact hag)
  have hDy : mz_Dy s D cid ad0 n0 A MC MS 0 0 (gz_ad ad 900000 q) T'.heap (locs ++ Lc) (cells + 1) (slots + 6) LL (RR M.2.2) M.1 M.2.1 := by
    refine ⟨fun k hk => ?_, hD2, ?_, ?_, hS', by omega, by omega, hC⟩
    · rw [hag k (by rw [hn0, LL_len] at hk; exact hk)]
      exact hD1 k hk
    · rw [hw, e1]; exact hP1
    · rw [hw]; exact hDD
  have hL2 : mz_L (gz_ad ad 900000 q) ls y.2.2.1 L := mz_L_re hag hLr hL
  have W1 : W p l e Rm s m args below meth c T'.heap (locs ++ Lc) (cells + 1) (slots + 6) Z (F0 m 13 ls [.ref q]) := by
    refine lv_astore (x := q) hF.1.1 hF.1.2.1 hda hL2.has hn rfl (fun ls' hl' => ?_)
    refine kk _ _ _ _ _ _ _ _ _ _ _ _ _ _ _ _ _ _ hF hG hE _ _ _ _ _ _ hDy (mz_L.st1 (v := .ref 900000) hp ?_)
    show lv_has ls' _ ((4, Value.ref (gz_ad ad 900000 q 900000)) :: _)
    rw [gz_ad_n]
    exact hl'
  have hown : s.vm.findClass "AxesAtDawnLaw" = some m.cls := by rw [← hyc]; exact hF.1.2.2.2.1
  have hin : T'.heap[q]? = some ce := by rw [e1]; exact hce
  have C := vx_catch (own := "AxesAtDawnLaw") (name := ezC) (E := ezC) (pc := 5) (rest := mz_st ad st) hown [] ⟨0, 10, 13, 13⟩ [] (by rw [htab]; rfl) (fun z hz => nomatch hz) (by decide +kernel) (by decide) (hts _ ezk_13) ((hX.2.2 (.castable ezC ezC) (by simp [ezBad])).use rfl) hin hcv hcl W1
  obtain ⟨t2, a1, b1⟩ := C T' rfl X'
  exact ⟨t2, stp.trans a1, b1⟩
