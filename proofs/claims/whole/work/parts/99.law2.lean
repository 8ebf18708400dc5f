/-! ===== the law: fact and parted (made by genlaw2.py) ===== -/
/-- what exceptions need, in the law -/
def ezE : gz_C := fun p l e Rm s m args below meth c D cid ad0 n0 A MC MS Z => l.stackTraces = false ∧ ezX A s s.heap
theorem lx_callE {b0 Ls : Nat} {xs : Nat → Int32} {d mc ms pc n i np d' : Nat} {L : List (Option Value)} {Q : mz_P} {st st0 vs : List Value} {M M' : dM} {y' : mz_M} {r : Option Value} (h : mz_d cL_law pc n 3 (.invokestatic i)) (hm : Cond.codeWith y'.1 y'.2.1 y'.2.2.1 y'.2.2.2 ezHh ∈ mz_gt) (hdsc : y'.1.cls ≠ "java/lang/invoke/MethodHandle" ∧ y'.1.cls ≠ "java/lang/invoke/VarHandle" ∧ (parseMethodDescriptor y'.1.desc).map (fun d => d.parameters.length) = some np) (hl : Cond.methodLink yL_law.cls i y'.1 ∈ mz_gt) (hs : Cond.static y'.1 ∈ mz_gt) (hini : Cond.initialized y'.1.cls ∈ mz_gt) (hmax : y'.2.2.1 ≤ 45) (hok : ezO y' d' vs M r M') (hst : st0 = vs.reverse ++ st) (hnp : vs.length = np) (hd' : d' + 1 ≤ d) (hsm : (st.map (fun v => v.category)).sum ≤ 8) (hLr : mz_rL 133 L = true) (hSr : mz_rS 133 st = true) (kk : gz_wp (lawP ezE b0 Ls xs) lawY d mc ms Q n L (r.toList ++ st) LL (RR M'.2.2) M'.1 M'.2.1) : gz_wp (lawP ezE b0 Ls xs) lawY d (1 + mc) (6 + ms) Q pc L st0 LL (RR M.2.2) M.1 M.2.1 := by
  obtain ⟨hd, rfl⟩ := h
  intro p l e Rm s m args below meth c D cid ad0 n0 A MC MS Z hF hG9 hE ad H locs cells slots ls hD hL
  obtain ⟨hsX, hsb, hsA, hsa, hl9, hX⟩ := id hG9
  subst hst
  have hts := hF.1.2.2.2.2
  have hA := hF.2.2.2.2.2.1
  have hfr : (mz_rm d' 1 6).frames + 1 ≤ Rm.frames ∧ 8 + (y'.2.2.1 + 11) + (mz_rm d' 1 6).locals ≤ Rm.locals := by
    have h1 := hF.2.2.2.2.2.2.2.2.2.1
    have h2 := hF.2.2.2.2.2.2.2.2.2.2
    have h3 : (mz_rm d' 1 6).frames = d' := rfl
    have h4 : (mz_rm d' 1 6).locals = 64 * d' := rfl
    omega
  have hcs : cells + 1 ≤ Rm.cells ∧ slots + 6 ≤ Rm.slots := by
    have h1 := hF.2.2.2.2.2.2.2.1
    have h2 := hF.2.2.2.2.2.2.2.2.1
    have h3 := hD.2.2.2.2.2.1
    have h4 := hD.2.2.2.2.2.2.1
    omega
  have hroom : 2 * (F0 m pc ls (mz_st ad (vs.reverse ++ st))).monitorRoom + ((mz_st ad st).map fun v => v.category).sum ≤ 8 := lv_room (by rw [mz_st_cat]; exact hsm)
  have hpre := fun U hU hW => mz_pre hF.2.2.2.2.1 hF.2.2.2.2.2.2.1 hA hD vs U hU hW
  have hsub : ∀ q, mz_A ad LL.length H.size q → A q := by
    rintro q (⟨k, hk, rfl⟩ | hq)
    · exact mz_wA hD.2.2.2.1 hk
    · exact hA q (Nat.le_trans hD.2.2.2.2.1.1 hq)
  have hgood : GoodIn mz_gt (va_wsS yL_law.cls i y'.1 (ez_ws y')) := by
    intro w hw
    have h1 : w ∈ mz_gt := by
      simp only [va_wsS, ez_ws, List.cons_append, List.nil_append, List.mem_cons] at hw
      rcases hw with e | e | e | e | e
      · rw [e]; exact hl
      · rw [e]; exact hs
      · rw [e]; exact hini
      · rw [e]; exact hm
      · exact e
    exact ⟨h1, good_of_word (List.mem_filter.mp h1).2⟩
  have hr : va_Run p l e Rm s m args below meth c H locs cells slots 1 6 (F0 m pc ls (mz_st ad (vs.reverse ++ st))) (mz_st ad st) (mz_Qc D cid ad LL.length (mz_A ad LL.length H.size) (mQ r M') (vs.map (mz_v ad)).toArray) (mz_A ad LL.length H.size) :=
    vx_runSW (hh := ezHh) (As := vs.map (mz_v ad)) (rest := mz_st ad st) ⟨hF.1.1, hF.1.2.1, hF.1.2.2.1, hF.1.2.2.2.1, hts⟩ (hok l D cid ad H.size hl9) (vx_cwSW (ws' := mz_gt) np hts hgood rfl rfl rfl hdsc hfr) ⟨ez_blind, fun U hU hW => ⟨hpre U hU hW, by have := hX.call (A' := mz_A ad LL.length H.size) hD.2.2.2.2.1 hW hU hsub; rw [hU] at this ⊢; exact this⟩⟩ rfl (by rw [List.length_map]; exact hnp) hL.1 (by simp [mz_st]) hroom hd hcs
  refine mz_back (mc := mc) (ms := ms) hA hr hD (fun r1 Λ' R' I' J' ad' H' locs' hQ hag hDy => ?_)
  obtain ⟨rfl, rfl, rfl, rfl, rfl⟩ := hQ
  rw [LL_len] at hag
  have K := kk _ _ _ _ _ _ _ _ _ _ _ _ _ _ _ _ _ _ hF hG9 hE _ _ _ _ _ _ hDy (mz_L_re hag hLr hL)
  have e : mz_st ad' (r1.toList ++ st) = (r1.map (mz_v ad')).toList ++ mz_st ad st := by
    rw [← mz_st_re hag hSr]
    cases r1 <;> rfl
  rw [e] at K
  exact K
theorem lcE_ini : Cond.initialized yL_fact.cls ∈ mz_gt := mz_in 105 (by decide +kernel) (by decide +kernel)
theorem lcE_eq (a : Int64) : lg_cmp a a = 0 := (lc_eq a a).mpr rfl
section LAWE
variable {b0 Ls : Nat} {xs : Nat → Int32} {d mc ms n i : Nat} {A : sA} {Q : sQ} {v : Nat → Nat} {M : dM}
set_option maxRecDepth 100000 in
set_option maxHeartbeats 2000000 in
theorem lc_7 (h : INV n A Q v M) (hi : 8 * i + 8 ≤ Ls) (hL : Ls ≤ 4096) (hd : 100 ≤ d) (K : ∀ A Q v M2, INV n A Q v M2 → lawW (lawP ezE b0 Ls xs) d mc ms lawQ 1900 (lawL i) [] M2) : lawW (lawP ezE b0 Ls xs) d (1 + mc) (6 + ms) lawQ 689 (lawL i) [] M := by
  rcases st_fact2 h (xs (8 * i + 1)) (xs (8 * i + 2)) with ⟨b, M1, M2, h1, h2, h3, h4, h5⟩ | ⟨hb, h2⟩
  · refine gx_aload_n (i := 1) (n := 690) ⟨by decide +kernel, rfl⟩ rfl ?_
    refine lx_arg (i := i) 1 (by omega) hL (by decide +kernel) (by decide +kernel) (by decide +kernel) rfl (by decide +kernel) (by decide +kernel) rfl rfl ?_
    refine lx_arg (i := i) 2 (by omega) hL (by decide +kernel) (by decide +kernel) (by decide +kernel) rfl (by decide +kernel) (by decide +kernel) rfl rfl ?_
    refine gx_aload_n (i := 3) (n := 703) ⟨by decide +kernel, rfl⟩ rfl ?_
    refine lx_callE (i := 58) (np := 4) (y' := mL_fact) (vs := [.ref 0, .int (xs (8 * i + 1)), .int (xs (8 * i + 2)), .ref 132]) (n := 706) ⟨by decide +kernel, rfl⟩ (mz_in 1413 (by decide +kernel) (by decide +kernel)) (by decide +kernel) (mz_in 1411 (by decide +kernel) (by decide +kernel)) (mz_in 1412 (by decide +kernel) (by decide +kernel)) lcE_ini (Nat.le_of_ble_eq_true rfl) (ezlF_good _ _ b M M1 h1) rfl rfl (by omega) (by decide) rfl rfl ?_
    refine gx_istore (i := 5) (n := 708) ⟨by decide +kernel, rfl⟩ (Nat.le_of_ble_eq_true rfl) (fun o ho => by cases ho; exact Or.inr rfl) ?_
    refine gx_aload_n (i := 2) (n := 709) ⟨by decide +kernel, rfl⟩ rfl ?_
    refine lx_arg (i := i) 1 (by omega) hL (by decide +kernel) (by decide +kernel) (by decide +kernel) rfl (by decide +kernel) (by decide +kernel) rfl rfl ?_
    refine lx_arg (i := i) 2 (by omega) hL (by decide +kernel) (by decide +kernel) (by decide +kernel) rfl (by decide +kernel) (by decide +kernel) rfl rfl ?_
    refine gw_callV (vs := [.int (xs (8 * i + 1)), .int (xs (8 * i + 2))]) (n := 724) kmX12_fact kvX12_fact l_66 (by decide +kernel) (by decide +kernel) ⟨by decide +kernel, rfl⟩ klL_63 (ok_mo_fact _ _ (sJ M1 132 0 b.toInt64) h2) rfl rfl (by omega) (Nat.le_of_ble_eq_true rfl) rfl rfl ?_
    refine gx_istore (i := 6) (n := 726) ⟨by decide +kernel, rfl⟩ (Nat.le_of_ble_eq_true rfl) (fun o ho => by cases ho; exact Or.inr rfl) ?_
    refine gx_aload_n (i := 2) (n := 727) ⟨by decide +kernel, rfl⟩ rfl ?_
    refine gw_callV (vs := []) (n := 730) kmX12_thrown kvX12_thrown l_66 (by decide +kernel) (by decide +kernel) ⟨by decide +kernel, rfl⟩ klL_64 (ok_mo_thrown M2 h3) rfl rfl (by omega) (Nat.le_of_ble_eq_true rfl) rfl rfl ?_
    refine gx_iload (i := 5) (n := 732) ⟨by decide +kernel, rfl⟩ rfl ?_
    refine gx_icmp_eq (off := 5) (t := 737) (n := 735) ⟨by decide +kernel, rfl, by decide⟩ (fun _ => ?_) (fun z => absurd rfl z)
    refine gx_iload (i := 5) (n := 739) ⟨by decide +kernel, rfl⟩ rfl ?_
    refine gx_if_ne (off := 15) (t := 754) (n := 742) ⟨by decide +kernel, rfl, by decide⟩ (fun z => absurd rfl z) (fun _ => ?_)
    refine gx_aload_n (i := 3) (n := 743) ⟨by decide +kernel, rfl⟩ rfl ?_
    refine gx_iconst (i := 0) (v := nI 0) (n := 744) ⟨by decide +kernel, rfl⟩ (by decide) ?_
    refine gx_laload (N := 1) (n := 745) ⟨by decide +kernel, rfl⟩ l_132 (of_eq_true (z_in (n := 0) (by decide) (by decide))) ?_
    rw [z_cl (n := 0) (by omega), show M2.2.1 132 0 = b.toInt64 from h4]
    refine gx_iload (i := 6) (n := 747) ⟨by decide +kernel, rfl⟩ rfl ?_
    refine gx_i2l (n := 748) ⟨by decide +kernel, rfl⟩ ?_
    refine gx_lcmp (n := 749) ⟨by decide +kernel, rfl⟩ ?_
    rw [lcE_eq]
    refine gx_if_eq (off := 5) (t := 754) (n := 752) ⟨by decide +kernel, rfl, by decide⟩ (fun _ => ?_) (fun z => absurd rfl z)
    refine gx_goto (off := 1146) (t := 1900) (n := 757) ⟨by decide +kernel, rfl, by decide⟩ ?_
    exact gx_wk (L2 := lawL i) (by simp [wk, lawL]) (K A Q v M2 h5)
  · have h3 : f_mo_thrown (sI M 66 0 1) = 1 := by show gI (sI M 66 0 1) 66 0 = 1; rw [gI_sI, if_pos ⟨rfl, rfl⟩]
    refine gx_aload_n (i := 1) (n := 690) ⟨by decide +kernel, rfl⟩ rfl ?_
    refine lx_arg (i := i) 1 (by omega) hL (by decide +kernel) (by decide +kernel) (by decide +kernel) rfl (by decide +kernel) (by decide +kernel) rfl rfl ?_
    refine lx_arg (i := i) 2 (by omega) hL (by decide +kernel) (by decide +kernel) (by decide +kernel) rfl (by decide +kernel) (by decide +kernel) rfl rfl ?_
    refine gx_aload_n (i := 3) (n := 703) ⟨by decide +kernel, rfl⟩ rfl ?_
    refine lx_callE (i := 58) (np := 4) (y' := mL_fact) (vs := [.ref 0, .int (xs (8 * i + 1)), .int (xs (8 * i + 2)), .ref 132]) (n := 706) ⟨by decide +kernel, rfl⟩ (mz_in 1413 (by decide +kernel) (by decide +kernel)) (by decide +kernel) (mz_in 1411 (by decide +kernel) (by decide +kernel)) (mz_in 1412 (by decide +kernel) (by decide +kernel)) lcE_ini (Nat.le_of_ble_eq_true rfl) (ezlF_bad _ _ M hb) rfl rfl (by omega) (by decide) rfl rfl ?_
    refine gx_istore (i := 5) (n := 708) ⟨by decide +kernel, rfl⟩ (Nat.le_of_ble_eq_true rfl) (fun o ho => by cases ho; exact Or.inr rfl) ?_
    refine gx_aload_n (i := 2) (n := 709) ⟨by decide +kernel, rfl⟩ rfl ?_
    refine lx_arg (i := i) 1 (by omega) hL (by decide +kernel) (by decide +kernel) (by decide +kernel) rfl (by decide +kernel) (by decide +kernel) rfl rfl ?_
    refine lx_arg (i := i) 2 (by omega) hL (by decide +kernel) (by decide +kernel) (by decide +kernel) rfl (by decide +kernel) (by decide +kernel) rfl rfl ?_
    refine gw_callV (vs := [.int (xs (8 * i + 1)), .int (xs (8 * i + 2))]) (n := 724) kmX12_fact kvX12_fact l_66 (by decide +kernel) (by decide +kernel) ⟨by decide +kernel, rfl⟩ klL_63 (ok_mo_fact _ _ M h2) rfl rfl (by omega) (Nat.le_of_ble_eq_true rfl) rfl rfl ?_
    refine gx_istore (i := 6) (n := 726) ⟨by decide +kernel, rfl⟩ (Nat.le_of_ble_eq_true rfl) (fun o ho => by cases ho; exact Or.inr rfl) ?_
    refine gx_aload_n (i := 2) (n := 727) ⟨by decide +kernel, rfl⟩ rfl ?_
    refine gw_callV (vs := []) (n := 730) kmX12_thrown kvX12_thrown l_66 (by decide +kernel) (by decide +kernel) ⟨by decide +kernel, rfl⟩ klL_64 (ok_mo_thrown (sI M 66 0 1) h3) rfl rfl (by omega) (Nat.le_of_ble_eq_true rfl) rfl rfl ?_
    refine gx_iload (i := 5) (n := 732) ⟨by decide +kernel, rfl⟩ rfl ?_
    refine gx_icmp_eq (off := 5) (t := 737) (n := 735) ⟨by decide +kernel, rfl, by decide⟩ (fun _ => ?_) (fun z => absurd rfl z)
    refine gx_iload (i := 5) (n := 739) ⟨by decide +kernel, rfl⟩ rfl ?_
    refine gx_if_ne (off := 15) (t := 754) (n := 742) ⟨by decide +kernel, rfl, by decide⟩ (fun _ => ?_) (fun z => absurd z (by decide))
    refine gx_goto (off := 1146) (t := 1900) (n := 757) ⟨by decide +kernel, rfl, by decide⟩ ?_
    exact gx_wk (L2 := lawL i) (by simp [wk, lawL]) (K A Q v (sI M 66 0 1) (inv_0 h 1))
set_option maxRecDepth 100000 in
set_option maxHeartbeats 2000000 in
theorem lc_36 (h : INV n A Q v M) (hi : 8 * i + 8 ≤ Ls) (hL : Ls ≤ 4096) (hd : 100 ≤ d) (K : ∀ A Q v M2, INV n A Q v M2 → lawW (lawP ezE b0 Ls xs) d mc ms lawQ 1900 (lawL i) [] M2) : lawW (lawP ezE b0 Ls xs) d (1 + mc) (6 + ms) lawQ 1807 (lawL i) [] M := by
  rcases st_parted2 h (xs (8 * i + 1)) (xs (8 * i + 2)) with ⟨b, M1, M2, h1, h2, h3, h4, h5⟩ | ⟨hb, h2⟩
  · refine gx_aload_n (i := 1) (n := 1808) ⟨by decide +kernel, rfl⟩ rfl ?_
    refine lx_arg (i := i) 1 (by omega) hL (by decide +kernel) (by decide +kernel) (by decide +kernel) rfl (by decide +kernel) (by decide +kernel) rfl rfl ?_
    refine lx_arg (i := i) 2 (by omega) hL (by decide +kernel) (by decide +kernel) (by decide +kernel) rfl (by decide +kernel) (by decide +kernel) rfl rfl ?_
    refine gx_aload_n (i := 3) (n := 1821) ⟨by decide +kernel, rfl⟩ rfl ?_
    refine lx_callE (i := 185) (np := 4) (y' := mL_parted) (vs := [.ref 0, .int (xs (8 * i + 1)), .int (xs (8 * i + 2)), .ref 132]) (n := 1824) ⟨by decide +kernel, rfl⟩ (mz_in 1486 (by decide +kernel) (by decide +kernel)) (by decide +kernel) (mz_in 1484 (by decide +kernel) (by decide +kernel)) (mz_in 1485 (by decide +kernel) (by decide +kernel)) lcE_ini (Nat.le_of_ble_eq_true rfl) (ezlP_good _ _ b M M1 h1) rfl rfl (by omega) (by decide) rfl rfl ?_
    refine gx_istore (i := 5) (n := 1826) ⟨by decide +kernel, rfl⟩ (Nat.le_of_ble_eq_true rfl) (fun o ho => by cases ho; exact Or.inr rfl) ?_
    refine gx_aload_n (i := 2) (n := 1827) ⟨by decide +kernel, rfl⟩ rfl ?_
    refine lx_arg (i := i) 1 (by omega) hL (by decide +kernel) (by decide +kernel) (by decide +kernel) rfl (by decide +kernel) (by decide +kernel) rfl rfl ?_
    refine lx_arg (i := i) 2 (by omega) hL (by decide +kernel) (by decide +kernel) (by decide +kernel) rfl (by decide +kernel) (by decide +kernel) rfl rfl ?_
    refine gw_callV (vs := [.int (xs (8 * i + 1)), .int (xs (8 * i + 2))]) (n := 1842) kmX12_parted kvX12_parted l_66 (by decide +kernel) (by decide +kernel) ⟨by decide +kernel, rfl⟩ klL_187 (ok_mo_parted _ _ (sJ M1 132 0 b.toInt64) h2) rfl rfl (by omega) (Nat.le_of_ble_eq_true rfl) rfl rfl ?_
    refine gx_istore (i := 6) (n := 1844) ⟨by decide +kernel, rfl⟩ (Nat.le_of_ble_eq_true rfl) (fun o ho => by cases ho; exact Or.inr rfl) ?_
    refine gx_aload_n (i := 2) (n := 1845) ⟨by decide +kernel, rfl⟩ rfl ?_
    refine gw_callV (vs := []) (n := 1848) kmX12_thrown kvX12_thrown l_66 (by decide +kernel) (by decide +kernel) ⟨by decide +kernel, rfl⟩ klL_64 (ok_mo_thrown M2 h3) rfl rfl (by omega) (Nat.le_of_ble_eq_true rfl) rfl rfl ?_
    refine gx_iload (i := 5) (n := 1850) ⟨by decide +kernel, rfl⟩ rfl ?_
    refine gx_icmp_eq (off := 5) (t := 1855) (n := 1853) ⟨by decide +kernel, rfl, by decide⟩ (fun _ => ?_) (fun z => absurd rfl z)
    refine gx_iload (i := 5) (n := 1857) ⟨by decide +kernel, rfl⟩ rfl ?_
    refine gx_if_ne (off := 15) (t := 1872) (n := 1860) ⟨by decide +kernel, rfl, by decide⟩ (fun z => absurd rfl z) (fun _ => ?_)
    refine gx_aload_n (i := 3) (n := 1861) ⟨by decide +kernel, rfl⟩ rfl ?_
    refine gx_iconst (i := 0) (v := nI 0) (n := 1862) ⟨by decide +kernel, rfl⟩ (by decide) ?_
    refine gx_laload (N := 1) (n := 1863) ⟨by decide +kernel, rfl⟩ l_132 (of_eq_true (z_in (n := 0) (by decide) (by decide))) ?_
    rw [z_cl (n := 0) (by omega), show M2.2.1 132 0 = b.toInt64 from h4]
    refine gx_iload (i := 6) (n := 1865) ⟨by decide +kernel, rfl⟩ rfl ?_
    refine gx_i2l (n := 1866) ⟨by decide +kernel, rfl⟩ ?_
    refine gx_lcmp (n := 1867) ⟨by decide +kernel, rfl⟩ ?_
    rw [lcE_eq]
    refine gx_if_eq (off := 5) (t := 1872) (n := 1870) ⟨by decide +kernel, rfl, by decide⟩ (fun _ => ?_) (fun z => absurd rfl z)
    refine gx_goto (off := 28) (t := 1900) (n := 1875) ⟨by decide +kernel, rfl, by decide⟩ ?_
    exact gx_wk (L2 := lawL i) (by simp [wk, lawL]) (K A Q v M2 h5)
  · have h3 : f_mo_thrown (sI M 66 0 1) = 1 := by show gI (sI M 66 0 1) 66 0 = 1; rw [gI_sI, if_pos ⟨rfl, rfl⟩]
    refine gx_aload_n (i := 1) (n := 1808) ⟨by decide +kernel, rfl⟩ rfl ?_
    refine lx_arg (i := i) 1 (by omega) hL (by decide +kernel) (by decide +kernel) (by decide +kernel) rfl (by decide +kernel) (by decide +kernel) rfl rfl ?_
    refine lx_arg (i := i) 2 (by omega) hL (by decide +kernel) (by decide +kernel) (by decide +kernel) rfl (by decide +kernel) (by decide +kernel) rfl rfl ?_
    refine gx_aload_n (i := 3) (n := 1821) ⟨by decide +kernel, rfl⟩ rfl ?_
    refine lx_callE (i := 185) (np := 4) (y' := mL_parted) (vs := [.ref 0, .int (xs (8 * i + 1)), .int (xs (8 * i + 2)), .ref 132]) (n := 1824) ⟨by decide +kernel, rfl⟩ (mz_in 1486 (by decide +kernel) (by decide +kernel)) (by decide +kernel) (mz_in 1484 (by decide +kernel) (by decide +kernel)) (mz_in 1485 (by decide +kernel) (by decide +kernel)) lcE_ini (Nat.le_of_ble_eq_true rfl) (ezlP_bad _ _ M hb) rfl rfl (by omega) (by decide) rfl rfl ?_
    refine gx_istore (i := 5) (n := 1826) ⟨by decide +kernel, rfl⟩ (Nat.le_of_ble_eq_true rfl) (fun o ho => by cases ho; exact Or.inr rfl) ?_
    refine gx_aload_n (i := 2) (n := 1827) ⟨by decide +kernel, rfl⟩ rfl ?_
    refine lx_arg (i := i) 1 (by omega) hL (by decide +kernel) (by decide +kernel) (by decide +kernel) rfl (by decide +kernel) (by decide +kernel) rfl rfl ?_
    refine lx_arg (i := i) 2 (by omega) hL (by decide +kernel) (by decide +kernel) (by decide +kernel) rfl (by decide +kernel) (by decide +kernel) rfl rfl ?_
    refine gw_callV (vs := [.int (xs (8 * i + 1)), .int (xs (8 * i + 2))]) (n := 1842) kmX12_parted kvX12_parted l_66 (by decide +kernel) (by decide +kernel) ⟨by decide +kernel, rfl⟩ klL_187 (ok_mo_parted _ _ M h2) rfl rfl (by omega) (Nat.le_of_ble_eq_true rfl) rfl rfl ?_
    refine gx_istore (i := 6) (n := 1844) ⟨by decide +kernel, rfl⟩ (Nat.le_of_ble_eq_true rfl) (fun o ho => by cases ho; exact Or.inr rfl) ?_
    refine gx_aload_n (i := 2) (n := 1845) ⟨by decide +kernel, rfl⟩ rfl ?_
    refine gw_callV (vs := []) (n := 1848) kmX12_thrown kvX12_thrown l_66 (by decide +kernel) (by decide +kernel) ⟨by decide +kernel, rfl⟩ klL_64 (ok_mo_thrown (sI M 66 0 1) h3) rfl rfl (by omega) (Nat.le_of_ble_eq_true rfl) rfl rfl ?_
    refine gx_iload (i := 5) (n := 1850) ⟨by decide +kernel, rfl⟩ rfl ?_
    refine gx_icmp_eq (off := 5) (t := 1855) (n := 1853) ⟨by decide +kernel, rfl, by decide⟩ (fun _ => ?_) (fun z => absurd rfl z)
    refine gx_iload (i := 5) (n := 1857) ⟨by decide +kernel, rfl⟩ rfl ?_
    refine gx_if_ne (off := 15) (t := 1872) (n := 1860) ⟨by decide +kernel, rfl, by decide⟩ (fun _ => ?_) (fun z => absurd z (by decide))
    refine gx_goto (off := 28) (t := 1900) (n := 1875) ⟨by decide +kernel, rfl, by decide⟩ ?_
    exact gx_wk (L2 := lawL i) (by simp [wk, lawL]) (K A Q v (sI M 66 0 1) (inv_0 h 1))
end LAWE
