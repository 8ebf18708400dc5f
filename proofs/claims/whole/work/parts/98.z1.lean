/-! ===== fact and parted of the class, where they throw ===== -/
theorem ez_bad {y : mz_M} {d mc ms : Nat} {vs : List Value} {Λ : List mz_Kd} {R : mz_R} {I : mz_I} {J : mz_J} {L0 : List (Option Value)} (hy : plainName y.1.cls = true) (hlen : (mz_en vs).length ≤ y.2.2.1) (hL0 : mz_en vs ++ List.replicate (y.2.2.1 - (mz_en vs).length) none = L0) (h : gz_wp (ezZ Λ R I J) y d mc ms (fun _ _ _ _ _ => False) 0 L0 [] Λ R I J) (l : Launch) (D : va_G) (cid : FieldType → ClassId) (ad : Nat → Nat) (sz : Nat) (hl : l.stackTraces = false) : vx_Met l y.1 (mz_ws y) (mz_rm d mc ms) (ezPc D cid ad sz vs Λ R I J) (fun _ _ _ _ => False) (ezXC D cid ad Λ R I J (mz_A ad Λ.length sz)) mc ms (mz_A ad Λ.length sz) := by
  refine vx_ofW (cc := y.2.1) (maxL := y.2.2.1) (ret := y.2.2.2) hy rfl ?_
  intro p e s m args below meth c s₁ B hml ht hv
  obtain ⟨⟨rfl, hsz, hP, hK, hD0, hC, hO⟩, hX⟩ := hv
  have hts := atoms_spec (ws := mz_ws y) B.pre
  have hown : s.vm.findClass y.1.cls = some m.cls := findClass_of_methodNamed B.named
  have hin : meth.name = y.1.name := (name_of_methodNamed B.named B.method).1
  subst hsz
  have hl2 := lv_entry (vs.map (mz_v ad)) (n := y.2.2.1) (by rw [mz_en_len]; exact hlen)
  rw [lg_entry_eq]
  generalize (lg_sl (vs.map (mz_v ad)) ++ List.replicate (y.2.2.1 - (lg_sl (vs.map (mz_v ad))).length) Slot.unset).toArray = ls at hl2 ⊢
  have hD : va_D (mz_A ad Λ.length s.heap.size) (mz_w cid ad R I J Λ) := by
    refine ⟨hD0.1, fun k q hk => Or.inl ⟨k, ?_, ?_⟩⟩
    · have := (List.getElem?_eq_some_iff.mp hk).1
      rwa [mz_w_len] at this
    · have hlt := (List.getElem?_eq_some_iff.mp hk).1
      rw [mz_w_len] at hlt
      rw [mz_w_get (List.getElem?_eq_getElem hlt)] at hk
      cases hk
      rfl
  refine h p l e (mz_rm d mc ms) s m _ below meth c D cid ad Λ.length (mz_A ad Λ.length s.heap.size) mc ms _ ⟨⟨B.exec, B.bytes, hml, hown, fun w hw => hts w (List.mem_cons_of_mem _ hw)⟩, B.notSynchronized, B.returns, hin, hK, fun q hq => Or.inr hq, hO, Nat.le_refl _, Nat.le_refl _, Nat.le_refl _, Nat.le_refl _⟩ ⟨hl, ht, hX, rfl, rfl⟩ ?_ ad s.heap [] 0 0 ls ⟨fun _ _ => rfl, Nat.le_refl _, hP, hD, va_S.rf, by omega, by omega, hC⟩ ?_
  · intro ad' H locs cells slots mc' ms' Λ' R' I' J' ls' pc' r hDy hRt hQ
    exact hQ.elim
  · subst hL0
    refine mz_L.of hl2 fun i v hi => ?_
    have hi2 : (mz_en vs)[i]? = some (some v) := by
      by_cases hlt : i < (mz_en vs).length
      · rwa [List.getElem?_append_left hlt] at hi
      · rw [List.getElem?_append_right (by omega), List.getElem?_replicate] at hi
        split at hi <;> cases hi
    have := mz_en_mem (ad := ad) vs 0 i v hi2
    rwa [Nat.zero_add] at this
theorem gw_callS {P : gz_C} {y : mz_M} {d mc ms : Nat} {Q : mz_P} {pc n i : Nat} {L : List (Option Value)} {st : List Value} {M : dM} {y' : mz_M} {d' np : Nat} {vs st0 : List Value} {r : Option Value} {M' : dM} (hm : mz_mk y' np) (hv : Cond.static y'.1 ∈ mz_gt) (h : mz_d y.2.1 pc n 3 (.invokestatic i)) (hl : mz_ml y.1.cls i y'.1) (hok : mO y' d' vs M r M') (hst : st0 = vs.reverse ++ st) (hnp : vs.length = np) (hd' : d' + 1 ≤ d) (hsm : (st.map (fun v => v.category)).sum ≤ 8) (hLr : mz_rL 133 L = true) (hSr : mz_rS 133 st = true) (kk : gz_wp P y d mc ms Q n L (r.toList ++ st) LL (RR M'.2.2) M'.1 M'.2.1) : gz_wp P y d mc ms Q pc L st0 LL (RR M.2.2) M.1 M.2.1 := by
  have := gx_callS (P := P) (mc := mc) (ms := ms) (mc1 := 0) (ms1 := 0) h hm hl hv hok hst hnp hd' hsm (by rw [LL_len]; exact hLr) (by rw [LL_len]; exact hSr) (by
    rintro r' Λ' R' I' J' ⟨rfl, rfl, rfl, rfl, rfl⟩
    exact kk)
  rw [Nat.zero_add, Nat.zero_add] at this
  exact this
theorem ez_fact (a1 a2 : Int32) (M : dM) (h : ¬ (f_ax_within a1 (gI M 12 7) = true ∧ f_ax_within a2 20 = true)) : gz_wp (ezZ LL (RR M.2.2) M.1 M.2.1) mX11_fact 6 1 6 (fun _ _ _ _ _ => False) 0 [some (.ref 0), some (.int a1), some (.int a2)] [] LL (RR M.2.2) M.1 M.2.1 := by
  have thr : ∀ L, gz_wp (ezZ LL (RR M.2.2) M.1 M.2.1) mX11_fact 6 1 6 (fun _ _ _ _ _ => False) 23 L [] LL (RR M.2.2) M.1 M.2.1 := fun L => ez_thr rfl dX11_fact_23 (by decide +kernel) (by decide +kernel) (by decide +kernel) (by decide +kernel) (Nat.le_refl _)
  refine gx_iload_n (i := 1) (n := 1) ⟨dX11_fact_0, rfl⟩ rfl ?_
  refine gx_aload_n (i := 0) (n := 2) ⟨dX11_fact_1, rfl⟩ rfl ?_
  refine gx_getR (n := 5) ⟨dX11_fact_2, rfl⟩ kfX11_26 l_0 rfl (r_0_2 _) ?_
  refine gx_getI (n := 8) ⟨dX11_fact_5, rfl⟩ kfX11_146 l_12 rfl ?_
  refine gw_callS kmX11_within ksX11_within (n := 11) ⟨dX11_fact_8, rfl⟩ klX11_91 (ok_ax_within a1 (gI M 12 7) M rfl) (vs := [.int a1, .int (gI M 12 7)]) rfl rfl (Nat.le_of_ble_eq_true rfl) (by decide) rfl rfl ?_
  refine gx_if_eq (t := 23) (n := 14) ⟨dX11_fact_11, rfl, rfl⟩ (fun h0 => thr _) (fun h0 => ?_)
  have hc := bI_1 h0
  refine gx_iload_n (i := 2) (n := 15) ⟨dX11_fact_14, rfl⟩ rfl ?_
  refine gx_bipush (n := 17) (v := 20) ⟨dX11_fact_15, rfl⟩ kb_20 ?_
  refine gw_callS kmX11_within ksX11_within (n := 20) ⟨dX11_fact_17, rfl⟩ klX11_91 (ok_ax_within a2 20 M rfl) (vs := [.int a2, .int 20]) rfl rfl (Nat.le_of_ble_eq_true rfl) (by decide) rfl rfl ?_
  exact gx_if_ne (t := 33) (n := 23) ⟨dX11_fact_20, rfl, rfl⟩ (fun h0 => absurd ⟨hc, bI_1 h0⟩ h) (fun h0 => thr _)
theorem ez_parted (a1 a2 : Int32) (M : dM) (h : ¬ (f_mo_within a1 1 20 = true ∧ f_ax_within a2 2 = true)) : gz_wp (ezZ LL (RR M.2.2) M.1 M.2.1) mX11_parted 8 1 6 (fun _ _ _ _ _ => False) 0 [some (.ref 0), some (.int a1), some (.int a2), none, none, none, none] [] LL (RR M.2.2) M.1 M.2.1 := by
  have thr : ∀ L, gz_wp (ezZ LL (RR M.2.2) M.1 M.2.1) mX11_parted 8 1 6 (fun _ _ _ _ _ => False) 19 L [] LL (RR M.2.2) M.1 M.2.1 := fun L => ez_thrW rfl (by decide +kernel) (by decide +kernel) (by decide +kernel) (by decide +kernel) (by decide +kernel) (Nat.le_of_ble_eq_true rfl)
  refine gx_iload_n (i := 1) (n := 1) ⟨dX11_parted_0, rfl⟩ rfl ?_
  refine gx_iconst (n := 2) (v := 1) ⟨dX11_parted_1, rfl⟩ ki_1 ?_
  refine gx_icmp_lt (t := 19) (n := 5) ⟨dX11_parted_2, rfl, rfl⟩ (fun _ => thr _) (fun (c1 : ¬ (a1 < 1)) => ?_)
  refine gx_iload_n (i := 1) (n := 6) ⟨dX11_parted_5, rfl⟩ rfl ?_
  refine gx_bipush (n := 8) (v := 20) ⟨dX11_parted_6, rfl⟩ kb_20 ?_
  refine gx_icmp_gt (t := 19) (n := 11) ⟨dX11_parted_8, rfl, rfl⟩ (fun _ => thr _) (fun (c2 : ¬ (20 < a1)) => ?_)
  refine gx_iload_n (i := 2) (n := 12) ⟨dX11_parted_11, rfl⟩ rfl ?_
  refine gx_iconst (n := 13) (v := 2) ⟨dX11_parted_12, rfl⟩ ki_2 ?_
  refine gw_callS kmX11_within ksX11_within (n := 16) ⟨dX11_parted_13, rfl⟩ klX11_91 (ok_ax_within a2 2 M rfl) (vs := [.int a2, .int 2]) rfl rfl (Nat.le_of_ble_eq_true rfl) (by decide) rfl rfl ?_
  refine gx_if_ne (t := 30) (n := 19) ⟨dX11_parted_16, rfl, rfl⟩ (fun h0 => ?_) (fun h0 => thr _)
  rcases z_one20 a1 with ⟨z1, _⟩ | ⟨n, _, _, _, z2, _⟩
  · exact absurd z1 (fun z => z.elim c1 c2)
  · exact absurd ⟨z2, bI_1 h0⟩ h
