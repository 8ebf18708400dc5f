/-! ===== from the entry: the law comes to its end with true ===== -/
set_option maxRecDepth 100000 in
theorem whole_start {p : Program} {e : Env} {s : State} {m : MethodId} {below : List Frame} {meth : Method} {c : Code} (l : Launch) (hflags : l.flags = flags0) {b L : Nat} {xs : Nat → Int32} (hL : L ≤ 4096) (C0 : lw_At p s m meth c b L xs) : W p l e room_1 s m #[Value.ref b] below meth c s.heap [] 0 0 (lw_Z below #[Value.ref b] s) (entryFrame m ([Value.ref b] : List Value).toArray 7) := by
  obtain ⟨hx, hb, hr, hml, hown, hts, hX, hbl, hlk, hgv, hnm⟩ := C0
  have hg : ∀ w ∈ mz_gt, w.before #[Value.ref b] s = true := fun w hw => hts w (List.mem_filter.mp hw).1
  have hs : ∀ w ∈ wsF, w.before #[Value.ref b] s = true := flat_of_before _ hgv
  have hA : ∀ a : Nat, a < s.heap.size → ¬ s.heap.size ≤ a := fun a h h2 => by omega
  obtain ⟨D, cid, hK⟩ := ws_K hg
  obtain ⟨ad, had, hRO⟩ := ws_RO (A := fun q => s.heap.size ≤ q) b hts hs hA
  have hEX := ws_X (A := fun q => s.heap.size ≤ q) hts hs hA
  have hl : l.stackTraces = false := by
    show (!l.flags.contains noTraceFlag) = false
    rw [hflags]
    decide +kernel
  have hv : mz_v ad (.ref 4000000) = .ref b := by show Value.ref (ad 4000000) = _; rw [had]
  have hent := lv_entry [Value.ref b] (n := 7) (Nat.le_of_ble_eq_true rfl)
  rw [lg_entry_eq]
  generalize (lg_sl [Value.ref b] ++ List.replicate (7 - (lg_sl [Value.ref b]).length) Slot.unset).toArray = ls at hent ⊢
  refine law_start (b0 := b) (Ls := L) (xs := xs) (d := 1000) hL (by decide) p l e room_1 s m #[Value.ref b] below meth c D cid ad 0 (fun q => s.heap.size ≤ q) 601024 7293034 _ ⟨⟨hx, hb, hml, hown, hg⟩, hlk, hr, hnm, hK, fun q hq => hq, hRO, Nat.le_refl _, Nat.le_refl _, Nat.le_of_ble_eq_true rfl, Nat.le_of_ble_eq_true rfl⟩ ⟨hX, hbl, hA b hbl, had, hl, hEX⟩ ?_ ad s.heap [] 0 0 ls ⟨fun _ _ => rfl, Nat.zero_le _, ?_, ?_, va_S.rf, Nat.le_of_ble_eq_true rfl, Nat.le_of_ble_eq_true rfl, ?_⟩ ?_
  · intro ad' H locs cells slots mc ms Λ R I J ls' pc r hDy hRt hQ
    have hQ' : r = some (.int 1) := hQ
    subst hQ'
    have hd : decode code pc = .ok (.ireturn, 1) := hRt.1
    refine va_forget hDy.2.2.2.2.1.2.2 ?_
    have h1 := hDy.2.2.2.2.2.1
    have h2 := hDy.2.2.2.2.2.2.1
    refine W.widen (k := 601024) (n := 7293034) (by omega) (by omega) ?_
    exact lw_ret hx hb hr hlk hd
  · intro k q h
    have e0 : mz_w cid ad (kcR 0) (kcI 0) kcJ (kcL 0) = [] := rfl
    rw [e0] at h
    cases h
  · have e0 : mz_w cid ad (kcR 0) (kcI 0) kcJ (kcL 0) = [] := rfl
    rw [e0]
    exact ⟨fun i j p q h => (by cases h), fun k q h => (by cases h)⟩
  · intro k hk
    exact absurd hk (Nat.not_lt_zero k)
  · refine mz_L.of hent fun i v hi => ?_
    match i, hi with
    | 0, hi =>
      have hvv : v = .ref 4000000 := (Option.some.inj (Option.some.inj hi)).symm
      subst hvv
      rw [hv]
      exact List.mem_cons_self
    | 1, hi => cases hi
    | 2, hi => cases hi
    | 3, hi => cases hi
    | 4, hi => cases hi
    | 5, hi => cases hi
    | 6, hi => cases hi
    | k + 7, hi => cases hi
