/-! ===== the small machine: cells by their places; methods by contracts over them ===== -/
abbrev mz_Kd : Type := (FieldType × Nat) ⊕ Nat
abbrev mz_R : Type := Nat → Nat → Option Nat
abbrev mz_I : Type := Nat → Nat → Int32
abbrev mz_J : Type := Nat → Nat → Int64
abbrev mz_M : Type := MethodName × ByteArray × Nat × Option FieldType
abbrev mz_P : Type := Option Value → List mz_Kd → mz_R → mz_I → mz_J → Prop
def mz_v (ad : Nat → Nat) (v : Value) : Value := match v with
  | .ref k => .ref (ad k)
  | w => w
def mz_nf (ci : Nat) : Nat := match vwCl[ci]? with
  | some r => r.2.2
  | none => 0
def mz_ty (ci : Nat) : Nat → FieldType := match ci with
  | 0 => tyX1
  | 1 => tyX2
  | 2 => tyX3
  | 3 => tyX4
  | 4 => tyX5
  | 5 => tyX6
  | 6 => tyX7
  | 7 => tyX8
  | 8 => tyX9
  | 9 => tyX10
  | 10 => tyX11
  | _ => tyX12
def mz_fv (ad : Nat → Nat) (R : mz_R) (I : mz_I) (J : mz_J) (k j : Nat) (ty : FieldType) : Value := match ty with
  | .long => .long (J k j)
  | .object _ => va_rf ((R k j).map ad)
  | .array _ => va_rf ((R k j).map ad)
  | _ => .int (I k j)
def mz_ar (I : mz_I) (J : mz_J) (k n : Nat) (ty : FieldType) : vp_A := match ty with
  | .long => (n, .inr (.inl (J k)))
  | _ => (n, .inl (I k))
def mz_fs (ad : Nat → Nat) (R : mz_R) (I : mz_I) (J : mz_J) (k ci : Nat) : List Value := (List.range (mz_nf ci)).map (fun j => mz_fv ad R I J k j (mz_ty ci j))
def mz_e (cid : FieldType → ClassId) (ad : Nat → Nat) (R : mz_R) (I : mz_I) (J : mz_J) (k : Nat) (q : mz_Kd) : va_E := match q with
  | .inl a => .inl (cid a.1, mz_ar I J k a.2 a.1)
  | .inr ci => .inr (ci, mz_fs ad R I J k ci)
def mz_w (cid : FieldType → ClassId) (ad : Nat → Nat) (R : mz_R) (I : mz_I) (J : mz_J) (Λ : List mz_Kd) : va_W := (List.range Λ.length).map (fun k => (ad k, mz_e cid ad R I J k (Λ.getD k (.inr 0))))
def mz_uI (I : mz_I) (k j : Nat) (x : Int32) : mz_I := fun a => if a = k then upd (I k) j x else I a
def mz_uJ (J : mz_J) (k j : Nat) (x : Int64) : mz_J := fun a => if a = k then vp_updL (J k) j x else J a
def mz_uR (R : mz_R) (k j : Nat) (x : Option Nat) : mz_R := fun a b => if a = k ∧ b = j then x else R a b
theorem mz_w_get {cid : FieldType → ClassId} {ad : Nat → Nat} {R : mz_R} {I : mz_I} {J : mz_J} {Λ : List mz_Kd} {k : Nat} {q : mz_Kd} (h : Λ[k]? = some q) : (mz_w cid ad R I J Λ)[k]? = some (ad k, mz_e cid ad R I J k q) := by
  obtain ⟨hk, e⟩ := List.getElem?_eq_some_iff.mp h
  simp [mz_w, hk, e]
theorem mz_w_len {cid : FieldType → ClassId} {ad : Nat → Nat} {R : mz_R} {I : mz_I} {J : mz_J} {Λ : List mz_Kd} : (mz_w cid ad R I J Λ).length = Λ.length := by simp [mz_w]
theorem mz_e_same {cid : FieldType → ClassId} {ad : Nat → Nat} {R R' : mz_R} {I I' : mz_I} {J J' : mz_J} {k : Nat} (q : mz_Kd) (hR : R' k = R k) (hI : I' k = I k) (hJ : J' k = J k) : mz_e cid ad R' I' J' k q = mz_e cid ad R I J k q := by
  cases q with
  | inl a =>
    obtain ⟨ty, n⟩ := a
    cases ty <;> simp [mz_e, mz_ar, hI, hJ]
  | inr ci => simp only [mz_e, mz_fs, mz_fv, hR, hI, hJ]
theorem mz_w_set {cid : FieldType → ClassId} {ad : Nat → Nat} {R R' : mz_R} {I I' : mz_I} {J J' : mz_J} {Λ : List mz_Kd} {k : Nat} {q : mz_Kd} (h : Λ[k]? = some q) (hR : ∀ i, i ≠ k → R' i = R i) (hI : ∀ i, i ≠ k → I' i = I i) (hJ : ∀ i, i ≠ k → J' i = J i) : (mz_w cid ad R I J Λ).set k (ad k, mz_e cid ad R' I' J' k q) = mz_w cid ad R' I' J' Λ := by
  have hk : k < Λ.length := (List.getElem?_eq_some_iff.mp h).1
  apply List.ext_getElem?
  intro i
  by_cases hi : i = k
  · subst hi
    rw [mz_w_get h, List.getElem?_set_self (by rw [mz_w_len]; exact hk)]
  · rw [List.getElem?_set_ne (fun e => hi e.symm)]
    cases hq : Λ[i]? with
    | none =>
      have : Λ.length ≤ i := List.getElem?_eq_none_iff.mp hq
      rw [List.getElem?_eq_none (by rw [mz_w_len]; exact this), List.getElem?_eq_none (by rw [mz_w_len]; exact this)]
    | some q' => rw [mz_w_get hq, mz_w_get hq, mz_e_same q' (hR i hi) (hI i hi) (hJ i hi)]
theorem mz_fs_get {ad : Nat → Nat} {R : mz_R} {I : mz_I} {J : mz_J} {k ci j : Nat} (hj : j < mz_nf ci) : (mz_fs ad R I J k ci)[j]? = some (mz_fv ad R I J k j (mz_ty ci j)) := by simp [mz_fs, hj]
theorem mz_fs_len {ad : Nat → Nat} {R : mz_R} {I : mz_I} {J : mz_J} {k ci : Nat} : (mz_fs ad R I J k ci).length = mz_nf ci := by simp [mz_fs]
theorem mz_fs_set {ad : Nat → Nat} {R R' : mz_R} {I I' : mz_I} {J J' : mz_J} {k ci j : Nat} {v : Value} (hv : mz_fv ad R' I' J' k j (mz_ty ci j) = v) (hR : ∀ b, b ≠ j → R' k b = R k b) (hI : ∀ b, b ≠ j → I' k b = I k b) (hJ : ∀ b, b ≠ j → J' k b = J k b) : (mz_fs ad R I J k ci).set j v = mz_fs ad R' I' J' k ci := by
  apply List.ext_getElem?
  intro i
  by_cases hl : i < mz_nf ci
  · by_cases hi : i = j
    · subst hi
      rw [List.getElem?_set_self (by rw [mz_fs_len]; exact hl), mz_fs_get hl, hv]
    · rw [List.getElem?_set_ne (fun e => hi e.symm), mz_fs_get hl, mz_fs_get hl]
      simp only [mz_fv, hR i hi, hI i hi, hJ i hi]
  · rw [List.getElem?_eq_none (by rw [List.length_set, mz_fs_len]; omega), List.getElem?_eq_none (by rw [mz_fs_len]; omega)]
def mz_gt : List Cond := lw_tbl.filter goodWord
def mz_ws (y : mz_M) : List Cond := .code y.1 y.2.1 y.2.2.1 y.2.2.2 :: mz_gt
def mz_rm (d mc ms : Nat) : Room := { frames := d, cells := mc, slots := ms, locals := 64 * d }
theorem mz_good {y : mz_M} (h : Cond.code y.1 y.2.1 y.2.2.1 y.2.2.2 ∈ mz_gt) : GoodIn mz_gt (mz_ws y) := by
  intro w hw
  have h1 : w ∈ mz_gt := by
    rcases List.mem_cons.mp hw with e | e
    · rw [e]; exact h
    · exact e
  exact ⟨h1, good_of_word (List.mem_filter.mp h1).2⟩
theorem mz_in {w : Cond} (i : Nat) (h : lw_tbl[i]? = some w) (hg : goodWord w = true) : w ∈ mz_gt := List.mem_filter.mpr ⟨List.mem_of_getElem? h, hg⟩
def mz_tys (cid : FieldType → ClassId) : List (ClassId × FieldType) := [(cid .int, .int), (cid .long, .long), (cid .boolean, .boolean), (cid .char, .char)]
def mz_ti (ty : FieldType) : Nat := match ty with
  | .int => 0
  | .long => 1
  | .boolean => 2
  | _ => 3
def mz_sx : List (String × Nat × String) := [("AxesAtDawn$Reader", 22, "rust under soil hole worn fresh turned clean age layer hour stone first alone dawn others twins"), ("AxesAtDawn$Reader", 122, "day finds barred odd pairs most dawns papers"), ("AxesAtDawn$Reader", 56, "bar odd rule since far enough"), ("AxesAtDawn$Reader", 88, "when"), ("AxesAtDawn$Reader", 110, "stops"), ("AxesAtDawn$Reader", 138, "and or"), ("AxesAtDawn$Reader", 156, "not"), ("AxesAtDawn$Reader", 181, "()<=+-*;"), ("AxesAtDawn", 151, "no such find or fact"), ("AxesAtDawn", 349, "no such worlds or answer")]
def mz_len : List Nat := [95, 44, 29, 4, 5, 6, 3, 8, 20, 24]
def mz_byt : List (List Int32) := [[114, 117, 115, 116, 32, 117, 110, 100, 101, 114, 32, 115, 111, 105, 108, 32, 104, 111, 108, 101, 32, 119, 111, 114, 110, 32, 102, 114, 101, 115, 104, 32, 116, 117, 114, 110, 101, 100, 32, 99, 108, 101, 97, 110, 32, 97, 103, 101, 32, 108, 97, 121, 101, 114, 32, 104, 111, 117, 114, 32, 115, 116, 111, 110, 101, 32, 102, 105, 114, 115, 116, 32, 97, 108, 111, 110, 101, 32, 100, 97, 119, 110, 32, 111, 116, 104, 101, 114, 115, 32, 116, 119, 105, 110, 115], [100, 97, 121, 32, 102, 105, 110, 100, 115, 32, 98, 97, 114, 114, 101, 100, 32, 111, 100, 100, 32, 112, 97, 105, 114, 115, 32, 109, 111, 115, 116, 32, 100, 97, 119, 110, 115, 32, 112, 97, 112, 101, 114, 115], [98, 97, 114, 32, 111, 100, 100, 32, 114, 117, 108, 101, 32, 115, 105, 110, 99, 101, 32, 102, 97, 114, 32, 101, 110, 111, 117, 103, 104], [119, 104, 101, 110], [115, 116, 111, 112, 115], [97, 110, 100, 32, 111, 114], [110, 111, 116], [40, 41, 60, 61, 43, 45, 42, 59], [110, 111, 32, 115, 117, 99, 104, 32, 102, 105, 110, 100, 32, 111, 114, 32, 102, 97, 99, 116], [110, 111, 32, 115, 117, 99, 104, 32, 119, 111, 114, 108, 100, 115, 32, 111, 114, 32, 97, 110, 115, 119, 101, 114]]
def mz_isN (w : Cond) : Bool := match w with
  | .methodLinkNest _ _ _ _ => true
  | .castable _ _ => true
  | _ => false
def mz_nl : List Cond := lw_tbl.filter mz_isN
theorem mz_N_warm {w : Cond} {s U : State} (hw : mz_isN w = true) (hW : s.WarmedH U.vm) (h : va_Nw w s) : va_Nw w U := by
  cases w <;> first | exact va_Nw.warmM hW h | exact va_Nw.warmC hW h | cases hw
theorem mz_N_same {w : Cond} {u U : State} (hw : mz_isN w = true) (hv : U.vm = u.vm) (h : va_Nw w u) : va_Nw w U := by
  cases w <;> first | exact va_Nw.same rfl hv.symm h | cases hw
theorem mz_nin {w : Cond} (i : Nat) (h : lw_tbl[i]? = some w) (hg : mz_isN w = true) : w ∈ mz_nl := List.mem_filter.mpr ⟨List.mem_of_getElem? h, hg⟩
def mz_RO (ad : Nat → Nat) (A : Nat → Prop) (U : State) (H : Heap) : Prop :=
  vk_S 10 mz_len mz_byt (fun i => ad (1000000 + i)) (fun i => ad (2000000 + i)) A U H ∧ (∀ (i : Nat) (q : String × Nat × String), mz_sx[i]? = some q → vk_R q.1 q.2.1 q.2.2 (ad (1000000 + i)) U) ∧ va_Z "java/lang/String" "COMPACT_STRINGS" "Z" (.int 1) A U H ∧ (va_Z "jdk/internal/util/Preconditions" "SIOOBE_FORMATTER" "Ljava/util/function/BiFunction;" .null A U H ∨ va_Z "jdk/internal/util/Preconditions" "SIOOBE_FORMATTER" "Ljava/util/function/BiFunction;" (.ref (ad 3000000)) A U H) ∧ ∀ w ∈ mz_nl, va_Nw w U
theorem mz_RO.call {ad ad' : Nat → Nat} {A A' : Nat → Prop} {s U : State} {H : Heap} {locs : List Loc} (h : mz_RO ad A s s.heap) (hS : va_S A s.heap H locs) (hW : s.WarmedH U.vm) (hU : U.heap = H) (hA : ∀ q, A' q → A q) (had : ∀ k, 1000000 ≤ k → ad' k = ad k) : mz_RO ad' A' U U.heap := by
  subst hU
  obtain ⟨h1, h2, h3, h4, h5⟩ := h
  have hq : ∀ a : Nat, a < s.heap.size → ¬ A a → U.heap[a]? = s.heap[a]? := hS.2.1
  have hf : (fun i => ad' (1000000 + i)) = (fun i => ad (1000000 + i)) := by funext i; exact had _ (by omega)
  have hg : (fun i => ad' (2000000 + i)) = (fun i => ad (2000000 + i)) := by funext i; exact had _ (by omega)
  refine ⟨?_, fun i q hi => ?_, ((h3.kept hq).moved hW.alike).narrow hA, ?_, fun w hw => mz_N_warm (List.mem_filter.mp hw).2 hW (h5 w hw)⟩
  · rw [hf, hg]
    exact ((h1.kept hq).moved hW.alike).narrow hA
  · rw [had _ (by omega)]
    exact vk_R.warm hW (h2 i q hi)
  · rw [had 3000000 (by omega)]
    exact h4.imp (fun z => ((z.kept hq).moved hW.alike).narrow hA) (fun z => ((z.kept hq).moved hW.alike).narrow hA)
theorem mz_RO.same {ad : Nat → Nat} {A : Nat → Prop} {u U : State} (h : mz_RO ad A u u.heap) (hv : U.vm = u.vm) (hh : U.heap = u.heap) : mz_RO ad A U U.heap := by
  obtain ⟨h1, h2, h3, h4, h5⟩ := h
  have hal : u.vm.Alike U.vm := by rw [hv]; exact Vm.Alike.refl _
  rw [hh]
  exact ⟨h1.moved hal, fun i q hi => vk_R.same hv (h2 i q hi), h3.moved hal, h4.imp (fun z => z.moved hal) (fun z => z.moved hal), fun w hw => mz_N_same (List.mem_filter.mp hw).2 hv (h5 w hw)⟩
def mz_L (ad : Nat → Nat) (ls : Array Slot) (nL : Nat) (L : List (Option Value)) : Prop := ls.size = nL ∧ lv_wf ls ∧ ∀ (i : Nat) (v : Value), L[i]? = some (some v) → ls[i]? = some (.val (mz_v ad v))
def mz_st (ad : Nat → Nat) (st : List Value) : List Value := st.map (mz_v ad)
def mz_lv (ad : Nat → Nat) (L : List (Option Value)) : List (Nat × Value) := (List.range L.length).filterMap (fun j => match L[j]? with
  | some (some v) => some (j, mz_v ad v)
  | _ => none)
theorem mz_lv_mem {ad : Nat → Nat} {L : List (Option Value)} {q : Nat × Value} : q ∈ mz_lv ad L ↔ ∃ v, L[q.1]? = some (some v) ∧ q.2 = mz_v ad v := by
  obtain ⟨j, u⟩ := q
  simp only [mz_lv, List.mem_filterMap, List.mem_range]
  constructor
  · rintro ⟨a, ha, h⟩
    split at h
    · rename_i v hv
      cases h
      exact ⟨v, hv, rfl⟩
    · cases h
  · rintro ⟨v, hv, rfl⟩
    refine ⟨j, (List.getElem?_eq_some_iff.mp hv).1, ?_⟩
    rw [hv]
theorem mz_L.has {ad : Nat → Nat} {ls : Array Slot} {nL : Nat} {L : List (Option Value)} (h : mz_L ad ls nL L) : lv_has ls nL (mz_lv ad L) := by
  refine ⟨h.1, h.2.1, fun q hq => ?_⟩
  obtain ⟨v, h1, h2⟩ := mz_lv_mem.mp hq
  rw [h.2.2 _ _ h1, h2]
theorem mz_L.of {ad : Nat → Nat} {ls : Array Slot} {nL : Nat} {l : List (Nat × Value)} {L : List (Option Value)} (h : lv_has ls nL l) (hl : ∀ (i : Nat) (v : Value), L[i]? = some (some v) → (i, mz_v ad v) ∈ l) : mz_L ad ls nL L := ⟨h.1, h.2.1, fun i v hi => h.2.2 _ (hl i v hi)⟩
def mz_c2 (o : Option Value) : Bool := match o with
  | some (.long _) => true
  | some (.double _) => true
  | _ => false
theorem mz_v_cat (ad : Nat → Nat) (v : Value) : (mz_v ad v).category = v.category := by cases v <;> rfl
theorem mz_c2_cat {v : Value} (h : mz_c2 (some v) = false) : v.category = 1 := by cases v <;> first | rfl | cases h
theorem mz_L.st1 {ad : Nat → Nat} {ls : Array Slot} {nL i : Nat} {L : List (Option Value)} {v : Value} (hp : ∀ o, L[i - 1]? = some o → i = 0 ∨ mz_c2 o = false) (h : lv_has ls nL ((i, mz_v ad v) :: (mz_lv ad L).filter (fun q => !(q.1 == i) && !(q.1 + 1 == i && q.2.category == 2)))) : mz_L ad ls nL (L.set i (some v)) := by
  refine mz_L.of h fun j u hj => ?_
  by_cases e : j = i
  · subst e
    by_cases hl : j < L.length
    · rw [List.getElem?_set_self hl] at hj
      cases hj
      exact List.mem_cons_self
    · rw [List.getElem?_eq_none (by rw [List.length_set]; omega)] at hj
      cases hj
  · rw [List.getElem?_set_ne (fun q => e q.symm)] at hj
    refine List.mem_cons_of_mem _ (List.mem_filter.mpr ⟨mz_lv_mem.mpr ⟨u, hj, rfl⟩, ?_⟩)
    have h2 : ¬ (j + 1 = i ∧ u.category = 2) := by
      rintro ⟨e1, e2⟩
      have : i - 1 = j := by omega
      rcases hp (some u) (by rw [this]; exact hj) with h0 | h0
      · omega
      · rw [mz_c2_cat h0] at e2
        cases e2
    simp only [mz_v_cat]
    by_cases e3 : j + 1 = i
    · have : u.category ≠ 2 := fun q => h2 ⟨e3, q⟩
      simp [e, this]
    · simp [e, e3]
theorem mz_L.st2 {ad : Nat → Nat} {ls : Array Slot} {nL i : Nat} {L : List (Option Value)} {v : Value} (hp : ∀ o, L[i - 1]? = some o → i = 0 ∨ mz_c2 o = false) (h : lv_has ls nL ((i, mz_v ad v) :: (mz_lv ad L).filter (fun q => !(q.1 == i) && (!(q.1 == i + 1) && !(q.1 + 1 == i && q.2.category == 2))))) : mz_L ad ls nL ((L.set i (some v)).set (i + 1) none) := by
  refine mz_L.of h fun j u hj => ?_
  have e1 : j ≠ i + 1 := by
    intro e
    subst e
    by_cases hl : i + 1 < (L.set i (some v)).length
    · rw [List.getElem?_set_self hl] at hj
      cases hj
    · rw [List.getElem?_eq_none (by rw [List.length_set]; omega)] at hj
      cases hj
  rw [List.getElem?_set_ne (fun q => e1 q.symm)] at hj
  by_cases e : j = i
  · subst e
    by_cases hl : j < L.length
    · rw [List.getElem?_set_self hl] at hj
      cases hj
      exact List.mem_cons_self
    · rw [List.getElem?_eq_none (by rw [List.length_set]; omega)] at hj
      cases hj
  · rw [List.getElem?_set_ne (fun q => e q.symm)] at hj
    refine List.mem_cons_of_mem _ (List.mem_filter.mpr ⟨mz_lv_mem.mpr ⟨u, hj, rfl⟩, ?_⟩)
    have h2 : ¬ (j + 1 = i ∧ u.category = 2) := by
      rintro ⟨e1, e2⟩
      have : i - 1 = j := by omega
      rcases hp (some u) (by rw [this]; exact hj) with h0 | h0
      · omega
      · rw [mz_c2_cat h0] at e2
        cases e2
    simp only [mz_v_cat]
    by_cases e3 : j + 1 = i
    · have : u.category ≠ 2 := fun q => h2 ⟨e3, q⟩
      simp [e, e1, this]
    · simp [e, e1, e3]
theorem mz_v_re {ad ad' : Nat → Nat} {n : Nat} (h : ∀ k, k < n ∨ 1000000 ≤ k → ad' k = ad k) {v : Value} (hv : ∀ k, v = .ref k → k < n ∨ 1000000 ≤ k) : mz_v ad' v = mz_v ad v := by
  cases v with
  | ref k => exact congrArg Value.ref (h k (hv k rfl))
  | _ => rfl

def mz_Fx (y : mz_M) (d MC MS : Nat) (p : Program) (Rm : Room) (s : State) (m : MethodId) (args : Array Value) (meth : Method) (c : Code) (D : va_G) (cid : FieldType → ClassId) (ad0 : Nat → Nat) (A : Nat → Prop) : Prop :=
  (p.tables.exec = Jvm.exec ∧ c.code = y.2.1 ∧ c.maxLocals = y.2.2.1 ∧ s.vm.findClass y.1.cls = some m.cls ∧ (∀ w ∈ mz_gt, w.before args s = true)) ∧ meth.locks = false ∧ meth.sig.returnType = y.2.2.2 ∧ meth.name = y.1.name ∧ va_K D vwCl (mz_tys cid) s ∧ (∀ q : Nat, s.heap.size ≤ q → A q) ∧ mz_RO ad0 A s s.heap ∧ MC ≤ Rm.cells ∧ MS ≤ Rm.slots ∧ d ≤ Rm.frames ∧ 64 * d ≤ Rm.locals
def mz_cl (R : mz_R) (Λ : List mz_Kd) : Prop := ∀ (k : Nat), k < Λ.length → ∀ (j q : Nat), R k j = some q → q < Λ.length ∨ 1000000 ≤ q
def mz_Dy (s : State) (D : va_G) (cid : FieldType → ClassId) (ad0 : Nat → Nat) (n0 : Nat) (A : Nat → Prop) (MC MS mc ms : Nat) (ad : Nat → Nat) (H : Heap) (locs : List Loc) (cells slots : Nat) (Λ : List mz_Kd) (R : mz_R) (I : mz_I) (J : mz_J) : Prop :=
  (∀ k, k < n0 ∨ 1000000 ≤ k → ad k = ad0 k) ∧ n0 ≤ Λ.length ∧ va_P D vwCl (mz_w cid ad R I J Λ) H ∧ va_D A (mz_w cid ad R I J Λ) ∧ va_S A s.heap H locs ∧ cells + mc ≤ MC ∧ slots + ms ≤ MS ∧ mz_cl R Λ
def mz_Rt (y : mz_M) (pc : Nat) (r : Option Value) : Prop := match r with
  | none => decode y.2.1 pc = .ok (.return_, 1) ∧ y.2.2.2 = none
  | some (.int v) => decode y.2.1 pc = .ok (.ireturn, 1) ∧ ∃ ty, y.2.2.2 = some ty ∧ narrow ty (.int v) = .int v
  | some (.long _) => decode y.2.1 pc = .ok (.lreturn, 1) ∧ y.2.2.2 = some .long
  | _ => False
def mz_End (y : mz_M) (Q : mz_P) (p : Program) (l : Launch) (e : Env) (Rm : Room) (s : State) (m : MethodId) (args : Array Value) (below : List Frame) (meth : Method) (c : Code) (D : va_G) (cid : FieldType → ClassId) (ad0 : Nat → Nat) (n0 : Nat) (A : Nat → Prop) (MC MS : Nat) (Z : State → Prop) : Prop :=
  ∀ (ad : Nat → Nat) (H : Heap) (locs : List Loc) (cells slots mc ms : Nat) (Λ : List mz_Kd) (R : mz_R) (I : mz_I) (J : mz_J) (ls : Array Slot) (pc : Nat) (r : Option Value), mz_Dy s D cid ad0 n0 A MC MS mc ms ad H locs cells slots Λ R I J → mz_Rt y pc r → Q r Λ R I J → W p l e Rm s m args below meth c H locs cells slots Z (F0 m pc ls (r.map (mz_v ad)).toList)
/-- from the place pc of method y, with locals L, stack st, cells Λ R I J: it comes to its end, with Q -/
def mz_wp (y : mz_M) (d mc ms : Nat) (Q : mz_P) (pc : Nat) (L : List (Option Value)) (st : List Value) (Λ : List mz_Kd) (R : mz_R) (I : mz_I) (J : mz_J) : Prop :=
  ∀ (p : Program) (l : Launch) (e : Env) (Rm : Room) (s : State) (m : MethodId) (args : Array Value) (below : List Frame) (meth : Method) (c : Code) (D : va_G) (cid : FieldType → ClassId) (ad0 : Nat → Nat) (n0 : Nat) (A : Nat → Prop) (MC MS : Nat) (Z : State → Prop), mz_Fx y d MC MS p Rm s m args meth c D cid ad0 A → mz_End y Q p l e Rm s m args below meth c D cid ad0 n0 A MC MS Z → ∀ (ad : Nat → Nat) (H : Heap) (locs : List Loc) (cells slots : Nat) (ls : Array Slot), mz_Dy s D cid ad0 n0 A MC MS mc ms ad H locs cells slots Λ R I J → mz_L ad ls y.2.2.1 L → W p l e Rm s m args below meth c H locs cells slots Z (F0 m pc ls (mz_st ad st))
def mz_d (c : ByteArray) (pc n len : Nat) (op : Instr) : Prop := decode c pc = .ok (op, len) ∧ pc + len = n
def mz_b (c : ByteArray) (pc n t : Nat) (off : Int) (op : Instr) : Prop := decode c pc = .ok (op, 3) ∧ pc + 3 = n ∧ (pc : Int) + off = (t : Int)
section MZR
variable {y : mz_M} {d mc ms : Nat} {Q : mz_P} {pc n : Nat} {L : List (Option Value)} {st : List Value} {Λ : List mz_Kd} {R : mz_R} {I : mz_I} {J : mz_J}
theorem x_iadd {a b : Int32} (h : mz_d y.2.1 pc n 1 .iadd)  (k : mz_wp y d mc ms Q n L (.int (a + b) :: st) Λ R I J) : mz_wp y d mc ms Q pc L (.int b :: .int a :: st) Λ R I J := by
  obtain ⟨hd, rfl⟩ := h
  intro p l e Rm s m args below meth c D cid ad0 n0 A MC MS Z hF hE ad H locs cells slots ls hD hL
  exact lv_iadd hF.1.1 hF.1.2.1  hd  (k _ _ _ _ _ _ _ _ _ _ _ _ _ _ _ _ _ _ hF hE _ _ _ _ _ _ hD hL)
theorem x_isub {a b : Int32} (h : mz_d y.2.1 pc n 1 .isub)  (k : mz_wp y d mc ms Q n L (.int (a - b) :: st) Λ R I J) : mz_wp y d mc ms Q pc L (.int b :: .int a :: st) Λ R I J := by
  obtain ⟨hd, rfl⟩ := h
  intro p l e Rm s m args below meth c D cid ad0 n0 A MC MS Z hF hE ad H locs cells slots ls hD hL
  exact lv_isub hF.1.1 hF.1.2.1  hd  (k _ _ _ _ _ _ _ _ _ _ _ _ _ _ _ _ _ _ hF hE _ _ _ _ _ _ hD hL)
theorem x_imul {a b : Int32} (h : mz_d y.2.1 pc n 1 .imul)  (k : mz_wp y d mc ms Q n L (.int (a * b) :: st) Λ R I J) : mz_wp y d mc ms Q pc L (.int b :: .int a :: st) Λ R I J := by
  obtain ⟨hd, rfl⟩ := h
  intro p l e Rm s m args below meth c D cid ad0 n0 A MC MS Z hF hE ad H locs cells slots ls hD hL
  exact lv_imul hF.1.1 hF.1.2.1  hd  (k _ _ _ _ _ _ _ _ _ _ _ _ _ _ _ _ _ _ hF hE _ _ _ _ _ _ hD hL)
theorem x_iand {a b : Int32} (h : mz_d y.2.1 pc n 1 .iand)  (k : mz_wp y d mc ms Q n L (.int (a &&& b) :: st) Λ R I J) : mz_wp y d mc ms Q pc L (.int b :: .int a :: st) Λ R I J := by
  obtain ⟨hd, rfl⟩ := h
  intro p l e Rm s m args below meth c D cid ad0 n0 A MC MS Z hF hE ad H locs cells slots ls hD hL
  exact lv_iand hF.1.1 hF.1.2.1  hd  (k _ _ _ _ _ _ _ _ _ _ _ _ _ _ _ _ _ _ hF hE _ _ _ _ _ _ hD hL)
theorem x_ior {a b : Int32} (h : mz_d y.2.1 pc n 1 .ior)  (k : mz_wp y d mc ms Q n L (.int (a ||| b) :: st) Λ R I J) : mz_wp y d mc ms Q pc L (.int b :: .int a :: st) Λ R I J := by
  obtain ⟨hd, rfl⟩ := h
  intro p l e Rm s m args below meth c D cid ad0 n0 A MC MS Z hF hE ad H locs cells slots ls hD hL
  exact lv_ior hF.1.1 hF.1.2.1  hd  (k _ _ _ _ _ _ _ _ _ _ _ _ _ _ _ _ _ _ hF hE _ _ _ _ _ _ hD hL)
theorem x_ixor {a b : Int32} (h : mz_d y.2.1 pc n 1 .ixor)  (k : mz_wp y d mc ms Q n L (.int (a ^^^ b) :: st) Λ R I J) : mz_wp y d mc ms Q pc L (.int b :: .int a :: st) Λ R I J := by
  obtain ⟨hd, rfl⟩ := h
  intro p l e Rm s m args below meth c D cid ad0 n0 A MC MS Z hF hE ad H locs cells slots ls hD hL
  exact lv_ixor hF.1.1 hF.1.2.1  hd  (k _ _ _ _ _ _ _ _ _ _ _ _ _ _ _ _ _ _ hF hE _ _ _ _ _ _ hD hL)
theorem x_ladd {a b : Int64} (h : mz_d y.2.1 pc n 1 .ladd)  (k : mz_wp y d mc ms Q n L (.long (a + b) :: st) Λ R I J) : mz_wp y d mc ms Q pc L (.long b :: .long a :: st) Λ R I J := by
  obtain ⟨hd, rfl⟩ := h
  intro p l e Rm s m args below meth c D cid ad0 n0 A MC MS Z hF hE ad H locs cells slots ls hD hL
  exact lv_ladd hF.1.1 hF.1.2.1  hd  (k _ _ _ _ _ _ _ _ _ _ _ _ _ _ _ _ _ _ hF hE _ _ _ _ _ _ hD hL)
theorem x_lsub {a b : Int64} (h : mz_d y.2.1 pc n 1 .lsub)  (k : mz_wp y d mc ms Q n L (.long (a - b) :: st) Λ R I J) : mz_wp y d mc ms Q pc L (.long b :: .long a :: st) Λ R I J := by
  obtain ⟨hd, rfl⟩ := h
  intro p l e Rm s m args below meth c D cid ad0 n0 A MC MS Z hF hE ad H locs cells slots ls hD hL
  exact lv_lsub hF.1.1 hF.1.2.1  hd  (k _ _ _ _ _ _ _ _ _ _ _ _ _ _ _ _ _ _ hF hE _ _ _ _ _ _ hD hL)
theorem x_lmul {a b : Int64} (h : mz_d y.2.1 pc n 1 .lmul)  (k : mz_wp y d mc ms Q n L (.long (a * b) :: st) Λ R I J) : mz_wp y d mc ms Q pc L (.long b :: .long a :: st) Λ R I J := by
  obtain ⟨hd, rfl⟩ := h
  intro p l e Rm s m args below meth c D cid ad0 n0 A MC MS Z hF hE ad H locs cells slots ls hD hL
  exact lv_lmul hF.1.1 hF.1.2.1  hd  (k _ _ _ _ _ _ _ _ _ _ _ _ _ _ _ _ _ _ hF hE _ _ _ _ _ _ hD hL)
theorem x_land {a b : Int64} (h : mz_d y.2.1 pc n 1 .land)  (k : mz_wp y d mc ms Q n L (.long (a &&& b) :: st) Λ R I J) : mz_wp y d mc ms Q pc L (.long b :: .long a :: st) Λ R I J := by
  obtain ⟨hd, rfl⟩ := h
  intro p l e Rm s m args below meth c D cid ad0 n0 A MC MS Z hF hE ad H locs cells slots ls hD hL
  exact lv_land hF.1.1 hF.1.2.1  hd  (k _ _ _ _ _ _ _ _ _ _ _ _ _ _ _ _ _ _ hF hE _ _ _ _ _ _ hD hL)
theorem x_lor {a b : Int64} (h : mz_d y.2.1 pc n 1 .lor)  (k : mz_wp y d mc ms Q n L (.long (a ||| b) :: st) Λ R I J) : mz_wp y d mc ms Q pc L (.long b :: .long a :: st) Λ R I J := by
  obtain ⟨hd, rfl⟩ := h
  intro p l e Rm s m args below meth c D cid ad0 n0 A MC MS Z hF hE ad H locs cells slots ls hD hL
  exact lv_lor hF.1.1 hF.1.2.1  hd  (k _ _ _ _ _ _ _ _ _ _ _ _ _ _ _ _ _ _ hF hE _ _ _ _ _ _ hD hL)
theorem x_lxor {a b : Int64} (h : mz_d y.2.1 pc n 1 .lxor)  (k : mz_wp y d mc ms Q n L (.long (a ^^^ b) :: st) Λ R I J) : mz_wp y d mc ms Q pc L (.long b :: .long a :: st) Λ R I J := by
  obtain ⟨hd, rfl⟩ := h
  intro p l e Rm s m args below meth c D cid ad0 n0 A MC MS Z hF hE ad H locs cells slots ls hD hL
  exact lv_lxor hF.1.1 hF.1.2.1  hd  (k _ _ _ _ _ _ _ _ _ _ _ _ _ _ _ _ _ _ hF hE _ _ _ _ _ _ hD hL)
theorem x_irem {a b : Int32} (h : mz_d y.2.1 pc n 1 .irem) (hz : ¬ b = 0) (k : mz_wp y d mc ms Q n L (.int (a - a / b * b) :: st) Λ R I J) : mz_wp y d mc ms Q pc L (.int b :: .int a :: st) Λ R I J := by
  obtain ⟨hd, rfl⟩ := h
  intro p l e Rm s m args below meth c D cid ad0 n0 A MC MS Z hF hE ad H locs cells slots ls hD hL
  exact lv_irem hF.1.1 hF.1.2.1  hd hz (k _ _ _ _ _ _ _ _ _ _ _ _ _ _ _ _ _ _ hF hE _ _ _ _ _ _ hD hL)
theorem x_idiv {a b : Int32} (h : mz_d y.2.1 pc n 1 .idiv) (hz : ¬ b = 0) (k : mz_wp y d mc ms Q n L (.int (a / b) :: st) Λ R I J) : mz_wp y d mc ms Q pc L (.int b :: .int a :: st) Λ R I J := by
  obtain ⟨hd, rfl⟩ := h
  intro p l e Rm s m args below meth c D cid ad0 n0 A MC MS Z hF hE ad H locs cells slots ls hD hL
  exact lv_idiv hF.1.1 hF.1.2.1  hd hz (k _ _ _ _ _ _ _ _ _ _ _ _ _ _ _ _ _ _ hF hE _ _ _ _ _ _ hD hL)
theorem x_ldiv {a b : Int64} (h : mz_d y.2.1 pc n 1 .ldiv) (hz : ¬ b = 0) (k : mz_wp y d mc ms Q n L (.long (a / b) :: st) Λ R I J) : mz_wp y d mc ms Q pc L (.long b :: .long a :: st) Λ R I J := by
  obtain ⟨hd, rfl⟩ := h
  intro p l e Rm s m args below meth c D cid ad0 n0 A MC MS Z hF hE ad H locs cells slots ls hD hL
  exact lv_ldiv hF.1.1 hF.1.2.1  hd hz (k _ _ _ _ _ _ _ _ _ _ _ _ _ _ _ _ _ _ hF hE _ _ _ _ _ _ hD hL)
theorem x_lrem {a b : Int64} (h : mz_d y.2.1 pc n 1 .lrem) (hz : ¬ b = 0) (k : mz_wp y d mc ms Q n L (.long (a - a / b * b) :: st) Λ R I J) : mz_wp y d mc ms Q pc L (.long b :: .long a :: st) Λ R I J := by
  obtain ⟨hd, rfl⟩ := h
  intro p l e Rm s m args below meth c D cid ad0 n0 A MC MS Z hF hE ad H locs cells slots ls hD hL
  exact lv_lrem hF.1.1 hF.1.2.1  hd hz (k _ _ _ _ _ _ _ _ _ _ _ _ _ _ _ _ _ _ hF hE _ _ _ _ _ _ hD hL)
theorem x_ineg {a : Int32} (h : mz_d y.2.1 pc n 1 .ineg)  (k : mz_wp y d mc ms Q n L (.int (-a) :: st) Λ R I J) : mz_wp y d mc ms Q pc L (.int a :: st) Λ R I J := by
  obtain ⟨hd, rfl⟩ := h
  intro p l e Rm s m args below meth c D cid ad0 n0 A MC MS Z hF hE ad H locs cells slots ls hD hL
  exact lv_ineg hF.1.1 hF.1.2.1  hd  (k _ _ _ _ _ _ _ _ _ _ _ _ _ _ _ _ _ _ hF hE _ _ _ _ _ _ hD hL)
theorem x_ishl {a b : Int32} (h : mz_d y.2.1 pc n 1 .ishl)  (k : mz_wp y d mc ms Q n L (.int (a <<< (b &&& 31)) :: st) Λ R I J) : mz_wp y d mc ms Q pc L (.int b :: .int a :: st) Λ R I J := by
  obtain ⟨hd, rfl⟩ := h
  intro p l e Rm s m args below meth c D cid ad0 n0 A MC MS Z hF hE ad H locs cells slots ls hD hL
  exact lv_ishl hF.1.1 hF.1.2.1  hd  (k _ _ _ _ _ _ _ _ _ _ _ _ _ _ _ _ _ _ hF hE _ _ _ _ _ _ hD hL)
theorem x_ishr {a b : Int32} (h : mz_d y.2.1 pc n 1 .ishr)  (k : mz_wp y d mc ms Q n L (.int (a >>> (b &&& 31)) :: st) Λ R I J) : mz_wp y d mc ms Q pc L (.int b :: .int a :: st) Λ R I J := by
  obtain ⟨hd, rfl⟩ := h
  intro p l e Rm s m args below meth c D cid ad0 n0 A MC MS Z hF hE ad H locs cells slots ls hD hL
  exact lv_ishr hF.1.1 hF.1.2.1  hd  (k _ _ _ _ _ _ _ _ _ _ _ _ _ _ _ _ _ _ hF hE _ _ _ _ _ _ hD hL)
theorem x_iushr {a b : Int32} (h : mz_d y.2.1 pc n 1 .iushr)  (k : mz_wp y d mc ms Q n L (.int ((a.toUInt32 >>> (b.toUInt32 &&& Int32.toUInt32 31)).toInt32) :: st) Λ R I J) : mz_wp y d mc ms Q pc L (.int b :: .int a :: st) Λ R I J := by
  obtain ⟨hd, rfl⟩ := h
  intro p l e Rm s m args below meth c D cid ad0 n0 A MC MS Z hF hE ad H locs cells slots ls hD hL
  exact lv_iushr hF.1.1 hF.1.2.1  hd rfl (k _ _ _ _ _ _ _ _ _ _ _ _ _ _ _ _ _ _ hF hE _ _ _ _ _ _ hD hL)
theorem x_lshl {a : Int64} {b : Int32} (h : mz_d y.2.1 pc n 1 .lshl)  (k : mz_wp y d mc ms Q n L (.long (a <<< (b.toInt64 &&& 63)) :: st) Λ R I J) : mz_wp y d mc ms Q pc L (.int b :: .long a :: st) Λ R I J := by
  obtain ⟨hd, rfl⟩ := h
  intro p l e Rm s m args below meth c D cid ad0 n0 A MC MS Z hF hE ad H locs cells slots ls hD hL
  exact lv_lshl hF.1.1 hF.1.2.1  hd rfl (k _ _ _ _ _ _ _ _ _ _ _ _ _ _ _ _ _ _ hF hE _ _ _ _ _ _ hD hL)
theorem x_lshr {a : Int64} {b : Int32} (h : mz_d y.2.1 pc n 1 .lshr)  (k : mz_wp y d mc ms Q n L (.long (a >>> (b.toInt64 &&& 63)) :: st) Λ R I J) : mz_wp y d mc ms Q pc L (.int b :: .long a :: st) Λ R I J := by
  obtain ⟨hd, rfl⟩ := h
  intro p l e Rm s m args below meth c D cid ad0 n0 A MC MS Z hF hE ad H locs cells slots ls hD hL
  exact lv_lshr hF.1.1 hF.1.2.1  hd rfl (k _ _ _ _ _ _ _ _ _ _ _ _ _ _ _ _ _ _ hF hE _ _ _ _ _ _ hD hL)
theorem x_lushr {a : Int64} {b : Int32} (h : mz_d y.2.1 pc n 1 .lushr)  (k : mz_wp y d mc ms Q n L (.long ((a.toUInt64 >>> (b.toInt64.toUInt64 &&& Int64.toUInt64 63)).toInt64) :: st) Λ R I J) : mz_wp y d mc ms Q pc L (.int b :: .long a :: st) Λ R I J := by
  obtain ⟨hd, rfl⟩ := h
  intro p l e Rm s m args below meth c D cid ad0 n0 A MC MS Z hF hE ad H locs cells slots ls hD hL
  exact lv_lushr hF.1.1 hF.1.2.1  hd rfl (k _ _ _ _ _ _ _ _ _ _ _ _ _ _ _ _ _ _ hF hE _ _ _ _ _ _ hD hL)
theorem x_i2l {a : Int32} (h : mz_d y.2.1 pc n 1 .i2l)  (k : mz_wp y d mc ms Q n L (.long a.toInt64 :: st) Λ R I J) : mz_wp y d mc ms Q pc L (.int a :: st) Λ R I J := by
  obtain ⟨hd, rfl⟩ := h
  intro p l e Rm s m args below meth c D cid ad0 n0 A MC MS Z hF hE ad H locs cells slots ls hD hL
  exact lv_i2l hF.1.1 hF.1.2.1  hd rfl (k _ _ _ _ _ _ _ _ _ _ _ _ _ _ _ _ _ _ hF hE _ _ _ _ _ _ hD hL)
theorem x_l2i {a : Int64} (h : mz_d y.2.1 pc n 1 .l2i)  (k : mz_wp y d mc ms Q n L (.int a.toInt32 :: st) Λ R I J) : mz_wp y d mc ms Q pc L (.long a :: st) Λ R I J := by
  obtain ⟨hd, rfl⟩ := h
  intro p l e Rm s m args below meth c D cid ad0 n0 A MC MS Z hF hE ad H locs cells slots ls hD hL
  exact lv_l2i hF.1.1 hF.1.2.1  hd rfl (k _ _ _ _ _ _ _ _ _ _ _ _ _ _ _ _ _ _ hF hE _ _ _ _ _ _ hD hL)
theorem x_i2c {a : Int32} (h : mz_d y.2.1 pc n 1 .i2c)  (k : mz_wp y d mc ms Q n L (.int ((a.toUInt32 % 65536).toInt32) :: st) Λ R I J) : mz_wp y d mc ms Q pc L (.int a :: st) Λ R I J := by
  obtain ⟨hd, rfl⟩ := h
  intro p l e Rm s m args below meth c D cid ad0 n0 A MC MS Z hF hE ad H locs cells slots ls hD hL
  exact lv_i2c hF.1.1 hF.1.2.1  hd rfl (k _ _ _ _ _ _ _ _ _ _ _ _ _ _ _ _ _ _ hF hE _ _ _ _ _ _ hD hL)
theorem x_i2b {a : Int32} (h : mz_d y.2.1 pc n 1 .i2b)  (k : mz_wp y d mc ms Q n L (.int (a.toInt8.toInt32) :: st) Λ R I J) : mz_wp y d mc ms Q pc L (.int a :: st) Λ R I J := by
  obtain ⟨hd, rfl⟩ := h
  intro p l e Rm s m args below meth c D cid ad0 n0 A MC MS Z hF hE ad H locs cells slots ls hD hL
  exact lv_i2b hF.1.1 hF.1.2.1  hd rfl (k _ _ _ _ _ _ _ _ _ _ _ _ _ _ _ _ _ _ hF hE _ _ _ _ _ _ hD hL)
theorem x_lcmp {a b : Int64} (h : mz_d y.2.1 pc n 1 .lcmp)  (k : mz_wp y d mc ms Q n L (.int (lg_cmp a b) :: st) Λ R I J) : mz_wp y d mc ms Q pc L (.long b :: .long a :: st) Λ R I J := by
  obtain ⟨hd, rfl⟩ := h
  intro p l e Rm s m args below meth c D cid ad0 n0 A MC MS Z hF hE ad H locs cells slots ls hD hL
  exact W.lcmp hF.1.1 hF.1.2.1  hd  (k _ _ _ _ _ _ _ _ _ _ _ _ _ _ _ _ _ _ hF hE _ _ _ _ _ _ hD hL)
theorem x_iconst {i : Int} {v : Int32} (h : mz_d y.2.1 pc n 1 (.iconst i)) (hv : Int32.ofInt i = v) (k : mz_wp y d mc ms Q n L (.int v :: st) Λ R I J) : mz_wp y d mc ms Q pc L (st) Λ R I J := by
  obtain ⟨hd, rfl⟩ := h
  intro p l e Rm s m args below meth c D cid ad0 n0 A MC MS Z hF hE ad H locs cells slots ls hD hL
  exact lv_iconst hF.1.1 hF.1.2.1  hd hv (k _ _ _ _ _ _ _ _ _ _ _ _ _ _ _ _ _ _ hF hE _ _ _ _ _ _ hD hL)
theorem x_bipush {i : Int} {v : Int32} (h : mz_d y.2.1 pc n 2 (.bipush i)) (hv : (Int8.ofInt i).toInt32 = v) (k : mz_wp y d mc ms Q n L (.int v :: st) Λ R I J) : mz_wp y d mc ms Q pc L (st) Λ R I J := by
  obtain ⟨hd, rfl⟩ := h
  intro p l e Rm s m args below meth c D cid ad0 n0 A MC MS Z hF hE ad H locs cells slots ls hD hL
  exact lv_bipush hF.1.1 hF.1.2.1  hd hv (k _ _ _ _ _ _ _ _ _ _ _ _ _ _ _ _ _ _ hF hE _ _ _ _ _ _ hD hL)
theorem x_sipush {i : Int} {v : Int32} (h : mz_d y.2.1 pc n 3 (.sipush i)) (hv : (Int16.ofInt i).toInt32 = v) (k : mz_wp y d mc ms Q n L (.int v :: st) Λ R I J) : mz_wp y d mc ms Q pc L (st) Λ R I J := by
  obtain ⟨hd, rfl⟩ := h
  intro p l e Rm s m args below meth c D cid ad0 n0 A MC MS Z hF hE ad H locs cells slots ls hD hL
  exact lv_sipush hF.1.1 hF.1.2.1  hd hv (k _ _ _ _ _ _ _ _ _ _ _ _ _ _ _ _ _ _ hF hE _ _ _ _ _ _ hD hL)
theorem x_lconst {i : Fin 2} {v : Int64} (h : mz_d y.2.1 pc n 1 (.lconst i)) (hv : Int64.ofNat (i : Nat) = v) (k : mz_wp y d mc ms Q n L (.long v :: st) Λ R I J) : mz_wp y d mc ms Q pc L (st) Λ R I J := by
  obtain ⟨hd, rfl⟩ := h
  intro p l e Rm s m args below meth c D cid ad0 n0 A MC MS Z hF hE ad H locs cells slots ls hD hL
  exact lv_lconst hF.1.1 hF.1.2.1  hd hv (k _ _ _ _ _ _ _ _ _ _ _ _ _ _ _ _ _ _ hF hE _ _ _ _ _ _ hD hL)
theorem x_ldc {i : Nat} {v : Int32} (h : mz_d y.2.1 pc n 2 (.ldc i)) (hc : Cond.constant y.1.cls i v ∈ mz_gt) (k : mz_wp y d mc ms Q n L (.int v :: st) Λ R I J) : mz_wp y d mc ms Q pc L st Λ R I J := by
  obtain ⟨hd, rfl⟩ := h
  intro p l e Rm s m args below meth c D cid ad0 n0 A MC MS Z hF hE ad H locs cells slots ls hD hL
  exact lv_ldc hF.1.1 hF.1.2.1 hF.1.2.2.2.1 (hF.1.2.2.2.2 _ hc) hd (k _ _ _ _ _ _ _ _ _ _ _ _ _ _ _ _ _ _ hF hE _ _ _ _ _ _ hD hL)
theorem x_ldcw {i : Nat} {v : Int32} (h : mz_d y.2.1 pc n 3 (.ldc_w i)) (hc : Cond.constant y.1.cls i v ∈ mz_gt) (k : mz_wp y d mc ms Q n L (.int v :: st) Λ R I J) : mz_wp y d mc ms Q pc L st Λ R I J := by
  obtain ⟨hd, rfl⟩ := h
  intro p l e Rm s m args below meth c D cid ad0 n0 A MC MS Z hF hE ad H locs cells slots ls hD hL
  exact lv_ldcw hF.1.1 hF.1.2.1 hF.1.2.2.2.1 (hF.1.2.2.2.2 _ hc) hd (k _ _ _ _ _ _ _ _ _ _ _ _ _ _ _ _ _ _ hF hE _ _ _ _ _ _ hD hL)
theorem x_ldc2 {i : Nat} {v : Int64} (h : mz_d y.2.1 pc n 3 (.ldc2_w i)) (hc : Cond.constantLong y.1.cls i v ∈ mz_gt) (k : mz_wp y d mc ms Q n L (.long v :: st) Λ R I J) : mz_wp y d mc ms Q pc L st Λ R I J := by
  obtain ⟨hd, rfl⟩ := h
  intro p l e Rm s m args below meth c D cid ad0 n0 A MC MS Z hF hE ad H locs cells slots ls hD hL
  exact lv_ldc2 hF.1.1 hF.1.2.1 hF.1.2.2.2.1 (hF.1.2.2.2.2 _ hc) hd (k _ _ _ _ _ _ _ _ _ _ _ _ _ _ _ _ _ _ hF hE _ _ _ _ _ _ hD hL)
theorem x_dup_i {a : Int32} (h : mz_d y.2.1 pc n 1 .dup)  (k : mz_wp y d mc ms Q n L (.int a :: .int a :: st) Λ R I J) : mz_wp y d mc ms Q pc L (.int a :: st) Λ R I J := by
  obtain ⟨hd, rfl⟩ := h
  intro p l e Rm s m args below meth c D cid ad0 n0 A MC MS Z hF hE ad H locs cells slots ls hD hL
  exact lv_dup hF.1.1 hF.1.2.1  hd rfl (k _ _ _ _ _ _ _ _ _ _ _ _ _ _ _ _ _ _ hF hE _ _ _ _ _ _ hD hL)
theorem x_dup_r {a : Nat} (h : mz_d y.2.1 pc n 1 .dup)  (k : mz_wp y d mc ms Q n L (.ref a :: .ref a :: st) Λ R I J) : mz_wp y d mc ms Q pc L (.ref a :: st) Λ R I J := by
  obtain ⟨hd, rfl⟩ := h
  intro p l e Rm s m args below meth c D cid ad0 n0 A MC MS Z hF hE ad H locs cells slots ls hD hL
  exact lv_dup hF.1.1 hF.1.2.1  hd rfl (k _ _ _ _ _ _ _ _ _ _ _ _ _ _ _ _ _ _ hF hE _ _ _ _ _ _ hD hL)
theorem x_pop_i {a : Int32} (h : mz_d y.2.1 pc n 1 .pop)  (k : mz_wp y d mc ms Q n L (st) Λ R I J) : mz_wp y d mc ms Q pc L (.int a :: st) Λ R I J := by
  obtain ⟨hd, rfl⟩ := h
  intro p l e Rm s m args below meth c D cid ad0 n0 A MC MS Z hF hE ad H locs cells slots ls hD hL
  exact lv_pop hF.1.1 hF.1.2.1  hd rfl (k _ _ _ _ _ _ _ _ _ _ _ _ _ _ _ _ _ _ hF hE _ _ _ _ _ _ hD hL)
theorem x_dup2 {a : Nat} {b : Int32} (h : mz_d y.2.1 pc n 1 .dup2)  (k : mz_wp y d mc ms Q n L (.int b :: .ref a :: .int b :: .ref a :: st) Λ R I J) : mz_wp y d mc ms Q pc L (.int b :: .ref a :: st) Λ R I J := by
  obtain ⟨hd, rfl⟩ := h
  intro p l e Rm s m args below meth c D cid ad0 n0 A MC MS Z hF hE ad H locs cells slots ls hD hL
  exact lv_dup2_11 hF.1.1 hF.1.2.1  hd rfl rfl (k _ _ _ _ _ _ _ _ _ _ _ _ _ _ _ _ _ _ hF hE _ _ _ _ _ _ hD hL)
theorem x_dup2l {a : Int64} (h : mz_d y.2.1 pc n 1 .dup2)  (k : mz_wp y d mc ms Q n L (.long a :: .long a :: st) Λ R I J) : mz_wp y d mc ms Q pc L (.long a :: st) Λ R I J := by
  obtain ⟨hd, rfl⟩ := h
  intro p l e Rm s m args below meth c D cid ad0 n0 A MC MS Z hF hE ad H locs cells slots ls hD hL
  exact lv_dup2_2 hF.1.1 hF.1.2.1  hd rfl (k _ _ _ _ _ _ _ _ _ _ _ _ _ _ _ _ _ _ hF hE _ _ _ _ _ _ hD hL)
theorem x_icmp_eq {a b : Int32} {t : Nat} {off : Int} (h : mz_b y.2.1 pc n t off (.if_icmp .eq off)) (kt : a = b → mz_wp y d mc ms Q t L st Λ R I J) (kf : ¬ a = b → mz_wp y d mc ms Q n L st Λ R I J) : mz_wp y d mc ms Q pc L (.int b :: .int a :: st) Λ R I J := by
  obtain ⟨hd, rfl, ht⟩ := h
  intro p l e Rm s m args below meth c D cid ad0 n0 A MC MS Z hF hE ad H locs cells slots ls hD hL
  exact lv_icmp_eq hF.1.1 hF.1.2.1 hd ht (fun q => (kt q _ _ _ _ _ _ _ _ _ _ _ _ _ _ _ _ _ _ hF hE _ _ _ _ _ _ hD hL)) (fun q => (kf q _ _ _ _ _ _ _ _ _ _ _ _ _ _ _ _ _ _ hF hE _ _ _ _ _ _ hD hL))
theorem x_icmp_ne {a b : Int32} {t : Nat} {off : Int} (h : mz_b y.2.1 pc n t off (.if_icmp .ne off)) (kt : ¬ a = b → mz_wp y d mc ms Q t L st Λ R I J) (kf : a = b → mz_wp y d mc ms Q n L st Λ R I J) : mz_wp y d mc ms Q pc L (.int b :: .int a :: st) Λ R I J := by
  obtain ⟨hd, rfl, ht⟩ := h
  intro p l e Rm s m args below meth c D cid ad0 n0 A MC MS Z hF hE ad H locs cells slots ls hD hL
  exact lv_icmp_ne hF.1.1 hF.1.2.1 hd ht (fun q => (kt q _ _ _ _ _ _ _ _ _ _ _ _ _ _ _ _ _ _ hF hE _ _ _ _ _ _ hD hL)) (fun q => (kf q _ _ _ _ _ _ _ _ _ _ _ _ _ _ _ _ _ _ hF hE _ _ _ _ _ _ hD hL))
theorem x_icmp_lt {a b : Int32} {t : Nat} {off : Int} (h : mz_b y.2.1 pc n t off (.if_icmp .lt off)) (kt : a < b → mz_wp y d mc ms Q t L st Λ R I J) (kf : ¬ a < b → mz_wp y d mc ms Q n L st Λ R I J) : mz_wp y d mc ms Q pc L (.int b :: .int a :: st) Λ R I J := by
  obtain ⟨hd, rfl, ht⟩ := h
  intro p l e Rm s m args below meth c D cid ad0 n0 A MC MS Z hF hE ad H locs cells slots ls hD hL
  exact lv_icmp_lt hF.1.1 hF.1.2.1 hd ht (fun q => (kt q _ _ _ _ _ _ _ _ _ _ _ _ _ _ _ _ _ _ hF hE _ _ _ _ _ _ hD hL)) (fun q => (kf q _ _ _ _ _ _ _ _ _ _ _ _ _ _ _ _ _ _ hF hE _ _ _ _ _ _ hD hL))
theorem x_icmp_ge {a b : Int32} {t : Nat} {off : Int} (h : mz_b y.2.1 pc n t off (.if_icmp .ge off)) (kt : b ≤ a → mz_wp y d mc ms Q t L st Λ R I J) (kf : ¬ b ≤ a → mz_wp y d mc ms Q n L st Λ R I J) : mz_wp y d mc ms Q pc L (.int b :: .int a :: st) Λ R I J := by
  obtain ⟨hd, rfl, ht⟩ := h
  intro p l e Rm s m args below meth c D cid ad0 n0 A MC MS Z hF hE ad H locs cells slots ls hD hL
  exact lv_icmp_ge hF.1.1 hF.1.2.1 hd ht (fun q => (kt q _ _ _ _ _ _ _ _ _ _ _ _ _ _ _ _ _ _ hF hE _ _ _ _ _ _ hD hL)) (fun q => (kf q _ _ _ _ _ _ _ _ _ _ _ _ _ _ _ _ _ _ hF hE _ _ _ _ _ _ hD hL))
theorem x_icmp_gt {a b : Int32} {t : Nat} {off : Int} (h : mz_b y.2.1 pc n t off (.if_icmp .gt off)) (kt : b < a → mz_wp y d mc ms Q t L st Λ R I J) (kf : ¬ b < a → mz_wp y d mc ms Q n L st Λ R I J) : mz_wp y d mc ms Q pc L (.int b :: .int a :: st) Λ R I J := by
  obtain ⟨hd, rfl, ht⟩ := h
  intro p l e Rm s m args below meth c D cid ad0 n0 A MC MS Z hF hE ad H locs cells slots ls hD hL
  exact lv_icmp_gt hF.1.1 hF.1.2.1 hd ht (fun q => (kt q _ _ _ _ _ _ _ _ _ _ _ _ _ _ _ _ _ _ hF hE _ _ _ _ _ _ hD hL)) (fun q => (kf q _ _ _ _ _ _ _ _ _ _ _ _ _ _ _ _ _ _ hF hE _ _ _ _ _ _ hD hL))
theorem x_icmp_le {a b : Int32} {t : Nat} {off : Int} (h : mz_b y.2.1 pc n t off (.if_icmp .le off)) (kt : a ≤ b → mz_wp y d mc ms Q t L st Λ R I J) (kf : ¬ a ≤ b → mz_wp y d mc ms Q n L st Λ R I J) : mz_wp y d mc ms Q pc L (.int b :: .int a :: st) Λ R I J := by
  obtain ⟨hd, rfl, ht⟩ := h
  intro p l e Rm s m args below meth c D cid ad0 n0 A MC MS Z hF hE ad H locs cells slots ls hD hL
  exact lv_icmp_le hF.1.1 hF.1.2.1 hd ht (fun q => (kt q _ _ _ _ _ _ _ _ _ _ _ _ _ _ _ _ _ _ hF hE _ _ _ _ _ _ hD hL)) (fun q => (kf q _ _ _ _ _ _ _ _ _ _ _ _ _ _ _ _ _ _ hF hE _ _ _ _ _ _ hD hL))
theorem x_if_eq {a : Int32} {t : Nat} {off : Int} (h : mz_b y.2.1 pc n t off (.ifCond .eq off)) (kt : a = 0 → mz_wp y d mc ms Q t L st Λ R I J) (kf : ¬ a = 0 → mz_wp y d mc ms Q n L st Λ R I J) : mz_wp y d mc ms Q pc L (.int a :: st) Λ R I J := by
  obtain ⟨hd, rfl, ht⟩ := h
  intro p l e Rm s m args below meth c D cid ad0 n0 A MC MS Z hF hE ad H locs cells slots ls hD hL
  exact lv_if_eq hF.1.1 hF.1.2.1 hd ht (fun q => (kt q _ _ _ _ _ _ _ _ _ _ _ _ _ _ _ _ _ _ hF hE _ _ _ _ _ _ hD hL)) (fun q => (kf q _ _ _ _ _ _ _ _ _ _ _ _ _ _ _ _ _ _ hF hE _ _ _ _ _ _ hD hL))
theorem x_if_ne {a : Int32} {t : Nat} {off : Int} (h : mz_b y.2.1 pc n t off (.ifCond .ne off)) (kt : ¬ a = 0 → mz_wp y d mc ms Q t L st Λ R I J) (kf : a = 0 → mz_wp y d mc ms Q n L st Λ R I J) : mz_wp y d mc ms Q pc L (.int a :: st) Λ R I J := by
  obtain ⟨hd, rfl, ht⟩ := h
  intro p l e Rm s m args below meth c D cid ad0 n0 A MC MS Z hF hE ad H locs cells slots ls hD hL
  exact lv_if_ne hF.1.1 hF.1.2.1 hd ht (fun q => (kt q _ _ _ _ _ _ _ _ _ _ _ _ _ _ _ _ _ _ hF hE _ _ _ _ _ _ hD hL)) (fun q => (kf q _ _ _ _ _ _ _ _ _ _ _ _ _ _ _ _ _ _ hF hE _ _ _ _ _ _ hD hL))
theorem x_if_lt {a : Int32} {t : Nat} {off : Int} (h : mz_b y.2.1 pc n t off (.ifCond .lt off)) (kt : a < 0 → mz_wp y d mc ms Q t L st Λ R I J) (kf : ¬ a < 0 → mz_wp y d mc ms Q n L st Λ R I J) : mz_wp y d mc ms Q pc L (.int a :: st) Λ R I J := by
  obtain ⟨hd, rfl, ht⟩ := h
  intro p l e Rm s m args below meth c D cid ad0 n0 A MC MS Z hF hE ad H locs cells slots ls hD hL
  exact lv_if_lt hF.1.1 hF.1.2.1 hd ht (fun q => (kt q _ _ _ _ _ _ _ _ _ _ _ _ _ _ _ _ _ _ hF hE _ _ _ _ _ _ hD hL)) (fun q => (kf q _ _ _ _ _ _ _ _ _ _ _ _ _ _ _ _ _ _ hF hE _ _ _ _ _ _ hD hL))
theorem x_if_ge {a : Int32} {t : Nat} {off : Int} (h : mz_b y.2.1 pc n t off (.ifCond .ge off)) (kt : 0 ≤ a → mz_wp y d mc ms Q t L st Λ R I J) (kf : ¬ 0 ≤ a → mz_wp y d mc ms Q n L st Λ R I J) : mz_wp y d mc ms Q pc L (.int a :: st) Λ R I J := by
  obtain ⟨hd, rfl, ht⟩ := h
  intro p l e Rm s m args below meth c D cid ad0 n0 A MC MS Z hF hE ad H locs cells slots ls hD hL
  exact lv_if_ge hF.1.1 hF.1.2.1 hd ht (fun q => (kt q _ _ _ _ _ _ _ _ _ _ _ _ _ _ _ _ _ _ hF hE _ _ _ _ _ _ hD hL)) (fun q => (kf q _ _ _ _ _ _ _ _ _ _ _ _ _ _ _ _ _ _ hF hE _ _ _ _ _ _ hD hL))
theorem x_if_gt {a : Int32} {t : Nat} {off : Int} (h : mz_b y.2.1 pc n t off (.ifCond .gt off)) (kt : 0 < a → mz_wp y d mc ms Q t L st Λ R I J) (kf : ¬ 0 < a → mz_wp y d mc ms Q n L st Λ R I J) : mz_wp y d mc ms Q pc L (.int a :: st) Λ R I J := by
  obtain ⟨hd, rfl, ht⟩ := h
  intro p l e Rm s m args below meth c D cid ad0 n0 A MC MS Z hF hE ad H locs cells slots ls hD hL
  exact lv_if_gt hF.1.1 hF.1.2.1 hd ht (fun q => (kt q _ _ _ _ _ _ _ _ _ _ _ _ _ _ _ _ _ _ hF hE _ _ _ _ _ _ hD hL)) (fun q => (kf q _ _ _ _ _ _ _ _ _ _ _ _ _ _ _ _ _ _ hF hE _ _ _ _ _ _ hD hL))
theorem x_if_le {a : Int32} {t : Nat} {off : Int} (h : mz_b y.2.1 pc n t off (.ifCond .le off)) (kt : a ≤ 0 → mz_wp y d mc ms Q t L st Λ R I J) (kf : ¬ a ≤ 0 → mz_wp y d mc ms Q n L st Λ R I J) : mz_wp y d mc ms Q pc L (.int a :: st) Λ R I J := by
  obtain ⟨hd, rfl, ht⟩ := h
  intro p l e Rm s m args below meth c D cid ad0 n0 A MC MS Z hF hE ad H locs cells slots ls hD hL
  exact lv_if_le hF.1.1 hF.1.2.1 hd ht (fun q => (kt q _ _ _ _ _ _ _ _ _ _ _ _ _ _ _ _ _ _ hF hE _ _ _ _ _ _ hD hL)) (fun q => (kf q _ _ _ _ _ _ _ _ _ _ _ _ _ _ _ _ _ _ hF hE _ _ _ _ _ _ hD hL))
theorem x_goto {t : Nat} {off : Int} (h : mz_b y.2.1 pc n t off (.goto off)) (k : mz_wp y d mc ms Q t L st Λ R I J) : mz_wp y d mc ms Q pc L st Λ R I J := by
  obtain ⟨hd, rfl, ht⟩ := h
  intro p l e Rm s m args below meth c D cid ad0 n0 A MC MS Z hF hE ad H locs cells slots ls hD hL
  exact lv_goto hF.1.1 hF.1.2.1 hd ht (k _ _ _ _ _ _ _ _ _ _ _ _ _ _ _ _ _ _ hF hE _ _ _ _ _ _ hD hL)
theorem x_tabIn {dflt lo hi : Int} {offs : Array Int} {len t : Nat} {a : Int32} {off : Int} (hd : decode y.2.1 pc = .ok (.tableswitch dflt lo hi offs, len)) (h1 : ¬ a.toInt < lo) (h2 : ¬ hi < a.toInt) (ho : offs[(a.toInt - lo).toNat]? = some off) (ht : (pc : Int) + off = (t : Int)) (k : mz_wp y d mc ms Q t L st Λ R I J) : mz_wp y d mc ms Q pc L (.int a :: st) Λ R I J := by
  intro p l e Rm s m args below meth c D cid ad0 n0 A MC MS Z hF hE ad H locs cells slots ls hD hL
  exact lv_tableIn hF.1.1 hF.1.2.1 hd h1 h2 ho ht (k _ _ _ _ _ _ _ _ _ _ _ _ _ _ _ _ _ _ hF hE _ _ _ _ _ _ hD hL)
theorem x_tabOut {dflt lo hi : Int} {offs : Array Int} {len t : Nat} {a : Int32} (hd : decode y.2.1 pc = .ok (.tableswitch dflt lo hi offs, len)) (h1 : a.toInt < lo ∨ hi < a.toInt) (ht : (pc : Int) + dflt = (t : Int)) (k : mz_wp y d mc ms Q t L st Λ R I J) : mz_wp y d mc ms Q pc L (.int a :: st) Λ R I J := by
  intro p l e Rm s m args below meth c D cid ad0 n0 A MC MS Z hF hE ad H locs cells slots ls hD hL
  exact lv_tableOut hF.1.1 hF.1.2.1 hd h1 ht (k _ _ _ _ _ _ _ _ _ _ _ _ _ _ _ _ _ _ hF hE _ _ _ _ _ _ hD hL)
theorem x_iload {i : Nat} {a : Int32} (h : mz_d y.2.1 pc n 2 (.iload i)) (hl : L[i]? = some (some (.int a))) (k : mz_wp y d mc ms Q n L ((.int a) :: st) Λ R I J) : mz_wp y d mc ms Q pc L st Λ R I J := by
  obtain ⟨hd, rfl⟩ := h
  intro p l e Rm s m args below meth c D cid ad0 n0 A MC MS Z hF hE ad H locs cells slots ls hD hL
  exact lv_iload hF.1.1 hF.1.2.1 hd (hL.2.2 _ _ hl) (k _ _ _ _ _ _ _ _ _ _ _ _ _ _ _ _ _ _ hF hE _ _ _ _ _ _ hD hL)
theorem x_iload_n {i : Fin 4} {a : Int32} (h : mz_d y.2.1 pc n 1 (.iload_n i)) (hl : L[(i : Nat)]? = some (some (.int a))) (k : mz_wp y d mc ms Q n L ((.int a) :: st) Λ R I J) : mz_wp y d mc ms Q pc L st Λ R I J := by
  obtain ⟨hd, rfl⟩ := h
  intro p l e Rm s m args below meth c D cid ad0 n0 A MC MS Z hF hE ad H locs cells slots ls hD hL
  exact lv_iload_n hF.1.1 hF.1.2.1 hd rfl (hL.2.2 _ _ hl) (k _ _ _ _ _ _ _ _ _ _ _ _ _ _ _ _ _ _ hF hE _ _ _ _ _ _ hD hL)
theorem x_istore {i : Nat} {a : Int32} (h : mz_d y.2.1 pc n 2 (.istore i)) (hn : i < y.2.2.1) (hp : ∀ o, L[i - 1]? = some o → i = 0 ∨ mz_c2 o = false) (k : mz_wp y d mc ms Q n (L.set i (some (.int a))) st Λ R I J) : mz_wp y d mc ms Q pc L ((.int a) :: st) Λ R I J := by
  obtain ⟨hd, rfl⟩ := h
  intro p l e Rm s m args below meth c D cid ad0 n0 A MC MS Z hF hE ad H locs cells slots ls hD hL
  exact lv_istore hF.1.1 hF.1.2.1 hd hL.has hn rfl (fun ls' hl' => k _ _ _ _ _ _ _ _ _ _ _ _ _ _ _ _ _ _ hF hE _ _ _ _ _ _ hD (mz_L.st1 (v := .int a) hp hl'))
theorem x_istore_n {i : Fin 4} {a : Int32} (h : mz_d y.2.1 pc n 1 (.istore_n i)) (hn : (i : Nat) < y.2.2.1) (hp : ∀ o, L[(i : Nat) - 1]? = some o → (i : Nat) = 0 ∨ mz_c2 o = false) (k : mz_wp y d mc ms Q n (L.set (i : Nat) (some (.int a))) st Λ R I J) : mz_wp y d mc ms Q pc L ((.int a) :: st) Λ R I J := by
  obtain ⟨hd, rfl⟩ := h
  intro p l e Rm s m args below meth c D cid ad0 n0 A MC MS Z hF hE ad H locs cells slots ls hD hL
  exact lv_istore_n hF.1.1 hF.1.2.1 hd rfl hL.has hn rfl (fun ls' hl' => k _ _ _ _ _ _ _ _ _ _ _ _ _ _ _ _ _ _ hF hE _ _ _ _ _ _ hD (mz_L.st1 (v := .int a) hp hl'))
theorem x_lload {i : Nat} {a : Int64} (h : mz_d y.2.1 pc n 2 (.lload i)) (hl : L[i]? = some (some (.long a))) (k : mz_wp y d mc ms Q n L ((.long a) :: st) Λ R I J) : mz_wp y d mc ms Q pc L st Λ R I J := by
  obtain ⟨hd, rfl⟩ := h
  intro p l e Rm s m args below meth c D cid ad0 n0 A MC MS Z hF hE ad H locs cells slots ls hD hL
  exact lv_lload hF.1.1 hF.1.2.1 hd (hL.2.2 _ _ hl) (k _ _ _ _ _ _ _ _ _ _ _ _ _ _ _ _ _ _ hF hE _ _ _ _ _ _ hD hL)
theorem x_lload_n {i : Fin 4} {a : Int64} (h : mz_d y.2.1 pc n 1 (.lload_n i)) (hl : L[(i : Nat)]? = some (some (.long a))) (k : mz_wp y d mc ms Q n L ((.long a) :: st) Λ R I J) : mz_wp y d mc ms Q pc L st Λ R I J := by
  obtain ⟨hd, rfl⟩ := h
  intro p l e Rm s m args below meth c D cid ad0 n0 A MC MS Z hF hE ad H locs cells slots ls hD hL
  exact lv_lload_n hF.1.1 hF.1.2.1 hd rfl (hL.2.2 _ _ hl) (k _ _ _ _ _ _ _ _ _ _ _ _ _ _ _ _ _ _ hF hE _ _ _ _ _ _ hD hL)
theorem x_lstore {i : Nat} {a : Int64} (h : mz_d y.2.1 pc n 2 (.lstore i)) (hn : i + 1 < y.2.2.1) (hp : ∀ o, L[i - 1]? = some o → i = 0 ∨ mz_c2 o = false) (k : mz_wp y d mc ms Q n ((L.set i (some (.long a))).set (i + 1) none) st Λ R I J) : mz_wp y d mc ms Q pc L ((.long a) :: st) Λ R I J := by
  obtain ⟨hd, rfl⟩ := h
  intro p l e Rm s m args below meth c D cid ad0 n0 A MC MS Z hF hE ad H locs cells slots ls hD hL
  exact lv_lstore hF.1.1 hF.1.2.1 hd hL.has hn rfl (fun ls' hl' => k _ _ _ _ _ _ _ _ _ _ _ _ _ _ _ _ _ _ hF hE _ _ _ _ _ _ hD (mz_L.st2 (v := .long a) hp hl'))
theorem x_lstore_n {i : Fin 4} {a : Int64} (h : mz_d y.2.1 pc n 1 (.lstore_n i)) (hn : (i : Nat) + 1 < y.2.2.1) (hp : ∀ o, L[(i : Nat) - 1]? = some o → (i : Nat) = 0 ∨ mz_c2 o = false) (k : mz_wp y d mc ms Q n ((L.set (i : Nat) (some (.long a))).set ((i : Nat) + 1) none) st Λ R I J) : mz_wp y d mc ms Q pc L ((.long a) :: st) Λ R I J := by
  obtain ⟨hd, rfl⟩ := h
  intro p l e Rm s m args below meth c D cid ad0 n0 A MC MS Z hF hE ad H locs cells slots ls hD hL
  exact lv_lstore_n hF.1.1 hF.1.2.1 hd rfl hL.has hn rfl (fun ls' hl' => k _ _ _ _ _ _ _ _ _ _ _ _ _ _ _ _ _ _ hF hE _ _ _ _ _ _ hD (mz_L.st2 (v := .long a) hp hl'))
theorem x_aload {i : Nat} {a : Nat} (h : mz_d y.2.1 pc n 2 (.aload i)) (hl : L[i]? = some (some (.ref a))) (k : mz_wp y d mc ms Q n L ((.ref a) :: st) Λ R I J) : mz_wp y d mc ms Q pc L st Λ R I J := by
  obtain ⟨hd, rfl⟩ := h
  intro p l e Rm s m args below meth c D cid ad0 n0 A MC MS Z hF hE ad H locs cells slots ls hD hL
  exact lv_aload hF.1.1 hF.1.2.1 hd (hL.2.2 _ _ hl) (k _ _ _ _ _ _ _ _ _ _ _ _ _ _ _ _ _ _ hF hE _ _ _ _ _ _ hD hL)
theorem x_aload_n {i : Fin 4} {a : Nat} (h : mz_d y.2.1 pc n 1 (.aload_n i)) (hl : L[(i : Nat)]? = some (some (.ref a))) (k : mz_wp y d mc ms Q n L ((.ref a) :: st) Λ R I J) : mz_wp y d mc ms Q pc L st Λ R I J := by
  obtain ⟨hd, rfl⟩ := h
  intro p l e Rm s m args below meth c D cid ad0 n0 A MC MS Z hF hE ad H locs cells slots ls hD hL
  exact lv_aload_n hF.1.1 hF.1.2.1 hd rfl (hL.2.2 _ _ hl) (k _ _ _ _ _ _ _ _ _ _ _ _ _ _ _ _ _ _ hF hE _ _ _ _ _ _ hD hL)
theorem x_astore {i : Nat} {a : Nat} (h : mz_d y.2.1 pc n 2 (.astore i)) (hn : i < y.2.2.1) (hp : ∀ o, L[i - 1]? = some o → i = 0 ∨ mz_c2 o = false) (k : mz_wp y d mc ms Q n (L.set i (some (.ref a))) st Λ R I J) : mz_wp y d mc ms Q pc L ((.ref a) :: st) Λ R I J := by
  obtain ⟨hd, rfl⟩ := h
  intro p l e Rm s m args below meth c D cid ad0 n0 A MC MS Z hF hE ad H locs cells slots ls hD hL
  exact lv_astore hF.1.1 hF.1.2.1 hd hL.has hn rfl (fun ls' hl' => k _ _ _ _ _ _ _ _ _ _ _ _ _ _ _ _ _ _ hF hE _ _ _ _ _ _ hD (mz_L.st1 (v := .ref a) hp hl'))
theorem x_astore_n {i : Fin 4} {a : Nat} (h : mz_d y.2.1 pc n 1 (.astore_n i)) (hn : (i : Nat) < y.2.2.1) (hp : ∀ o, L[(i : Nat) - 1]? = some o → (i : Nat) = 0 ∨ mz_c2 o = false) (k : mz_wp y d mc ms Q n (L.set (i : Nat) (some (.ref a))) st Λ R I J) : mz_wp y d mc ms Q pc L ((.ref a) :: st) Λ R I J := by
  obtain ⟨hd, rfl⟩ := h
  intro p l e Rm s m args below meth c D cid ad0 n0 A MC MS Z hF hE ad H locs cells slots ls hD hL
  exact lv_astore_n hF.1.1 hF.1.2.1 hd rfl hL.has hn rfl (fun ls' hl' => k _ _ _ _ _ _ _ _ _ _ _ _ _ _ _ _ _ _ hF hE _ _ _ _ _ _ hD (mz_L.st1 (v := .ref a) hp hl'))
theorem x_iinc {i : Nat} {z : Int} {a b : Int32} (h : mz_d y.2.1 pc n 3 (.iinc i z)) (hl : L[i]? = some (some (.int a))) (hv : a + Int32.ofInt z = b) (hn : i < y.2.2.1) (hp : ∀ o, L[i - 1]? = some o → i = 0 ∨ mz_c2 o = false) (k : mz_wp y d mc ms Q n (L.set i (some (.int b))) st Λ R I J) : mz_wp y d mc ms Q pc L st Λ R I J := by
  obtain ⟨hd, rfl⟩ := h
  intro p l e Rm s m args below meth c D cid ad0 n0 A MC MS Z hF hE ad H locs cells slots ls hD hL
  have hm : (i, mz_v ad (.int a)) ∈ mz_lv ad L := mz_lv_mem.mpr ⟨_, hl, rfl⟩
  obtain ⟨q, hq⟩ := List.getElem?_of_mem hm
  exact lv_iinc (x := a) (v := b) hF.1.1 hF.1.2.1 hd hL.has (k := q) hq hv hn rfl (fun ls' hl' => k _ _ _ _ _ _ _ _ _ _ _ _ _ _ _ _ _ _ hF hE _ _ _ _ _ _ hD (mz_L.st1 (v := .int b) hp hl'))
theorem x_ireturn {a : Int32} (h : mz_d y.2.1 pc n 1 .ireturn) {ty : FieldType} (hr : y.2.2.2 = some ty) (hn : narrow ty (.int a) = .int a) (hq : Q (some (.int a)) Λ R I J) : mz_wp y d mc ms Q pc L [.int a] Λ R I J := by
  obtain ⟨hd, rfl⟩ := h
  intro p l e Rm s m args below meth c D cid ad0 n0 A MC MS Z hF hE ad H locs cells slots ls hD hL
  exact hE ad H locs cells slots mc ms Λ R I J ls pc (some (.int a)) hD ⟨hd, ty, hr, hn⟩ hq
theorem x_lreturn {a : Int64} (h : mz_d y.2.1 pc n 1 .lreturn) (hr : y.2.2.2 = some .long) (hq : Q (some (.long a)) Λ R I J) : mz_wp y d mc ms Q pc L [.long a] Λ R I J := by
  obtain ⟨hd, rfl⟩ := h
  intro p l e Rm s m args below meth c D cid ad0 n0 A MC MS Z hF hE ad H locs cells slots ls hD hL
  exact hE ad H locs cells slots mc ms Λ R I J ls pc (some (.long a)) hD ⟨hd, hr⟩ hq
theorem x_return (h : mz_d y.2.1 pc n 1 .return_) (hr : y.2.2.2 = none) (hq : Q none Λ R I J) : mz_wp y d mc ms Q pc L [] Λ R I J := by
  obtain ⟨hd, rfl⟩ := h
  intro p l e Rm s m args below meth c D cid ad0 n0 A MC MS Z hF hE ad H locs cells slots ls hD hL
  exact hE ad H locs cells slots mc ms Λ R I J ls pc none hD ⟨hd, hr⟩ hq
end MZR
