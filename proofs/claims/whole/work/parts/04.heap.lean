/-! ===== fields ===== -/
def mz_ck (ci : Nat) (C : String) (T : u_T) (N : Nat) : Prop := vwCl[ci]? = some (C, T, N) ∧ (∀ w ∈ u_ws C T N, w ∈ mz_gt) ∧ (∀ k, k < N → parseFieldDescriptor (T k).2.2.1 = some (mz_ty ci k)) ∧ (∀ a, a < N → ∀ b, b < N → a ≠ b → (T a).2.1 ≠ (T b).2.1)
def mz_fl (own : String) (idx ci j : Nat) : Prop := ∃ (C : String) (T : u_T) (N : Nat), mz_ck ci C T N ∧ j < N ∧ Cond.fieldLink own idx (T j).1 (T j).2.1 (T j).2.2.1 ∈ mz_gt
def mz_isI (ty : FieldType) : Bool := match ty with
  | .long => false
  | .object _ => false
  | .array _ => false
  | _ => true
def mz_isR (ty : FieldType) : Bool := match ty with
  | .object _ => true
  | .array _ => true
  | _ => false
def mz_fin (ci j : Nat) : Bool := match vwCl[ci]? with
  | some r => (r.2.1 j).2.2.2
  | none => true
theorem mz_fv_I {ad : Nat → Nat} {R : mz_R} {I : mz_I} {J : mz_J} {k j : Nat} {ty : FieldType} (h : mz_isI ty = true) : mz_fv ad R I J k j ty = .int (I k j) := by
  cases ty <;> first | rfl | cases h
theorem mz_fv_R {ad : Nat → Nat} {R : mz_R} {I : mz_I} {J : mz_J} {k j : Nat} {ty : FieldType} (h : mz_isR ty = true) : mz_fv ad R I J k j ty = va_rf ((R k j).map ad) := by
  cases ty <;> first | rfl | cases h
theorem mz_fin_of {ci j : Nat} {C : String} {T : u_T} {N : Nat} (h : vwCl[ci]? = some (C, T, N)) : mz_fin ci j = (T j).2.2.2 := by simp only [mz_fin, h]
theorem mz_nf_of {ci : Nat} {C : String} {T : u_T} {N : Nat} (h : vwCl[ci]? = some (C, T, N)) : mz_nf ci = N := by simp only [mz_nf, h]
section MZH
variable {y : mz_M} {d mc ms : Nat} {Q : mz_P} {pc n : Nat} {L : List (Option Value)} {st : List Value} {Λ : List mz_Kd} {R : mz_R} {I : mz_I} {J : mz_J} {k i ci j : Nat}
theorem mz_get {v : Value} (h : mz_d y.2.1 pc n 3 (.getfield i)) (hf : mz_fl y.1.cls i ci j) (hk : Λ[k]? = some (.inr ci)) (hv : ∀ ad : Nat → Nat, mz_fv ad R I J k j (mz_ty ci j) = mz_v ad v) (kk : mz_wp y d mc ms Q n L (v :: st) Λ R I J) : mz_wp y d mc ms Q pc L (.ref k :: st) Λ R I J := by
  obtain ⟨hd, rfl⟩ := h
  obtain ⟨C, T, N, ⟨hc, hin, hty, hnm⟩, hj, hl⟩ := hf
  intro p l e Rm s m args below meth c D cid ad0 n0 A MC MS Z hF hE ad H locs cells slots ls hD hL
  have K := kk _ _ _ _ _ _ _ _ _ _ _ _ _ _ _ _ _ _ hF hE _ _ _ _ _ _ hD hL
  obtain ⟨hD1, hD2, hP, hDD, hS, hm1, hm2, hC⟩ := hD
  have he := mz_w_get (cid := cid) (ad := ad) (R := R) (I := I) (J := J) hk
  have hv' : (mz_fs ad R I J k ci)[j]? = some (mz_v ad v) := by rw [mz_fs_get (by rw [mz_nf_of hc]; exact hj), hv]
  · exact va_get hF.1.1 hF.1.2.1 hF.1.2.2.2.2 hin hF.1.2.2.2.1 hF.2.2.2.2.1 hP k he hc j hj (hF.1.2.2.2.2 _ hl) (fun _ h9 => h9) hv' hd K
theorem x_getI (h : mz_d y.2.1 pc n 3 (.getfield i)) (hf : mz_fl y.1.cls i ci j) (hk : Λ[k]? = some (.inr ci)) (ht : mz_isI (mz_ty ci j) = true) (kk : mz_wp y d mc ms Q n L (.int (I k j) :: st) Λ R I J) : mz_wp y d mc ms Q pc L (.ref k :: st) Λ R I J := mz_get h hf hk (fun _ => mz_fv_I ht) kk
theorem x_getJ (h : mz_d y.2.1 pc n 3 (.getfield i)) (hf : mz_fl y.1.cls i ci j) (hk : Λ[k]? = some (.inr ci)) (ht : mz_ty ci j = .long) (kk : mz_wp y d mc ms Q n L (.long (J k j) :: st) Λ R I J) : mz_wp y d mc ms Q pc L (.ref k :: st) Λ R I J := mz_get h hf hk (fun _ => by rw [ht]; rfl) kk
theorem x_getR {q : Nat} (h : mz_d y.2.1 pc n 3 (.getfield i)) (hf : mz_fl y.1.cls i ci j) (hk : Λ[k]? = some (.inr ci)) (ht : mz_isR (mz_ty ci j) = true) (hr : R k j = some q) (kk : mz_wp y d mc ms Q n L (.ref q :: st) Λ R I J) : mz_wp y d mc ms Q pc L (.ref k :: st) Λ R I J := mz_get h hf hk (fun _ => by rw [mz_fv_R ht, hr]; rfl) kk
theorem mz_put {v : Value} {R' : mz_R} {I' : mz_I} {J' : mz_J} (h : mz_d y.2.1 pc n 3 (.putfield i)) (hf : mz_fl y.1.cls i ci j) (hk : Λ[k]? = some (.inr ci)) (hfin : mz_fin ci j = false ∨ (mz_fin ci j = true ∧ y.1.name = "<init>" ∧ (∀ (C : String) (T : u_T) (N : Nat), vwCl[ci]? = some (C, T, N) → (T j).1 = y.1.cls))) (hn : ∀ ad : Nat → Nat, narrow (mz_ty ci j) (mz_v ad v) = mz_v ad v) (hfit : ∀ ad : Nat → Nat, fits (mz_ty ci j) (mz_v ad v) = true)
    (hv : ∀ ad : Nat → Nat, mz_fv ad R' I' J' k j (mz_ty ci j) = mz_v ad v) (hR : ∀ a, a ≠ k → R' a = R a) (hI : ∀ a, a ≠ k → I' a = I a) (hJ : ∀ a, a ≠ k → J' a = J a) (hR2 : ∀ b, b ≠ j → R' k b = R k b) (hI2 : ∀ b, b ≠ j → I' k b = I k b) (hJ2 : ∀ b, b ≠ j → J' k b = J k b) (hcl : mz_cl R Λ → mz_cl R' Λ)
    (kk : mz_wp y d mc ms Q n L st Λ R' I' J') : mz_wp y d mc ms Q pc L (v :: .ref k :: st) Λ R I J := by
  obtain ⟨hd, rfl⟩ := h
  obtain ⟨C, T, N, ⟨hc, hin, hty, hnm⟩, hj, hl⟩ := hf
  intro p l e Rm s m args below meth c D cid ad0 n0 A MC MS Z hF hE ad H locs cells slots ls hD hL
  obtain ⟨hD1, hD2, hP, hDD, hS, hm1, hm2, hC⟩ := hD
  have he := mz_w_get (cid := cid) (ad := ad) (R := R) (I := I) (J := J) hk
  have hset : (mz_w cid ad R I J Λ).set k (ad k, .inr (ci, (mz_fs ad R I J k ci).set j (mz_v ad v))) = mz_w cid ad R' I' J' Λ := by
    rw [mz_fs_set (hv ad) hR2 hI2 hJ2]
    exact mz_w_set (q := .inr ci) hk hR hI hJ
  have hlen : j < (mz_fs ad R I J k ci).length := by rw [mz_fs_len, mz_nf_of hc]; exact hj
  have K : ∀ (H1 : Heap) (locs1 : List Loc), va_P D vwCl ((mz_w cid ad R I J Λ).set k (ad k, .inr (ci, (mz_fs ad R I J k ci).set j (mz_v ad v)))) H1 → va_D A ((mz_w cid ad R I J Λ).set k (ad k, .inr (ci, (mz_fs ad R I J k ci).set j (mz_v ad v)))) → va_S A s.heap H1 locs1 → W p l e Rm s m args below meth c H1 locs1 cells slots Z (F0 m (pc + 3) ls (mz_st ad st)) := by
    intro H1 locs1 p1 p2 p3
    rw [hset] at p1 p2
    exact kk _ _ _ _ _ _ _ _ _ _ _ _ _ _ _ _ _ _ hF hE _ _ _ _ _ _ ⟨hD1, hD2, p1, p2, p3, hm1, hm2, hcl hC⟩ hL
  rcases hfin with hfin | ⟨hfin, hini, hdecl⟩
  · · exact va_put hF.1.1 hF.1.2.1 hF.1.2.2.2.2 hin (mz_ty ci) hty hnm hF.1.2.2.2.1 hF.2.2.2.2.1 hP hDD hS k he hc j hj (hF.1.2.2.2.2 _ hl) (fun _ h9 => h9) (by rw [← mz_fin_of hc]; exact hfin) (hty j hj) (hn ad) (hfit ad) hlen hd K
  · · exact va_putF hF.1.1 hF.1.2.1 hF.1.2.2.2.2 hin (mz_ty ci) hty hnm hF.1.2.2.2.1 hF.2.2.2.2.1 hP hDD hS k he hc j hj (hF.1.2.2.2.2 _ hl) (fun _ h9 => h9) (by rw [← mz_fin_of hc]; exact hfin) (hF.2.2.2.1.trans hini) (hdecl C T N hc) (hty j hj) (hn ad) (hfit ad) hlen hd K
theorem x_putI {a : Int32} (h : mz_d y.2.1 pc n 3 (.putfield i)) (hf : mz_fl y.1.cls i ci j) (hk : Λ[k]? = some (.inr ci)) (hfin : mz_fin ci j = false) (ht : mz_isI (mz_ty ci j) = true) (hn : narrow (mz_ty ci j) (.int a) = .int a) (hfit : fits (mz_ty ci j) (.int a) = true) (kk : mz_wp y d mc ms Q n L st Λ R (mz_uI I k j a) J) : mz_wp y d mc ms Q pc L (.int a :: .ref k :: st) Λ R I J :=
  mz_put (v := .int a) h hf hk (Or.inl hfin) (fun _ => hn) (fun _ => hfit) (fun _ => by rw [mz_fv_I ht]; simp [mz_uI, upd]; rfl) (fun _ _ => rfl) (fun b hb => by simp [mz_uI, hb]) (fun _ _ => rfl) (fun _ _ => rfl) (fun b hb => by simp [mz_uI, upd, hb]) (fun _ _ => rfl) id kk
theorem x_putJ {a : Int64} (h : mz_d y.2.1 pc n 3 (.putfield i)) (hf : mz_fl y.1.cls i ci j) (hk : Λ[k]? = some (.inr ci)) (hfin : mz_fin ci j = false) (ht : mz_ty ci j = .long) (kk : mz_wp y d mc ms Q n L st Λ R I (mz_uJ J k j a)) : mz_wp y d mc ms Q pc L (.long a :: .ref k :: st) Λ R I J :=
  mz_put (v := .long a) h hf hk (Or.inl hfin) (fun _ => by rw [ht]; rfl) (fun _ => by rw [ht]; rfl) (fun _ => by rw [ht]; simp [mz_fv, mz_uJ, vp_updL]; rfl) (fun _ _ => rfl) (fun _ _ => rfl) (fun b hb => by simp [mz_uJ, hb]) (fun _ _ => rfl) (fun _ _ => rfl) (fun b hb => by simp [mz_uJ, vp_updL, hb]) id kk
theorem x_putR {a : Nat} (h : mz_d y.2.1 pc n 3 (.putfield i)) (hf : mz_fl y.1.cls i ci j) (hk : Λ[k]? = some (.inr ci)) (hfin : mz_fin ci j = false ∨ (mz_fin ci j = true ∧ y.1.name = "<init>" ∧ (∀ (C : String) (T : u_T) (N : Nat), vwCl[ci]? = some (C, T, N) → (T j).1 = y.1.cls))) (ht : mz_isR (mz_ty ci j) = true) (ha : a < Λ.length ∨ 1000000 ≤ a) (kk : mz_wp y d mc ms Q n L st Λ (mz_uR R k j (some a)) I J) : mz_wp y d mc ms Q pc L (.ref a :: .ref k :: st) Λ R I J := by
  refine mz_put (v := .ref a) h hf hk hfin (fun _ => ?_) (fun _ => ?_) (fun _ => by rw [mz_fv_R ht]; simp [mz_uR]; rfl) (fun b hb => by funext c; simp [mz_uR, hb]) (fun _ _ => rfl) (fun _ _ => rfl) (fun b hb => by simp [mz_uR, hb]) (fun _ _ => rfl) (fun _ _ => rfl) (fun hc b hb c q hq => ?_) kk
  · cases hty : mz_ty ci j <;> first | rfl | (rw [hty] at ht; cases ht)
  · cases hty : mz_ty ci j <;> first | rfl | (rw [hty] at ht; cases ht)
  · by_cases e : b = k ∧ c = j
    · simp only [mz_uR, e, and_self, if_true] at hq
      cases hq
      exact ha
    · simp only [mz_uR, e, if_false] at hq
      exact hc b hb c q hq
theorem x_iaload {N : Nat} {a : Int32} (h : mz_d y.2.1 pc n 1 .iaload) (hk : Λ[k]? = some (.inl (.int, N))) (hin : vp_in a N) (kk : mz_wp y d mc ms Q n L (.int (I k a.toNatClampNeg) :: st) Λ R I J) : mz_wp y d mc ms Q pc L (.int a :: .ref k :: st) Λ R I J := by
  obtain ⟨hd, rfl⟩ := h
  intro p l e Rm s m args below meth c D cid ad0 n0 A MC MS Z hF hE ad H locs cells slots ls hD hL
  exact va_iald hF.1.1 hF.1.2.1 hF.2.2.2.2.1 hD.2.2.1 k 0 (mz_w_get hk) rfl hin hd (kk _ _ _ _ _ _ _ _ _ _ _ _ _ _ _ _ _ _ hF hE _ _ _ _ _ _ hD hL)
theorem x_baload {N : Nat} {a : Int32} (h : mz_d y.2.1 pc n 1 .baload) (hk : Λ[k]? = some (.inl (.boolean, N))) (hin : vp_in a N) (kk : mz_wp y d mc ms Q n L (.int (I k a.toNatClampNeg) :: st) Λ R I J) : mz_wp y d mc ms Q pc L (.int a :: .ref k :: st) Λ R I J := by
  obtain ⟨hd, rfl⟩ := h
  intro p l e Rm s m args below meth c D cid ad0 n0 A MC MS Z hF hE ad H locs cells slots ls hD hL
  exact va_zald hF.1.1 hF.1.2.1 hF.2.2.2.2.1 hD.2.2.1 k 2 (mz_w_get hk) rfl hin hd (kk _ _ _ _ _ _ _ _ _ _ _ _ _ _ _ _ _ _ hF hE _ _ _ _ _ _ hD hL)
theorem x_caload {N : Nat} {a : Int32} (h : mz_d y.2.1 pc n 1 .caload) (hk : Λ[k]? = some (.inl (.char, N))) (hin : vp_in a N) (kk : mz_wp y d mc ms Q n L (.int (I k a.toNatClampNeg) :: st) Λ R I J) : mz_wp y d mc ms Q pc L (.int a :: .ref k :: st) Λ R I J := by
  obtain ⟨hd, rfl⟩ := h
  intro p l e Rm s m args below meth c D cid ad0 n0 A MC MS Z hF hE ad H locs cells slots ls hD hL
  exact va_cald hF.1.1 hF.1.2.1 hF.2.2.2.2.1 hD.2.2.1 k 3 (mz_w_get hk) rfl hin hd (kk _ _ _ _ _ _ _ _ _ _ _ _ _ _ _ _ _ _ hF hE _ _ _ _ _ _ hD hL)
theorem x_laload {N : Nat} {a : Int32} (h : mz_d y.2.1 pc n 1 .laload) (hk : Λ[k]? = some (.inl (.long, N))) (hin : vp_in a N) (kk : mz_wp y d mc ms Q n L (.long (J k a.toNatClampNeg) :: st) Λ R I J) : mz_wp y d mc ms Q pc L (.int a :: .ref k :: st) Λ R I J := by
  obtain ⟨hd, rfl⟩ := h
  intro p l e Rm s m args below meth c D cid ad0 n0 A MC MS Z hF hE ad H locs cells slots ls hD hL
  exact va_lald hF.1.1 hF.1.2.1 hF.2.2.2.2.1 hD.2.2.1 k 1 (mz_w_get hk) rfl hin hd (kk _ _ _ _ _ _ _ _ _ _ _ _ _ _ _ _ _ _ hF hE _ _ _ _ _ _ hD hL)
theorem x_iastore {N : Nat} {a : Int32} {x : Int32} (h : mz_d y.2.1 pc n 1 .iastore) (hk : Λ[k]? = some (.inl (.int, N))) (hin : vp_in a N) (kk : mz_wp y d mc ms Q n L st Λ R (mz_uI I k a.toNatClampNeg x) J) : mz_wp y d mc ms Q pc L (.int x :: .int a :: .ref k :: st) Λ R I J := by
  obtain ⟨hd, rfl⟩ := h
  intro p l e Rm s m args below meth c D cid ad0 n0 A MC MS Z hF hE ad H locs cells slots ls hD hL
  obtain ⟨hD1, hD2, hP, hDD, hS, hm1, hm2, hC⟩ := hD
  refine va_iast hF.1.1 hF.1.2.1 hF.2.2.2.2.1 hP hDD hS k 0 (mz_w_get hk) rfl hin hd (fun H1 locs1 p1 p2 p3 => ?_)
  have hset := mz_w_set (cid := cid) (ad := ad) (R := R) (I := I) (J := J) (I' := mz_uI I k a.toNatClampNeg x) (R' := R) (J' := J) hk (fun _ _ => rfl) (fun b hb => by first | rfl | simp [mz_uI, hb]) (fun b hb => by first | rfl | simp [mz_uI, hb])
  have he : mz_e cid ad R (mz_uI I k a.toNatClampNeg x) J k (.inl (.int, N)) = .inl (cid .int, N, .inl (upd (I k) a.toNatClampNeg x)) := by simp [mz_e, mz_ar, mz_uI]
  rw [he] at hset
  rw [hset] at p1 p2
  exact kk _ _ _ _ _ _ _ _ _ _ _ _ _ _ _ _ _ _ hF hE _ _ _ _ _ _ ⟨hD1, hD2, p1, p2, p3, hm1, hm2, hC⟩ hL
theorem x_bastore {N : Nat} {a : Int32} {x : Int32} (h : mz_d y.2.1 pc n 1 .bastore) (hk : Λ[k]? = some (.inl (.boolean, N))) (hin : vp_in a N) (kk : mz_wp y d mc ms Q n L st Λ R (mz_uI I k a.toNatClampNeg (vp_nar .boolean x)) J) : mz_wp y d mc ms Q pc L (.int x :: .int a :: .ref k :: st) Λ R I J := by
  obtain ⟨hd, rfl⟩ := h
  intro p l e Rm s m args below meth c D cid ad0 n0 A MC MS Z hF hE ad H locs cells slots ls hD hL
  obtain ⟨hD1, hD2, hP, hDD, hS, hm1, hm2, hC⟩ := hD
  refine va_zast hF.1.1 hF.1.2.1 hF.2.2.2.2.1 hP hDD hS k 2 (mz_w_get hk) rfl hin hd (fun H1 locs1 p1 p2 p3 => ?_)
  have hset := mz_w_set (cid := cid) (ad := ad) (R := R) (I := I) (J := J) (I' := mz_uI I k a.toNatClampNeg (vp_nar .boolean x)) (R' := R) (J' := J) hk (fun _ _ => rfl) (fun b hb => by first | rfl | simp [mz_uI, hb]) (fun b hb => by first | rfl | simp [mz_uI, hb])
  have he : mz_e cid ad R (mz_uI I k a.toNatClampNeg (vp_nar .boolean x)) J k (.inl (.boolean, N)) = .inl (cid .boolean, N, .inl (upd (I k) a.toNatClampNeg (vp_nar .boolean x))) := by simp [mz_e, mz_ar, mz_uI]
  rw [he] at hset
  rw [hset] at p1 p2
  exact kk _ _ _ _ _ _ _ _ _ _ _ _ _ _ _ _ _ _ hF hE _ _ _ _ _ _ ⟨hD1, hD2, p1, p2, p3, hm1, hm2, hC⟩ hL
theorem x_castore {N : Nat} {a : Int32} {x : Int32} (h : mz_d y.2.1 pc n 1 .castore) (hk : Λ[k]? = some (.inl (.char, N))) (hin : vp_in a N) (kk : mz_wp y d mc ms Q n L st Λ R (mz_uI I k a.toNatClampNeg (vp_nar .char x)) J) : mz_wp y d mc ms Q pc L (.int x :: .int a :: .ref k :: st) Λ R I J := by
  obtain ⟨hd, rfl⟩ := h
  intro p l e Rm s m args below meth c D cid ad0 n0 A MC MS Z hF hE ad H locs cells slots ls hD hL
  obtain ⟨hD1, hD2, hP, hDD, hS, hm1, hm2, hC⟩ := hD
  refine va_cast hF.1.1 hF.1.2.1 hF.2.2.2.2.1 hP hDD hS k 3 (mz_w_get hk) rfl hin hd (fun H1 locs1 p1 p2 p3 => ?_)
  have hset := mz_w_set (cid := cid) (ad := ad) (R := R) (I := I) (J := J) (I' := mz_uI I k a.toNatClampNeg (vp_nar .char x)) (R' := R) (J' := J) hk (fun _ _ => rfl) (fun b hb => by first | rfl | simp [mz_uI, hb]) (fun b hb => by first | rfl | simp [mz_uI, hb])
  have he : mz_e cid ad R (mz_uI I k a.toNatClampNeg (vp_nar .char x)) J k (.inl (.char, N)) = .inl (cid .char, N, .inl (upd (I k) a.toNatClampNeg (vp_nar .char x))) := by simp [mz_e, mz_ar, mz_uI]
  rw [he] at hset
  rw [hset] at p1 p2
  exact kk _ _ _ _ _ _ _ _ _ _ _ _ _ _ _ _ _ _ hF hE _ _ _ _ _ _ ⟨hD1, hD2, p1, p2, p3, hm1, hm2, hC⟩ hL
theorem x_lastore {N : Nat} {a : Int32} {x : Int64} (h : mz_d y.2.1 pc n 1 .lastore) (hk : Λ[k]? = some (.inl (.long, N))) (hin : vp_in a N) (kk : mz_wp y d mc ms Q n L st Λ R I (mz_uJ J k a.toNatClampNeg x)) : mz_wp y d mc ms Q pc L (.long x :: .int a :: .ref k :: st) Λ R I J := by
  obtain ⟨hd, rfl⟩ := h
  intro p l e Rm s m args below meth c D cid ad0 n0 A MC MS Z hF hE ad H locs cells slots ls hD hL
  obtain ⟨hD1, hD2, hP, hDD, hS, hm1, hm2, hC⟩ := hD
  refine va_last hF.1.1 hF.1.2.1 hF.2.2.2.2.1 hP hDD hS k 1 (mz_w_get hk) rfl hin hd (fun H1 locs1 p1 p2 p3 => ?_)
  have hset := mz_w_set (cid := cid) (ad := ad) (R := R) (I := I) (J := J) (J' := mz_uJ J k a.toNatClampNeg x) (R' := R) (I' := I) hk (fun _ _ => rfl) (fun b hb => by first | rfl | simp [mz_uJ, hb]) (fun b hb => by first | rfl | simp [mz_uJ, hb])
  have he : mz_e cid ad R I (mz_uJ J k a.toNatClampNeg x) k (.inl (.long, N)) = .inl (cid .long, N, .inr (.inl (vp_updL (J k) a.toNatClampNeg x))) := by simp [mz_e, mz_ar, mz_uJ]
  rw [he] at hset
  rw [hset] at p1 p2
  exact kk _ _ _ _ _ _ _ _ _ _ _ _ _ _ _ _ _ _ hF hE _ _ _ _ _ _ ⟨hD1, hD2, p1, p2, p3, hm1, hm2, hC⟩ hL
theorem x_alen {N : Nat} {ty : FieldType} {v : Int32} (h : mz_d y.2.1 pc n 1 .arraylength) (hk : Λ[k]? = some (.inl (ty, N))) (hty : ∀ cid, (mz_tys cid)[mz_ti ty]? = some (cid ty, ty)) (hv : Int32.ofNat N = v) (kk : mz_wp y d mc ms Q n L (.int v :: st) Λ R I J) : mz_wp y d mc ms Q pc L (.ref k :: st) Λ R I J := by
  obtain ⟨hd, rfl⟩ := h
  intro p l e Rm s m args below meth c D cid ad0 n0 A MC MS Z hF hE ad H locs cells slots ls hD hL
  refine va_alen hF.1.1 hF.1.2.1 hF.2.2.2.2.1 hD.2.2.1 k (mz_ti ty) (mz_w_get hk) (hty cid) (v := v) ?_ hd (kk _ _ _ _ _ _ _ _ _ _ _ _ _ _ _ _ _ _ hF hE _ _ _ _ _ _ hD hL)
  cases ty <;> exact hv
/-! ===== contracts ===== -/
def mz_A (ad : Nat → Nat) (n sz : Nat) : Nat → Prop := fun q => (∃ k, k < n ∧ q = ad k) ∨ sz ≤ q
def mz_Pc (D : va_G) (cid : FieldType → ClassId) (ad : Nat → Nat) (sz : Nat) (vs : List Value) (Λ : List mz_Kd) (R : mz_R) (I : mz_I) (J : mz_J) : Array Value → State → Prop := va_Pc (vs.map (mz_v ad)) (fun U => U.heap.size = sz ∧ va_P D vwCl (mz_w cid ad R I J Λ) U.heap ∧ va_K D vwCl (mz_tys cid) U ∧ va_D (fun _ => True) (mz_w cid ad R I J Λ) ∧ mz_cl R Λ ∧ mz_RO ad (mz_A ad Λ.length sz) U U.heap)
def mz_Qc (D : va_G) (cid : FieldType → ClassId) (ad : Nat → Nat) (n0 : Nat) (A : Nat → Prop) (Q : mz_P) : Array Value → State → Outcome → State → Prop := fun _ st oc t => (∃ (r : Option Value) (Λ' : List mz_Kd) (R' : mz_R) (I' : mz_I) (J' : mz_J) (ad' : Nat → Nat), oc = .returned (r.map (mz_v ad')) ∧ Q r Λ' R' I' J' ∧ (∀ k, k < n0 ∨ 1000000 ≤ k → ad' k = ad k) ∧ n0 ≤ Λ'.length ∧ va_P D vwCl (mz_w cid ad' R' I' J' Λ') t.heap ∧ va_D A (mz_w cid ad' R' I' J' Λ') ∧ mz_cl R' Λ') ∧ va_F A st t
/-- the contract of a method: from the cells Λ R I J and the arguments vs it returns, with Q; d calls deep; mc cells of ms slots are new -/
def mz_Ok (y : mz_M) (d mc ms : Nat) (vs : List Value) (Λ : List mz_Kd) (R : mz_R) (I : mz_I) (J : mz_J) (Q : mz_P) : Prop :=
  ∀ (l : Launch) (D : va_G) (cid : FieldType → ClassId) (ad : Nat → Nat) (sz : Nat), Met l y.1 (mz_ws y) (mz_rm d mc ms) (mz_Pc D cid ad sz vs Λ R I J) (mz_Qc D cid ad Λ.length (mz_A ad Λ.length sz) Q) mc ms (mz_A ad Λ.length sz)
def mz_en : List Value → List (Option Value)
  | [] => []
  | v :: vs => if v.category = 2 then some v :: none :: mz_en vs else some v :: mz_en vs
theorem mz_en_mem {ad : Nat → Nat} : ∀ (vs : List Value) (b i : Nat) (v : Value), (mz_en vs)[i]? = some (some v) → (b + i, mz_v ad v) ∈ lv_args b (vs.map (mz_v ad)) := by
  intro vs
  induction vs with
  | nil => intro b i v h; simp [mz_en] at h
  | cons u vs ih =>
    intro b i v h
    simp only [List.map_cons, lv_args, mz_v_cat]
    simp only [mz_en] at h
    by_cases hc : u.category = 2
    · simp only [hc, if_true] at h ⊢
      match i, h with
      | 0, h => cases h; exact List.mem_cons_self
      | 1, h => simp at h
      | i + 2, h =>
        have := ih (b + 2) i v (by simpa using h)
        rw [show b + (i + 2) = b + 2 + i by omega]
        exact List.mem_cons_of_mem _ this
    · simp only [hc, if_false] at h ⊢
      match i, h with
      | 0, h => cases h; exact List.mem_cons_self
      | i + 1, h =>
        have := ih (b + 1) i v (by simpa using h)
        rw [show b + (i + 1) = b + 1 + i by omega]
        exact List.mem_cons_of_mem _ this
theorem mz_en_len (ad : Nat → Nat) : ∀ vs : List Value, (lg_sl (vs.map (mz_v ad))).length = (mz_en vs).length := by
  intro vs
  induction vs with
  | nil => rfl
  | cons u vs ih =>
    have e : lg_sl ((u :: vs).map (mz_v ad)) = (if (mz_v ad u).category = 2 then [.val (mz_v ad u), .second] else [.val (mz_v ad u)]) ++ lg_sl (vs.map (mz_v ad)) := rfl
    rw [e, mz_v_cat, List.length_append, ih]
    by_cases hc : u.category = 2
    · simp [mz_en, hc]; omega
    · simp [mz_en, hc]; omega
theorem mz_blind {D : va_G} {cid : FieldType → ClassId} {ad : Nat → Nat} {sz : Nat} {vs : List Value} {Λ : List mz_Kd} {R : mz_R} {I : mz_I} {J : mz_J} : FrameBlind (mz_Pc D cid ad sz vs Λ R I J) := by
  intro a U g mk q
  obtain ⟨q0, q1, qP, qK, qD, qC, qO⟩ := q
  exact ⟨q0, q1, qP, va_K.moved (u := U) (U := U.calling g mk a) (Vm.Alike.refl U.vm) qK, qD, qC, mz_RO.same (U := U.calling g mk a) qO rfl rfl⟩
theorem mz_wA {cid : FieldType → ClassId} {ad : Nat → Nat} {R : mz_R} {I : mz_I} {J : mz_J} {Λ : List mz_Kd} {A : Nat → Prop} (h : va_D A (mz_w cid ad R I J Λ)) {q : Nat} (hq : q < Λ.length) : A (ad q) := by
  have := mz_w_get (cid := cid) (ad := ad) (R := R) (I := I) (J := J) (List.getElem?_eq_getElem hq)
  exact h.2 q _ this
theorem mz_ok {vs : List Value} (hy : plainName y.1.cls = true) (hlen : (mz_en vs).length ≤ y.2.2.1) {L0 : List (Option Value)} (hL0 : mz_en vs ++ List.replicate (y.2.2.1 - (mz_en vs).length) none = L0) (h : mz_wp y d mc ms Q 0 L0 [] Λ R I J) : mz_Ok y d mc ms vs Λ R I J Q := by
  intro l D cid ad sz
  refine Met.ofW (cc := y.2.1) (maxL := y.2.2.1) (ret := y.2.2.2) hy rfl ?_
  intro p e s m args below meth c s₁ B hml hv
  obtain ⟨rfl, hsz, hP, hK, hD0, hC, hO⟩ := hv
  have hts := atoms_spec (ws := mz_ws y) B.pre
  have hown : s.vm.findClass y.1.cls = some m.cls := findClass_of_methodNamed B.named
  have hin : meth.name = y.1.name := (name_of_methodNamed B.named B.method).1
  subst hsz
  have hl := lv_entry (vs.map (mz_v ad)) (n := y.2.2.1) (by rw [mz_en_len]; exact hlen)
  rw [lg_entry_eq]
  generalize (lg_sl (vs.map (mz_v ad)) ++ List.replicate (y.2.2.1 - (lg_sl (vs.map (mz_v ad))).length) Slot.unset).toArray = ls at hl ⊢
  have hD : va_D (mz_A ad Λ.length s.heap.size) (mz_w cid ad R I J Λ) := by
    refine ⟨hD0.1, fun k q hk => Or.inl ⟨k, ?_, ?_⟩⟩
    · have := (List.getElem?_eq_some_iff.mp hk).1
      rwa [mz_w_len] at this
    · have hlt := (List.getElem?_eq_some_iff.mp hk).1
      rw [mz_w_len] at hlt
      rw [mz_w_get (List.getElem?_eq_getElem hlt)] at hk
      cases hk
      rfl
  refine h p l e (mz_rm d mc ms) s m _ below meth c D cid ad Λ.length (mz_A ad Λ.length s.heap.size) mc ms _ ⟨⟨B.exec, B.bytes, hml, hown, fun w hw => hts w (List.mem_cons_of_mem _ hw)⟩, B.notSynchronized, B.returns, hin, hK, fun q hq => Or.inr hq, hO, Nat.le_refl _, Nat.le_refl _, Nat.le_refl _, Nat.le_refl _⟩ ?_ ad s.heap [] 0 0 ls ⟨fun _ _ => rfl, Nat.le_refl _, hP, hD, va_S.rf, by omega, by omega, hC⟩ ?_
  · intro ad' H locs cells slots mc' ms' Λ' R' I' J' ls' pc' r hDy hRt hQ
    obtain ⟨g1, g2, g3, g4, g5, g6, g7, g8⟩ := hDy
    have hq : ∀ t : State, t.heap = H → s.WarmedH t.vm → mz_Qc D cid ad Λ.length (mz_A ad Λ.length s.heap.size) Q (vs.map (mz_v ad)).toArray s (.returned (r.map (mz_v ad'))) t := fun t ht hW => ⟨⟨r, Λ', R', I', J', ad', rfl, hQ, g1, g2, by rw [ht]; exact g3, g4, g8⟩, g5.F ht⟩
    refine W.widen (k := mc) (n := ms) (by omega) (by omega) ?_
    match r, hRt, hq with
    | none, hRt, hq => exact W.vret B.exec B.bytes (B.returns.trans hRt.2) hq g5.2.2 hRt.1
    | some (.int v), hRt, hq =>
      obtain ⟨hd, ty, hty, hn⟩ := hRt
      exact W.zret B.exec B.bytes (B.returns.trans hty) hn hq g5.2.2 hd
    | some (.long v), hRt, hq => exact W.lret B.exec B.bytes (B.returns.trans hRt.2) hq g5.2.2 hRt.1
  · subst hL0
    refine mz_L.of hl fun i v hi => ?_
    have hi2 : (mz_en vs)[i]? = some (some v) := by
      by_cases hlt : i < (mz_en vs).length
      · rwa [List.getElem?_append_left hlt] at hi
      · rw [List.getElem?_append_right (by omega), List.getElem?_replicate] at hi
        split at hi <;> cases hi
    have := mz_en_mem (ad := ad) vs 0 i v hi2
    rwa [Nat.zero_add] at this
end MZH
