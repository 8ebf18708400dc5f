/-! ===== rows of the small machine with a further fact of the call ===== -/
abbrev gz_C : Type := Program → Launch → Env → Room → State → MethodId → Array Value → List Frame → Method → Code → va_G → (FieldType → ClassId) → (Nat → Nat) → Nat → (Nat → Prop) → Nat → Nat → (State → Prop) → Prop
def gz_wp (P : gz_C) (y : mz_M) (d mc ms : Nat) (Q : mz_P) (pc : Nat) (L : List (Option Value)) (st : List Value) (Λ : List mz_Kd) (R : mz_R) (I : mz_I) (J : mz_J) : Prop :=
  ∀ (p : Program) (l : Launch) (e : Env) (Rm : Room) (s : State) (m : MethodId) (args : Array Value) (below : List Frame) (meth : Method) (c : Code) (D : va_G) (cid : FieldType → ClassId) (ad0 : Nat → Nat) (n0 : Nat) (A : Nat → Prop) (MC MS : Nat) (Z : State → Prop), mz_Fx y d MC MS p Rm s m args meth c D cid ad0 A → P p l e Rm s m args below meth c D cid ad0 n0 A MC MS Z → mz_End y Q p l e Rm s m args below meth c D cid ad0 n0 A MC MS Z → ∀ (ad : Nat → Nat) (H : Heap) (locs : List Loc) (cells slots : Nat) (ls : Array Slot), mz_Dy s D cid ad0 n0 A MC MS mc ms ad H locs cells slots Λ R I J → mz_L ad ls y.2.2.1 L → W p l e Rm s m args below meth c H locs cells slots Z (F0 m pc ls (mz_st ad st))
def gz_T : gz_C := fun _ _ _ _ _ _ _ _ _ _ _ _ _ _ _ _ _ _ => True
theorem mz_of_gz {y : mz_M} {d mc ms : Nat} {Q : mz_P} {pc : Nat} {L : List (Option Value)} {st : List Value} {Λ : List mz_Kd} {R : mz_R} {I : mz_I} {J : mz_J} (h : gz_wp gz_T y d mc ms Q pc L st Λ R I J) : mz_wp y d mc ms Q pc L st Λ R I J :=
  fun _ _ _ _ _ _ _ _ _ _ _ _ _ _ _ _ _ _ hF hE _ _ _ _ _ _ hD hL => h _ _ _ _ _ _ _ _ _ _ _ _ _ _ _ _ _ _ hF trivial hE _ _ _ _ _ _ hD hL
section GZ
variable {P : gz_C} {y : mz_M} {d mc ms : Nat} {Q : mz_P} {pc n : Nat} {L : List (Option Value)} {st : List Value} {Λ : List mz_Kd} {R : mz_R} {I : mz_I} {J : mz_J} {k i ci j : Nat} {y' : mz_M} {d' mc1 ms1 np : Nat} {vs st0 : List Value} {Q' : mz_P}
theorem gx_iadd {a b : Int32} (h : mz_d y.2.1 pc n 1 .iadd)  (k : gz_wp P y d mc ms Q n L (.int (a + b) :: st) Λ R I J) : gz_wp P y d mc ms Q pc L (.int b :: .int a :: st) Λ R I J := by
  obtain ⟨hd, rfl⟩ := h
  intro p l e Rm s m args below meth c D cid ad0 n0 A MC MS Z hF hG9 hE ad H locs cells slots ls hD hL
  exact lv_iadd hF.1.1 hF.1.2.1  hd  (k _ _ _ _ _ _ _ _ _ _ _ _ _ _ _ _ _ _ hF hG9 hE _ _ _ _ _ _ hD hL)
theorem gx_isub {a b : Int32} (h : mz_d y.2.1 pc n 1 .isub)  (k : gz_wp P y d mc ms Q n L (.int (a - b) :: st) Λ R I J) : gz_wp P y d mc ms Q pc L (.int b :: .int a :: st) Λ R I J := by
  obtain ⟨hd, rfl⟩ := h
  intro p l e Rm s m args below meth c D cid ad0 n0 A MC MS Z hF hG9 hE ad H locs cells slots ls hD hL
  exact lv_isub hF.1.1 hF.1.2.1  hd  (k _ _ _ _ _ _ _ _ _ _ _ _ _ _ _ _ _ _ hF hG9 hE _ _ _ _ _ _ hD hL)
theorem gx_iand {a b : Int32} (h : mz_d y.2.1 pc n 1 .iand)  (k : gz_wp P y d mc ms Q n L (.int (a &&& b) :: st) Λ R I J) : gz_wp P y d mc ms Q pc L (.int b :: .int a :: st) Λ R I J := by
  obtain ⟨hd, rfl⟩ := h
  intro p l e Rm s m args below meth c D cid ad0 n0 A MC MS Z hF hG9 hE ad H locs cells slots ls hD hL
  exact lv_iand hF.1.1 hF.1.2.1  hd  (k _ _ _ _ _ _ _ _ _ _ _ _ _ _ _ _ _ _ hF hG9 hE _ _ _ _ _ _ hD hL)
theorem gx_land {a b : Int64} (h : mz_d y.2.1 pc n 1 .land)  (k : gz_wp P y d mc ms Q n L (.long (a &&& b) :: st) Λ R I J) : gz_wp P y d mc ms Q pc L (.long b :: .long a :: st) Λ R I J := by
  obtain ⟨hd, rfl⟩ := h
  intro p l e Rm s m args below meth c D cid ad0 n0 A MC MS Z hF hG9 hE ad H locs cells slots ls hD hL
  exact lv_land hF.1.1 hF.1.2.1  hd  (k _ _ _ _ _ _ _ _ _ _ _ _ _ _ _ _ _ _ hF hG9 hE _ _ _ _ _ _ hD hL)
theorem gx_lor {a b : Int64} (h : mz_d y.2.1 pc n 1 .lor)  (k : gz_wp P y d mc ms Q n L (.long (a ||| b) :: st) Λ R I J) : gz_wp P y d mc ms Q pc L (.long b :: .long a :: st) Λ R I J := by
  obtain ⟨hd, rfl⟩ := h
  intro p l e Rm s m args below meth c D cid ad0 n0 A MC MS Z hF hG9 hE ad H locs cells slots ls hD hL
  exact lv_lor hF.1.1 hF.1.2.1  hd  (k _ _ _ _ _ _ _ _ _ _ _ _ _ _ _ _ _ _ hF hG9 hE _ _ _ _ _ _ hD hL)
theorem gx_lshl {a : Int64} {b : Int32} (h : mz_d y.2.1 pc n 1 .lshl)  (k : gz_wp P y d mc ms Q n L (.long (a <<< (b.toInt64 &&& 63)) :: st) Λ R I J) : gz_wp P y d mc ms Q pc L (.int b :: .long a :: st) Λ R I J := by
  obtain ⟨hd, rfl⟩ := h
  intro p l e Rm s m args below meth c D cid ad0 n0 A MC MS Z hF hG9 hE ad H locs cells slots ls hD hL
  exact lv_lshl hF.1.1 hF.1.2.1  hd rfl (k _ _ _ _ _ _ _ _ _ _ _ _ _ _ _ _ _ _ hF hG9 hE _ _ _ _ _ _ hD hL)
theorem gx_i2l {a : Int32} (h : mz_d y.2.1 pc n 1 .i2l)  (k : gz_wp P y d mc ms Q n L (.long a.toInt64 :: st) Λ R I J) : gz_wp P y d mc ms Q pc L (.int a :: st) Λ R I J := by
  obtain ⟨hd, rfl⟩ := h
  intro p l e Rm s m args below meth c D cid ad0 n0 A MC MS Z hF hG9 hE ad H locs cells slots ls hD hL
  exact lv_i2l hF.1.1 hF.1.2.1  hd rfl (k _ _ _ _ _ _ _ _ _ _ _ _ _ _ _ _ _ _ hF hG9 hE _ _ _ _ _ _ hD hL)
theorem gx_lcmp {a b : Int64} (h : mz_d y.2.1 pc n 1 .lcmp)  (k : gz_wp P y d mc ms Q n L (.int (lg_cmp a b) :: st) Λ R I J) : gz_wp P y d mc ms Q pc L (.long b :: .long a :: st) Λ R I J := by
  obtain ⟨hd, rfl⟩ := h
  intro p l e Rm s m args below meth c D cid ad0 n0 A MC MS Z hF hG9 hE ad H locs cells slots ls hD hL
  exact W.lcmp hF.1.1 hF.1.2.1  hd  (k _ _ _ _ _ _ _ _ _ _ _ _ _ _ _ _ _ _ hF hG9 hE _ _ _ _ _ _ hD hL)
theorem gx_iconst {i : Int} {v : Int32} (h : mz_d y.2.1 pc n 1 (.iconst i)) (hv : Int32.ofInt i = v) (k : gz_wp P y d mc ms Q n L (.int v :: st) Λ R I J) : gz_wp P y d mc ms Q pc L (st) Λ R I J := by
  obtain ⟨hd, rfl⟩ := h
  intro p l e Rm s m args below meth c D cid ad0 n0 A MC MS Z hF hG9 hE ad H locs cells slots ls hD hL
  exact lv_iconst hF.1.1 hF.1.2.1  hd hv (k _ _ _ _ _ _ _ _ _ _ _ _ _ _ _ _ _ _ hF hG9 hE _ _ _ _ _ _ hD hL)
theorem gx_bipush {i : Int} {v : Int32} (h : mz_d y.2.1 pc n 2 (.bipush i)) (hv : (Int8.ofInt i).toInt32 = v) (k : gz_wp P y d mc ms Q n L (.int v :: st) Λ R I J) : gz_wp P y d mc ms Q pc L (st) Λ R I J := by
  obtain ⟨hd, rfl⟩ := h
  intro p l e Rm s m args below meth c D cid ad0 n0 A MC MS Z hF hG9 hE ad H locs cells slots ls hD hL
  exact lv_bipush hF.1.1 hF.1.2.1  hd hv (k _ _ _ _ _ _ _ _ _ _ _ _ _ _ _ _ _ _ hF hG9 hE _ _ _ _ _ _ hD hL)
theorem gx_sipush {i : Int} {v : Int32} (h : mz_d y.2.1 pc n 3 (.sipush i)) (hv : (Int16.ofInt i).toInt32 = v) (k : gz_wp P y d mc ms Q n L (.int v :: st) Λ R I J) : gz_wp P y d mc ms Q pc L (st) Λ R I J := by
  obtain ⟨hd, rfl⟩ := h
  intro p l e Rm s m args below meth c D cid ad0 n0 A MC MS Z hF hG9 hE ad H locs cells slots ls hD hL
  exact lv_sipush hF.1.1 hF.1.2.1  hd hv (k _ _ _ _ _ _ _ _ _ _ _ _ _ _ _ _ _ _ hF hG9 hE _ _ _ _ _ _ hD hL)
theorem gx_ldc2 {i : Nat} {v : Int64} (h : mz_d y.2.1 pc n 3 (.ldc2_w i)) (hc : Cond.constantLong y.1.cls i v ∈ mz_gt) (k : gz_wp P y d mc ms Q n L (.long v :: st) Λ R I J) : gz_wp P y d mc ms Q pc L st Λ R I J := by
  obtain ⟨hd, rfl⟩ := h
  intro p l e Rm s m args below meth c D cid ad0 n0 A MC MS Z hF hG9 hE ad H locs cells slots ls hD hL
  exact lv_ldc2 hF.1.1 hF.1.2.1 hF.1.2.2.2.1 (hF.1.2.2.2.2 _ hc) hd (k _ _ _ _ _ _ _ _ _ _ _ _ _ _ _ _ _ _ hF hG9 hE _ _ _ _ _ _ hD hL)
theorem gx_dup_r {a : Nat} (h : mz_d y.2.1 pc n 1 .dup)  (k : gz_wp P y d mc ms Q n L (.ref a :: .ref a :: st) Λ R I J) : gz_wp P y d mc ms Q pc L (.ref a :: st) Λ R I J := by
  obtain ⟨hd, rfl⟩ := h
  intro p l e Rm s m args below meth c D cid ad0 n0 A MC MS Z hF hG9 hE ad H locs cells slots ls hD hL
  exact lv_dup hF.1.1 hF.1.2.1  hd rfl (k _ _ _ _ _ _ _ _ _ _ _ _ _ _ _ _ _ _ hF hG9 hE _ _ _ _ _ _ hD hL)
theorem gx_icmp_eq {a b : Int32} {t : Nat} {off : Int} (h : mz_b y.2.1 pc n t off (.if_icmp .eq off)) (kt : a = b → gz_wp P y d mc ms Q t L st Λ R I J) (kf : ¬ a = b → gz_wp P y d mc ms Q n L st Λ R I J) : gz_wp P y d mc ms Q pc L (.int b :: .int a :: st) Λ R I J := by
  obtain ⟨hd, rfl, ht⟩ := h
  intro p l e Rm s m args below meth c D cid ad0 n0 A MC MS Z hF hG9 hE ad H locs cells slots ls hD hL
  exact lv_icmp_eq hF.1.1 hF.1.2.1 hd ht (fun q => (kt q _ _ _ _ _ _ _ _ _ _ _ _ _ _ _ _ _ _ hF hG9 hE _ _ _ _ _ _ hD hL)) (fun q => (kf q _ _ _ _ _ _ _ _ _ _ _ _ _ _ _ _ _ _ hF hG9 hE _ _ _ _ _ _ hD hL))
theorem gx_icmp_ne {a b : Int32} {t : Nat} {off : Int} (h : mz_b y.2.1 pc n t off (.if_icmp .ne off)) (kt : ¬ a = b → gz_wp P y d mc ms Q t L st Λ R I J) (kf : a = b → gz_wp P y d mc ms Q n L st Λ R I J) : gz_wp P y d mc ms Q pc L (.int b :: .int a :: st) Λ R I J := by
  obtain ⟨hd, rfl, ht⟩ := h
  intro p l e Rm s m args below meth c D cid ad0 n0 A MC MS Z hF hG9 hE ad H locs cells slots ls hD hL
  exact lv_icmp_ne hF.1.1 hF.1.2.1 hd ht (fun q => (kt q _ _ _ _ _ _ _ _ _ _ _ _ _ _ _ _ _ _ hF hG9 hE _ _ _ _ _ _ hD hL)) (fun q => (kf q _ _ _ _ _ _ _ _ _ _ _ _ _ _ _ _ _ _ hF hG9 hE _ _ _ _ _ _ hD hL))
theorem gx_icmp_gt {a b : Int32} {t : Nat} {off : Int} (h : mz_b y.2.1 pc n t off (.if_icmp .gt off)) (kt : b < a → gz_wp P y d mc ms Q t L st Λ R I J) (kf : ¬ b < a → gz_wp P y d mc ms Q n L st Λ R I J) : gz_wp P y d mc ms Q pc L (.int b :: .int a :: st) Λ R I J := by
  obtain ⟨hd, rfl, ht⟩ := h
  intro p l e Rm s m args below meth c D cid ad0 n0 A MC MS Z hF hG9 hE ad H locs cells slots ls hD hL
  exact lv_icmp_gt hF.1.1 hF.1.2.1 hd ht (fun q => (kt q _ _ _ _ _ _ _ _ _ _ _ _ _ _ _ _ _ _ hF hG9 hE _ _ _ _ _ _ hD hL)) (fun q => (kf q _ _ _ _ _ _ _ _ _ _ _ _ _ _ _ _ _ _ hF hG9 hE _ _ _ _ _ _ hD hL))
theorem gx_icmp_ge {a b : Int32} {t : Nat} {off : Int} (h : mz_b y.2.1 pc n t off (.if_icmp .ge off)) (kt : b ≤ a → gz_wp P y d mc ms Q t L st Λ R I J) (kf : ¬ b ≤ a → gz_wp P y d mc ms Q n L st Λ R I J) : gz_wp P y d mc ms Q pc L (.int b :: .int a :: st) Λ R I J := by
  obtain ⟨hd, rfl, ht⟩ := h
  intro p l e Rm s m args below meth c D cid ad0 n0 A MC MS Z hF hG9 hE ad H locs cells slots ls hD hL
  exact lv_icmp_ge hF.1.1 hF.1.2.1 hd ht (fun q => (kt q _ _ _ _ _ _ _ _ _ _ _ _ _ _ _ _ _ _ hF hG9 hE _ _ _ _ _ _ hD hL)) (fun q => (kf q _ _ _ _ _ _ _ _ _ _ _ _ _ _ _ _ _ _ hF hG9 hE _ _ _ _ _ _ hD hL))
theorem gx_icmp_lt {a b : Int32} {t : Nat} {off : Int} (h : mz_b y.2.1 pc n t off (.if_icmp .lt off)) (kt : a < b → gz_wp P y d mc ms Q t L st Λ R I J) (kf : ¬ a < b → gz_wp P y d mc ms Q n L st Λ R I J) : gz_wp P y d mc ms Q pc L (.int b :: .int a :: st) Λ R I J := by
  obtain ⟨hd, rfl, ht⟩ := h
  intro p l e Rm s m args below meth c D cid ad0 n0 A MC MS Z hF hG9 hE ad H locs cells slots ls hD hL
  exact lv_icmp_lt hF.1.1 hF.1.2.1 hd ht (fun q => (kt q _ _ _ _ _ _ _ _ _ _ _ _ _ _ _ _ _ _ hF hG9 hE _ _ _ _ _ _ hD hL)) (fun q => (kf q _ _ _ _ _ _ _ _ _ _ _ _ _ _ _ _ _ _ hF hG9 hE _ _ _ _ _ _ hD hL))
theorem gx_icmp_le {a b : Int32} {t : Nat} {off : Int} (h : mz_b y.2.1 pc n t off (.if_icmp .le off)) (kt : a ≤ b → gz_wp P y d mc ms Q t L st Λ R I J) (kf : ¬ a ≤ b → gz_wp P y d mc ms Q n L st Λ R I J) : gz_wp P y d mc ms Q pc L (.int b :: .int a :: st) Λ R I J := by
  obtain ⟨hd, rfl, ht⟩ := h
  intro p l e Rm s m args below meth c D cid ad0 n0 A MC MS Z hF hG9 hE ad H locs cells slots ls hD hL
  exact lv_icmp_le hF.1.1 hF.1.2.1 hd ht (fun q => (kt q _ _ _ _ _ _ _ _ _ _ _ _ _ _ _ _ _ _ hF hG9 hE _ _ _ _ _ _ hD hL)) (fun q => (kf q _ _ _ _ _ _ _ _ _ _ _ _ _ _ _ _ _ _ hF hG9 hE _ _ _ _ _ _ hD hL))
theorem gx_if_eq {a : Int32} {t : Nat} {off : Int} (h : mz_b y.2.1 pc n t off (.ifCond .eq off)) (kt : a = 0 → gz_wp P y d mc ms Q t L st Λ R I J) (kf : ¬ a = 0 → gz_wp P y d mc ms Q n L st Λ R I J) : gz_wp P y d mc ms Q pc L (.int a :: st) Λ R I J := by
  obtain ⟨hd, rfl, ht⟩ := h
  intro p l e Rm s m args below meth c D cid ad0 n0 A MC MS Z hF hG9 hE ad H locs cells slots ls hD hL
  exact lv_if_eq hF.1.1 hF.1.2.1 hd ht (fun q => (kt q _ _ _ _ _ _ _ _ _ _ _ _ _ _ _ _ _ _ hF hG9 hE _ _ _ _ _ _ hD hL)) (fun q => (kf q _ _ _ _ _ _ _ _ _ _ _ _ _ _ _ _ _ _ hF hG9 hE _ _ _ _ _ _ hD hL))
theorem gx_if_ne {a : Int32} {t : Nat} {off : Int} (h : mz_b y.2.1 pc n t off (.ifCond .ne off)) (kt : ¬ a = 0 → gz_wp P y d mc ms Q t L st Λ R I J) (kf : a = 0 → gz_wp P y d mc ms Q n L st Λ R I J) : gz_wp P y d mc ms Q pc L (.int a :: st) Λ R I J := by
  obtain ⟨hd, rfl, ht⟩ := h
  intro p l e Rm s m args below meth c D cid ad0 n0 A MC MS Z hF hG9 hE ad H locs cells slots ls hD hL
  exact lv_if_ne hF.1.1 hF.1.2.1 hd ht (fun q => (kt q _ _ _ _ _ _ _ _ _ _ _ _ _ _ _ _ _ _ hF hG9 hE _ _ _ _ _ _ hD hL)) (fun q => (kf q _ _ _ _ _ _ _ _ _ _ _ _ _ _ _ _ _ _ hF hG9 hE _ _ _ _ _ _ hD hL))
theorem gx_if_lt {a : Int32} {t : Nat} {off : Int} (h : mz_b y.2.1 pc n t off (.ifCond .lt off)) (kt : a < 0 → gz_wp P y d mc ms Q t L st Λ R I J) (kf : ¬ a < 0 → gz_wp P y d mc ms Q n L st Λ R I J) : gz_wp P y d mc ms Q pc L (.int a :: st) Λ R I J := by
  obtain ⟨hd, rfl, ht⟩ := h
  intro p l e Rm s m args below meth c D cid ad0 n0 A MC MS Z hF hG9 hE ad H locs cells slots ls hD hL
  exact lv_if_lt hF.1.1 hF.1.2.1 hd ht (fun q => (kt q _ _ _ _ _ _ _ _ _ _ _ _ _ _ _ _ _ _ hF hG9 hE _ _ _ _ _ _ hD hL)) (fun q => (kf q _ _ _ _ _ _ _ _ _ _ _ _ _ _ _ _ _ _ hF hG9 hE _ _ _ _ _ _ hD hL))
theorem gx_if_ge {a : Int32} {t : Nat} {off : Int} (h : mz_b y.2.1 pc n t off (.ifCond .ge off)) (kt : 0 ≤ a → gz_wp P y d mc ms Q t L st Λ R I J) (kf : ¬ 0 ≤ a → gz_wp P y d mc ms Q n L st Λ R I J) : gz_wp P y d mc ms Q pc L (.int a :: st) Λ R I J := by
  obtain ⟨hd, rfl, ht⟩ := h
  intro p l e Rm s m args below meth c D cid ad0 n0 A MC MS Z hF hG9 hE ad H locs cells slots ls hD hL
  exact lv_if_ge hF.1.1 hF.1.2.1 hd ht (fun q => (kt q _ _ _ _ _ _ _ _ _ _ _ _ _ _ _ _ _ _ hF hG9 hE _ _ _ _ _ _ hD hL)) (fun q => (kf q _ _ _ _ _ _ _ _ _ _ _ _ _ _ _ _ _ _ hF hG9 hE _ _ _ _ _ _ hD hL))
theorem gx_if_gt {a : Int32} {t : Nat} {off : Int} (h : mz_b y.2.1 pc n t off (.ifCond .gt off)) (kt : 0 < a → gz_wp P y d mc ms Q t L st Λ R I J) (kf : ¬ 0 < a → gz_wp P y d mc ms Q n L st Λ R I J) : gz_wp P y d mc ms Q pc L (.int a :: st) Λ R I J := by
  obtain ⟨hd, rfl, ht⟩ := h
  intro p l e Rm s m args below meth c D cid ad0 n0 A MC MS Z hF hG9 hE ad H locs cells slots ls hD hL
  exact lv_if_gt hF.1.1 hF.1.2.1 hd ht (fun q => (kt q _ _ _ _ _ _ _ _ _ _ _ _ _ _ _ _ _ _ hF hG9 hE _ _ _ _ _ _ hD hL)) (fun q => (kf q _ _ _ _ _ _ _ _ _ _ _ _ _ _ _ _ _ _ hF hG9 hE _ _ _ _ _ _ hD hL))
theorem gx_if_le {a : Int32} {t : Nat} {off : Int} (h : mz_b y.2.1 pc n t off (.ifCond .le off)) (kt : a ≤ 0 → gz_wp P y d mc ms Q t L st Λ R I J) (kf : ¬ a ≤ 0 → gz_wp P y d mc ms Q n L st Λ R I J) : gz_wp P y d mc ms Q pc L (.int a :: st) Λ R I J := by
  obtain ⟨hd, rfl, ht⟩ := h
  intro p l e Rm s m args below meth c D cid ad0 n0 A MC MS Z hF hG9 hE ad H locs cells slots ls hD hL
  exact lv_if_le hF.1.1 hF.1.2.1 hd ht (fun q => (kt q _ _ _ _ _ _ _ _ _ _ _ _ _ _ _ _ _ _ hF hG9 hE _ _ _ _ _ _ hD hL)) (fun q => (kf q _ _ _ _ _ _ _ _ _ _ _ _ _ _ _ _ _ _ hF hG9 hE _ _ _ _ _ _ hD hL))
theorem gx_goto {t : Nat} {off : Int} (h : mz_b y.2.1 pc n t off (.goto off)) (k : gz_wp P y d mc ms Q t L st Λ R I J) : gz_wp P y d mc ms Q pc L st Λ R I J := by
  obtain ⟨hd, rfl, ht⟩ := h
  intro p l e Rm s m args below meth c D cid ad0 n0 A MC MS Z hF hG9 hE ad H locs cells slots ls hD hL
  exact lv_goto hF.1.1 hF.1.2.1 hd ht (k _ _ _ _ _ _ _ _ _ _ _ _ _ _ _ _ _ _ hF hG9 hE _ _ _ _ _ _ hD hL)
theorem gx_tabIn {dflt lo hi : Int} {offs : Array Int} {len t : Nat} {a : Int32} {off : Int} (hd : decode y.2.1 pc = .ok (.tableswitch dflt lo hi offs, len)) (h1 : ¬ a.toInt < lo) (h2 : ¬ hi < a.toInt) (ho : offs[(a.toInt - lo).toNat]? = some off) (ht : (pc : Int) + off = (t : Int)) (k : gz_wp P y d mc ms Q t L st Λ R I J) : gz_wp P y d mc ms Q pc L (.int a :: st) Λ R I J := by
  intro p l e Rm s m args below meth c D cid ad0 n0 A MC MS Z hF hG9 hE ad H locs cells slots ls hD hL
  exact lv_tableIn hF.1.1 hF.1.2.1 hd h1 h2 ho ht (k _ _ _ _ _ _ _ _ _ _ _ _ _ _ _ _ _ _ hF hG9 hE _ _ _ _ _ _ hD hL)
theorem gx_tabOut {dflt lo hi : Int} {offs : Array Int} {len t : Nat} {a : Int32} (hd : decode y.2.1 pc = .ok (.tableswitch dflt lo hi offs, len)) (h1 : a.toInt < lo ∨ hi < a.toInt) (ht : (pc : Int) + dflt = (t : Int)) (k : gz_wp P y d mc ms Q t L st Λ R I J) : gz_wp P y d mc ms Q pc L (.int a :: st) Λ R I J := by
  intro p l e Rm s m args below meth c D cid ad0 n0 A MC MS Z hF hG9 hE ad H locs cells slots ls hD hL
  exact lv_tableOut hF.1.1 hF.1.2.1 hd h1 ht (k _ _ _ _ _ _ _ _ _ _ _ _ _ _ _ _ _ _ hF hG9 hE _ _ _ _ _ _ hD hL)
theorem gx_iload {i : Nat} {a : Int32} (h : mz_d y.2.1 pc n 2 (.iload i)) (hl : L[i]? = some (some (.int a))) (k : gz_wp P y d mc ms Q n L ((.int a) :: st) Λ R I J) : gz_wp P y d mc ms Q pc L st Λ R I J := by
  obtain ⟨hd, rfl⟩ := h
  intro p l e Rm s m args below meth c D cid ad0 n0 A MC MS Z hF hG9 hE ad H locs cells slots ls hD hL
  exact lv_iload hF.1.1 hF.1.2.1 hd (hL.2.2 _ _ hl) (k _ _ _ _ _ _ _ _ _ _ _ _ _ _ _ _ _ _ hF hG9 hE _ _ _ _ _ _ hD hL)
theorem gx_iload_n {i : Fin 4} {a : Int32} (h : mz_d y.2.1 pc n 1 (.iload_n i)) (hl : L[(i : Nat)]? = some (some (.int a))) (k : gz_wp P y d mc ms Q n L ((.int a) :: st) Λ R I J) : gz_wp P y d mc ms Q pc L st Λ R I J := by
  obtain ⟨hd, rfl⟩ := h
  intro p l e Rm s m args below meth c D cid ad0 n0 A MC MS Z hF hG9 hE ad H locs cells slots ls hD hL
  exact lv_iload_n hF.1.1 hF.1.2.1 hd rfl (hL.2.2 _ _ hl) (k _ _ _ _ _ _ _ _ _ _ _ _ _ _ _ _ _ _ hF hG9 hE _ _ _ _ _ _ hD hL)
theorem gx_istore {i : Nat} {a : Int32} (h : mz_d y.2.1 pc n 2 (.istore i)) (hn : i < y.2.2.1) (hp : ∀ o, L[i - 1]? = some o → i = 0 ∨ mz_c2 o = false) (k : gz_wp P y d mc ms Q n (L.set i (some (.int a))) st Λ R I J) : gz_wp P y d mc ms Q pc L ((.int a) :: st) Λ R I J := by
  obtain ⟨hd, rfl⟩ := h
  intro p l e Rm s m args below meth c D cid ad0 n0 A MC MS Z hF hG9 hE ad H locs cells slots ls hD hL
  exact lv_istore hF.1.1 hF.1.2.1 hd hL.has hn rfl (fun ls' hl' => k _ _ _ _ _ _ _ _ _ _ _ _ _ _ _ _ _ _ hF hG9 hE _ _ _ _ _ _ hD (mz_L.st1 (v := .int a) hp hl'))
theorem gx_istore_n {i : Fin 4} {a : Int32} (h : mz_d y.2.1 pc n 1 (.istore_n i)) (hn : (i : Nat) < y.2.2.1) (hp : ∀ o, L[(i : Nat) - 1]? = some o → (i : Nat) = 0 ∨ mz_c2 o = false) (k : gz_wp P y d mc ms Q n (L.set (i : Nat) (some (.int a))) st Λ R I J) : gz_wp P y d mc ms Q pc L ((.int a) :: st) Λ R I J := by
  obtain ⟨hd, rfl⟩ := h
  intro p l e Rm s m args below meth c D cid ad0 n0 A MC MS Z hF hG9 hE ad H locs cells slots ls hD hL
  exact lv_istore_n hF.1.1 hF.1.2.1 hd rfl hL.has hn rfl (fun ls' hl' => k _ _ _ _ _ _ _ _ _ _ _ _ _ _ _ _ _ _ hF hG9 hE _ _ _ _ _ _ hD (mz_L.st1 (v := .int a) hp hl'))
theorem gx_aload {i : Nat} {a : Nat} (h : mz_d y.2.1 pc n 2 (.aload i)) (hl : L[i]? = some (some (.ref a))) (k : gz_wp P y d mc ms Q n L ((.ref a) :: st) Λ R I J) : gz_wp P y d mc ms Q pc L st Λ R I J := by
  obtain ⟨hd, rfl⟩ := h
  intro p l e Rm s m args below meth c D cid ad0 n0 A MC MS Z hF hG9 hE ad H locs cells slots ls hD hL
  exact lv_aload hF.1.1 hF.1.2.1 hd (hL.2.2 _ _ hl) (k _ _ _ _ _ _ _ _ _ _ _ _ _ _ _ _ _ _ hF hG9 hE _ _ _ _ _ _ hD hL)
theorem gx_aload_n {i : Fin 4} {a : Nat} (h : mz_d y.2.1 pc n 1 (.aload_n i)) (hl : L[(i : Nat)]? = some (some (.ref a))) (k : gz_wp P y d mc ms Q n L ((.ref a) :: st) Λ R I J) : gz_wp P y d mc ms Q pc L st Λ R I J := by
  obtain ⟨hd, rfl⟩ := h
  intro p l e Rm s m args below meth c D cid ad0 n0 A MC MS Z hF hG9 hE ad H locs cells slots ls hD hL
  exact lv_aload_n hF.1.1 hF.1.2.1 hd rfl (hL.2.2 _ _ hl) (k _ _ _ _ _ _ _ _ _ _ _ _ _ _ _ _ _ _ hF hG9 hE _ _ _ _ _ _ hD hL)
theorem gx_astore {i : Nat} {a : Nat} (h : mz_d y.2.1 pc n 2 (.astore i)) (hn : i < y.2.2.1) (hp : ∀ o, L[i - 1]? = some o → i = 0 ∨ mz_c2 o = false) (k : gz_wp P y d mc ms Q n (L.set i (some (.ref a))) st Λ R I J) : gz_wp P y d mc ms Q pc L ((.ref a) :: st) Λ R I J := by
  obtain ⟨hd, rfl⟩ := h
  intro p l e Rm s m args below meth c D cid ad0 n0 A MC MS Z hF hG9 hE ad H locs cells slots ls hD hL
  exact lv_astore hF.1.1 hF.1.2.1 hd hL.has hn rfl (fun ls' hl' => k _ _ _ _ _ _ _ _ _ _ _ _ _ _ _ _ _ _ hF hG9 hE _ _ _ _ _ _ hD (mz_L.st1 (v := .ref a) hp hl'))
theorem gx_astore_n {i : Fin 4} {a : Nat} (h : mz_d y.2.1 pc n 1 (.astore_n i)) (hn : (i : Nat) < y.2.2.1) (hp : ∀ o, L[(i : Nat) - 1]? = some o → (i : Nat) = 0 ∨ mz_c2 o = false) (k : gz_wp P y d mc ms Q n (L.set (i : Nat) (some (.ref a))) st Λ R I J) : gz_wp P y d mc ms Q pc L ((.ref a) :: st) Λ R I J := by
  obtain ⟨hd, rfl⟩ := h
  intro p l e Rm s m args below meth c D cid ad0 n0 A MC MS Z hF hG9 hE ad H locs cells slots ls hD hL
  exact lv_astore_n hF.1.1 hF.1.2.1 hd rfl hL.has hn rfl (fun ls' hl' => k _ _ _ _ _ _ _ _ _ _ _ _ _ _ _ _ _ _ hF hG9 hE _ _ _ _ _ _ hD (mz_L.st1 (v := .ref a) hp hl'))
theorem gx_iinc {i : Nat} {z : Int} {a b : Int32} (h : mz_d y.2.1 pc n 3 (.iinc i z)) (hl : L[i]? = some (some (.int a))) (hv : a + Int32.ofInt z = b) (hn : i < y.2.2.1) (hp : ∀ o, L[i - 1]? = some o → i = 0 ∨ mz_c2 o = false) (k : gz_wp P y d mc ms Q n (L.set i (some (.int b))) st Λ R I J) : gz_wp P y d mc ms Q pc L st Λ R I J := by
  obtain ⟨hd, rfl⟩ := h
  intro p l e Rm s m args below meth c D cid ad0 n0 A MC MS Z hF hG9 hE ad H locs cells slots ls hD hL
  have hm : (i, mz_v ad (.int a)) ∈ mz_lv ad L := mz_lv_mem.mpr ⟨_, hl, rfl⟩
  obtain ⟨q, hq⟩ := List.getElem?_of_mem hm
  exact lv_iinc (x := a) (v := b) hF.1.1 hF.1.2.1 hd hL.has (k := q) hq hv hn rfl (fun ls' hl' => k _ _ _ _ _ _ _ _ _ _ _ _ _ _ _ _ _ _ hF hG9 hE _ _ _ _ _ _ hD (mz_L.st1 (v := .int b) hp hl'))
theorem gx_ireturn {a : Int32} (h : mz_d y.2.1 pc n 1 .ireturn) {ty : FieldType} (hr : y.2.2.2 = some ty) (hn : narrow ty (.int a) = .int a) (hq : Q (some (.int a)) Λ R I J) : gz_wp P y d mc ms Q pc L [.int a] Λ R I J := by
  obtain ⟨hd, rfl⟩ := h
  intro p l e Rm s m args below meth c D cid ad0 n0 A MC MS Z hF hG9 hE ad H locs cells slots ls hD hL
  exact hE ad H locs cells slots mc ms Λ R I J ls pc (some (.int a)) hD ⟨hd, ty, hr, hn⟩ hq
theorem gx_return (h : mz_d y.2.1 pc n 1 .return_) (hr : y.2.2.2 = none) (hq : Q none Λ R I J) : gz_wp P y d mc ms Q pc L [] Λ R I J := by
  obtain ⟨hd, rfl⟩ := h
  intro p l e Rm s m args below meth c D cid ad0 n0 A MC MS Z hF hG9 hE ad H locs cells slots ls hD hL
  exact hE ad H locs cells slots mc ms Λ R I J ls pc none hD ⟨hd, hr⟩ hq
theorem gzz_get {v : Value} (h : mz_d y.2.1 pc n 3 (.getfield i)) (hf : mz_fl y.1.cls i ci j) (hk : Λ[k]? = some (.inr ci)) (hv : ∀ ad : Nat → Nat, mz_fv ad R I J k j (mz_ty ci j) = mz_v ad v) (kk : gz_wp P y d mc ms Q n L (v :: st) Λ R I J) : gz_wp P y d mc ms Q pc L (.ref k :: st) Λ R I J := by
  obtain ⟨hd, rfl⟩ := h
  obtain ⟨C, T, N, ⟨hc, hin, hty, hnm⟩, hj, hl⟩ := hf
  intro p l e Rm s m args below meth c D cid ad0 n0 A MC MS Z hF hG9 hE ad H locs cells slots ls hD hL
  have K := kk _ _ _ _ _ _ _ _ _ _ _ _ _ _ _ _ _ _ hF hG9 hE _ _ _ _ _ _ hD hL
  obtain ⟨hD1, hD2, hP, hDD, hS, hm1, hm2, hC⟩ := hD
  have he := mz_w_get (cid := cid) (ad := ad) (R := R) (I := I) (J := J) hk
  have hv' : (mz_fs ad R I J k ci)[j]? = some (mz_v ad v) := by rw [mz_fs_get (by rw [mz_nf_of hc]; exact hj), hv]
  · exact va_get hF.1.1 hF.1.2.1 hF.1.2.2.2.2 hin hF.1.2.2.2.1 hF.2.2.2.2.1 hP k he hc j hj (hF.1.2.2.2.2 _ hl) (fun _ h9 => h9) hv' hd K
theorem gx_getI (h : mz_d y.2.1 pc n 3 (.getfield i)) (hf : mz_fl y.1.cls i ci j) (hk : Λ[k]? = some (.inr ci)) (ht : mz_isI (mz_ty ci j) = true) (kk : gz_wp P y d mc ms Q n L (.int (I k j) :: st) Λ R I J) : gz_wp P y d mc ms Q pc L (.ref k :: st) Λ R I J := gzz_get h hf hk (fun _ => mz_fv_I ht) kk
theorem gx_getR {q : Nat} (h : mz_d y.2.1 pc n 3 (.getfield i)) (hf : mz_fl y.1.cls i ci j) (hk : Λ[k]? = some (.inr ci)) (ht : mz_isR (mz_ty ci j) = true) (hr : R k j = some q) (kk : gz_wp P y d mc ms Q n L (.ref q :: st) Λ R I J) : gz_wp P y d mc ms Q pc L (.ref k :: st) Λ R I J := gzz_get h hf hk (fun _ => by rw [mz_fv_R ht, hr]; rfl) kk
theorem gzz_put {v : Value} {R' : mz_R} {I' : mz_I} {J' : mz_J} (h : mz_d y.2.1 pc n 3 (.putfield i)) (hf : mz_fl y.1.cls i ci j) (hk : Λ[k]? = some (.inr ci)) (hfin : mz_fin ci j = false ∨ (mz_fin ci j = true ∧ y.1.name = "<init>" ∧ (∀ (C : String) (T : u_T) (N : Nat), vwCl[ci]? = some (C, T, N) → (T j).1 = y.1.cls))) (hn : ∀ ad : Nat → Nat, narrow (mz_ty ci j) (mz_v ad v) = mz_v ad v) (hfit : ∀ ad : Nat → Nat, fits (mz_ty ci j) (mz_v ad v) = true)
    (hv : ∀ ad : Nat → Nat, mz_fv ad R' I' J' k j (mz_ty ci j) = mz_v ad v) (hR : ∀ a, a ≠ k → R' a = R a) (hI : ∀ a, a ≠ k → I' a = I a) (hJ : ∀ a, a ≠ k → J' a = J a) (hR2 : ∀ b, b ≠ j → R' k b = R k b) (hI2 : ∀ b, b ≠ j → I' k b = I k b) (hJ2 : ∀ b, b ≠ j → J' k b = J k b) (hcl : mz_cl R Λ → mz_cl R' Λ)
    (kk : gz_wp P y d mc ms Q n L st Λ R' I' J') : gz_wp P y d mc ms Q pc L (v :: .ref k :: st) Λ R I J := by
  obtain ⟨hd, rfl⟩ := h
  obtain ⟨C, T, N, ⟨hc, hin, hty, hnm⟩, hj, hl⟩ := hf
  intro p l e Rm s m args below meth c D cid ad0 n0 A MC MS Z hF hG9 hE ad H locs cells slots ls hD hL
  obtain ⟨hD1, hD2, hP, hDD, hS, hm1, hm2, hC⟩ := hD
  have he := mz_w_get (cid := cid) (ad := ad) (R := R) (I := I) (J := J) hk
  have hset : (mz_w cid ad R I J Λ).set k (ad k, .inr (ci, (mz_fs ad R I J k ci).set j (mz_v ad v))) = mz_w cid ad R' I' J' Λ := by
    rw [mz_fs_set (hv ad) hR2 hI2 hJ2]
    exact mz_w_set (q := .inr ci) hk hR hI hJ
  have hlen : j < (mz_fs ad R I J k ci).length := by rw [mz_fs_len, mz_nf_of hc]; exact hj
  have K : ∀ (H1 : Heap) (locs1 : List Loc), va_P D vwCl ((mz_w cid ad R I J Λ).set k (ad k, .inr (ci, (mz_fs ad R I J k ci).set j (mz_v ad v)))) H1 → va_D A ((mz_w cid ad R I J Λ).set k (ad k, .inr (ci, (mz_fs ad R I J k ci).set j (mz_v ad v)))) → va_S A s.heap H1 locs1 → W p l e Rm s m args below meth c H1 locs1 cells slots Z (F0 m (pc + 3) ls (mz_st ad st)) := by
    intro H1 locs1 p1 p2 p3
    rw [hset] at p1 p2
    exact kk _ _ _ _ _ _ _ _ _ _ _ _ _ _ _ _ _ _ hF hG9 hE _ _ _ _ _ _ ⟨hD1, hD2, p1, p2, p3, hm1, hm2, hcl hC⟩ hL
  rcases hfin with hfin | ⟨hfin, hini, hdecl⟩
  · · exact va_put hF.1.1 hF.1.2.1 hF.1.2.2.2.2 hin (mz_ty ci) hty hnm hF.1.2.2.2.1 hF.2.2.2.2.1 hP hDD hS k he hc j hj (hF.1.2.2.2.2 _ hl) (fun _ h9 => h9) (by rw [← mz_fin_of hc]; exact hfin) (hty j hj) (hn ad) (hfit ad) hlen hd K
  · · exact va_putF hF.1.1 hF.1.2.1 hF.1.2.2.2.2 hin (mz_ty ci) hty hnm hF.1.2.2.2.1 hF.2.2.2.2.1 hP hDD hS k he hc j hj (hF.1.2.2.2.2 _ hl) (fun _ h9 => h9) (by rw [← mz_fin_of hc]; exact hfin) (hF.2.2.2.1.trans hini) (hdecl C T N hc) (hty j hj) (hn ad) (hfit ad) hlen hd K
theorem gx_putI {a : Int32} (h : mz_d y.2.1 pc n 3 (.putfield i)) (hf : mz_fl y.1.cls i ci j) (hk : Λ[k]? = some (.inr ci)) (hfin : mz_fin ci j = false) (ht : mz_isI (mz_ty ci j) = true) (hn : narrow (mz_ty ci j) (.int a) = .int a) (hfit : fits (mz_ty ci j) (.int a) = true) (kk : gz_wp P y d mc ms Q n L st Λ R (mz_uI I k j a) J) : gz_wp P y d mc ms Q pc L (.int a :: .ref k :: st) Λ R I J :=
  gzz_put (v := .int a) h hf hk (Or.inl hfin) (fun _ => hn) (fun _ => hfit) (fun _ => by rw [mz_fv_I ht]; simp [mz_uI, upd]; rfl) (fun _ _ => rfl) (fun b hb => by simp [mz_uI, hb]) (fun _ _ => rfl) (fun _ _ => rfl) (fun b hb => by simp [mz_uI, upd, hb]) (fun _ _ => rfl) id kk
theorem gx_putR {a : Nat} (h : mz_d y.2.1 pc n 3 (.putfield i)) (hf : mz_fl y.1.cls i ci j) (hk : Λ[k]? = some (.inr ci)) (hfin : mz_fin ci j = false ∨ (mz_fin ci j = true ∧ y.1.name = "<init>" ∧ (∀ (C : String) (T : u_T) (N : Nat), vwCl[ci]? = some (C, T, N) → (T j).1 = y.1.cls))) (ht : mz_isR (mz_ty ci j) = true) (ha : a < Λ.length ∨ 1000000 ≤ a) (kk : gz_wp P y d mc ms Q n L st Λ (mz_uR R k j (some a)) I J) : gz_wp P y d mc ms Q pc L (.ref a :: .ref k :: st) Λ R I J := by
  refine gzz_put (v := .ref a) h hf hk hfin (fun _ => ?_) (fun _ => ?_) (fun _ => by rw [mz_fv_R ht]; simp [mz_uR]; rfl) (fun b hb => by funext c; simp [mz_uR, hb]) (fun _ _ => rfl) (fun _ _ => rfl) (fun b hb => by simp [mz_uR, hb]) (fun _ _ => rfl) (fun _ _ => rfl) (fun hc b hb c q hq => ?_) kk
  · cases hty : mz_ty ci j <;> first | rfl | (rw [hty] at ht; cases ht)
  · cases hty : mz_ty ci j <;> first | rfl | (rw [hty] at ht; cases ht)
  · by_cases e : b = k ∧ c = j
    · simp only [mz_uR, e, and_self, if_true] at hq
      cases hq
      exact ha
    · simp only [mz_uR, e, if_false] at hq
      exact hc b hb c q hq
theorem gx_iastore {N : Nat} {a : Int32} {x : Int32} (h : mz_d y.2.1 pc n 1 .iastore) (hk : Λ[k]? = some (.inl (.int, N))) (hin : vp_in a N) (kk : gz_wp P y d mc ms Q n L st Λ R (mz_uI I k a.toNatClampNeg x) J) : gz_wp P y d mc ms Q pc L (.int x :: .int a :: .ref k :: st) Λ R I J := by
  obtain ⟨hd, rfl⟩ := h
  intro p l e Rm s m args below meth c D cid ad0 n0 A MC MS Z hF hG9 hE ad H locs cells slots ls hD hL
  obtain ⟨hD1, hD2, hP, hDD, hS, hm1, hm2, hC⟩ := hD
  refine va_iast hF.1.1 hF.1.2.1 hF.2.2.2.2.1 hP hDD hS k 0 (mz_w_get hk) rfl hin hd (fun H1 locs1 p1 p2 p3 => ?_)
  have hset := mz_w_set (cid := cid) (ad := ad) (R := R) (I := I) (J := J) (I' := mz_uI I k a.toNatClampNeg x) (R' := R) (J' := J) hk (fun _ _ => rfl) (fun b hb => by first | rfl | simp [mz_uI, hb]) (fun b hb => by first | rfl | simp [mz_uI, hb])
  have he : mz_e cid ad R (mz_uI I k a.toNatClampNeg x) J k (.inl (.int, N)) = .inl (cid .int, N, .inl (upd (I k) a.toNatClampNeg x)) := by simp [mz_e, mz_ar, mz_uI]
  rw [he] at hset
  rw [hset] at p1 p2
  exact kk _ _ _ _ _ _ _ _ _ _ _ _ _ _ _ _ _ _ hF hG9 hE _ _ _ _ _ _ ⟨hD1, hD2, p1, p2, p3, hm1, hm2, hC⟩ hL
theorem gx_laload {N : Nat} {a : Int32} (h : mz_d y.2.1 pc n 1 .laload) (hk : Λ[k]? = some (.inl (.long, N))) (hin : vp_in a N) (kk : gz_wp P y d mc ms Q n L (.long (J k a.toNatClampNeg) :: st) Λ R I J) : gz_wp P y d mc ms Q pc L (.int a :: .ref k :: st) Λ R I J := by
  obtain ⟨hd, rfl⟩ := h
  intro p l e Rm s m args below meth c D cid ad0 n0 A MC MS Z hF hG9 hE ad H locs cells slots ls hD hL
  exact va_lald hF.1.1 hF.1.2.1 hF.2.2.2.2.1 hD.2.2.1 k 1 (mz_w_get hk) rfl hin hd (kk _ _ _ _ _ _ _ _ _ _ _ _ _ _ _ _ _ _ hF hG9 hE _ _ _ _ _ _ hD hL)
theorem gx_lastore {N : Nat} {a : Int32} {x : Int64} (h : mz_d y.2.1 pc n 1 .lastore) (hk : Λ[k]? = some (.inl (.long, N))) (hin : vp_in a N) (kk : gz_wp P y d mc ms Q n L st Λ R I (mz_uJ J k a.toNatClampNeg x)) : gz_wp P y d mc ms Q pc L (.long x :: .int a :: .ref k :: st) Λ R I J := by
  obtain ⟨hd, rfl⟩ := h
  intro p l e Rm s m args below meth c D cid ad0 n0 A MC MS Z hF hG9 hE ad H locs cells slots ls hD hL
  obtain ⟨hD1, hD2, hP, hDD, hS, hm1, hm2, hC⟩ := hD
  refine va_last hF.1.1 hF.1.2.1 hF.2.2.2.2.1 hP hDD hS k 1 (mz_w_get hk) rfl hin hd (fun H1 locs1 p1 p2 p3 => ?_)
  have hset := mz_w_set (cid := cid) (ad := ad) (R := R) (I := I) (J := J) (J' := mz_uJ J k a.toNatClampNeg x) (R' := R) (I' := I) hk (fun _ _ => rfl) (fun b hb => by first | rfl | simp [mz_uJ, hb]) (fun b hb => by first | rfl | simp [mz_uJ, hb])
  have he : mz_e cid ad R I (mz_uJ J k a.toNatClampNeg x) k (.inl (.long, N)) = .inl (cid .long, N, .inr (.inl (vp_updL (J k) a.toNatClampNeg x))) := by simp [mz_e, mz_ar, mz_uJ]
  rw [he] at hset
  rw [hset] at p1 p2
  exact kk _ _ _ _ _ _ _ _ _ _ _ _ _ _ _ _ _ _ hF hG9 hE _ _ _ _ _ _ ⟨hD1, hD2, p1, p2, p3, hm1, hm2, hC⟩ hL
theorem gx_callV (h : mz_d y.2.1 pc n 3 (.invokevirtual i)) (hm : mz_mk y' np) (hl : mz_ml y.1.cls i y'.1) (hv : mz_vi y') (hk : Λ[k]? = some (.inr ci)) (hci : mz_cn ci = y'.1.cls) (hne : y'.1.cls ≠ "") (hok : mz_Ok y' d' mc1 ms1 (.ref k :: vs) Λ R I J Q') (hst : st0 = vs.reverse ++ .ref k :: st) (hnp : vs.length = np) (hd' : d' + 1 ≤ d) (hsm : (st.map (fun v => v.category)).sum ≤ 8) (hLr : mz_rL Λ.length L = true) (hSr : mz_rS Λ.length st = true) (kk : ∀ (r : Option Value) (Λ' : List mz_Kd) (R' : mz_R) (I' : mz_I) (J' : mz_J), Q' r Λ' R' I' J' → gz_wp P y d mc ms Q n L (r.toList ++ st) Λ' R' I' J') : gz_wp P y d (mc1 + mc) (ms1 + ms) Q pc L st0 Λ R I J := by
  obtain ⟨hd, rfl⟩ := h
  intro p l e Rm s m args below meth c D cid ad0 n0 A MC MS Z hF hG9 hE ad H locs cells slots ls hD hL
  subst hst
  obtain ⟨hc1, hc2, ⟨hc3, hc4, hc5⟩, hc6⟩ := hm
  have hts := hF.1.2.2.2.2
  have hO5 := hF.2.2.2.2.2.2.1.2.2.2.2
  have hgd := mz_good hc1
  have hfr : (mz_rm d' mc1 ms1).frames + 1 ≤ Rm.frames ∧ 8 + (y'.2.2.1 + 11) + (mz_rm d' mc1 ms1).locals ≤ Rm.locals := by
    have h1 := hF.2.2.2.2.2.2.2.2.2.1
    have h2 := hF.2.2.2.2.2.2.2.2.2.2
    have h3 : (mz_rm d' mc1 ms1).frames = d' := rfl
    have h4 : (mz_rm d' mc1 ms1).locals = 64 * d' := rfl
    omega
  have hcs : cells + mc1 ≤ Rm.cells ∧ slots + ms1 ≤ Rm.slots := by
    have h1 := hF.2.2.2.2.2.2.2.1
    have h2 := hF.2.2.2.2.2.2.2.2.1
    have h3 := hD.2.2.2.2.2.1
    have h4 := hD.2.2.2.2.2.2.1
    omega
  have hroom : 2 * (F0 m pc ls (mz_st ad (vs.reverse ++ .ref k :: st))).monitorRoom + ((mz_st ad st).map fun v => v.category).sum ≤ 8 := lv_room (by rw [mz_st_cat]; exact hsm)
  have hr : va_Run p l e Rm s m args below meth c H locs cells slots mc1 ms1 (F0 m pc ls (mz_st ad (vs.reverse ++ .ref k :: st))) (mz_st ad st) (mz_Qc D cid ad Λ.length (mz_A ad Λ.length H.size) Q' (((.ref k :: vs)).map (mz_v ad)).toArray) (mz_A ad Λ.length H.size) := by
    rcases hl with hl | ⟨host, hl⟩
    · obtain ⟨q, hq, hqn⟩ : ∃ q : vw_C, vwCl[ci]? = some q ∧ q.1 = y'.1.cls := by
        unfold mz_cn at hci
        split at hci
        · rename_i r hr; exact ⟨r, hr, hci⟩
        · exact absurd hci.symm hne
      exact va_runV (As := vs.map (mz_v ad)) (rest := mz_st ad st) (b := ad k) ⟨hF.1.1, hF.1.2.1, hF.1.2.2.1, hF.1.2.2.2.1, hts⟩ (hok l D cid ad H.size) ⟨callB_of np hts hgd rfl rfl rfl (hts _ hc2) (hts _ hl) ⟨hc3, hc4, hc5⟩ hfr, hts _ hv.1, hts _ hv.2⟩ ⟨mz_blind, (by have := va_recv (s := s) hF.2.2.2.2.1 hD.2.2.1 (ci := ci) (q0 := k) hq (mz_w_get hk); rwa [hqn] at this), fun U hU hW => mz_pre hF.2.2.2.2.1 hF.2.2.2.2.2.2.1 hF.2.2.2.2.2.1 hD (.ref k :: vs) U hU hW⟩ rfl (by rw [List.length_map]; exact hnp) hL.1 (by simp [mz_st, mz_v]) hroom hd hcs
    · obtain ⟨q, hq, hqn⟩ : ∃ q : vw_C, vwCl[ci]? = some q ∧ q.1 = y'.1.cls := by
        unfold mz_cn at hci
        split at hci
        · rename_i r hr; exact ⟨r, hr, hci⟩
        · exact absurd hci.symm hne
      exact va_runVN (As := vs.map (mz_v ad)) (rest := mz_st ad st) (b := ad k) ⟨hF.1.1, hF.1.2.1, hF.1.2.2.1, hF.1.2.2.2.1, hts⟩ (hok l D cid ad H.size) ⟨va_cnB np hts hgd rfl rfl rfl (hO5 _ hl) (hts _ hc2) ⟨hc3, hc4, hc5⟩ hfr, hts _ hv.1, hts _ hv.2⟩ ⟨mz_blind, (by have := va_recv (s := s) hF.2.2.2.2.1 hD.2.2.1 (ci := ci) (q0 := k) hq (mz_w_get hk); rwa [hqn] at this), fun U hU hW => mz_pre hF.2.2.2.2.1 hF.2.2.2.2.2.2.1 hF.2.2.2.2.2.1 hD (.ref k :: vs) U hU hW⟩ rfl (by rw [List.length_map]; exact hnp) hL.1 (by simp [mz_st, mz_v]) hroom hd hcs
  refine mz_back (mc := mc) (ms := ms) hF.2.2.2.2.2.1 hr hD (fun r Λ' R' I' J' ad' H' locs' hQ hag hDy => ?_)
  · have K := kk r Λ' R' I' J' hQ _ _ _ _ _ _ _ _ _ _ _ _ _ _ _ _ _ _ hF hG9 hE _ _ _ _ _ _ hDy (mz_L_re hag hLr hL)
    have e : mz_st ad' (r.toList ++ st) = (r.map (mz_v ad')).toList ++ mz_st ad st := by
      rw [← mz_st_re hag hSr]
      cases r <;> rfl
    rw [e] at K
    exact K
theorem gx_callI (h : mz_d y.2.1 pc n 3 (.invokespecial i)) (hm : mz_mk y' np) (hl : mz_ml y.1.cls i y'.1) (hv : Cond.instanceMethod y'.1 ∈ mz_gt) (hin : y'.1.name = "<init>") (hrn : y'.2.2.2 = none) (hok : mz_Ok y' d' mc1 ms1 (.ref k :: vs) Λ R I J Q') (hst : st0 = vs.reverse ++ .ref k :: st) (hnp : vs.length = np) (hd' : d' + 1 ≤ d) (hsm : (st.map (fun v => v.category)).sum ≤ 8) (hLr : mz_rL Λ.length L = true) (hSr : mz_rS Λ.length st = true) (kk : ∀ (r : Option Value) (Λ' : List mz_Kd) (R' : mz_R) (I' : mz_I) (J' : mz_J), Q' r Λ' R' I' J' → gz_wp P y d mc ms Q n L (r.toList ++ st) Λ' R' I' J') : gz_wp P y d (mc1 + mc) (ms1 + ms) Q pc L st0 Λ R I J := by
  obtain ⟨hd, rfl⟩ := h
  intro p l e Rm s m args below meth c D cid ad0 n0 A MC MS Z hF hG9 hE ad H locs cells slots ls hD hL
  subst hst
  obtain ⟨hc1, hc2, ⟨hc3, hc4, hc5⟩, hc6⟩ := hm
  have hts := hF.1.2.2.2.2
  have hO5 := hF.2.2.2.2.2.2.1.2.2.2.2
  have hgd := mz_good hc1
  have hfr : (mz_rm d' mc1 ms1).frames + 1 ≤ Rm.frames ∧ 8 + (y'.2.2.1 + 11) + (mz_rm d' mc1 ms1).locals ≤ Rm.locals := by
    have h1 := hF.2.2.2.2.2.2.2.2.2.1
    have h2 := hF.2.2.2.2.2.2.2.2.2.2
    have h3 : (mz_rm d' mc1 ms1).frames = d' := rfl
    have h4 : (mz_rm d' mc1 ms1).locals = 64 * d' := rfl
    omega
  have hcs : cells + mc1 ≤ Rm.cells ∧ slots + ms1 ≤ Rm.slots := by
    have h1 := hF.2.2.2.2.2.2.2.1
    have h2 := hF.2.2.2.2.2.2.2.2.1
    have h3 := hD.2.2.2.2.2.1
    have h4 := hD.2.2.2.2.2.2.1
    omega
  have hroom : 2 * (F0 m pc ls (mz_st ad (vs.reverse ++ .ref k :: st))).monitorRoom + ((mz_st ad st).map fun v => v.category).sum ≤ 8 := lv_room (by rw [mz_st_cat]; exact hsm)
  have hr : va_Run p l e Rm s m args below meth c H locs cells slots mc1 ms1 (F0 m pc ls (mz_st ad (vs.reverse ++ .ref k :: st))) (mz_st ad st) (mz_Qc D cid ad Λ.length (mz_A ad Λ.length H.size) Q' (((.ref k :: vs)).map (mz_v ad)).toArray) (mz_A ad Λ.length H.size) := by
    rcases hl with hl | ⟨host, hl⟩
    · exact va_runI (As := vs.map (mz_v ad)) (rest := mz_st ad st) (b := ad k) ⟨hF.1.1, hF.1.2.1, hF.1.2.2.1, hF.1.2.2.2.1, hts⟩ (hok l D cid ad H.size) ⟨callB_of np hts hgd (by unfold mz_ws; rw [hrn]) rfl rfl (hts _ hc2) (hts _ hl) ⟨hc3, hc4, hc5⟩ hfr, hin, hts _ hv⟩ ⟨mz_blind, fun U hU hW => mz_pre hF.2.2.2.2.1 hF.2.2.2.2.2.2.1 hF.2.2.2.2.2.1 hD (.ref k :: vs) U hU hW⟩ rfl (by rw [List.length_map]; exact hnp) hL.1 (by simp [mz_st, mz_v]) hroom hd hcs
    · exact va_runIN (As := vs.map (mz_v ad)) (rest := mz_st ad st) (b := ad k) ⟨hF.1.1, hF.1.2.1, hF.1.2.2.1, hF.1.2.2.2.1, hts⟩ (hok l D cid ad H.size) ⟨va_cnB np hts hgd (by unfold mz_ws; rw [hrn]) rfl rfl (hO5 _ hl) (hts _ hc2) ⟨hc3, hc4, hc5⟩ hfr, hin, hts _ hv⟩ ⟨mz_blind, fun U hU hW => mz_pre hF.2.2.2.2.1 hF.2.2.2.2.2.2.1 hF.2.2.2.2.2.1 hD (.ref k :: vs) U hU hW⟩ rfl (by rw [List.length_map]; exact hnp) hL.1 (by simp [mz_st, mz_v]) hroom hd hcs
  refine mz_back (mc := mc) (ms := ms) hF.2.2.2.2.2.1 hr hD (fun r Λ' R' I' J' ad' H' locs' hQ hag hDy => ?_)
  · have K := kk r Λ' R' I' J' hQ _ _ _ _ _ _ _ _ _ _ _ _ _ _ _ _ _ _ hF hG9 hE _ _ _ _ _ _ hDy (mz_L_re hag hLr hL)
    have e : mz_st ad' (r.toList ++ st) = (r.map (mz_v ad')).toList ++ mz_st ad st := by
      rw [← mz_st_re hag hSr]
      cases r <;> rfl
    rw [e] at K
    exact K
/-! one more cell -/
def gz_ad (ad : Nat → Nat) (n q : Nat) : Nat → Nat := fun a => if a = n then q else ad a
theorem gz_ad_n (ad : Nat → Nat) (n q : Nat) : gz_ad ad n q n = q := if_pos rfl
theorem gz_ad_k {ad : Nat → Nat} {n q k : Nat} (h : k ≠ n) : gz_ad ad n q k = ad k := if_neg h
theorem gz_w {cid : FieldType → ClassId} {ad : Nat → Nat} {q : Nat} {x : mz_Kd} (hC : mz_cl R Λ) (hn : Λ.length < 1000000) (hR : ∀ b, R Λ.length b = none) : mz_w cid (gz_ad ad Λ.length q) R I J (Λ ++ [x]) = mz_w cid ad R I J Λ ++ [(q, mz_e cid ad R I J Λ.length x)] := by
  have hfv : ∀ (k j : Nat) (ty : FieldType), k ≤ Λ.length → mz_fv (gz_ad ad Λ.length q) R I J k j ty = mz_fv ad R I J k j ty := by
    intro k j ty hk
    have hm : (R k j).map (gz_ad ad Λ.length q) = (R k j).map ad := by
      cases hr : R k j with
      | none => rfl
      | some z =>
        by_cases e : k = Λ.length
        · rw [e, hR] at hr; cases hr
        · have := hC k (by omega) j z hr
          show some (gz_ad ad Λ.length q z) = some (ad z)
          rw [gz_ad_k (by omega)]
    cases ty <;> simp only [mz_fv, hm]
  have he : ∀ (k : Nat) (y : mz_Kd), k ≤ Λ.length → mz_e cid (gz_ad ad Λ.length q) R I J k y = mz_e cid ad R I J k y := by
    intro k y hk
    cases y with
    | inl a => rfl
    | inr ci =>
      simp only [mz_e, mz_fs]
      congr 2
      exact List.map_congr_left fun j _ => hfv k j _ hk
  apply List.ext_getElem?
  intro k
  by_cases h1 : k < Λ.length
  · obtain ⟨y, hy⟩ : ∃ y, Λ[k]? = some y := ⟨_, List.getElem?_eq_getElem h1⟩
    have hy2 : (Λ ++ [x])[k]? = some y := by rw [List.getElem?_append_left h1]; exact hy
    rw [mz_w_get hy2, List.getElem?_append_left (by rw [mz_w_len]; exact h1), mz_w_get hy, gz_ad_k (by omega), he k y (by omega)]
  · by_cases h2 : k = Λ.length
    · subst h2
      have hy2 : (Λ ++ [x])[Λ.length]? = some x := by simp
      rw [mz_w_get hy2, List.getElem?_append_right (by rw [mz_w_len]; omega), mz_w_len, Nat.sub_self, gz_ad_n, he _ x (Nat.le_refl _)]
      rfl
    · rw [List.getElem?_eq_none (by rw [mz_w_len]; simp; omega), List.getElem?_eq_none (by simp [mz_w_len]; omega)]
theorem gz_Dy {s : State} {D : va_G} {cid : FieldType → ClassId} {ad0 : Nat → Nat} {n0 : Nat} {A : Nat → Prop} {MC MS : Nat} {ad : Nat → Nat} {H H1 : Heap} {locs : List Loc} {cells slots N q : Nat} {x : mz_Kd} (hn : Λ.length < 1000000) (hR : ∀ b, R Λ.length b = none) (hD : mz_Dy s D cid ad0 n0 A MC MS (mc + 1) (ms + N) ad H locs cells slots Λ R I J) (hP : va_P D vwCl (mz_w cid ad R I J Λ ++ [(q, mz_e cid ad R I J Λ.length x)]) H1) (hDD : va_D A (mz_w cid ad R I J Λ ++ [(q, mz_e cid ad R I J Λ.length x)])) (hS : va_S A s.heap H1 locs) : mz_Dy s D cid ad0 n0 A MC MS mc ms (gz_ad ad Λ.length q) H1 locs (cells + 1) (slots + N) (Λ ++ [x]) R I J := by
  obtain ⟨h1, h2, h3, h4, h5, h6, h7, h8⟩ := hD
  refine ⟨fun k hk => ?_, by simp; omega, by rw [gz_w h8 hn hR]; exact hP, by rw [gz_w h8 hn hR]; exact hDD, hS, by omega, by omega, fun k hk j z hz => ?_⟩
  · rw [gz_ad_k (by omega)]
    exact h1 k hk
  · simp at hk ⊢
    by_cases e : k = Λ.length
    · rw [e, hR] at hz; cases hz
    · have := h8 k (by omega) j z hz
      omega
def gz_aty (ty : FieldType) : Bool := match ty with
  | .int => true
  | .long => true
  | .boolean => true
  | .char => true
  | _ => false
theorem gx_newa {atype : ArrayType} {ty : FieldType} {v : Int32} {N : Nat} (h : mz_d y.2.1 pc n 2 (.newarray atype)) (hty : newarray.typeOf atype = ty) (hin : gz_aty ty = true) (harr : Cond.arrayClass ty ∈ mz_gt) (hv0 : ¬ v < 0) (hv : v.toNatClampNeg = N) (hb : N * componentBytes ty ≤ 536870912) (hn : Λ.length < 1000000) (hR : ∀ b, R Λ.length b = none) (hI : ∀ b, I Λ.length b = 0) (hJ : ∀ b, J Λ.length b = 0) (hLr : mz_rL Λ.length L = true) (hSr : mz_rS Λ.length st = true) (kk : gz_wp P y d mc ms Q n L (.ref Λ.length :: st) (Λ ++ [.inl (ty, N)]) R I J) : gz_wp P y d (mc + 1) (ms + N) Q pc L (.int v :: st) Λ R I J := by
  obtain ⟨hd, rfl⟩ := h
  intro p l e Rm s m args below meth c D cid ad0 n0 A MC MS Z hF hG9 hE ad H locs cells slots ls hD hL
  have hts := hF.1.2.2.2.2
  have ha : ∀ cA : ClassId, vp_cell cA (mz_ar I J Λ.length N ty) = arrV cA N (fun _ => defaultValue ty) := by
    intro cA
    have e1 : I Λ.length = fun _ => 0 := funext hI
    have e2 : J Λ.length = fun _ => 0 := funext hJ
    cases ty <;> first | (cases hin; done) | (simp only [mz_ar, vp_cell, e1, e2]; rfl)
  have hc := hD.2.2.2.2.2.1
  have hs := hD.2.2.2.2.2.2.1
  have hMC := hF.2.2.2.2.2.2.2.1
  have hMS := hF.2.2.2.2.2.2.2.2.1
  refine va_newa hF.1.1 hF.1.2.1 (by rw [hty]; exact hts _ harr) hty hF.2.2.2.2.1 hD.2.2.1 hD.2.2.2.1 hD.2.2.2.2.1 hF.2.2.2.2.2.1 ha hv0 hv hb (by omega) (by omega) hd (fun q cA H1 hK' hP' hD' hS' => ?_)
  have hcA : cA = cid ty := by
    have h1 := (hK'.2 (mz_tys cid).length (cA, ty) (by simp)).2
    have h2 : ∃ t0 : Nat, (mz_tys cid)[t0]? = some (cid ty, ty) := by
      cases ty <;> first | (cases hin; done) | exact ⟨0, rfl⟩ | exact ⟨1, rfl⟩ | exact ⟨2, rfl⟩ | exact ⟨3, rfl⟩
    obtain ⟨t0, h2⟩ := h2
    have h3 := (hF.2.2.2.2.1.2 t0 _ h2).2
    clear hK' hP' hD' hS' hF
    cases ty <;> first | (cases hin; done) | exact Option.some.inj (h1.symm.trans h3)
  subst hcA
  have K := kk _ _ _ _ _ _ _ _ _ _ _ _ _ _ _ _ _ _ hF hG9 hE _ _ _ _ _ _ (gz_Dy (x := .inl (ty, N)) hn hR hD hP' hD' hS') (mz_L_re (fun k hk => gz_ad_k (by omega)) hLr hL)
  have e : mz_st (gz_ad ad Λ.length q) (.ref Λ.length :: st) = .ref q :: mz_st ad st := by
    have e1 := mz_st_re (ad' := gz_ad ad Λ.length q) (ad := ad) (n := Λ.length) (fun k hk => gz_ad_k (by omega)) hSr
    show Value.ref (gz_ad ad Λ.length q Λ.length) :: mz_st (gz_ad ad Λ.length q) st = _
    rw [gz_ad_n, e1]
  rw [e] at K
  exact K
def gz_oty (ty : FieldType) : Bool := match ty with
  | .float => false
  | .double => false
  | _ => true
theorem gx_new {C : String} {T : u_T} {N : Nat} (h : mz_d y.2.1 pc n 3 (.new i)) (hck : mz_ck ci C T N) (hcl : Cond.classLink y.1.cls i C ∈ mz_gt) (hinst : Cond.instantiable C N ∈ mz_gt) (hini : Cond.initialized C ∈ mz_gt) (hot : ∀ j, j < N → gz_oty (mz_ty ci j) = true) (hn : Λ.length < 1000000) (hR : ∀ b, R Λ.length b = none) (hI : ∀ b, I Λ.length b = 0) (hJ : ∀ b, J Λ.length b = 0) (hLr : mz_rL Λ.length L = true) (hSr : mz_rS Λ.length st = true) (kk : gz_wp P y d mc ms Q n L (.ref Λ.length :: st) (Λ ++ [.inr ci]) R I J) : gz_wp P y d (mc + 1) (ms + N) Q pc L st Λ R I J := by
  obtain ⟨hd, rfl⟩ := h
  intro p l e Rm s m args below meth c D cid ad0 n0 A MC MS Z hF hG9 hE ad H locs cells slots ls hD hL
  have hts := hF.1.2.2.2.2
  obtain ⟨hc1, hc2, hc3, hc4⟩ := hck
  have hfs : ∀ j, j < N → defaultValue (mz_ty ci j) = vp_V (mz_fs ad R I J Λ.length ci) j := by
    intro j hj
    have hnf : mz_nf ci = N := mz_nf_of hc1
    have hg := mz_fs_get (ad := ad) (R := R) (I := I) (J := J) (k := Λ.length) (ci := ci) (j := j) (by rw [hnf]; exact hj)
    have ht := hot j hj
    unfold vp_V
    rw [List.getD_eq_getElem?_getD, hg]
    show _ = mz_fv ad R I J Λ.length j (mz_ty ci j)
    revert ht
    cases mz_ty ci j <;> intro ht <;> first | (cases ht; done) | (simp only [mz_fv, hI, hJ, hR]; rfl)
  have hc := hD.2.2.2.2.2.1
  have hs := hD.2.2.2.2.2.2.1
  have hMC := hF.2.2.2.2.2.2.2.1
  have hMS := hF.2.2.2.2.2.2.2.2.1
  refine va_new (ci := ci) (fs := mz_fs ad R I J Λ.length ci) (Ts := mz_gt) hF.1.1 hF.1.2.1 hts hc2 (mz_ty ci) hc3 hF.1.2.2.2.1 (hts _ hcl) (hts _ hinst) (hts _ hini) hF.2.2.2.2.1 hD.2.2.1 hD.2.2.2.1 hD.2.2.2.2.1 hF.2.2.2.2.2.1 hc1 hfs (by omega) (by omega) hd (fun q H1 hP' hD' hS' => ?_)
  have K := kk _ _ _ _ _ _ _ _ _ _ _ _ _ _ _ _ _ _ hF hG9 hE _ _ _ _ _ _ (gz_Dy (x := .inr ci) hn hR hD hP' hD' hS') (mz_L_re (fun k hk => gz_ad_k (by omega)) hLr hL)
  have e : mz_st (gz_ad ad Λ.length q) (.ref Λ.length :: st) = .ref q :: mz_st ad st := by
    have e1 := mz_st_re (ad' := gz_ad ad Λ.length q) (ad := ad) (n := Λ.length) (fun k hk => gz_ad_k (by omega)) hSr
    show Value.ref (gz_ad ad Λ.length q Λ.length) :: mz_st (gz_ad ad Λ.length q) st = _
    rw [gz_ad_n, e1]
  rw [e] at K
  exact K
theorem gx_obj (h : mz_d y.2.1 pc n 3 (.invokespecial i)) (hl : Cond.methodLink y.1.cls i objectInit ∈ mz_gt) (hi : Cond.instanceMethod objectInit ∈ mz_gt) (hc : Cond.code objectInit ⟨#[0xb1]⟩ 1 none ∈ mz_gt) (hd' : 1 ≤ d) (hsm : (st.map (fun v => v.category)).sum ≤ 8) (kk : gz_wp P y d mc ms Q n L st Λ R I J) : gz_wp P y d mc ms Q pc L (.ref k :: st) Λ R I J := by
  obtain ⟨hd, rfl⟩ := h
  intro p l e Rm s m args below meth c D cid ad0 n0 A MC MS Z hF hG9 hE ad H locs cells slots ls hD hL
  have hts := hF.1.2.2.2.2
  have h1 := hF.2.2.2.2.2.2.2.2.2.1
  have h2 := hF.2.2.2.2.2.2.2.2.2.2
  have hroom : 2 * (F0 m pc ls (mz_st ad (.ref k :: st))).monitorRoom + ((mz_st ad st).map fun v => v.category).sum ≤ 8 := lv_room (by rw [mz_st_cat]; exact hsm)
  have e9 : (List.map (fun v => v.category) (List.map (mz_v ad) st)).sum = (List.map (fun v => v.category) (mz_st ad st)).sum := rfl
  refine W.objInit hF.1.1 hF.1.2.1 hF.1.2.2.2.1 (hts _ hl) (hts _ hi) (hts _ hc) rfl (by rw [hF.1.2.2.1]; exact hL.1) rfl hd ?_ ?_ ?_
  · omega
  · omega
  · exact kk _ _ _ _ _ _ _ _ _ _ _ _ _ _ _ _ _ _ hF hG9 hE _ _ _ _ _ _ hD hL
theorem gx_ldcS {s : Nat} {own tx : String} (h : mz_d y.2.1 pc n 2 (.ldc i)) (hs : mz_sx[s]? = some (own, i, tx)) (ho : y.1.cls = own) (kk : gz_wp P y d mc ms Q n L (.ref (1000000 + s) :: st) Λ R I J) : gz_wp P y d mc ms Q pc L st Λ R I J := by
  obtain ⟨hd, rfl⟩ := h
  subst ho
  intro p l e Rm s1 m args below meth c D cid ad0 n0 A MC MS Z hF hG9 hE ad H locs cells slots ls hD hL
  have hR := hF.2.2.2.2.2.2.1.2.1 s _ hs
  have e1 : ad (1000000 + s) = ad0 (1000000 + s) := hD.1 _ (Or.inr (by omega))
  have K := kk _ _ _ _ _ _ _ _ _ _ _ _ _ _ _ _ _ _ hF hG9 hE _ _ _ _ _ _ hD hL
  refine va_ldcS hF.1.1 hF.1.2.1 hF.1.2.2.2.1 hR hd ?_
  rw [← e1]
  exact K
end GZ