/-! ===== the constructors: cells, references and ints as they come (made by gencons.py) ===== -/
def kcL (n : Nat) : List mz_Kd := LL.take n
def kcS : List (Nat × Nat × Nat) := [(1, 0, 2), (1, 1, 3), (1, 2, 4), (1, 3, 5), (0, 0, 1), (6, 0, 7), (6, 1, 8), (6, 2, 9), (6, 3, 10), (6, 4, 11), (0, 1, 6), (12, 0, 13), (12, 1, 14), (12, 2, 15), (12, 3, 16), (12, 4, 17), (12, 5, 18), (12, 6, 19), (12, 8, 20), (12, 9, 21), (12, 10, 22), (12, 12, 23), (0, 2, 12), (24, 0, 25), (24, 1, 26), (0, 3, 24), (27, 0, 28), (27, 2, 29), (27, 3, 30), (27, 8, 31), (0, 4, 27), (32, 0, 33), (34, 0, 35), (34, 2, 36), (34, 3, 37), (34, 8, 38), (32, 2, 34), (32, 10, 1000000), (0, 5, 32), (39, 4, 40), (39, 5, 41), (39, 6, 42), (39, 7, 43), (39, 8, 44), (39, 0, 1), (39, 1, 6), (39, 2, 12), (39, 3, 27), (0, 6, 39), (45, 4, 46), (45, 5, 47), (45, 8, 48), (45, 14, 49), (45, 0, 6), (45, 1, 12), (45, 2, 27), (45, 3, 39), (0, 7, 45), (50, 1, 51), (50, 2, 52), (50, 3, 53), (50, 5, 54), (50, 8, 55), (50, 0, 12), (0, 8, 50), (56, 3, 57), (56, 4, 58), (56, 5, 59), (56, 6, 60), (56, 7, 61), (56, 9, 62), (56, 11, 63), (56, 12, 64), (56, 15, 65), (56, 0, 1), (56, 1, 6), (56, 2, 39), (0, 9, 56), (66, 1, 67), (66, 2, 68), (66, 4, 69), (66, 5, 70), (66, 6, 71), (66, 7, 72), (66, 8, 73), (66, 10, 74), (66, 11, 75), (66, 12, 76), (66, 13, 77), (66, 14, 78), (66, 15, 79), (66, 16, 80), (66, 18, 81), (66, 26, 82), (66, 27, 83), (66, 28, 84), (66, 29, 85), (66, 30, 86), (66, 31, 87), (66, 36, 88), (66, 39, 89), (66, 40, 90), (66, 41, 91), (66, 42, 92), (66, 43, 93), (66, 44, 94), (66, 45, 95), (66, 46, 96), (66, 47, 97), (66, 48, 98), (66, 49, 99), (66, 50, 100), (66, 56, 101), (66, 57, 102), (66, 58, 103), (66, 59, 104), (66, 60, 105), (66, 61, 106), (66, 62, 107), (66, 70, 108), (66, 71, 109), (66, 72, 110), (66, 74, 111), (66, 75, 112), (66, 78, 113), (66, 79, 114), (66, 80, 115), (66, 81, 116), (66, 82, 117), (66, 83, 118), (66, 84, 119), (66, 86, 120), (66, 87, 121), (66, 89, 122), (66, 90, 123), (66, 91, 124), (66, 92, 125), (66, 93, 126), (66, 94, 127), (66, 95, 128), (66, 96, 129), (66, 98, 130), (66, 99, 131)]
def kcN : List (Nat × Nat × Int32) := [(27, 6, 3), (27, 7, 100), (34, 6, 3), (34, 7, 100), (39, 9, -2), (50, 6, -1), (56, 14, -1), (0, 10, 0), (67, 0, -1), (67, 1, -1), (67, 2, -1), (67, 3, -1), (67, 4, -1), (67, 5, -1), (67, 6, -1), (67, 7, -1), (67, 8, -1), (67, 9, -1), (67, 10, -1), (67, 11, -1), (67, 12, -1), (67, 13, -1), (67, 14, -1), (67, 15, -1), (67, 16, -1), (67, 17, -1), (67, 18, -1), (67, 19, -1), (67, 20, -1), (67, 21, -1), (67, 22, -1), (67, 23, -1), (67, 24, -1), (67, 25, -1), (67, 26, -1), (67, 27, -1), (67, 28, -1), (67, 29, -1), (67, 30, -1), (67, 31, -1), (67, 32, -1), (67, 33, -1), (67, 34, -1), (67, 35, -1), (67, 36, -1), (67, 37, -1), (67, 38, -1), (67, 39, -1), (67, 40, -1), (67, 41, -1), (67, 42, -1), (67, 43, -1), (67, 44, -1), (67, 45, -1), (67, 46, -1), (67, 47, -1), (67, 48, -1), (67, 49, -1), (67, 50, -1), (67, 51, -1), (67, 52, -1), (67, 53, -1), (67, 54, -1), (67, 55, -1), (67, 56, -1), (67, 57, -1), (67, 58, -1), (67, 59, -1), (67, 60, -1), (67, 61, -1), (67, 62, -1), (67, 63, -1), (67, 64, -1), (67, 65, -1), (67, 66, -1), (67, 67, -1), (67, 68, -1), (67, 69, -1), (67, 70, -1), (67, 71, -1), (67, 72, -1), (67, 73, -1), (67, 74, -1), (67, 75, -1), (67, 76, -1), (67, 77, -1), (67, 78, -1), (67, 79, -1), (66, 32, 3), (66, 33, 100)]
def kcR (t : Nat) : mz_R := (kcS.take t).foldl (fun R q => mz_uR R q.1 q.2.1 (some q.2.2)) (fun _ _ => none)
def kcI (t : Nat) : mz_I := (kcN.take t).foldl (fun I q => mz_uI I q.1 q.2.1 q.2.2) (fun _ _ => 0)
def kcJ : mz_J := fun _ _ => 0
def kcQ (n t u : Nat) : mz_P := fun r Λ' R' I' J' => r = none ∧ Λ' = kcL n ∧ R' = kcR t ∧ I' = kcI u ∧ J' = kcJ
theorem kcL_len (n : Nat) (h : n ≤ 133) : (kcL n).length = n := by
  unfold kcL
  rw [List.length_take, LL_len]
  omega
theorem kcL_s (n : Nat) {x : mz_Kd} (h : LL[n]? = some x) : kcL n ++ [x] = kcL (n + 1) := by
  unfold kcL
  rw [List.take_add_one, h]
  rfl
theorem kcL_at (n k : Nat) {x : mz_Kd} (h : (kcL n)[k]? = some x) : (kcL n)[k]? = some x := h
theorem kcR_s (t : Nat) {k j q : Nat} (h : kcS[t]? = some (k, j, q)) : mz_uR (kcR t) k j (some q) = kcR (t + 1) := by
  unfold kcR
  rw [List.take_add_one, h, List.foldl_append]
  rfl
theorem kcI_s (t : Nat) {k j : Nat} {x : Int32} (h : kcN[t]? = some (k, j, x)) : mz_uI (kcI t) k j x = kcI (t + 1) := by
  unfold kcI
  rw [List.take_add_one, h, List.foldl_append]
  rfl
theorem fR_none {a b : Nat} : ∀ (l : List (Nat × Nat × Nat)) (R : mz_R), (∀ q ∈ l, ¬ (a = q.1 ∧ b = q.2.1)) → (l.foldl (fun R q => mz_uR R q.1 q.2.1 (some q.2.2)) R) a b = R a b
  | [], _, _ => rfl
  | q :: l, R, h => by
    rw [List.foldl_cons, fR_none l _ (fun z hz => h z (List.mem_cons_of_mem _ hz))]
    exact if_neg (h q List.mem_cons_self)
theorem fI_none {a b : Nat} : ∀ (l : List (Nat × Nat × Int32)) (I : mz_I), (∀ q ∈ l, ¬ (a = q.1 ∧ b = q.2.1)) → (l.foldl (fun I q => mz_uI I q.1 q.2.1 q.2.2) I) a b = I a b
  | [], _, _ => rfl
  | q :: l, I, h => by
    rw [List.foldl_cons, fI_none l _ (fun z hz => h z (List.mem_cons_of_mem _ hz))]
    have hq := h q List.mem_cons_self
    show (if a = q.1 then upd (I q.1) q.2.1 q.2.2 else I a) b = I a b
    by_cases c : a = q.1
    · rw [if_pos c]
      have : b ≠ q.2.1 := fun z => hq ⟨c, z⟩
      subst c
      simp [upd, this]
    · rw [if_neg c]
theorem kcR_hi (t m : Nat) (h : (kcS.take t).all (fun q => Nat.blt q.1 m) = true) : ∀ b, kcR t m b = none := fun b => by
  refine fR_none (kcS.take t) (fun _ _ => none) (fun q hq z => ?_)
  have := Nat.le_of_ble_eq_true (List.all_eq_true.mp h q hq)
  omega
theorem kcI_hi (t m : Nat) (h : (kcN.take t).all (fun q => Nat.blt q.1 m) = true) : ∀ b, kcI t m b = 0 := fun b => by
  refine fI_none (kcN.take t) (fun _ _ => 0) (fun q hq z => ?_)
  have := Nat.le_of_ble_eq_true (List.all_eq_true.mp h q hq)
  omega
section KX
variable {P : gz_C} {y : mz_M} {d mc ms : Nat} {Q : mz_P} {pc n : Nat} {L : List (Option Value)} {st : List Value} {Λ : List mz_Kd} {R : mz_R} {I : mz_I} {i ci : Nat}
theorem kx_newa {atype : ArrayType} {ty : FieldType} {v : Int32} {N : Nat} (k : Nat) (hk : Λ.length = k) (hs : Λ ++ [.inl (ty, N)] = kcL (k + 1)) (h : mz_d y.2.1 pc n 2 (.newarray atype)) (hty : newarray.typeOf atype = ty) (hin : gz_aty ty = true) (harr : Cond.arrayClass ty ∈ mz_gt) (hv0 : ¬ v < 0) (hv : v.toNatClampNeg = N) (hb : N * componentBytes ty ≤ 536870912 ∧ k < 1000000) (hR : ∀ b, R k b = none) (hI : ∀ b, I k b = 0) (hLr : mz_rL k L = true) (hSr : mz_rS k st = true) (kk : gz_wp P y d mc ms Q n L (.ref k :: st) (kcL (k + 1)) R I kcJ) : gz_wp P y d (mc + 1) (ms + N) Q pc L (.int v :: st) Λ R I kcJ := by
  subst hk
  rw [← hs] at kk
  exact gx_newa h hty hin harr hv0 hv hb.1 hb.2 hR hI (fun _ => rfl) hLr hSr kk
theorem kx_new {C : String} {T : u_T} {N : Nat} (k : Nat) (hk : Λ.length = k) (hs : Λ ++ [.inr ci] = kcL (k + 1)) (h : mz_d y.2.1 pc n 3 (.new i)) (hck : mz_ck ci C T N) (hcl : Cond.classLink y.1.cls i C ∈ mz_gt) (hinst : Cond.instantiable C N ∈ mz_gt) (hini : Cond.initialized C ∈ mz_gt) (hot : (∀ j, j < N → gz_oty (mz_ty ci j) = true) ∧ k < 1000000) (hR : ∀ b, R k b = none) (hI : ∀ b, I k b = 0) (hLr : mz_rL k L = true) (hSr : mz_rS k st = true) (kk : gz_wp P y d mc ms Q n L (.ref k :: st) (kcL (k + 1)) R I kcJ) : gz_wp P y d (mc + 1) (ms + N) Q pc L st Λ R I kcJ := by
  subst hk
  rw [← hs] at kk
  exact gx_new h hck hcl hinst hini hot.1 hot.2 hR hI (fun _ => rfl) hLr hSr kk
end KX
theorem nwa_int : Cond.arrayClass FieldType.int ∈ mz_gt := mz_in 163 (by decide +kernel) (by decide +kernel)
theorem nwa_char : Cond.arrayClass FieldType.char ∈ mz_gt := mz_in 387 (by decide +kernel) (by decide +kernel)
theorem nwa_long : Cond.arrayClass FieldType.long ∈ mz_gt := mz_in 430 (by decide +kernel) (by decide +kernel)
theorem nwa_boolean : Cond.arrayClass FieldType.boolean ∈ mz_gt := mz_in 487 (by decide +kernel) (by decide +kernel)
theorem nwo_i : Cond.instanceMethod objectInit ∈ mz_gt := mz_in 139 (by decide +kernel) (by decide +kernel)
theorem nwo_c : Cond.code objectInit ⟨#[0xb1]⟩ 1 none ∈ mz_gt := mz_in 140 (by decide +kernel) (by decide +kernel)
theorem nwl_RX11_1 : Cond.methodLink RX11 1 objectInit ∈ mz_gt := mz_in 138 (by decide +kernel) (by decide +kernel)
theorem nwi_RX7 : Cond.instantiable RX7 4 ∈ mz_gt := mz_in 142 (by decide +kernel) (by decide +kernel)
theorem nwi_RX7z : Cond.initialized RX7 ∈ mz_gt := mz_in 107 (by decide +kernel) (by decide +kernel)
theorem nwc_RX11_7 : Cond.classLink RX11 7 RX7 ∈ mz_gt := mz_in 141 (by decide +kernel) (by decide +kernel)
theorem nwl_RX7_3 : Cond.methodLink RX7 3 objectInit ∈ mz_gt := mz_in 146 (by decide +kernel) (by decide +kernel)
theorem nwi_RX4 : Cond.instantiable RX4 7 ∈ mz_gt := mz_in 165 (by decide +kernel) (by decide +kernel)
theorem nwi_RX4z : Cond.initialized RX4 ∈ mz_gt := mz_in 108 (by decide +kernel) (by decide +kernel)
theorem nwc_RX11_16 : Cond.classLink RX11 16 RX4 ∈ mz_gt := mz_in 164 (by decide +kernel) (by decide +kernel)
theorem nwl_RX4_3 : Cond.methodLink RX4 3 objectInit ∈ mz_gt := mz_in 169 (by decide +kernel) (by decide +kernel)
theorem nwi_RX9 : Cond.instantiable RX9 14 ∈ mz_gt := mz_in 207 (by decide +kernel) (by decide +kernel)
theorem nwi_RX9z : Cond.initialized RX9 ∈ mz_gt := mz_in 109 (by decide +kernel) (by decide +kernel)
theorem nwc_RX11_23 : Cond.classLink RX11 23 RX9 ∈ mz_gt := mz_in 206 (by decide +kernel) (by decide +kernel)
theorem nwl_RX9_3 : Cond.methodLink RX9 3 objectInit ∈ mz_gt := mz_in 211 (by decide +kernel) (by decide +kernel)
theorem nwi_RX5 : Cond.instantiable RX5 3 ∈ mz_gt := mz_in 284 (by decide +kernel) (by decide +kernel)
theorem nwi_RX5z : Cond.initialized RX5 ∈ mz_gt := mz_in 110 (by decide +kernel) (by decide +kernel)
theorem nwc_RX11_30 : Cond.classLink RX11 30 RX5 ∈ mz_gt := mz_in 283 (by decide +kernel) (by decide +kernel)
theorem nwl_RX5_3 : Cond.methodLink RX5 3 objectInit ∈ mz_gt := mz_in 288 (by decide +kernel) (by decide +kernel)
theorem nwi_RX3 : Cond.instantiable RX3 9 ∈ mz_gt := mz_in 300 (by decide +kernel) (by decide +kernel)
theorem nwi_RX3z : Cond.initialized RX3 ∈ mz_gt := mz_in 111 (by decide +kernel) (by decide +kernel)
theorem nwc_RX11_37 : Cond.classLink RX11 37 RX3 ∈ mz_gt := mz_in 299 (by decide +kernel) (by decide +kernel)
theorem nwl_RX3_5 : Cond.methodLink RX3 5 objectInit ∈ mz_gt := mz_in 304 (by decide +kernel) (by decide +kernel)
theorem nwi_RX6 : Cond.instantiable RX6 11 ∈ mz_gt := mz_in 343 (by decide +kernel) (by decide +kernel)
theorem nwi_RX6z : Cond.initialized RX6 ∈ mz_gt := mz_in 112 (by decide +kernel) (by decide +kernel)
theorem nwc_RX11_44 : Cond.classLink RX11 44 RX6 ∈ mz_gt := mz_in 342 (by decide +kernel) (by decide +kernel)
theorem nwl_RX6_3 : Cond.methodLink RX6 3 objectInit ∈ mz_gt := mz_in 347 (by decide +kernel) (by decide +kernel)
theorem nwc_RX6_15 : Cond.classLink RX6 15 RX3 ∈ mz_gt := mz_in 348 (by decide +kernel) (by decide +kernel)
theorem nwi_RX2 : Cond.instantiable RX2 10 ∈ mz_gt := mz_in 390 (by decide +kernel) (by decide +kernel)
theorem nwi_RX2z : Cond.initialized RX2 ∈ mz_gt := mz_in 113 (by decide +kernel) (by decide +kernel)
theorem nwc_RX11_51 : Cond.classLink RX11 51 RX2 ∈ mz_gt := mz_in 389 (by decide +kernel) (by decide +kernel)
theorem nwl_RX2_3 : Cond.methodLink RX2 3 objectInit ∈ mz_gt := mz_in 394 (by decide +kernel) (by decide +kernel)
theorem nwi_RX8 : Cond.instantiable RX8 15 ∈ mz_gt := mz_in 432 (by decide +kernel) (by decide +kernel)
theorem nwi_RX8z : Cond.initialized RX8 ∈ mz_gt := mz_in 114 (by decide +kernel) (by decide +kernel)
theorem nwc_RX11_60 : Cond.classLink RX11 60 RX8 ∈ mz_gt := mz_in 431 (by decide +kernel) (by decide +kernel)
theorem nwl_RX8_3 : Cond.methodLink RX8 3 objectInit ∈ mz_gt := mz_in 436 (by decide +kernel) (by decide +kernel)
theorem nwi_RX1 : Cond.instantiable RX1 10 ∈ mz_gt := mz_in 489 (by decide +kernel) (by decide +kernel)
theorem nwi_RX1z : Cond.initialized RX1 ∈ mz_gt := mz_in 115 (by decide +kernel) (by decide +kernel)
theorem nwc_RX11_69 : Cond.classLink RX11 69 RX1 ∈ mz_gt := mz_in 488 (by decide +kernel) (by decide +kernel)
theorem nwl_RX1_3 : Cond.methodLink RX1 3 objectInit ∈ mz_gt := mz_in 493 (by decide +kernel) (by decide +kernel)
theorem nwi_RX10 : Cond.instantiable RX10 17 ∈ mz_gt := mz_in 528 (by decide +kernel) (by decide +kernel)
theorem nwi_RX10z : Cond.initialized RX10 ∈ mz_gt := mz_in 116 (by decide +kernel) (by decide +kernel)
theorem nwc_RX11_78 : Cond.classLink RX11 78 RX10 ∈ mz_gt := mz_in 527 (by decide +kernel) (by decide +kernel)
theorem nwl_RX10_5 : Cond.methodLink RX10 5 objectInit ∈ mz_gt := mz_in 532 (by decide +kernel) (by decide +kernel)
theorem nwl_RX12_1 : Cond.methodLink RX12 1 objectInit ∈ mz_gt := mz_in 1497 (by decide +kernel) (by decide +kernel)
theorem kcI_age : ∀ i, i < 80 → kcN[8 + i]? = some (67, i, (-1 : Int32)) := by decide +kernel
