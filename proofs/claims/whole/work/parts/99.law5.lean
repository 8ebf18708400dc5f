/-! ===== what holds at the entry ===== -/
theorem ws_ck (c : Nat) (q : vw_C) (h : vwCl[c]? = some q) : (∀ w ∈ u_ws q.1 q.2.1 q.2.2, w ∈ mz_gt) ∧ ∃ n, Cond.instantiable q.1 n ∈ mz_gt := by
  match c, h with
  | 0, h => cases (Option.some.inj h); exact ⟨ck1.2.1, 10, nwi_RX1⟩
  | 1, h => cases (Option.some.inj h); exact ⟨ck2.2.1, 10, nwi_RX2⟩
  | 2, h => cases (Option.some.inj h); exact ⟨ck3.2.1, 9, nwi_RX3⟩
  | 3, h => cases (Option.some.inj h); exact ⟨ck4.2.1, 7, nwi_RX4⟩
  | 4, h => cases (Option.some.inj h); exact ⟨ck5.2.1, 3, nwi_RX5⟩
  | 5, h => cases (Option.some.inj h); exact ⟨ck6.2.1, 11, nwi_RX6⟩
  | 6, h => cases (Option.some.inj h); exact ⟨ck7.2.1, 4, nwi_RX7⟩
  | 7, h => cases (Option.some.inj h); exact ⟨ck8.2.1, 15, nwi_RX8⟩
  | 8, h => cases (Option.some.inj h); exact ⟨ck9.2.1, 14, nwi_RX9⟩
  | 9, h => cases (Option.some.inj h); exact ⟨ck10.2.1, 17, nwi_RX10⟩
  | 10, h => cases (Option.some.inj h); exact ⟨ck11.2.1, 11, mz_in 134 (by decide +kernel) (by decide +kernel)⟩
  | 11, h => cases (Option.some.inj h); exact ⟨ck12.2.1, 100, mz_in 1493 (by decide +kernel) (by decide +kernel)⟩
  | c + 12, h => exact absurd (List.getElem?_eq_some_iff.mp h).1 (by show ¬ c + 12 < 12; omega)
theorem ws_arr {args : Array Value} {s : State} {ty : FieldType} (h : (Cond.arrayClass ty).before args s = true) : ∃ cA : ClassId, ArrOfT s cA ty ∧ s.vm.findClass ("[" ++ ty.toString) = some cA := by
  obtain ⟨cA, kA, comp, h1, h2, h3⟩ := Cond.arrayClass_spec h
  exact ⟨cA, fun n z => ⟨fun k h => (by cases h), kA, h2, comp, h3⟩, h1⟩
theorem ws_K {args : Array Value} {s : State} (hts : ∀ w ∈ mz_gt, w.before args s = true) : ∃ (D : va_G) (cid : FieldType → ClassId), va_K D vwCl (mz_tys cid) s := by
  have h0 : ∀ c : Nat, ∃ z : ClassId × (Nat → Nat), ∀ q, vwCl[c]? = some q → u_Kn s q.1 q.2.1 q.2.2 z.1 z.2 := by
    intro c
    cases hc : vwCl[c]? with
    | none => exact ⟨(default, fun _ => 0), fun q h => by cases h⟩
    | some q =>
      obtain ⟨h1, n, h2⟩ := ws_ck c q hc
      obtain ⟨cC, iS, h3⟩ := u_known hts h1 (hts _ h2)
      exact ⟨(cC, iS), fun q' h => by cases h; exact h3⟩
  obtain ⟨f, hf⟩ := Classical.axiomOfChoice h0
  obtain ⟨c1, a1, b1⟩ := ws_arr (hts _ (mz_in (w := .arrayClass .int) 163 (by decide +kernel) (by decide +kernel)))
  obtain ⟨c2, a2, b2⟩ := ws_arr (hts _ (mz_in (w := .arrayClass .long) 430 (by decide +kernel) (by decide +kernel)))
  obtain ⟨c3, a3, b3⟩ := ws_arr (hts _ (mz_in (w := .arrayClass .boolean) 487 (by decide +kernel) (by decide +kernel)))
  obtain ⟨c4, a4, b4⟩ := ws_arr (hts _ (mz_in (w := .arrayClass .char) 387 (by decide +kernel) (by decide +kernel)))
  refine ⟨(fun c => (f c).1, fun c => (f c).2), fun ty => match ty with
    | .int => c1
    | .long => c2
    | .boolean => c3
    | _ => c4, fun c q hq => hf c q hq, fun k q hk => ?_⟩
  match k, hk with
  | 0, hk => cases (Option.some.inj hk); exact ⟨a1, b1⟩
  | 1, hk => cases (Option.some.inj hk); exact ⟨a2, b2⟩
  | 2, hk => cases (Option.some.inj hk); exact ⟨a3, b3⟩
  | 3, hk => cases (Option.some.inj hk); exact ⟨a4, b4⟩
  | k + 4, hk => exact absurd (List.getElem?_eq_some_iff.mp hk).1 (by show ¬ k + 4 < 4; omega)
def wsF : List Cond := flatC (Cond.and given_1 narrow_1)
def wsT (i : Nat) : Term := .string (mz_sx.getD i ("", 0, "")).1 (mz_sx.getD i ("", 0, "")).2.1
def wsE (i j : Nat) : Cond := .eq (.elem (.field (wsT i) "java/lang/String" "value" "[B") (.int (Int32.ofNat j))) (.int ((mz_byt.getD i []).getD j 0))
def wsL (i : Nat) : List Cond := [.exactly (wsT i) "java/lang/String", .eq (.field (wsT i) "java/lang/String" "coder" "B") (.int 0), .arrayOf (.field (wsT i) "java/lang/String" "value" "[B") .byte, .eq (.length (.field (wsT i) "java/lang/String" "value" "[B")) (.int (Int32.ofNat (mz_len.getD i 0)))] ++ (List.range (mz_len.getD i 0)).map (wsE i)
theorem ws_b0 : (wsF.drop 23).take 99 = wsL 0 := by decide +kernel
theorem ws_b1 : (wsF.drop 222).take 48 = wsL 1 := by decide +kernel
theorem ws_b2 : (wsF.drop 135).take 33 = wsL 2 := by decide +kernel
theorem ws_b3 : (wsF.drop 170).take 8 = wsL 3 := by decide +kernel
theorem ws_b4 : (wsF.drop 207).take 9 = wsL 4 := by decide +kernel
theorem ws_b5 : (wsF.drop 192).take 10 = wsL 5 := by decide +kernel
theorem ws_b6 : (wsF.drop 181).take 7 = wsL 6 := by decide +kernel
theorem ws_b7 : (wsF.drop 122).take 12 = wsL 7 := by decide +kernel
theorem ws_b8 : (wsF.drop 277).take 24 = wsL 8 := by decide +kernel
theorem ws_b9 : (wsF.drop 309).take 28 = wsL 9 := by decide +kernel
theorem ws_in (i : Nat) (hi : i < 10) (w : Cond) (h : w ∈ wsL i) : w ∈ wsF := by
  match i, hi with
  | 0, _ =>
    have h2 : w ∈ (wsF.drop 23).take 99 := by rw [ws_b0]; exact h
    exact List.mem_of_mem_drop (List.mem_of_mem_take h2)
  | 1, _ =>
    have h2 : w ∈ (wsF.drop 222).take 48 := by rw [ws_b1]; exact h
    exact List.mem_of_mem_drop (List.mem_of_mem_take h2)
  | 2, _ =>
    have h2 : w ∈ (wsF.drop 135).take 33 := by rw [ws_b2]; exact h
    exact List.mem_of_mem_drop (List.mem_of_mem_take h2)
  | 3, _ =>
    have h2 : w ∈ (wsF.drop 170).take 8 := by rw [ws_b3]; exact h
    exact List.mem_of_mem_drop (List.mem_of_mem_take h2)
  | 4, _ =>
    have h2 : w ∈ (wsF.drop 207).take 9 := by rw [ws_b4]; exact h
    exact List.mem_of_mem_drop (List.mem_of_mem_take h2)
  | 5, _ =>
    have h2 : w ∈ (wsF.drop 192).take 10 := by rw [ws_b5]; exact h
    exact List.mem_of_mem_drop (List.mem_of_mem_take h2)
  | 6, _ =>
    have h2 : w ∈ (wsF.drop 181).take 7 := by rw [ws_b6]; exact h
    exact List.mem_of_mem_drop (List.mem_of_mem_take h2)
  | 7, _ =>
    have h2 : w ∈ (wsF.drop 122).take 12 := by rw [ws_b7]; exact h
    exact List.mem_of_mem_drop (List.mem_of_mem_take h2)
  | 8, _ =>
    have h2 : w ∈ (wsF.drop 277).take 24 := by rw [ws_b8]; exact h
    exact List.mem_of_mem_drop (List.mem_of_mem_take h2)
  | 9, _ =>
    have h2 : w ∈ (wsF.drop 309).take 28 := by rw [ws_b9]; exact h
    exact List.mem_of_mem_drop (List.mem_of_mem_take h2)
theorem ws_1 (i : Nat) (hi : i < 10) : Cond.exactly (wsT i) "java/lang/String" ∈ wsF := ws_in i hi _ List.mem_cons_self
theorem ws_2 (i : Nat) (hi : i < 10) : Cond.eq (.field (wsT i) "java/lang/String" "coder" "B") (.int 0) ∈ wsF := ws_in i hi _ (List.mem_cons_of_mem _ List.mem_cons_self)
theorem ws_3 (i : Nat) (hi : i < 10) : Cond.arrayOf (.field (wsT i) "java/lang/String" "value" "[B") .byte ∈ wsF := ws_in i hi _ (List.mem_cons_of_mem _ (List.mem_cons_of_mem _ List.mem_cons_self))
theorem ws_4 (i : Nat) (hi : i < 10) : Cond.eq (.length (.field (wsT i) "java/lang/String" "value" "[B")) (.int (Int32.ofNat (mz_len.getD i 0))) ∈ wsF := ws_in i hi _ (List.mem_cons_of_mem _ (List.mem_cons_of_mem _ (List.mem_cons_of_mem _ List.mem_cons_self)))
theorem ws_5 (i : Nat) (hi : i < 10) (j : Nat) (hj : j < mz_len.getD i 0) : wsE i j ∈ wsF := ws_in i hi _ (List.mem_append_right _ (List.mem_map.mpr ⟨j, List.mem_range.mpr hj, rfl⟩))
def wsP : List (Nat × Nat × Nat) := [(0, 1, 270), (0, 2, 168), (0, 3, 178), (0, 4, 216), (0, 5, 202), (0, 6, 188), (0, 7, 134), (0, 8, 301), (0, 9, 337), (1, 8, 308), (1, 9, 344), (2, 1, 272), (2, 3, 180), (2, 4, 218), (2, 5, 204), (2, 6, 190), (2, 8, 303), (2, 9, 339), (3, 1, 273), (3, 4, 219), (3, 5, 205), (3, 6, 191), (3, 8, 304), (3, 9, 340), (4, 1, 276), (4, 8, 307), (4, 9, 343), (5, 1, 275), (5, 4, 221), (5, 8, 306), (5, 9, 342), (6, 1, 274), (6, 4, 220), (6, 5, 206), (6, 8, 305), (6, 9, 341), (7, 1, 271), (7, 2, 169), (7, 3, 179), (7, 4, 217), (7, 5, 203), (7, 6, 189), (7, 8, 302), (7, 9, 338), (8, 9, 345)]
theorem ws_p1 : wsP.all (fun q => decide (wsF[q.2.2]? = some (Cond.not (Cond.eq (wsT q.1) (wsT q.2.1))))) = true := by decide +kernel
theorem ws_p2 : (List.range 10).all (fun i => (List.range 10).all (fun j => Nat.beq i j || wsP.any (fun q => (Nat.beq q.1 i && Nat.beq q.2.1 j) || (Nat.beq q.1 j && Nat.beq q.2.1 i)))) = true := by decide +kernel
theorem ws_6 (i j : Nat) (hi : i < 10) (hj : j < 10) (hij : i ≠ j) : Cond.not (Cond.eq (wsT i) (wsT j)) ∈ wsF ∨ Cond.not (Cond.eq (wsT j) (wsT i)) ∈ wsF := by
  have h := List.all_eq_true.mp (List.all_eq_true.mp ws_p2 i (List.mem_range.mpr hi)) j (List.mem_range.mpr hj)
  rcases (Bool.or_eq_true _ _).mp h with h | h
  · exact absurd (Nat.eq_of_beq_eq_true h) hij
  obtain ⟨q, hq, h⟩ := List.any_eq_true.mp h
  have hw : Cond.not (Cond.eq (wsT q.1) (wsT q.2.1)) ∈ wsF := List.mem_of_getElem? (of_decide_eq_true (List.all_eq_true.mp ws_p1 q hq))
  rcases (Bool.or_eq_true _ _).mp h with h | h
  · obtain ⟨h1, h2⟩ := (Bool.and_eq_true _ _).mp h
    rw [Nat.eq_of_beq_eq_true h1, Nat.eq_of_beq_eq_true h2] at hw
    exact Or.inl hw
  · obtain ⟨h1, h2⟩ := (Bool.and_eq_true _ _).mp h
    rw [Nat.eq_of_beq_eq_true h1, Nat.eq_of_beq_eq_true h2] at hw
    exact Or.inr hw
def wsRf : List Nat := [350, 929, 819, 857, 916, 899, 890, 732, 1458, 1491]
theorem ws_r : (List.range 10).all (fun i => decide (lw_tbl[wsRf.getD i 0]? = some (Cond.stringRef (mz_sx.getD i ("", 0, "")).1 (mz_sx.getD i ("", 0, "")).2.1 (mz_sx.getD i ("", 0, "")).2.2))) = true := by decide +kernel
theorem ws_7 (i : Nat) (hi : i < 10) : Cond.stringRef (mz_sx.getD i ("", 0, "")).1 (mz_sx.getD i ("", 0, "")).2.1 (mz_sx.getD i ("", 0, "")).2.2 ∈ lw_tbl := List.mem_of_getElem? (of_decide_eq_true (List.all_eq_true.mp ws_r i (List.mem_range.mpr hi)))
theorem ws_s1 : Cond.eq (Term.static "java/lang/String" "COMPACT_STRINGS" "Z") (Term.int 1) ∈ wsF := List.mem_of_getElem? (i := 4) (by decide +kernel)
theorem ws_s2 : Cond.isRef (Term.static "jdk/internal/util/Preconditions" "SIOOBE_FORMATTER" "Ljava/util/function/BiFunction;") ∈ wsF := List.mem_of_getElem? (i := 5) (by decide +kernel)
theorem ws_s3 : Cond.isRef (Term.static Bundle.tN "UNASSIGNED_STACK" Bundle.steD) ∈ wsF := List.mem_of_getElem? (i := 9) (by decide +kernel)
theorem ws_s4 : Cond.isRef (Term.static Bundle.tN "SUPPRESSED_SENTINEL" Bundle.listD) ∈ wsF := List.mem_of_getElem? (i := 10) (by decide +kernel)
theorem ws_at {w : Cond} (i : Nat) (h : lw_tbl[i]? = some w) : w ∈ lw_tbl := List.mem_of_getElem? h
def wsAd (b t : Nat) (K V : Nat → Nat) : Nat → Nat := fun k => if k = 4000000 then b else if k = 3000000 then t else if 2000000 ≤ k then V (k - 2000000) else K (k - 1000000)
theorem ws_X {args : Array Value} {s : State} {A : Nat → Prop} (hts : ∀ w ∈ lw_tbl, w.before args s = true) (hs : ∀ w ∈ wsF, w.before args s = true) (hA : ∀ a : Nat, a < s.heap.size → ¬ A a) : ezX A s s.heap := by
  refine ⟨vx_Zqof (args := args) (hts _ (ws_at 1446 (by decide +kernel))) (hts _ (ws_at 126 (by decide +kernel))) (hs _ ws_s3) hA, vx_Zqof (args := args) (hts _ (ws_at 1448 (by decide +kernel))) (hts _ (ws_at 126 (by decide +kernel))) (hs _ ws_s4) hA, fun w hw => va_Nw.of (A := args) (ezBad_tab hw) (hts _ ?_)⟩
  simp only [ezBad, List.mem_cons, List.not_mem_nil, or_false] at hw
  rcases hw with rfl | rfl | rfl | rfl
  · exact ws_at 1423 (by decide +kernel)
  · exact ws_at 1425 (by decide +kernel)
  · exact ws_at 1427 (by decide +kernel)
  · exact ws_at 1421 (by decide +kernel)
theorem ws_N {args : Array Value} {s : State} (hts : ∀ w ∈ lw_tbl, w.before args s = true) : ∀ w ∈ mz_nl, va_Nw w s := fun w hw => by
  obtain ⟨h1, h2⟩ := List.mem_filter.mp hw
  refine va_Nw.of (A := args) ?_ (hts w h1)
  cases w <;> first | rfl | cases h2
theorem ws_RO {args : Array Value} {s : State} {A : Nat → Prop} (b : Nat) (hts : ∀ w ∈ lw_tbl, w.before args s = true) (hs : ∀ w ∈ wsF, w.before args s = true) (hA : ∀ a : Nat, a < s.heap.size → ¬ A a) : ∃ ad : Nat → Nat, ad 4000000 = b ∧ mz_RO ad A s s.heap := by
  obtain ⟨K, V, hK, hT⟩ := vk_Sof (args := args) (s := s) (N := 10) (tm := wsT) (len := mz_len) (byt := mz_byt) (A := A) (by decide) (fun i hi => hs _ (ws_1 i hi)) (fun i hi => hs _ (ws_2 i hi)) (fun i hi => hs _ (ws_3 i hi)) (fun i hi => hs _ (ws_4 i hi)) (fun i hi j hj => hs _ (ws_5 i hi j hj)) (fun i j hi hj hij => (ws_6 i j hi hj hij).imp (hs _) (hs _)) hA
  have hZ1 : va_Z "java/lang/String" "COMPACT_STRINGS" "Z" (.int 1) A s s.heap := va_Zof (args := args) (hts _ (ws_at 746 (by decide +kernel))) (hts _ (ws_at 119 (by decide +kernel))) (va_eqt (hs _ ws_s1)) hA
  have hZ2 := va_Zqof (args := args) (s := s) (A := A) (hts _ (ws_at 789 (by decide +kernel))) (hts _ (ws_at 123 (by decide +kernel))) (hs _ ws_s2) hA
  obtain ⟨t, ht⟩ : ∃ t : Nat, va_Z "jdk/internal/util/Preconditions" "SIOOBE_FORMATTER" "Ljava/util/function/BiFunction;" .null A s s.heap ∨ va_Z "jdk/internal/util/Preconditions" "SIOOBE_FORMATTER" "Ljava/util/function/BiFunction;" (.ref t) A s s.heap := by
    rcases hZ2 with h | ⟨t, h⟩
    · exact ⟨0, Or.inl h⟩
    · exact ⟨t, Or.inr h⟩
  have e1 : ∀ i, i < 10 → wsAd b t K V (1000000 + i) = K i := fun i hi => by
    unfold wsAd
    rw [if_neg (by omega), if_neg (by omega), if_neg (by omega), Nat.add_sub_cancel_left]
  have e2 : ∀ i, i < 10 → wsAd b t K V (2000000 + i) = V i := fun i hi => by
    unfold wsAd
    rw [if_neg (by omega), if_neg (by omega), if_pos (by omega), Nat.add_sub_cancel_left]
  have e3 : wsAd b t K V 3000000 = t := rfl
  refine ⟨wsAd b t K V, rfl, ⟨fun i hi => ?_, fun i j hi hj h => ?_⟩, fun i q hi => ?_, hZ1, by rw [e3]; exact ht, ws_N hts⟩
  · have h := hK.1 i hi
    simp only [e1 i hi, e2 i hi]
    exact h
  · simp only [e1 i hi, e1 j hj] at h
    exact hK.2 i j hi hj h
  · have hi10 : i < 10 := (List.getElem?_eq_some_iff.mp hi).1
    have hq : mz_sx.getD i ("", 0, "") = q := by rw [List.getD_eq_getElem?_getD, hi]; rfl
    have h1 := hts _ (ws_7 i hi10)
    have h2 := hT i hi10
    rw [hq] at h1
    have h3 : (Term.string q.1 q.2.1).eval args s none [] s = some (.ref (K i)) := by rw [← hq]; exact h2
    rw [e1 i hi10]
    exact vk_R.of h1 h3
