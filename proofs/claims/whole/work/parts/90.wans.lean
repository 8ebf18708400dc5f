/-! ===== worlds: what is told of a world ===== -/
def layN0 (T : thT) (n : Nat) : Nat := fb_ct (fun k => decide (T k 0 = 0)) n
theorem layN0_le (T : thT) (n : Nat) : layN0 T n ≤ n := fb_ct_le _ _
theorem ty_0 (T : thT) : ∀ n, tyI T 0 n = nI (layN0 T n)
  | 0 => rfl
  | n + 1 => by
    have ih := ty_0 T n
    show tyI T 0 n + sTy (T n) 0 = nI (fb_ct (fun k => decide (T k 0 = 0)) (n + 1))
    rw [ih, fb_ct_succ]
    have e : sTy (T n) 0 = nI (if decide (T n 0 = 0) = true then 1 else 0) := by
      unfold sTy
      rw [if_pos (by decide)]
      by_cases c : T n 0 = 0
      · rw [if_pos ⟨c, Or.inl rfl⟩, if_pos (decide_eq_true c)]; rfl
      · rw [if_neg (fun z => c z.1), if_neg (by rw [decide_eq_true_iff]; exact c)]; rfl
    rw [e, z_add]
    rfl
theorem ty_3 (T : thT) : ∀ n, wfU T n → tyI T 3 n = nI (n - layN0 T n)
  | 0, _ => rfl
  | n + 1, h => by
    have ih := ty_3 T n (fun k hk => h k (by omega))
    have hle := layN0_le T n
    have h2 := (h n (by omega)).1
    show tyI T 3 n + sTy (T n) 3 = nI (n + 1 - fb_ct (fun k => decide (T k 0 = 0)) (n + 1))
    rw [ih, fb_ct_succ]
    unfold layN0 at hle ⊢
    have e : sTy (T n) 3 = nI (if T n 0 = 0 then 0 else 1) := by
      unfold sTy
      rw [if_pos (by decide)]
      by_cases c : T n 0 = 0
      · rw [if_neg (fun z => by have := z.1; omega), if_pos c]; rfl
      · rw [if_pos ⟨by omega, Or.inl rfl⟩, if_neg c]; rfl
    rw [e, z_add]
    by_cases c : T n 0 = 0
    · rw [if_pos c, if_pos (decide_eq_true c)]
      congr 1
      omega
    · rw [if_neg c, if_neg (by rw [decide_eq_true_iff]; exact c)]
      congr 1
      omega
def sumW (V : wV) : Nat → Nat
  | 0 => 0
  | s + 1 => sumW V s + V.2.1 s
theorem c_leftOver {V : wV} {M : dM} (rv : rcV V M) : f_wo_leftOver M = some (nI (sumW V 8)) := by
  unfold f_wo_leftOver
  have e0 : l_wo_leftOver_4 0 0 M = some (nI (sumW V 8)) := by
    unfold l_wo_leftOver_4
    refine lpc_seq (body := fun q : Int32 × Int32 => b_wo_leftOver_4_4 q.1 q.2 M) (fun k => (nI (sumW V k), nI k)) 8 ?_ ?_
    · intro k hk
      show b_wo_leftOver_4_4 (nI (sumW V k)) (nI k) M = some (.inl (nI (sumW V (k + 1)), nI (k + 1)))
      unfold b_wo_leftOver_4_4
      rw [if_neg (show ¬ (8 : Int32) ≤ nI k from z_nle (a := 8) (by omega) (by omega) (by omega)), z_gd (z_in (n := k) (by omega) (by omega)), z_cl (n := k) (by omega), (rv.2 k hk).1, z_add, show nI k + 1 = nI (k + 1) from z_add k 1]
      rfl
    · show b_wo_leftOver_4_4 (nI (sumW V 8)) (nI 8) M = _
      unfold b_wo_leftOver_4_4
      rw [if_pos (show (8 : Int32) ≤ nI 8 from by decide)]
  rw [e0, Option.bind_some]
theorem m_left115 {V : wV} {M : dM} (x2 x3 x4 : Int32) (rv : rmV V M) : l_mo_world_115 x2 x3 x4 0 0 M = some (nI (sumW V 8)) := by
  unfold l_mo_world_115
  refine lpc_seq (body := fun q : Int32 × Int32 => b_mo_world_115_115 x2 x3 x4 q.1 q.2 M) (fun k => (nI (sumW V k), nI k)) 8 ?_ ?_
  · intro k hk
    show b_mo_world_115_115 x2 x3 x4 (nI (sumW V k)) (nI k) M = some (.inl (nI (sumW V (k + 1)), nI (k + 1)))
    unfold b_mo_world_115_115
    rw [if_neg (show ¬ (8 : Int32) ≤ nI k from z_nle (a := 8) (by omega) (by omega) (by omega)), z_gd (z_in (n := k) (by omega) (by omega)), z_cl (n := k) (by omega), (rv.2 k hk).1, z_add, show nI k + 1 = nI (k + 1) from z_add k 1]
    rfl
  · show b_mo_world_115_115 x2 x3 x4 (nI (sumW V 8)) (nI 8) M = _
    unfold b_mo_world_115_115
    rw [if_pos (show (8 : Int32) ≤ nI 8 from by decide)]
theorem ageI_le0 {a g : Nat} (ha : a ≤ 10000) (h1 : a ≠ 0) (hg : g ≤ 10000) : (nI (a - 1) ≤ ageI g) = (a ≤ g) := ageI_le ha h1 hg
theorem m_53 {T : thT} {n : Nat} {M : dM} (x2 : Int32) (hU : wfU T n) (hn : n ≤ 1920) (r : rmU T n M) : l_mo_world_53 x2 0 (-1) 0 0 M = some (nI (layN0 T n), ageI (gmT T n)) := by
  unfold l_mo_world_53
  refine lpc_seq (body := fun q : Int32 × Int32 × Int32 => b_mo_world_53_53 x2 q.1 q.2.1 0 q.2.2 M) (fun k => (nI (layN0 T k), ageI (gmT T k), nI k)) n ?_ ?_
  · intro k hk
    show b_mo_world_53_53 x2 (nI (layN0 T k)) (ageI (gmT T k)) 0 (nI k) M = some (.inl (nI (layN0 T (k + 1)), ageI (gmT T (k + 1)), nI (k + 1)))
    obtain ⟨a0, a1, a2, a3, a4, a5, a6⟩ := r.2 k hk
    obtain ⟨q0, q1, q2, q3, q4, q5, q6, q7⟩ := hU k hk
    have hg := gmT_le (T := T) (n := k) (fun j hj => hU j (by omega))
    have fin : ∀ y : Nat, layN0 T k + y = layN0 T (k + 1) → b_mo_world_53_78 x2 (ageI (gmT T k)) 0 (nI k) (nI (layN0 T k)) (nI y) M = some (Sum.inl (nI (layN0 T (k + 1)), ageI (gmT T (k + 1)), nI (k + 1))) := fun y hy => by
      unfold b_mo_world_53_78
      rw [z_gd (z_in (n := k) (by omega) (by omega)), z_cl (n := k) (by omega), a5, z_add, hy, show nI k + 1 = nI (k + 1) from z_add k 1]
      show _ = some (Sum.inl (_, ageI (if gmT T k < T k 6 then T k 6 else gmT T k), _))
      by_cases c : T k 6 ≤ gmT T k
      · rw [if_pos (by rw [ageI_le q7 (by omega) hg]; exact c), if_neg (by omega)]
      · rw [if_neg (by rw [ageI_le q7 (by omega) hg]; exact c), if_pos (by omega), ageI_pos (show T k 6 ≠ 0 by omega)]
    have hs : layN0 T (k + 1) = layN0 T k + (if decide (T k 0 = 0) = true then 1 else 0) := fb_ct_succ _ _
    unfold b_mo_world_53_53
    rw [r.1, if_neg (z_nle (by omega) (by omega) hk), z_gd (z_in (n := k) (by omega) (by omega)), z_cl (n := k) (by omega), a0]
    by_cases c : T k 0 = 0
    · rw [if_pos (show nI (T k 0) = (0 : Int32) from by rw [c]; rfl)]
      exact fin 1 (by rw [hs, if_pos (decide_eq_true c)])
    · rw [if_neg (show ¬ nI (T k 0) = (0 : Int32) from z_ne (b := 0) (by omega) (by decide) c)]
      exact fin 0 (by rw [hs, if_neg (by rw [decide_eq_true_iff]; exact c)])
  · show b_mo_world_53_53 x2 (nI (layN0 T n)) (ageI (gmT T n)) 0 (nI n) M = _
    unfold b_mo_world_53_53
    rw [r.1, if_pos (z_yle (by omega) (by omega) (Nat.le_refl _))]
/-! the hand that found most -/
def luF (T : thT) (n : Nat) : Nat → Int32 × Nat
  | 0 => (-1, 0)
  | h + 1 => if (luF T n h).2 < hcN T h n then (nI h, hcN T h n) else luF T n h
theorem hcN_le (T : thT) (b n : Nat) : hcN T b n ≤ n := fb_ct_le _ _
theorem luF_le (T : thT) (n : Nat) : ∀ h, (luF T n h).2 ≤ n
  | 0 => Nat.zero_le _
  | h + 1 => by
    have ih := luF_le T n h
    show (if (luF T n h).2 < hcN T h n then (nI h, hcN T h n) else luF T n h).2 ≤ n
    split
    · exact hcN_le T h n
    · exact ih
theorem luF_s (T : thT) (n h : Nat) : luF T n (h + 1) = if (luF T n h).2 < hcN T h n then (nI h, hcN T h n) else luF T n h := rfl
theorem c_luck {T : thT} {n : Nat} {M : dM} (hn : n ≤ 1920) (r : rcU T n M) : f_wo_luckiest M = some (luF T n 10).1 := by
  unfold f_wo_luckiest
  have e0 : l_wo_luckiest_6 (-1) 0 0 M = some (luF T n 10).1 := by
    unfold l_wo_luckiest_6
    refine lpc_seq (body := fun q : Int32 × Int32 × Int32 => b_wo_luckiest_6_6 q.1 q.2.1 q.2.2 M) (fun k => ((luF T n k).1, nI (luF T n k).2, nI k)) 10 ?_ ?_
    · intro k hk
      show b_wo_luckiest_6_6 (luF T n k).1 (nI (luF T n k).2) (nI k) M = some (.inl ((luF T n (k + 1)).1, nI (luF T n (k + 1)).2, nI (k + 1)))
      have h1 := luF_le T n k
      have h2 := hcN_le T k n
      unfold b_wo_luckiest_6_6
      rw [if_neg (show ¬ (10 : Int32) ≤ nI k from z_nle (a := 10) (by omega) (by omega) (by omega)), z_gd (z_in (n := k) (by omega) (by omega)), z_cl (n := k) (by omega), r.2.2.2.2 k hk, show nI k + 1 = nI (k + 1) from z_add k 1, luF_s]
      by_cases c : (luF T n k).2 < hcN T k n
      · rw [if_neg (z_nle (by omega) (by omega) c), if_pos c]
      · rw [if_pos (z_yle (by omega) (by omega) (by omega)), if_neg c]
    · show b_wo_luckiest_6_6 (luF T n 10).1 (nI (luF T n 10).2) (nI 10) M = _
      unfold b_wo_luckiest_6_6
      rw [if_pos (show (10 : Int32) ≤ nI 10 from by decide)]
  rw [e0, Option.bind_some]
theorem m_18 {T : thT} {n : Nat} {M : dM} (x1 x2 : Int32) (hU : wfU T n) (hn : n ≤ 1920) (r : rmU T n M) {b : Nat} (hb : b < 10) : l_mo_mostFound_18 x1 x2 (nI b) 0 0 M = some (nI (hcN T b n)) := by
  unfold l_mo_mostFound_18
  refine lpc_seq (body := fun q : Int32 × Int32 => b_mo_mostFound_18_18 x1 x2 (nI b) q.1 q.2 M) (fun k => (nI (hcN T b k), nI k)) n ?_ ?_
  · intro k hk
    show b_mo_mostFound_18_18 x1 x2 (nI b) (nI (hcN T b k)) (nI k) M = some (.inl (nI (hcN T b (k + 1)), nI (k + 1)))
    obtain ⟨a0, a1, a2, a3, a4, a5, a6⟩ := r.2 k hk
    have q3 := (hU k hk).2.2.2.1
    have hs : hcN T b (k + 1) = hcN T b k + (if decide (T k 3 = b) = true then 1 else 0) := fb_ct_succ _ _
    unfold b_mo_mostFound_18_18
    rw [r.1, if_neg (z_nle (by omega) (by omega) hk), z_gd (z_in (n := k) (by omega) (by omega)), z_cl (n := k) (by omega), a3, show nI k + 1 = nI (k + 1) from z_add k 1, hs]
    by_cases c : T k 3 = b
    · rw [if_pos (by rw [c]), if_pos (decide_eq_true c)]
      show some (Sum.inl (nI _ + nI 1, _)) = _
      rw [z_add]
    · rw [if_neg (z_ne (by omega) (by omega) c), if_neg (by rw [decide_eq_true_iff]; exact c)]
      show some (Sum.inl (nI _ + nI 0, _)) = _
      rw [z_add]
  · show b_mo_mostFound_18_18 x1 x2 (nI b) (nI (hcN T b n)) (nI n) M = _
    unfold b_mo_mostFound_18_18
    rw [r.1, if_pos (z_yle (by omega) (by omega) (Nat.le_refl _))]
theorem m_luck {T : thT} {n : Nat} {M : dM} (hU : wfU T n) (hn : n ≤ 1920) (r : rmU T n M) : f_mo_mostFound M = some (luF T n 10).1 := by
  unfold f_mo_mostFound
  have e0 : l_mo_mostFound_6 (-1) 0 0 M = some (luF T n 10).1 := by
    unfold l_mo_mostFound_6
    refine lpc_seq (body := fun q : Int32 × Int32 × Int32 => b_mo_mostFound_6_6 q.1 q.2.1 q.2.2 M) (fun k => ((luF T n k).1, nI (luF T n k).2, nI k)) 10 ?_ ?_
    · intro k hk
      show b_mo_mostFound_6_6 (luF T n k).1 (nI (luF T n k).2) (nI k) M = some (.inl ((luF T n (k + 1)).1, nI (luF T n (k + 1)).2, nI (k + 1)))
      have h1 := luF_le T n k
      have h2 := hcN_le T k n
      unfold b_mo_mostFound_6_6
      rw [if_neg (show ¬ (10 : Int32) ≤ nI k from z_nle (a := 10) (by omega) (by omega) (by omega)), m_18 _ _ hU hn r hk, Option.bind_some]
      unfold b_mo_mostFound_6_65
      rw [show nI k + 1 = nI (k + 1) from z_add k 1, luF_s]
      by_cases c : (luF T n k).2 < hcN T k n
      · rw [if_neg (z_nle (by omega) (by omega) c), if_neg (z_nle (by omega) (by omega) c), if_pos c]
      · rw [if_pos (z_yle (by omega) (by omega) (by omega)), if_pos (z_yle (by omega) (by omega) (by omega)), if_neg c]
    · show b_mo_mostFound_6_6 (luF T n 10).1 (nI (luF T n 10).2) (nI 10) M = _
      unfold b_mo_mostFound_6_6
      rw [if_pos (show (10 : Int32) ≤ nI 10 from by decide)]
  rw [e0, Option.bind_some]
