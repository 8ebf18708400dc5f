/-! ===== parted ===== -/
def beI (P : Nat → Int32) : Nat → Nat
  | 0 => 0
  | k + 1 => if P (k + 1) ≤ P (beI P k) then beI P k else k + 1
theorem beI_le (P : Nat → Int32) : ∀ k, beI P k ≤ k
  | 0 => Nat.le_refl _
  | k + 1 => by
    have ih := beI_le P k
    show (if P (k + 1) ≤ P (beI P k) then beI P k else k + 1) ≤ k + 1
    split <;> omega
theorem c_part47 {A : sA} {Q : sQ} {v : Nat → Nat} {n : Nat} (x2 : Int32) (hn : n ≤ 20) : ∀ (m k : Nat) (M : dM), k + m = 7 → IV A Q v M → wC1 A Q M → wC2 A Q M → ∃ M', l_ax_parted_47 (nI n) x2 (nI (beI (fun j => sumT A Q (6 + j) n) k)) (sumT A Q (6 + beI (fun j => sumT A Q (6 + j) n) k) n) (nI (k + 1)) M = some (nI (beI (fun j => sumT A Q (6 + j) n) 7), sumT A Q (6 + beI (fun j => sumT A Q (6 + j) n) 7) n, M') ∧ IV A Q v M' ∧ wC1 A Q M' ∧ wC2 A Q M' ∧ chS kTo M M' := by
  intro m
  induction m with
  | zero =>
    intro k M hk h w1 w2
    have e : k = 7 := by omega
    subst e
    refine ⟨M, ?_, h, w1, w2, chS.refl _ _⟩
    unfold l_ax_parted_47
    refine lpc_out ?_
    show b_ax_parted_47_47 (nI n) x2 (nI (beI (fun j => sumT A Q (6 + j) n) 7)) (sumT A Q (6 + beI (fun j => sumT A Q (6 + j) n) 7) n) (nI 8) M = _
    unfold b_ax_parted_47_47
    rw [if_pos (show (8 : Int32) ≤ nI 8 from by decide)]
  | succ m ih =>
    intro k M hk h w1 w2
    obtain ⟨M1, a1, a2, a3, a4, a5⟩ := c_first (j := 6 + (k + 1)) hn (by omega) h w1 w2
    obtain ⟨M', b1, b2, b3, b4, b5⟩ := ih (k + 1) M1 (by omega) a2 a3 a4
    refine ⟨M', ?_, b2, b3, b4, a5.trans b5⟩
    unfold l_ax_parted_47 at b1 ⊢
    refine lpc_step (s' := (nI (beI (fun j => sumT A Q (6 + j) n) (k + 1)), sumT A Q (6 + beI (fun j => sumT A Q (6 + j) n) (k + 1)) n, nI (k + 1 + 1), M1)) ?_ b1
    show b_ax_parted_47_47 (nI n) x2 (nI (beI (fun j => sumT A Q (6 + j) n) k)) (sumT A Q (6 + beI (fun j => sumT A Q (6 + j) n) k) n) (nI (k + 1)) M = _
    have hs : beI (fun j => sumT A Q (6 + j) n) (k + 1) = if sumT A Q (6 + (k + 1)) n ≤ sumT A Q (6 + beI (fun j => sumT A Q (6 + j) n) k) n then beI (fun j => sumT A Q (6 + j) n) k else k + 1 := rfl
    unfold b_ax_parted_47_47
    rw [if_neg (show ¬ (8 : Int32) ≤ nI (k + 1) from z_nle (a := 8) (by omega) (by omega) (by omega)), show (6 : Int32) + nI (k + 1) = nI (6 + (k + 1)) from z_add 6 (k + 1), a1, Option.bind_some, show nI (k + 1) + 1 = nI (k + 1 + 1) from z_add (k + 1) 1, hs]
    by_cases c : sumT A Q (6 + (k + 1)) n ≤ sumT A Q (6 + beI (fun j => sumT A Q (6 + j) n) k) n
    · rw [if_pos c, if_pos c]
    · rw [if_neg c, if_neg c]
/-! the reference -/
theorem m_z40 (x1 x2 : Int32) : ∀ (m k : Nat) (M : dM), k + m = 8 → ∃ M', l_mo_parted_40 x1 x2 (nI k) M = some M' ∧ (∀ j, k ≤ j → j < 8 → gI M' 129 j = 0) ∧ (∀ j, j < k → gI M' 129 j = gI M 129 j) ∧ chS [129] M M' := by
  intro m
  induction m with
  | zero =>
    intro k M hk
    refine ⟨M, ?_, fun j h1 h2 => by omega, fun _ _ => rfl, chS.refl _ _⟩
    unfold l_mo_parted_40
    refine lpc_out ?_
    show b_mo_parted_40_40 x1 x2 (nI k) M = _
    unfold b_mo_parted_40_40
    rw [if_pos (show (8 : Int32) ≤ nI k from z_yle (a := 8) (by omega) (by omega) (by omega))]
  | succ m ih =>
    intro k M hk
    have c : chS [129] M (sI M 129 k 0) := chS_sI M 129 _ _ rfl
    obtain ⟨M', a1, a2, a3, a4⟩ := ih (k + 1) (sI M 129 k 0) (by omega)
    refine ⟨M', ?_, fun j h1 h2 => ?_, fun j hj => ?_, c.trans a4⟩
    · unfold l_mo_parted_40 at a1 ⊢
      refine lpc_step (s' := (nI (k + 1), sI M 129 k 0)) ?_ a1
      show b_mo_parted_40_40 x1 x2 (nI k) M = _
      unfold b_mo_parted_40_40
      rw [if_neg (show ¬ (8 : Int32) ≤ nI k from z_nle (a := 8) (by omega) (by omega) (by omega)), z_gd (z_in (n := k) (by omega) (by omega)), z_cl (n := k) (by omega), show nI k + 1 = nI (k + 1) from z_add k 1]
    · by_cases e : j = k
      · rw [e, a3 _ (by omega), gI_sI, if_pos ⟨rfl, rfl⟩]
      · exact a2 j (by omega) h2
    · rw [a3 j (by omega), gI_sI, if_neg (by omega)]
theorem m_86 {e : Nat → Nat} {x : Nat} (x1 x2 x3 : Int32) (hx : x < 1920) (h0 : e 0 < 2) (h1 : e 1 < 256) : ∀ (m k : Nat) (M : dM), k + m = 8 → gI M 123 x = nI (e 1) → gI M 122 x = nI (e 0) → ∃ M', l_mo_parted_86 x1 x2 x3 (nI x) (nI k) M = some M' ∧ (∀ j, gI M' 129 j = if k ≤ j ∧ j < 8 then gI M 129 j + sTy e (6 + j) else gI M 129 j) ∧ chS [129] M M' := by
  intro m
  induction m with
  | zero =>
    intro k M hk g1 g0
    refine ⟨M, ?_, fun j => by rw [if_neg (by omega)], chS.refl _ _⟩
    unfold l_mo_parted_86
    refine lpc_out ?_
    show b_mo_parted_86_86 x1 x2 x3 (nI x) (nI k) M = _
    unfold b_mo_parted_86_86
    rw [if_pos (show (8 : Int32) ≤ nI k from z_yle (a := 8) (by omega) (by omega) (by omega))]
  | succ m ih =>
    intro k M hk g1 g0
    have c : chS [129] M (sI M 129 k (gI M 129 k + sTy e (6 + k))) := chS_sI M 129 _ _ rfl
    obtain ⟨M', a1, a2, a3⟩ := ih (k + 1) (sI M 129 k (gI M 129 k + sTy e (6 + k))) (by omega) ((c.I 123 x rfl).trans g1) ((c.I 122 x rfl).trans g0)
    refine ⟨M', ?_, fun j => ?_, c.trans a3⟩
    · unfold l_mo_parted_86 at a1 ⊢
      refine lpc_step (s' := (nI (k + 1), sI M 129 k (gI M 129 k + sTy e (6 + k)))) ?_ a1
      show b_mo_parted_86_86 x1 x2 x3 (nI x) (nI k) M = _
      have hs : sTy e (6 + k) = if e 1 / 2 ^ k % 2 = 0 then 0 else if e 0 = 0 then -1 else 1 := by
        unfold sTy
        rw [if_neg (by omega), show 6 + k - 6 = k by omega]
      have hb : e 1 / 2 ^ k % 2 < 2 := Nat.mod_lt _ (by decide)
      have fin : ∀ y : Int32, y = sTy e (6 + k) → b_mo_parted_86_135 x1 x2 x3 (nI x) (nI k) (nI k) (gI M 129 k) y M = some (Sum.inl (nI (k + 1), sI M 129 k (gI M 129 k + sTy e (6 + k)))) := fun y hy => by
        unfold b_mo_parted_86_135
        rw [z_gd (z_in (n := k) (by omega) (by omega)), z_cl (n := k) (by omega), hy, show nI k + 1 = nI (k + 1) from z_add k 1]
      unfold b_mo_parted_86_86
      rw [if_neg (show ¬ (8 : Int32) ≤ nI k from z_nle (a := 8) (by omega) (by omega) (by omega)), z_gd (z_in (n := k) (by omega) (by omega)), z_gd (z_in (n := x) (by omega) (by omega)), z_cl (n := k) (by omega), z_cl (n := x) (by omega), g1, g0, z_shr (by omega) (by omega), show nI (e 1 / 2 ^ k) &&& 1 = nI (e 1 / 2 ^ k % 2 ^ 1) from fa_mask _ 1, show (2 : Nat) ^ 1 = 2 from rfl]
      by_cases d : e 1 / 2 ^ k % 2 = 0
      · rw [if_pos (show nI (e 1 / 2 ^ k % 2) = (0 : Int32) from by rw [d]; rfl)]
        exact fin _ (by rw [hs, if_pos d])
      · rw [if_neg (show ¬ nI (e 1 / 2 ^ k % 2) = (0 : Int32) from z_ne (b := 0) (by omega) (by decide) d)]
        by_cases f : e 0 = 0
        · rw [if_pos (show nI (e 0) = (0 : Int32) from by rw [f]; rfl)]
          exact fin _ (by rw [hs, if_neg d, if_pos f])
        · rw [if_neg (show ¬ nI (e 0) = (0 : Int32) from z_ne (b := 0) (by omega) (by decide) f)]
          exact fin _ (by rw [hs, if_neg d, if_neg f])
    · rw [a2 j, gI_sI]
      by_cases c : j = k
      · subst c
        rw [if_neg (by omega), if_pos ⟨rfl, rfl⟩, if_pos (by omega)]
      · rw [if_neg (fun z : 129 = 129 ∧ j = k => c z.2)]
        by_cases d : k + 1 ≤ j ∧ j < 8
        · rw [if_pos d, if_pos (by omega)]
        · rw [if_neg d, if_neg (by omega)]
theorem m_74 {T : thT} {n : Nat} {B : Nat → Int32} (x1 x2 x3 : Int32) (hU : wfU T n) (hn : n ≤ 1920) : ∀ (m k : Nat) (M : dM), k + m = n → rmU T n M → (∀ j, j < 8 → gI M 129 j = B j + tyI T (6 + j) k) → ∃ M', l_mo_parted_74 x1 x2 x3 (nI k) M = some M' ∧ (∀ j, j < 8 → gI M' 129 j = B j + tyI T (6 + j) n) ∧ chS [129] M M' := by
  intro m
  induction m with
  | zero =>
    intro k M hk r hB
    have e : k = n := by omega
    subst e
    refine ⟨M, ?_, hB, chS.refl _ _⟩
    unfold l_mo_parted_74
    refine lpc_out ?_
    show b_mo_parted_74_74 x1 x2 x3 (nI k) M = _
    unfold b_mo_parted_74_74
    rw [r.1, if_pos (z_yle (by omega) (by omega) (Nat.le_refl _))]
  | succ m ih =>
    intro k M hk r hB
    obtain ⟨r0, r1, _⟩ := r.2 k (by omega)
    obtain ⟨q0, q1, _⟩ := hU k (by omega)
    obtain ⟨M1, a1, a2, a3⟩ := m_86 (e := T k) (x := k) x1 x2 x3 (by omega) q0 q1 8 0 M rfl r1 r0
    have a1' : l_mo_parted_86 x1 x2 x3 (nI k) 0 M = some M1 := a1
    obtain ⟨M', b1, b2, b3⟩ := ih (k + 1) M1 (by omega) (rmU_ch r a3 (by decide)) (fun j hj => by
      rw [a2 j, if_pos (by omega), hB j hj, Int32.add_assoc]
      rfl)
    refine ⟨M', ?_, b2, a3.trans b3⟩
    unfold l_mo_parted_74 at b1 ⊢
    refine lpc_step (s' := (nI (k + 1), M1)) ?_ b1
    show b_mo_parted_74_74 x1 x2 x3 (nI k) M = _
    unfold b_mo_parted_74_74
    rw [r.1, if_neg (z_nle (by omega) (by omega) (by omega)), a1', Option.bind_some, show nI k + 1 = nI (k + 1) from z_add k 1]
def kPm : List Nat := 129 :: kRm
theorem m_61 {A : sA} {Q : sQ} {v : Nat → Nat} {n : Nat} (x2 : Int32) (hn : n ≤ 20) : ∀ (m k : Nat) (M : dM), k + m = n → IV A Q v M → (∀ j, j < 8 → gI M 129 j = sumT A Q (6 + j) k) → ∃ M', l_mo_parted_61 (nI n) x2 (nI k) M = some M' ∧ (∀ j, j < 8 → gI M' 129 j = sumT A Q (6 + j) n) ∧ IV A Q v M' ∧ chS kPm M M' := by
  intro m
  induction m with
  | zero =>
    intro k M hk h hB
    have e : k = n := by omega
    subst e
    refine ⟨M, ?_, hB, h, chS.refl _ _⟩
    unfold l_mo_parted_61
    refine lpc_out ?_
    show b_mo_parted_61_61 (nI k) x2 (nI k) M = _
    unfold b_mo_parted_61_61
    rw [if_pos (z_yle (by omega) (by omega) (Nat.le_refl _))]
  | succ m ih =>
    intro k M hk h hB
    obtain ⟨M1, a1, a2, a3, a4⟩ := iv_runs h (s := k) (by omega)
    have wf : wfX A (uX A Q k) := runL_wf h.1 (by omega) _ (Nat.le_refl _)
    obtain ⟨M2, d1, d2, d3⟩ := m_74 (B := fun j => sumT A Q (6 + j) k) (nI n) x2 (nI k) wf.2 (uX_n h.1 Q k) (uX A Q k).2.1 0 M1 (Nat.zero_add _) a2.2 (fun j hj => by
      rw [a4.I 129 j rfl, hB j hj]
      exact (Int32.add_zero _).symm)
    have d1' : l_mo_parted_74 (nI n) x2 (nI k) 0 M1 = some M2 := d1
    obtain ⟨M', b1, b2, b3, b4⟩ := ih (k + 1) M2 (by omega) (iv_keep a3 d3 (by decide +kernel)) d2
    refine ⟨M', ?_, b2, b3, ((a4.mono (by decide)).trans (d3.mono (by decide))).trans b4⟩
    unfold l_mo_parted_61 at b1 ⊢
    refine lpc_step (s' := (nI (k + 1), M2)) ?_ b1
    show b_mo_parted_61_61 (nI n) x2 (nI k) M = _
    unfold b_mo_parted_61_61
    rw [if_neg (z_nle (by omega) (by omega) (by omega)), a1, Option.bind_some, d1', Option.bind_some, show nI k + 1 = nI (k + 1) from z_add k 1]
theorem m_160 {P : Nat → Int32} {M : dM} (x2 : Int32) (hP : ∀ j, j < 8 → gI M 129 j = P j) : l_mo_parted_160 x2 0 1 M = some (nI (beI P 7)) := by
  unfold l_mo_parted_160
  refine lpc_seq (body := fun s : Int32 × Int32 => b_mo_parted_160_160 x2 s.1 s.2 M) (fun k => (nI (beI P k), nI (k + 1))) 7 ?_ ?_
  · intro k hk
    show b_mo_parted_160_160 x2 (nI (beI P k)) (nI (k + 1)) M = some (.inl (nI (beI P (k + 1)), nI (k + 1 + 1)))
    have hb := beI_le P k
    have hs : beI P (k + 1) = if P (k + 1) ≤ P (beI P k) then beI P k else k + 1 := rfl
    unfold b_mo_parted_160_160
    rw [if_neg (show ¬ (8 : Int32) ≤ nI (k + 1) from z_nle (a := 8) (by omega) (by omega) (by omega)), z_gd (z_in (n := k + 1) (by omega) (by omega)), z_gd (z_in (n := beI P k) (by omega) (by omega)), z_cl (n := k + 1) (by omega), z_cl (n := beI P k) (by omega), hP _ (by omega), hP _ (by omega), show nI (k + 1) + 1 = nI (k + 1 + 1) from z_add (k + 1) 1, hs]
    by_cases c : P (k + 1) ≤ P (beI P k)
    · rw [if_pos c, if_pos c]
    · rw [if_neg c, if_neg c]
  · show b_mo_parted_160_160 x2 (nI (beI P 7)) (nI 8) M = _
    unfold b_mo_parted_160_160
    rw [if_pos (show (8 : Int32) ≤ nI 8 from by decide)]
def kPa : List Nat := 7600 :: (kTo ++ kPm)
theorem op_parted {A : sA} {Q : sQ} {v : Nat → Nat} {M : dM} (h : IV A Q v M) (w1 : wC1 A Q M) (w2 : wC2 A Q M) (x y : Int32) : ((f_mo_within x 1 20 = true ∧ f_ax_within y 2 = true) ∧ opV kPa A Q v M (fun b M2 => (∃ M1, f_ax_parted x y M = some (b, M1) ∧ f_mo_parted x y M1 = some (b, M2) ∧ gI M2 66 0 = 0) ∧ wC1 A Q M2 ∧ wC2 A Q M2)) ∨ (¬ (f_mo_within x 1 20 = true ∧ f_ax_within y 2 = true) ∧ f_mo_parted x y M = some (0, sI M 66 0 1)) := by
  have eyy : f_mo_within y 0 1 = f_ax_within y 2 := z_mw0 y (n := 1) (by decide)
  by_cases zz : f_mo_within x 1 20 = true ∧ f_ax_within y 2 = true
  case neg =>
    refine Or.inr ⟨zz, ?_⟩
    unfold f_mo_parted t_mo_parted_24 t_mo_parted_25
    rw [eyy]
    by_cases z1 : f_mo_within x 1 20 = true
    · rw [if_pos z1, if_neg (fun z => zz ⟨z1, z⟩), if_pos (by rw [gI_sI, if_pos ⟨rfl, rfl⟩])]
    · rw [if_neg z1, if_pos (by rw [gI_sI, if_pos ⟨rfl, rfl⟩])]
  refine Or.inl ⟨zz, ?_⟩
  obtain ⟨z1, z2⟩ := zz
  rcases z_one20 x with ⟨_, z3⟩ | ⟨n, n1, n20, rfl, t, c1, c2⟩
  · rw [z3] at z1; cases z1
  rcases z_range y 2 (by decide) with z | ⟨q, hq, rfl⟩
  · rw [show f_ax_within y 2 = false from z] at z2; cases z2
  obtain ⟨M1, a1, a2, a3, a4, a5⟩ := c_first (j := 6) n20 (by decide) h w1 w2
  obtain ⟨M2, b1, b2, b3, b4, b5⟩ := c_part47 (nI q) n20 7 0 M1 rfl a2 a3 a4
  have b1' : l_ax_parted_47 (nI n) (nI q) 0 (sumT A Q 6 n) 1 M1 = some (nI (beI (fun j => sumT A Q (6 + j) n) 7), sumT A Q (6 + beI (fun j => sumT A Q (6 + j) n) 7) n, M2) := b1
  have i0 := iv_0 b2 0
  have c0 : chS [7600] M2 (sI M2 66 0 0) := chS_sI M2 66 0 0 rfl
  obtain ⟨M3, d1, d2, d3, d4⟩ := m_z40 (nI n) (nI q) 8 0 (sI M2 66 0 0) rfl
  have d1' : l_mo_parted_40 (nI n) (nI q) 0 (sI M2 66 0 0) = some M3 := d1
  have i3 := iv_keep i0 d4 (by decide +kernel)
  obtain ⟨M4, e1, e2, e3, e4⟩ := m_61 (nI q) n20 n 0 M3 (Nat.zero_add _) i3 (fun j hj => d2 j (Nat.zero_le _) hj)
  have e1' : l_mo_parted_61 (nI n) (nI q) 0 M3 = some M4 := e1
  have e160 := m_160 (P := fun j => sumT A Q (6 + j) n) (nI q) e2
  have hbe := beI_le (fun j => sumT A Q (6 + j) n) 7
  have ebe := e2 (beI (fun j => sumT A Q (6 + j) n) 7) (by omega)
  generalize beI (fun j => sumT A Q (6 + j) n) 7 = be at b1' e160 hbe ebe
  have c24 : chS (7600 :: kPm) M2 M4 := ((c0.mono (by decide)).trans (d4.mono (by decide))).trans (e4.mono (by decide))
  have t0 : gI M4 66 0 = 0 := by rw [e4.I 66 0 rfl, d4.I 66 0 rfl, gI_sI, if_pos ⟨rfl, rfl⟩]
  have cc : chS kPa M M4 := ((a5.mono (by decide)).trans (b5.mono (by decide))).trans (c24.mono (by decide))
  have k1 := (swC1 A Q).use b3 c24 (by decide)
  have k2 := (swC2 A Q).use b4 c24 (by decide)
  have hmo : f_mo_parted (nI n) (nI q) M2 = if nI q = 0 then some (nI be, M4) else some (sumT A Q (6 + be) n, M4) := by
    unfold f_mo_parted t_mo_parted_25
    rw [eyy, if_pos t, if_pos z2, if_neg (by rw [gI_sI, if_pos ⟨rfl, rfl⟩]; decide), d1', Option.bind_some, e1', Option.bind_some, e160, Option.bind_some, z_gd (z_in (n := be) (by omega) (by omega)), z_cl (n := be) (by omega), ebe]
  have hax : f_ax_parted (nI n) (nI q) M = if nI q = 0 then some (nI be, M2) else some (sumT A Q (6 + be) n, M2) := by
    unfold f_ax_parted
    rw [if_neg c1, if_neg c2, if_pos z2, show (6 : Int32) = nI 6 from rfl, a1, Option.bind_some, b1', Option.bind_some]
  by_cases c : nI q = 0
  · exact ⟨nI be, M4, ⟨⟨M2, by rw [hax, if_pos c], by rw [hmo, if_pos c], t0⟩, k1, k2⟩, e3, cc⟩
  · exact ⟨sumT A Q (6 + be) n, M4, ⟨⟨M2, by rw [hax, if_neg c], by rw [hmo, if_neg c], t0⟩, k1, k2⟩, e3, cc⟩
