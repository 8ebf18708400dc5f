/-! ===== the two calls that may throw: class and reference apart ===== -/
theorem op_fact2 {A : sA} {Q : sQ} {v : Nat → Nat} {M : dM} (h : IV A Q v M) (x y : Int32) : (∃ (b : Int32) (M1 : dM), f_ax_fact x y M = some (b, M1) ∧ IV A Q v M1 ∧ chS kQ M M1 ∧ ∀ M', IV A Q v M' → f_mo_fact x y M' = some (b, sI M' 66 0 0)) ∨ (¬ (f_ax_within x (gI M 12 7) = true ∧ f_ax_within y 20 = true) ∧ f_mo_fact x y M = some (0, sI M 66 0 1)) := by
  rcases op_fact h x y with ⟨zz, _⟩ | o
  case inr => exact Or.inr o
  refine Or.inl ?_
  have e19 : f_mo_within y 0 19 = f_ax_within y 20 := z_mw0 y (n := 19) (by decide)
  have hn := h.1.2.2.1.1
  have ec := (x_find h.1 h.2.1 h.2.2.1 x).1
  obtain ⟨z1, z2⟩ := zz
  rcases z_range x (A 66 9) (by omega) with z | ⟨f, hf, rfl⟩
  · rw [ec.trans z] at z1; cases z1
  rcases z_range y 20 (by omega) with z | ⟨k, hk, rfl⟩
  · rw [show f_ax_within y 20 = false from z] at z2; cases z2
  have m24 : ∀ (M1 : dM) (b : Int32), IV A Q v M1 → f_mo_factOf (nI f) (nI k) (sI M1 66 0 0) = some b → f_mo_fact (nI f) (nI k) M1 = some (b, sI M1 66 0 0) := fun M1 b i hb => by
    unfold f_mo_fact t_mo_fact_24
    rw [e19, z_isFind i.2.2.1 i.1, ← ec, if_pos z1, if_pos z2, if_neg (by rw [gI_sI, if_pos ⟨rfl, rfl⟩]; decide), hb, Option.bind_some]
  obtain ⟨e1, e2, e3, e4, e5, e6, e7⟩ := h.2.1.2.2.1.2 f hf
  by_cases c17 : 17 ≤ k
  · have hax : f_ax_fact (nI f) (nI k) M = some (if k = 17 then nI (A 74 f) else if k = 18 then nI (A 76 f) else nI (A 78 f), M) := by
      unfold f_ax_fact
      rw [if_pos z1, if_pos z2, if_pos (show (17 : Int32) ≤ nI k from z_yle (a := 17) (by decide) (by omega) c17)]
      by_cases d17 : k = 17
      · subst d17
        rw [if_pos (show nI 17 = (17 : Int32) from rfl), z_gd (z_in (n := f) (by omega) (by omega)), z_cl (n := f) (by omega), e1, if_pos rfl]
      · rw [if_neg (show ¬ nI k = (17 : Int32) from z_ne (b := 17) (by omega) (by decide) d17), if_neg d17]
        by_cases d18 : k = 18
        · subst d18
          rw [if_pos (show nI 18 = (18 : Int32) from rfl), z_gd (z_in (n := f) (by omega) (by omega)), z_cl (n := f) (by omega), e3, if_pos rfl]
        · have d19 : k = 19 := by omega
          subst d19
          rw [if_neg (show ¬ nI 19 = (18 : Int32) from by decide), z_gd (z_in (n := f) (by omega) (by omega)), z_cl (n := f) (by omega), e5, if_neg (by decide)]
    refine ⟨_, M, hax, h, chS.refl _ _, fun M' i' => m24 M' _ i' ?_⟩
    have i0 := iv_0 i' 0
    obtain ⟨g1, g2, g3⟩ := m_fact3 i0.1 i0.2.2.1 hf
    by_cases d17 : k = 17
    · subst d17; rw [if_pos rfl]; exact g1
    · rw [if_neg d17]
      by_cases d18 : k = 18
      · subst d18; rw [if_pos rfl]; exact g2
      · have d19 : k = 19 := by omega
        subst d19; rw [if_neg (by decide)]; exact g3
  · obtain ⟨M1, a1, a2, a3, a4, a5, a6⟩ := iv_study h (Or.inl rfl : (1 : Nat) = 1 ∨ (1 : Nat) = 2)
    have a1' : f_ax_study 1 M = some M1 := a1
    have em : nI f * 17 + nI k = nI (f * 17 + k) := by rw [show (17 : Int32) = nI 17 from rfl, z_mul, z_add]
    refine ⟨nI (fc A (v 3) f k), M1, ?_, a2, a6.mono (by decide), fun M' i' => m24 M' _ i' ?_⟩
    · unfold f_ax_fact
      rw [if_pos z1, if_pos z2, if_neg (show ¬ (17 : Int32) ≤ nI k from z_nle (a := 17) (by decide) (by omega) (by omega)), a1', Option.bind_some, em, z_gd (z_in (n := f * 17 + k) (by omega) (by omega)), z_cl (n := f * 17 + k) (by omega), (a4 f hf).1 k (by omega)]
    · have i1 := iv_0 i' 0
      exact m_factOf i1.1 i1.2.2.1 i1.2.2.2.2.2.1.1.2 i1.2.2.2.1.2.2.2.2.2.2.1 hf (k := k) (by omega)
theorem op_parted2 {A : sA} {Q : sQ} {v : Nat → Nat} {M : dM} (h : IV A Q v M) (w1 : wC1 A Q M) (w2 : wC2 A Q M) (x y : Int32) : (∃ (b : Int32) (M1 : dM), f_ax_parted x y M = some (b, M1) ∧ IV A Q v M1 ∧ wC1 A Q M1 ∧ wC2 A Q M1 ∧ chS kTo M M1 ∧ ∀ M', IV A Q v M' → ∃ M2, f_mo_parted x y M' = some (b, M2) ∧ IV A Q v M2 ∧ gI M2 66 0 = 0 ∧ chS (7600 :: kPm) M' M2) ∨ (¬ (f_mo_within x 1 20 = true ∧ f_ax_within y 2 = true) ∧ f_mo_parted x y M = some (0, sI M 66 0 1)) := by
  rcases op_parted h w1 w2 x y with ⟨zz, _⟩ | o
  case inr => exact Or.inr o
  refine Or.inl ?_
  have eyy : f_mo_within y 0 1 = f_ax_within y 2 := z_mw0 y (n := 1) (by decide)
  obtain ⟨z1, z2⟩ := zz
  rcases z_one20 x with ⟨_, z3⟩ | ⟨n, n1, n20, rfl, t, c1, c2⟩
  · rw [z3] at z1; cases z1
  rcases z_range y 2 (by decide) with z | ⟨q, hq, rfl⟩
  · rw [show f_ax_within y 2 = false from z] at z2; cases z2
  obtain ⟨M1, a1, a2, a3, a4, a5⟩ := c_first (j := 6) n20 (by decide) h w1 w2
  obtain ⟨M2, b1, b2, b3, b4, b5⟩ := c_part47 (nI q) n20 7 0 M1 rfl a2 a3 a4
  have b1' : l_ax_parted_47 (nI n) (nI q) 0 (sumT A Q 6 n) 1 M1 = some (nI (beI (fun j => sumT A Q (6 + j) n) 7), sumT A Q (6 + beI (fun j => sumT A Q (6 + j) n) 7) n, M2) := b1
  have hbe := beI_le (fun j => sumT A Q (6 + j) n) 7
  have e160 := fun (M4 : dM) e2 => m_160 (M := M4) (P := fun j => sumT A Q (6 + j) n) (nI q) e2
  generalize beI (fun j => sumT A Q (6 + j) n) 7 = be at b1' e160 hbe
  have hax : f_ax_parted (nI n) (nI q) M = some (if nI q = 0 then nI be else sumT A Q (6 + be) n, M2) := by
    unfold f_ax_parted
    rw [if_neg c1, if_neg c2, if_pos z2, show (6 : Int32) = nI 6 from rfl, a1, Option.bind_some, b1', Option.bind_some]
    by_cases c : nI q = 0
    · rw [if_pos c, if_pos c]
    · rw [if_neg c, if_neg c]
  refine ⟨_, M2, hax, b2, b3, b4, a5.trans b5, fun M' i' => ?_⟩
  have i0 := iv_0 i' 0
  have c0 : chS [7600] M' (sI M' 66 0 0) := chS_sI M' 66 0 0 rfl
  obtain ⟨M3, d1, d2, d3, d4⟩ := m_z40 (nI n) (nI q) 8 0 (sI M' 66 0 0) rfl
  have d1' : l_mo_parted_40 (nI n) (nI q) 0 (sI M' 66 0 0) = some M3 := d1
  have i3 := iv_keep i0 d4 (by decide +kernel)
  obtain ⟨M4, e1, e2, e3, e4⟩ := m_61 (nI q) n20 n 0 M3 (Nat.zero_add _) i3 (fun j hj => d2 j (Nat.zero_le _) hj)
  have e1' : l_mo_parted_61 (nI n) (nI q) 0 M3 = some M4 := e1
  have ebe := e2 be (by omega)
  have t0 : gI M4 66 0 = 0 := by rw [e4.I 66 0 rfl, d4.I 66 0 rfl, gI_sI, if_pos ⟨rfl, rfl⟩]
  refine ⟨M4, ?_, e3, t0, ((c0.mono (by decide)).trans (d4.mono (by decide))).trans (e4.mono (by decide))⟩
  unfold f_mo_parted t_mo_parted_25
  rw [eyy, if_pos t, if_pos z2, if_neg (by rw [gI_sI, if_pos ⟨rfl, rfl⟩]; decide), d1', Option.bind_some, e1', Option.bind_some, e160 M4 e2, Option.bind_some, z_gd (z_in (n := be) (by omega) (by omega)), z_cl (n := be) (by omega), ebe]
  by_cases c : nI q = 0
  · rw [if_pos c, if_pos c]
  · rw [if_neg c, if_neg c]
/-- the class answers, a cell of the law's own is other, the reference answers -/
theorem inv_out {n : Nat} {A : sA} {Q : sQ} {v : Nat → Nat} {M : dM} (h : INV n A Q v M) (x : Int64) : INV n A Q v (sJ M 132 0 x) :=
  inv_keep (S := [132]) h (iv_keep (S := [132]) h.1 (chS_sJ (S := [132]) M 132 0 x rfl) (by decide +kernel)) (chS_sJ (S := [132]) M 132 0 x rfl) (by decide +kernel)
theorem st_fact2 {n : Nat} {A : sA} {Q : sQ} {v : Nat → Nat} {M : dM} (h : INV n A Q v M) (x y : Int32) : (∃ (b : Int32) (M1 M2 : dM), f_ax_fact x y M = some (b, M1) ∧ f_mo_fact x y (sJ M1 132 0 b.toInt64) = some (b, M2) ∧ gI M2 66 0 = 0 ∧ gJ M2 132 0 = b.toInt64 ∧ INV n A Q v M2) ∨ (¬ (f_ax_within x (gI M 12 7) = true ∧ f_ax_within y 20 = true) ∧ f_mo_fact x y M = some (0, sI M 66 0 1)) := by
  rcases op_fact2 h.1 x y with ⟨b, M1, h1, h2, h3, h4⟩ | o
  · have i1 := inv_out (inv_keep h h2 h3 (by decide +kernel)) b.toInt64
    refine Or.inl ⟨b, M1, _, h1, h4 _ i1.1, by rw [gI_sI, if_pos ⟨rfl, rfl⟩], ?_, inv_0 i1 0⟩
    show gJ (sJ M1 132 0 b.toInt64) 132 0 = b.toInt64
    rw [gJ_sJ, if_pos ⟨rfl, rfl⟩]
  · exact Or.inr o
theorem st_parted2 {n : Nat} {A : sA} {Q : sQ} {v : Nat → Nat} {M : dM} (h : INV n A Q v M) (x y : Int32) : (∃ (b : Int32) (M1 M2 : dM), f_ax_parted x y M = some (b, M1) ∧ f_mo_parted x y (sJ M1 132 0 b.toInt64) = some (b, M2) ∧ gI M2 66 0 = 0 ∧ gJ M2 132 0 = b.toInt64 ∧ INV n A Q v M2) ∨ (¬ (f_mo_within x 1 20 = true ∧ f_ax_within y 2 = true) ∧ f_mo_parted x y M = some (0, sI M 66 0 1)) := by
  rcases op_parted2 h.1 h.2.2.2.2.1 h.2.2.2.2.2.1 x y with ⟨b, M1, h1, h2, h3, h4, h5, h6⟩ | o
  · have i1 : INV n A Q v M1 := ⟨h2, (sbC A Q v).use h.2.1 h5 (by decide +kernel), (scC A).use h.2.2.1 h5 (by decide +kernel), (seC A Q v).use h.2.2.2.1 h5 (by decide +kernel), h3, h4, h.2.2.2.2.2.2⟩
    have i2 := inv_out i1 b.toInt64
    obtain ⟨M2, g1, g2, g3, g4⟩ := h6 _ i2.1
    refine Or.inl ⟨b, M1, M2, h1, g1, g3, ?_, inv_keep i2 g2 g4 (by decide +kernel)⟩
    rw [g4.J 132 0 rfl, gJ_sJ, if_pos ⟨rfl, rfl⟩]
  · exact Or.inr o
