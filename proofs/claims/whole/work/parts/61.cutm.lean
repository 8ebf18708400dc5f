/-! ===== cut: the reference ===== -/
def kFa : List Nat := [7673, 111]
/-- what the reference keeps of a find that falls -/
def fM (M : dM) (k x y z : Nat) : dM := sI (sI (sI (sI M 66 73 (nI k)) 111 0 (nI x)) 111 1 (nI y)) 111 2 (nI z)
theorem fM_k (M : dM) (k x y z : Nat) : chS kFa M (fM M k x y z) := ((((chS.refl _ M).sI 66 73 _ rfl).sI 111 0 _ rfl).sI 111 1 _ rfl).sI 111 2 _ rfl
theorem m_falls {A : sA} {M : dM} (w : wfA A) (rm : rmA A M) {c : Nat} (hc : c < 12) (k : Nat) {x y z : Nat} (hx : x < 40) (hy : y < 40) (hz : z < 40) : f_mo_falls (nI c) (nI k) (nI x) (nI y) (nI z) M = if faP A c (2 ^ x ||| 2 ^ y ||| 2 ^ z) = true then some (true, fM M k x y z) else some (false, M) := by
  have h := swO_lt w (2 ^ x ||| 2 ^ y ||| 2 ^ z)
  unfold f_mo_falls
  rw [z_1shlL (by omega), z_1shlL (by omega), z_1shlL (by omega), fb_orL, fb_orL, m_stands w rm, Option.bind_some]
  unfold faP
  by_cases e : (swO A (2 ^ x ||| 2 ^ y ||| 2 ^ z)).testBit c = true
  · rw [if_pos (by rw [z_bitq (by omega) (by omega)]; exact e), e]; rfl
  · rw [if_neg (by rw [z_bitq (by omega) (by omega)]; exact e), Bool.eq_false_iff.mpr e]; rfl
theorem m_c108 {A : sA} (w : wfA A) {c : Nat} (hc : c < 12) {x y : Nat} (hx : x < 40) (hy : y < 40) {M : dM} (rm : rmA A M) : ∀ d z, z + d = A 66 9 → l_mo_cuts_108 (nI c) (nI x) (nI y) (nI z) M = some (match fsN (fun z => if allU z = true then srU (faP A c) (A 66 9) allU 0 (z + 1) ((2 ^ x ||| 2 ^ y) ||| 2 ^ z) else none) z d with | some l => .inr (fM M 3 x y (l.headD 0)) | none => .inl M) := by
  have hn := w.2.2.1.1
  intro d
  induction d with
  | zero =>
    intro z hz
    have e : z = A 66 9 := by omega
    subst e
    unfold l_mo_cuts_108
    refine lpc_out ?_
    show b_mo_cuts_108_108 (nI c) (nI x) (nI y) (nI (A 66 9)) M = _
    unfold b_mo_cuts_108_108
    rw [rm.2.2.1.1, if_pos (z_yle (by omega) (by omega) (Nat.le_refl _))]
    rfl
  | succ d ih =>
    intro z hz
    have hzn : z < A 66 9 := by omega
    have e0 : fsN (fun z => if allU z = true then srU (faP A c) (A 66 9) allU 0 (z + 1) ((2 ^ x ||| 2 ^ y) ||| 2 ^ z) else none) z (d + 1) = (match (if faP A c ((2 ^ x ||| 2 ^ y) ||| 2 ^ z) = true then some [] else none : Option (List Nat)) with | some l => some (z :: l) | none => fsN (fun z => if allU z = true then srU (faP A c) (A 66 9) allU 0 (z + 1) ((2 ^ x ||| 2 ^ y) ||| 2 ^ z) else none) (z + 1) d) := rfl
    have hb : b_mo_cuts_108_108 (nI c) (nI x) (nI y) (nI z) M = if faP A c (2 ^ x ||| 2 ^ y ||| 2 ^ z) = true then some (.inr (.inr (fM M 3 x y z))) else some (.inl (nI (z + 1), M)) := by
      have m3 : f_mo_falls (nI c) 3 (nI x) (nI y) (nI z) M = _ := m_falls w rm hc 3 hx hy (z := z) (by omega)
      unfold b_mo_cuts_108_108
      rw [rm.2.2.1.1, if_neg (z_nle (by omega) (by omega) hzn), m3, show nI z + 1 = nI (z + 1) from z_add _ 1]
      split <;> rfl
    rw [e0]
    have ih' := ih (z + 1) (by omega)
    unfold l_mo_cuts_108 at ih' ⊢
    by_cases cc : faP A c (2 ^ x ||| 2 ^ y ||| 2 ^ z) = true
    · rw [if_pos cc] at hb ⊢
      exact lpc_out hb
    · rw [if_neg cc] at hb ⊢
      exact lpc_step (s' := (nI (z + 1), M)) hb ih'
theorem m_c95 {A : sA} (w : wfA A) {c : Nat} (hc : c < 12) {x : Nat} (hx : x < 40) {M : dM} (rm : rmA A M) : ∀ d y, y + d = A 66 9 → l_mo_cuts_95 (nI c) (nI x) (nI y) M = some (match fsN (fun y => if allU y = true then srU (faP A c) (A 66 9) allU 1 (y + 1) (2 ^ x ||| 2 ^ y) else none) y d with | some l => .inr (fM M 3 x (l.headD 0) (l.tail.headD 0)) | none => .inl M) := by
  have hn := w.2.2.1.1
  intro d
  induction d with
  | zero =>
    intro y hy
    have e : y = A 66 9 := by omega
    subst e
    unfold l_mo_cuts_95
    refine lpc_out ?_
    show b_mo_cuts_95_95 (nI c) (nI x) (nI (A 66 9)) M = _
    unfold b_mo_cuts_95_95
    rw [rm.2.2.1.1, if_pos (z_yle (by omega) (by omega) (Nat.le_refl _))]
    rfl
  | succ d ih =>
    intro y hy
    have hyn : y < A 66 9 := by omega
    have e0 : fsN (fun y => if allU y = true then srU (faP A c) (A 66 9) allU 1 (y + 1) (2 ^ x ||| 2 ^ y) else none) y (d + 1) = (match srU (faP A c) (A 66 9) allU 1 (y + 1) (2 ^ x ||| 2 ^ y) with | some l => some (y :: l) | none => fsN (fun y => if allU y = true then srU (faP A c) (A 66 9) allU 1 (y + 1) (2 ^ x ||| 2 ^ y) else none) (y + 1) d) := rfl
    have h108 := m_c108 w hc hx (y := y) (by omega) rm (A 66 9 - (y + 1)) (y + 1) (by omega)
    have h108' : l_mo_cuts_108 (nI c) (nI x) (nI y) (nI (y + 1)) M = some (match srU (faP A c) (A 66 9) allU 1 (y + 1) (2 ^ x ||| 2 ^ y) with | some l => .inr (fM M 3 x y (l.headD 0)) | none => .inl M) := h108
    rw [e0]
    have ih' := ih (y + 1) (by omega)
    have hb : b_mo_cuts_95_95 (nI c) (nI x) (nI y) M = (match srU (faP A c) (A 66 9) allU 1 (y + 1) (2 ^ x ||| 2 ^ y) with | some l => some (.inr (.inr (fM M 3 x y (l.headD 0)))) | none => some (.inl (nI (y + 1), M))) := by
      unfold b_mo_cuts_95_95
      rw [rm.2.2.1.1, if_neg (z_nle (by omega) (by omega) hyn), show nI y + 1 = nI (y + 1) from z_add _ 1, h108', Option.bind_some]
      cases srU (faP A c) (A 66 9) allU 1 (y + 1) (2 ^ x ||| 2 ^ y) <;> rfl
    unfold l_mo_cuts_95 at ih' ⊢
    cases hs : srU (faP A c) (A 66 9) allU 1 (y + 1) (2 ^ x ||| 2 ^ y) with
    | some l =>
      rw [hs] at hb
      exact lpc_out hb
    | none =>
      rw [hs] at hb
      exact lpc_step (s' := (nI (y + 1), M)) hb ih'
theorem m_c83 {A : sA} (w : wfA A) {c : Nat} (hc : c < 12) {M : dM} (rm : rmA A M) : ∀ d x, x + d = A 66 9 → l_mo_cuts_83 (nI c) (nI x) M = some (match fsN (fun x => if allU x = true then srU (faP A c) (A 66 9) allU 2 (x + 1) (0 ||| 2 ^ x) else none) x d with | some l => fM M 3 (l.headD 0) (l.tail.headD 0) (l.tail.tail.headD 0) | none => M) := by
  have hn := w.2.2.1.1
  intro d
  induction d with
  | zero =>
    intro x hx
    have e : x = A 66 9 := by omega
    subst e
    unfold l_mo_cuts_83
    refine lpc_out ?_
    show b_mo_cuts_83_83 (nI c) (nI (A 66 9)) M = _
    unfold b_mo_cuts_83_83
    rw [rm.2.2.1.1, if_pos (z_yle (by omega) (by omega) (Nat.le_refl _))]
    rfl
  | succ d ih =>
    intro x hx
    have hxn : x < A 66 9 := by omega
    have e0 : fsN (fun x => if allU x = true then srU (faP A c) (A 66 9) allU 2 (x + 1) (0 ||| 2 ^ x) else none) x (d + 1) = (match srU (faP A c) (A 66 9) allU 2 (x + 1) (0 ||| 2 ^ x) with | some l => some (x :: l) | none => fsN (fun x => if allU x = true then srU (faP A c) (A 66 9) allU 2 (x + 1) (0 ||| 2 ^ x) else none) (x + 1) d) := rfl
    have h95 := m_c95 w hc (x := x) (by omega) rm (A 66 9 - (x + 1)) (x + 1) (by omega)
    have h95' : l_mo_cuts_95 (nI c) (nI x) (nI (x + 1)) M = some (match srU (faP A c) (A 66 9) allU 2 (x + 1) (0 ||| 2 ^ x) with | some l => .inr (fM M 3 x (l.headD 0) (l.tail.headD 0)) | none => .inl M) := by
      rw [Nat.zero_or]; exact h95
    rw [e0]
    have ih' := ih (x + 1) (by omega)
    have hb : b_mo_cuts_83_83 (nI c) (nI x) M = (match srU (faP A c) (A 66 9) allU 2 (x + 1) (0 ||| 2 ^ x) with | some l => some (.inr (fM M 3 x (l.headD 0) (l.tail.headD 0))) | none => some (.inl (nI (x + 1), M))) := by
      unfold b_mo_cuts_83_83
      rw [rm.2.2.1.1, if_neg (z_nle (by omega) (by omega) hxn), show nI x + 1 = nI (x + 1) from z_add _ 1, h95', Option.bind_some]
      cases srU (faP A c) (A 66 9) allU 2 (x + 1) (0 ||| 2 ^ x) <;> rfl
    unfold l_mo_cuts_83 at ih' ⊢
    cases hs : srU (faP A c) (A 66 9) allU 2 (x + 1) (0 ||| 2 ^ x) with
    | some l =>
      rw [hs] at hb
      exact lpc_out hb
    | none =>
      rw [hs] at hb
      exact lpc_step (s' := (nI (x + 1), M)) hb ih'
theorem m_c48 {A : sA} (w : wfA A) {c : Nat} (hc : c < 12) {x : Nat} (hx : x < 40) {M : dM} (rm : rmA A M) : ∀ d y, y + d = A 66 9 → l_mo_cuts_48 (nI c) (nI x) (nI y) M = some (match fsN (fun y => if allU y = true then srU (faP A c) (A 66 9) allU 0 (y + 1) (2 ^ x ||| 2 ^ y) else none) y d with | some l => .inr (fM M 2 x (l.headD 0) (l.headD 0)) | none => .inl M) := by
  have hn := w.2.2.1.1
  intro d
  induction d with
  | zero =>
    intro y hy
    have e : y = A 66 9 := by omega
    subst e
    unfold l_mo_cuts_48
    refine lpc_out ?_
    show b_mo_cuts_48_48 (nI c) (nI x) (nI (A 66 9)) M = _
    unfold b_mo_cuts_48_48
    rw [rm.2.2.1.1, if_pos (z_yle (by omega) (by omega) (Nat.le_refl _))]
    rfl
  | succ d ih =>
    intro y hy
    have hyn : y < A 66 9 := by omega
    have e0 : fsN (fun y => if allU y = true then srU (faP A c) (A 66 9) allU 0 (y + 1) (2 ^ x ||| 2 ^ y) else none) y (d + 1) = (match (if faP A c (2 ^ x ||| 2 ^ y) = true then some [] else none : Option (List Nat)) with | some l => some (y :: l) | none => fsN (fun y => if allU y = true then srU (faP A c) (A 66 9) allU 0 (y + 1) (2 ^ x ||| 2 ^ y) else none) (y + 1) d) := rfl
    have eo : 2 ^ x ||| 2 ^ y ||| 2 ^ y = 2 ^ x ||| 2 ^ y := by rw [Nat.or_assoc, Nat.or_self]
    have hb : b_mo_cuts_48_48 (nI c) (nI x) (nI y) M = if faP A c (2 ^ x ||| 2 ^ y) = true then some (.inr (.inr (fM M 2 x y y))) else some (.inl (nI (y + 1), M)) := by
      have m3 : f_mo_falls (nI c) 2 (nI x) (nI y) (nI y) M = _ := m_falls w rm hc 2 hx (y := y) (z := y) (by omega) (by omega)
      rw [eo] at m3
      unfold b_mo_cuts_48_48
      rw [rm.2.2.1.1, if_neg (z_nle (by omega) (by omega) hyn), m3, show nI y + 1 = nI (y + 1) from z_add _ 1]
      split <;> rfl
    rw [e0]
    have ih' := ih (y + 1) (by omega)
    unfold l_mo_cuts_48 at ih' ⊢
    by_cases cc : faP A c (2 ^ x ||| 2 ^ y) = true
    · rw [if_pos cc] at hb ⊢
      exact lpc_out hb
    · rw [if_neg cc] at hb ⊢
      exact lpc_step (s' := (nI (y + 1), M)) hb ih'
theorem m_c36 {A : sA} (w : wfA A) {c : Nat} (hc : c < 12) {M : dM} (rm : rmA A M) : ∀ d x, x + d = A 66 9 → l_mo_cuts_36 (nI c) (nI x) M = some (match fsN (fun x => if allU x = true then srU (faP A c) (A 66 9) allU 1 (x + 1) (0 ||| 2 ^ x) else none) x d with | some l => .inr (fM M 2 (l.headD 0) (l.tail.headD 0) (l.tail.headD 0)) | none => .inl M) := by
  have hn := w.2.2.1.1
  intro d
  induction d with
  | zero =>
    intro x hx
    have e : x = A 66 9 := by omega
    subst e
    unfold l_mo_cuts_36
    refine lpc_out ?_
    show b_mo_cuts_36_36 (nI c) (nI (A 66 9)) M = _
    unfold b_mo_cuts_36_36
    rw [rm.2.2.1.1, if_pos (z_yle (by omega) (by omega) (Nat.le_refl _))]
    rfl
  | succ d ih =>
    intro x hx
    have hxn : x < A 66 9 := by omega
    have e0 : fsN (fun x => if allU x = true then srU (faP A c) (A 66 9) allU 1 (x + 1) (0 ||| 2 ^ x) else none) x (d + 1) = (match srU (faP A c) (A 66 9) allU 1 (x + 1) (0 ||| 2 ^ x) with | some l => some (x :: l) | none => fsN (fun x => if allU x = true then srU (faP A c) (A 66 9) allU 1 (x + 1) (0 ||| 2 ^ x) else none) (x + 1) d) := rfl
    have h48 := m_c48 w hc (x := x) (by omega) rm (A 66 9 - (x + 1)) (x + 1) (by omega)
    have h48' : l_mo_cuts_48 (nI c) (nI x) (nI (x + 1)) M = some (match srU (faP A c) (A 66 9) allU 1 (x + 1) (0 ||| 2 ^ x) with | some l => .inr (fM M 2 x (l.headD 0) (l.headD 0)) | none => .inl M) := by
      rw [Nat.zero_or]; exact h48
    rw [e0]
    have ih' := ih (x + 1) (by omega)
    have hb : b_mo_cuts_36_36 (nI c) (nI x) M = (match srU (faP A c) (A 66 9) allU 1 (x + 1) (0 ||| 2 ^ x) with | some l => some (.inr (.inr (fM M 2 x (l.headD 0) (l.headD 0)))) | none => some (.inl (nI (x + 1), M))) := by
      unfold b_mo_cuts_36_36
      rw [rm.2.2.1.1, if_neg (z_nle (by omega) (by omega) hxn), show nI x + 1 = nI (x + 1) from z_add _ 1, h48', Option.bind_some]
      cases srU (faP A c) (A 66 9) allU 1 (x + 1) (0 ||| 2 ^ x) <;> rfl
    unfold l_mo_cuts_36 at ih' ⊢
    cases hs : srU (faP A c) (A 66 9) allU 1 (x + 1) (0 ||| 2 ^ x) with
    | some l =>
      rw [hs] at hb
      exact lpc_out hb
    | none =>
      rw [hs] at hb
      exact lpc_step (s' := (nI (x + 1), M)) hb ih'
theorem m_c7 {A : sA} (w : wfA A) {c : Nat} (hc : c < 12) {M : dM} (rm : rmA A M) : ∀ d x, x + d = A 66 9 → l_mo_cuts_7 (nI c) (nI x) M = some (match fsN (fun x => if allU x = true then srU (faP A c) (A 66 9) allU 0 (x + 1) (0 ||| 2 ^ x) else none) x d with | some l => .inr (fM M 1 (l.headD 0) (l.headD 0) (l.headD 0)) | none => .inl M) := by
  have hn := w.2.2.1.1
  intro d
  induction d with
  | zero =>
    intro x hx
    have e : x = A 66 9 := by omega
    subst e
    unfold l_mo_cuts_7
    refine lpc_out ?_
    show b_mo_cuts_7_7 (nI c) (nI (A 66 9)) M = _
    unfold b_mo_cuts_7_7
    rw [rm.2.2.1.1, if_pos (z_yle (by omega) (by omega) (Nat.le_refl _))]
    rfl
  | succ d ih =>
    intro x hx
    have hxn : x < A 66 9 := by omega
    have e0 : fsN (fun x => if allU x = true then srU (faP A c) (A 66 9) allU 0 (x + 1) (0 ||| 2 ^ x) else none) x (d + 1) = (match (if faP A c (0 ||| 2 ^ x) = true then some [] else none : Option (List Nat)) with | some l => some (x :: l) | none => fsN (fun x => if allU x = true then srU (faP A c) (A 66 9) allU 0 (x + 1) (0 ||| 2 ^ x) else none) (x + 1) d) := rfl
    have eo : 2 ^ x ||| 2 ^ x ||| 2 ^ x = 0 ||| 2 ^ x := by rw [Nat.or_self, Nat.or_self, Nat.zero_or]
    have hb : b_mo_cuts_7_7 (nI c) (nI x) M = if faP A c (0 ||| 2 ^ x) = true then some (.inr (.inr (fM M 1 x x x))) else some (.inl (nI (x + 1), M)) := by
      have m3 : f_mo_falls (nI c) 1 (nI x) (nI x) (nI x) M = _ := m_falls w rm hc 1 (x := x) (y := x) (z := x) (by omega) (by omega) (by omega)
      rw [eo] at m3
      unfold b_mo_cuts_7_7
      rw [rm.2.2.1.1, if_neg (z_nle (by omega) (by omega) hxn), m3, show nI x + 1 = nI (x + 1) from z_add _ 1]
      split <;> rfl
    rw [e0]
    have ih' := ih (x + 1) (by omega)
    unfold l_mo_cuts_7 at ih' ⊢
    by_cases cc : faP A c (0 ||| 2 ^ x) = true
    · rw [if_pos cc] at hb ⊢
      exact lpc_out hb
    · rw [if_neg cc] at hb ⊢
      exact lpc_step (s' := (nI (x + 1), M)) hb ih'
