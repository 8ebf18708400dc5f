/-! ===== what holds between the calls, with every cache ===== -/
def INV (n : Nat) (A : sA) (Q : sQ) (v : Nat → Nat) (M : dM) : Prop := IV A Q v M ∧ bC A Q v M ∧ cC A M ∧ eC A Q v M ∧ wC1 A Q M ∧ wC2 A Q M ∧ A 66 97 ≤ n
theorem rcO_p (A : sA) : rcO (pA A) = rcO A := by
  funext M
  simp only [rcO, alL_p, p66_3]
theorem rcJ_p (A : sA) : rcJ (pA A) = rcJ A := by
  funext Q far M
  simp only [rcJ, fc_p, eaF_p, twB_p, p66_9]
theorem rcM_p (A : sA) : rcM (pA A) = rcM A := by
  funext Q v M
  simp only [rcM, canF_p, mayF_p, putF_p, p66_9]
theorem rcY_p (A : sA) : rcY (pA A) = rcY A := by
  funext Q v M
  simp only [rcY, rcM_p, sT_p, duF_p]
theorem caK_p (A : sA) : caK (pA A) = caK A := by
  funext Q v M
  simp only [caK, rcO_p, rcJ_p, rcY_p]
theorem bC_p (A : sA) : bC (pA A) = bC A := by
  funext Q v M
  simp only [bC, gvF_p, duF_p]
theorem cC_p (A : sA) : cC (pA A) = cC A := by
  funext M
  simp only [cC, ct_p]
theorem eC_p (A : sA) : eC (pA A) = eC A := by
  funext Q v M
  simp only [eC, enN_p]
theorem wC1_p (A : sA) : wC1 (pA A) = wC1 A := by
  funext Q M
  simp only [wC1, uX_p]
theorem wC2_p (A : sA) : wC2 (pA A) = wC2 A := by
  funext Q M
  simp only [wC2, uX_p]
/-- the caches, together -/
def caA (A : sA) (Q : sQ) (v : Nat → Nat) (M : dM) : Prop := caK A Q v M ∧ bC A Q v M ∧ cC A M ∧ eC A Q v M ∧ wC1 A Q M ∧ wC2 A Q M
theorem caA_eq {A A' : sA} (h : pA A' = pA A) : caA A' = caA A := by
  have e : ∀ B, caA (pA B) = caA B := fun B => by
    funext Q v M
    simp only [caA, caK_p, bC_p, cC_p, eC_p, wC1_p, wC2_p]
  rw [← e A', h, e A]
def kAll : List Nat := kCa ++ [6009, 55, 6006, 6007, 54, 4909, 6608, 6610, 6613, 6614, 60, 61, 62, 63, 64, 6616, 65]
theorem scaA (A : sA) (Q : sQ) (v : Nat → Nat) : supp kAll (caA A Q v) := by
  intro M M' e hw ⟨h1, h2, h3, h4, h5, h6⟩
  exact ⟨((scaK A Q v).sub (T' := kAll) (by decide)) M M' e hw h1, ((sbC A Q v).sub (T' := kAll) (by decide)) M M' e hw h2, ((scC A).sub (T' := kAll) (by decide)) M M' e hw h3, ((seC A Q v).sub (T' := kAll) (by decide)) M M' e hw h4, ((swC1 A Q).sub (T' := kAll) (by decide)) M M' e hw h5, ((swC2 A Q).sub (T' := kAll) (by decide)) M M' e hw h6⟩
theorem caA_of {n : Nat} {A : sA} {Q : sQ} {v : Nat → Nat} {M : dM} (h : INV n A Q v M) : caA A Q v M := ⟨h.1.2.2.2.2.2.2, h.2.1, h.2.2.1, h.2.2.2.1, h.2.2.2.2.1, h.2.2.2.2.2.1⟩
theorem inv_mk {n : Nat} {A : sA} {Q : sQ} {v : Nat → Nat} {M : dM} (w : wfA A) (rc : rcA A M) (rm : rmA A M) (wq : wQ Q v) (cw : rcW Q v M) (mw : rmW Q v M) (ca : caA A Q v M) (hn : A 66 97 ≤ n) : INV n A Q v M :=
  ⟨⟨w, rc, rm, wq, cw, mw, ca.1⟩, ca.2.1, ca.2.2.1, ca.2.2.2.1, ca.2.2.2.2.1, ca.2.2.2.2.2, hn⟩
/-- nothing is known: every cache holds -/
theorem caA_fresh {A : sA} {Q : sQ} {v : Nat → Nat} {M : dM} (h : fresh M) (ho : gI M 6 6 = 0 ∨ rcO A M) : caA A Q v M := by
  obtain ⟨h1, h2, h3, h4, h5, h6⟩ := h
  refine ⟨⟨ho, Or.inl h1⟩, ⟨0, by decide, h4, fun m _ hb => ?_⟩, Or.inl h3, Or.inl h2, Or.inl h5, ⟨0, by decide, h6, fun k _ hb => ?_⟩⟩
  · rw [Nat.zero_testBit] at hb; cases hb
  · rw [Nat.zero_testBit] at hb; cases hb
/-- the same lines, the same hours alone -/
theorem prs_same {A A' : sA} {n : Nat} (h : ∀ i, i < n → A' 69 i = A 69 i ∧ A' 70 i = A 70 i ∧ A' 71 i = A 71 i ∧ A' 72 i = A 72 i ∧ A' 73 i = A 73 i) (s d x : Nat) : ∀ m, m ≤ n → prs A' s d x m = prs A s d x m
  | 0, _ => rfl
  | m + 1, hm => by
    have ih := prs_same h s d x m (by omega)
    obtain ⟨h1, h2, h3, h4, h5⟩ := h m (by omega)
    have ea : atL A' s d x m = atL A s d x m := by unfold atL; rw [h2, h3, h4, h5]
    rw [prs_s, prs_s, ih, ea, h1]
theorem alN_same {A A' : sA} (h : ∀ s d x, pre A' s d x = pre A s d x) (s d b : Nat) : ∀ m, alN A' s d b m = alN A s d b m
  | 0 => rfl
  | m + 1 => by
    have ih := alN_same h s d b m
    have ea : alb A' s d b m = alb A s d b m := by unfold alb; rw [h]
    show (if alb A' s d b m = true then alN A' s d b m ||| 2 ^ m else alN A' s d b m) = (if alb A s d b m = true then alN A s d b m ||| 2 ^ m else alN A s d b m)
    rw [ih, ea]
theorem rcO_tr {A A' : sA} {M : dM} (w : wfL A) (w' : wfL A') (r : rmL A M) (r' : rmL A' M) (o : rcO A M) : rcO A' M := by
  have hn := w.1
  have hn' := w'.1
  have e3 : A' 66 3 = A 66 3 := by
    have := r'.1.symm.trans r.1
    rw [z_eq (by omega) (by omega)] at this
    exact this
  have hl : ∀ i, i < A 66 3 → A' 69 i = A 69 i ∧ A' 70 i = A 70 i ∧ A' 71 i = A 71 i ∧ A' 72 i = A 72 i ∧ A' 73 i = A 73 i := fun i hi => by
    obtain ⟨a1, a2, a3, a4, a5⟩ := r.2 i hi
    obtain ⟨b1, b2, b3, b4, b5⟩ := r'.2 i (by rw [e3]; exact hi)
    obtain ⟨p1, p2, p3, p4, p5⟩ := w.2 i hi
    obtain ⟨q1, q2, q3, q4, q5⟩ := w'.2 i (by rw [e3]; exact hi)
    have c1 := b1.symm.trans a1
    have c2 := b2.symm.trans a2
    have c3 := b3.symm.trans a3
    have c4 := b4.symm.trans a4
    have c5 := b5.symm.trans a5
    rw [z_eq (by omega) (by omega)] at c1 c2 c3 c4 c5
    exact ⟨c1, c2, c3, c4, c5⟩
  have hp : ∀ s d x, pre A' s d x = pre A s d x := fun s d x => by
    unfold pre
    rw [e3]
    exact prs_same hl s d x _ (Nat.le_refl _)
  intro i hi
  rw [e3] at hi
  obtain ⟨c1, c2, c3, _, _⟩ := hl i hi
  rw [o i hi]
  unfold alL al
  rw [c1, c2, c3, alN_same hp]
def tS (S : List Nat) : Bool := disj trcW S && (disj [82, 83, 84, 88, 7632, 7633] S && (disj trmL S && disj [1606, 11] S))
theorem inv_T {β : Type} {S : List Nat} {n : Nat} {A : sA} {Q : sQ} {v : Nat → Nat} {M : dM} {r : β → dM → Prop} (h : INV n A Q v M) (o : opT S A M r) (hd : tS S = true) : ∃ (b : β) (M2 : dM) (A' : sA), r b M2 ∧ INV n A' Q v M2 := by
  unfold tS at hd
  simp only [Bool.and_eq_true] at hd
  obtain ⟨b, A', M2, hr, w', rc', rm', c, hc⟩ := o
  have cw' := (srcW Q v).use h.1.2.2.2.2.1 c hd.1
  have mw' : rmW Q v M2 := rmW_w h.1.2.2.2.2.2.1 c hd.2.1
  rcases hc with ⟨rfl, c7⟩ | ⟨hf, e97⟩
  · exact ⟨b, M2, A', hr, inv_mk w' rc' rm' h.1.2.2.2.1 cw' mw' ((scaA A' Q v).use (caA_of h) c7 (by decide)) h.2.2.2.2.2.2⟩
  · refine ⟨b, M2, A', hr, inv_mk w' rc' rm' h.1.2.2.2.1 cw' mw' (caA_fresh hf ?_) (by rw [e97]; exact h.2.2.2.2.2.2)⟩
    have hS : S.contains 1606 = false ∧ S.contains 11 = false := by
      have h1 := List.all_eq_true.mp hd.2.2.2 1606 (by decide)
      have h2 := List.all_eq_true.mp hd.2.2.2 11 (by decide)
      exact ⟨by simpa using h1, by simpa using h2⟩
    rcases h.1.2.2.2.2.2.2.1 with z | z
    · exact Or.inl ((c.I 6 6 hS.1).trans z)
    · exact Or.inr (rcO_tr h.1.1.1 w'.1 ((srmL A).use h.1.2.2.1.1 c hd.2.2.1) rm'.1 (fun i hi => (c.I 11 i hS.2).trans (z i hi)))
def vS (S : List Nat) : Bool := disj [6009, 55, 6006, 6007, 54, 4909, 6608, 6610, 6613, 6614, 60, 61, 62, 63, 64, 6616, 65] S
theorem disj_sub {T T' S : List Nat} (h : disj T' S = true) (hs : T.all (fun x => T'.contains x) = true) : disj T S = true := by
  refine List.all_eq_true.mpr fun x hx => ?_
  have h1 := List.all_eq_true.mp hs x hx
  exact List.all_eq_true.mp h x (List.contains_iff_mem.mp h1)
theorem inv_keep {S : List Nat} {n : Nat} {A : sA} {Q : sQ} {v : Nat → Nat} {M M2 : dM} (h : INV n A Q v M) (i : IV A Q v M2) (c : chS S M M2) (hd : vS S = true) : INV n A Q v M2 :=
  ⟨i, (sbC A Q v).use h.2.1 c (disj_sub hd (by decide)), (scC A).use h.2.2.1 c (disj_sub hd (by decide)), (seC A Q v).use h.2.2.2.1 c (disj_sub hd (by decide)), (swC1 A Q).use h.2.2.2.2.1 c (disj_sub hd (by decide)), (swC2 A Q).use h.2.2.2.2.2.1 c (disj_sub hd (by decide)), h.2.2.2.2.2.2⟩
theorem inv_V {β : Type} {S : List Nat} {n : Nat} {A : sA} {Q : sQ} {v : Nat → Nat} {M : dM} {r : β → dM → Prop} (h : INV n A Q v M) (o : opV S A Q v M r) (hd : vS S = true) : ∃ (b : β) (M2 : dM), r b M2 ∧ INV n A Q v M2 := by
  obtain ⟨b, M2, hr, i, c⟩ := o
  exact ⟨b, M2, hr, inv_keep h i c hd⟩
theorem inv_0 {n : Nat} {A : sA} {Q : sQ} {v : Nat → Nat} {M : dM} (h : INV n A Q v M) (x : Int32) : INV n A Q v (sI M 66 0 x) := inv_keep (S := [7600]) h (iv_0 h.1 x) (chS_sI M 66 0 x rfl) (by decide)
theorem inv_le {n m : Nat} {A : sA} {Q : sQ} {v : Nat → Nat} {M : dM} (h : INV n A Q v M) (hm : n ≤ m) : INV m A Q v M := ⟨h.1, h.2.1, h.2.2.1, h.2.2.2.1, h.2.2.2.2.1, h.2.2.2.2.2.1, Nat.le_trans h.2.2.2.2.2.2 hm⟩
/-- one call: both sides answer alike, and the same holds again -/
def stO {β : Type} (n : Nat) (M : dM) (f g : dM → Option (β × dM)) : Prop := ∃ (b : β) (M1 M2 : dM) (A : sA) (Q : sQ) (v : Nat → Nat), f M = some (b, M1) ∧ g M1 = some (b, M2) ∧ INV n A Q v M2
section STEPS
variable {n : Nat} {A : sA} {Q : sQ} {v : Nat → Nat} {M : dM}
def stP {β : Type} (n : Nat) (M : dM) (f : Option β) (g : dM → Option (β × dM)) : Prop := ∃ (b : β) (M2 : dM) (A : sA) (Q : sQ) (v : Nat → Nat), f = some b ∧ g M = some (b, M2) ∧ INV n A Q v M2
theorem st_layer (h : INV n A Q v M) (x y z : Int32) : stO n M (f_ax_layer x y z) (f_mo_layer x y z) := by
  obtain ⟨r, M2, A', ⟨M1, h1, h2⟩, i⟩ := inv_T h (op_layer h.1.1 h.1.2.1 h.1.2.2.1 x y z) (by decide +kernel)
  exact ⟨r, M1, M2, A', Q, v, h1, h2, i⟩
theorem st_way (h : INV n A Q v M) (x y z : Int32) : stO n M (f_ax_way x y z) (f_mo_way x y z) := by
  obtain ⟨r, M2, A', ⟨M1, h1, h2⟩, i⟩ := inv_T h (op_way h.1.1 h.1.2.1 h.1.2.2.1 x y z) (by decide +kernel)
  exact ⟨r, M1, M2, A', Q, v, h1, h2, i⟩
theorem st_skill (h : INV n A Q v M) (x y z : Int32) : stO n M (f_ax_skill x y z) (f_mo_skill x y z) := by
  obtain ⟨r, M2, A', ⟨M1, h1, h2⟩, i⟩ := inv_T h (op_skill h.1.1 h.1.2.1 h.1.2.2.1 x y z) (by decide +kernel)
  exact ⟨r, M1, M2, A', Q, v, h1, h2, i⟩
theorem st_shows (h : INV n A Q v M) (x y z : Int32) : stO n M (f_ax_shows x y z) (f_mo_shows x y z) := by
  obtain ⟨r, M2, A', ⟨M1, h1, h2⟩, i⟩ := inv_T h (op_shows h.1.1 h.1.2.1 h.1.2.2.1 x y z) (by decide +kernel)
  exact ⟨r, M1, M2, A', Q, v, h1, h2, i⟩
theorem st_wealth (h : INV n A Q v M) (x y z : Int32) : stO n M (f_ax_wealth x y z) (f_mo_wealth x y z) := by
  obtain ⟨r, M2, A', ⟨M1, h1, h2⟩, i⟩ := inv_T h (op_wealth h.1.1 h.1.2.1 h.1.2.2.1 x y z) (by decide +kernel)
  exact ⟨r, M1, M2, A', Q, v, h1, h2, i⟩
theorem st_seen (h : INV n A Q v M) (x y z : Int32) : stO n M (f_ax_seen x y z) (f_mo_seen x y z) := by
  obtain ⟨r, M2, A', ⟨M1, h1, h2⟩, i⟩ := inv_T h (op_seen h.1.1 h.1.2.1 h.1.2.2.1 x y z) (by decide +kernel)
  exact ⟨r, M1, M2, A', Q, v, h1, h2, i⟩
theorem st_paper (h : INV n A Q v M) (x : Int32) : stO n M (f_ax_paper x) (f_mo_paper x) := by
  obtain ⟨r, M2, A', ⟨M1, h1, h2⟩, i⟩ := inv_T h (op_paper h.1.1 h.1.2.1 h.1.2.2.1 x) (by decide +kernel)
  exact ⟨r, M1, M2, A', Q, v, h1, h2, i⟩
theorem st_find (h : INV n A Q v M) (x y z a b c d : Int32) : stO n M (f_ax_find x y z a b c d) (f_mo_find x y z a b c d) := by
  obtain ⟨r, M2, A', ⟨M1, h1, h2⟩, i⟩ := inv_T h (op_find h.1.1 h.1.2.1 h.1.2.2.1 x y z a b c d) (by decide +kernel)
  exact ⟨r, M1, M2, A', Q, v, h1, h2, i⟩
theorem st_ground (h : INV n A Q v M) (x : Int32) (y : Int64) (z : Int32) : stO n M (f_ax_ground x y z) (f_mo_ground x y z) := by
  obtain ⟨r, M2, A', ⟨M1, h1, h2⟩, i⟩ := inv_T h (op_ground h.1.1 h.1.2.1 h.1.2.2.1 x y z) (by decide +kernel)
  exact ⟨r, M1, M2, A', Q, v, h1, h2, i⟩
theorem st_here (h : INV n A Q v M) (x y z a b : Int32) : stO n M (f_ax_here x y z a b) (f_mo_here x y z a b) := by
  obtain ⟨r, A', M2, ⟨M1, h1, h2, h3, h4⟩, w', rc', rm', c, hc⟩ := op_here h.1.1 h.1.2.1 h.1.2.2.1 x y z a b
  have cw' := (srcW Q v).use h.1.2.2.2.2.1 c (by decide +kernel)
  have mw' : rmW Q v M2 := rmW_w h.1.2.2.2.2.2.1 c (by decide +kernel)
  rcases hc with ⟨rfl, c7⟩ | ⟨hf, e97⟩
  · exact ⟨r, M1, M2, A', Q, v, h1, h2, inv_mk w' rc' rm' h.1.2.2.2.1 cw' mw' ((scaA A' Q v).use (caA_of h) c7 (by decide)) h.2.2.2.2.2.2⟩
  · cases hr : r with
    | true =>
      rw [hr] at h1 h2
      exact ⟨true, M1, M2, A', Q, v, h1, h2, inv_mk w' rc' rm' h.1.2.2.2.1 cw' mw' (caA_fresh hf (Or.inl (h3 hr))) (by rw [e97]; exact h.2.2.2.2.2.2)⟩
    | false =>
      have c7 := h4 hr
      rw [hr] at h1 h2
      exact ⟨false, M1, M2, A, Q, v, h1, h2, inv_keep h (iv_keep h.1 c7 (by decide +kernel)) c7 (by decide)⟩
theorem st_each (h : INV n A Q v M) (x : Int32) : stO n M (f_ax_each x) (f_mo_each x) := by
  obtain ⟨r, M2, ⟨M1, h1, h2⟩, i⟩ := inv_V h (op_each h.1 x) (by decide +kernel)
  exact ⟨r, M1, M2, A, Q, v, h1, h2, i⟩
theorem st_can (h : INV n A Q v M) (x : Int32) : stO n M (f_ax_can x) (f_mo_can x) := by
  obtain ⟨r, M2, ⟨M1, h1, h2⟩, i⟩ := inv_V h (op_can h.1 x) (by decide +kernel)
  exact ⟨r, M1, M2, A, Q, v, h1, h2, i⟩
theorem st_may (h : INV n A Q v M) (x : Int32) : stO n M (f_ax_may x) (f_mo_may x) := by
  obtain ⟨r, M2, ⟨M1, h1, h2⟩, i⟩ := inv_V h (op_may h.1 x) (by decide +kernel)
  exact ⟨r, M1, M2, A, Q, v, h1, h2, i⟩
theorem st_put (h : INV n A Q v M) (x : Int32) : stO n M (f_ax_put x) (f_mo_put x) := by
  obtain ⟨r, M2, ⟨M1, h1, h2⟩, i⟩ := inv_V h (op_put h.1 x) (by decide +kernel)
  exact ⟨r, M1, M2, A, Q, v, h1, h2, i⟩
theorem st_doubted (h : INV n A Q v M) (x : Int32) : stO n M (f_ax_doubted x) (f_mo_doubted x) := by
  obtain ⟨r, M2, ⟨M1, h1, h2⟩, i⟩ := inv_V h (op_doubted h.1 x) (by decide +kernel)
  exact ⟨r, M1, M2, A, Q, v, h1, h2, i⟩
theorem st_settled (h : INV n A Q v M) : stO n M (f_ax_settled ) (f_mo_settled ) := by
  obtain ⟨r, M2, ⟨M1, h1, h2⟩, i⟩ := inv_V h (op_settled h.1 ) (by decide +kernel)
  exact ⟨r, M1, M2, A, Q, v, h1, h2, i⟩
theorem st_stories (h : INV n A Q v M) (x : Int32) : stO n M (f_ax_stories x) (f_mo_stories x) := by
  obtain ⟨r, M2, ⟨M1, h1, h2⟩, i⟩ := inv_V h (op_stories h.1 x) (by decide +kernel)
  exact ⟨r, M1, M2, A, Q, v, h1, h2, i⟩
theorem st_stops (h : INV n A Q v M) (x y : Int32) : stO n M (f_ax_stops x y) (f_mo_stops x y) := by
  obtain ⟨r, M2, ⟨M1, h1, h2⟩, i⟩ := inv_V h (op_stops h.1 x y) (by decide +kernel)
  exact ⟨r, M1, M2, A, Q, v, h1, h2, i⟩
theorem st_again (h : INV n A Q v M) (x y : Int32) : stO n M (f_ax_again x y) (f_mo_again x y) := by
  obtain ⟨r, M2, ⟨M1, h1, h2⟩, i⟩ := inv_V h (op_again h.1 x y) (by decide +kernel)
  exact ⟨r, M1, M2, A, Q, v, h1, h2, i⟩
theorem st_row (h : INV n A Q v M) (x y z : Int32) : stO n M (f_ax_row x y z) (f_mo_row x y z) := by
  obtain ⟨r, M2, ⟨M1, h1, h2⟩, i⟩ := inv_V h (op_row h.1 x y z) (by decide +kernel)
  exact ⟨r, M1, M2, A, Q, v, h1, h2, i⟩
theorem st_odds (h : INV n A Q v M) (x y z : Int32) : stO n M (f_ax_odds x y z) (f_mo_odds x y z) := by
  obtain ⟨r, M2, ⟨M1, h1, h2⟩, i⟩ := inv_V h (op_odds h.1 x y z) (by decide +kernel)
  exact ⟨r, M1, M2, A, Q, v, h1, h2, i⟩
theorem st_rules (h : INV n A Q v M) (x : Int32) : stO n M (f_ax_rules x) (f_mo_rules x) := by
  obtain ⟨r, M2, ⟨M1, h1, h2⟩, i⟩ := inv_V h (op_rules h.1 x) (by decide +kernel)
  exact ⟨r, M1, M2, A, Q, v, h1, h2, i⟩
theorem st_standing (h : INV n A Q v M) (x : Int32) : stP n M (f_ax_standing x M) (f_mo_standing x) := by
  obtain ⟨r, M2, ⟨h1, h2⟩, i⟩ := inv_V h (op_standing h.1 x) (by decide +kernel)
  exact ⟨r, M2, A, Q, v, h1, h2, i⟩
theorem st_oldest (h : INV n A Q v M) (x : Int32) : stP n M (f_ax_oldest x M) (f_mo_oldest x) := by
  obtain ⟨r, M2, ⟨h1, h2⟩, i⟩ := inv_V h (op_oldest h.1 x) (by decide +kernel)
  exact ⟨r, M2, A, Q, v, h1, h2, i⟩
theorem st_count (h : INV n A Q v M) (x : Int32) : stP n M (f_ax_count x M) (f_mo_count x) := by
  obtain ⟨r, M2, ⟨h1, h2⟩, i⟩ := inv_V h (op_count h.1 x) (by decide +kernel)
  exact ⟨r, M2, A, Q, v, h1, h2, i⟩
theorem st_present (h : INV n A Q v M) (x y z : Int32) : stP n M (f_ax_present x y z M) (f_mo_present x y z) := by
  obtain ⟨r, h1, h2⟩ := op_present h.1.1 h.1.2.1 h.1.2.2.1 x y z
  exact ⟨r, _, A, Q, v, h1, h2, inv_0 h _⟩
theorem st_luck (h : INV n A Q v M) (x y z a b : Int32) : stP n M (f_ax_luck x y z a b) (f_mo_luck x y z a b) := by
  obtain ⟨r, h1, h2⟩ := op_luck x y z a b M
  exact ⟨r, _, A, Q, v, h1, h2, inv_0 h _⟩
theorem st_where (h : INV n A Q v M) (x y : Int32) : stO n M (f_ax_where x y) (f_mo_where x y) := by
  obtain ⟨r, M2, ⟨⟨M1, h1, h2⟩, hb⟩, i, c⟩ := op_where h.1 h.2.1 x y
  exact ⟨r, M1, M2, A, Q, v, h1, h2, i, hb, (scC A).use h.2.2.1 c (by decide +kernel), (seC A Q v).use h.2.2.2.1 c (by decide +kernel), (swC1 A Q).use h.2.2.2.2.1 c (by decide +kernel), (swC2 A Q).use h.2.2.2.2.2.1 c (by decide +kernel), h.2.2.2.2.2.2⟩
theorem st_cut (h : INV n A Q v M) (x y : Int32) : stO n M (f_ax_cut x y) (f_mo_cut x y) := by
  obtain ⟨r, M2, ⟨⟨M1, h1, h2⟩, hb⟩, i, c⟩ := op_cut h.1 h.2.2.1 x y
  exact ⟨r, M1, M2, A, Q, v, h1, h2, i, (sbC A Q v).use h.2.1 c (by decide +kernel), hb, (seC A Q v).use h.2.2.2.1 c (by decide +kernel), (swC1 A Q).use h.2.2.2.2.1 c (by decide +kernel), (swC2 A Q).use h.2.2.2.2.2.1 c (by decide +kernel), h.2.2.2.2.2.2⟩
theorem st_enough (h : INV n A Q v M) : stO n M f_ax_enough f_mo_enough := by
  obtain ⟨r, M2, ⟨⟨M1, h1, h2⟩, hb⟩, i, c⟩ := op_enough h.1 h.2.2.2.1
  exact ⟨r, M1, M2, A, Q, v, h1, h2, i, (sbC A Q v).use h.2.1 c (by decide +kernel), (scC A).use h.2.2.1 c (by decide +kernel), hb, (swC1 A Q).use h.2.2.2.2.1 c (by decide +kernel), (swC2 A Q).use h.2.2.2.2.2.1 c (by decide +kernel), h.2.2.2.2.2.2⟩
theorem st_world (h : INV n A Q v M) (x y : Int32) : stO n M (f_ax_world x y) (f_mo_world x y) := by
  obtain ⟨r, M2, ⟨⟨M1, h1, h2⟩, hb⟩, i, c⟩ := op_world h.1 h.2.2.2.2.1 x y
  exact ⟨r, M1, M2, A, Q, v, h1, h2, i, (sbC A Q v).use h.2.1 c (by decide +kernel), (scC A).use h.2.2.1 c (by decide +kernel), (seC A Q v).use h.2.2.2.1 c (by decide +kernel), hb, (swC2 A Q).use h.2.2.2.2.2.1 c (by decide +kernel), h.2.2.2.2.2.2⟩
theorem st_found (h : INV n A Q v M) (x y z : Int32) : stO n M (f_ax_found x y z) (f_mo_found x y z) := by
  obtain ⟨r, M2, ⟨⟨M1, h1, h2⟩, hb⟩, i, c⟩ := op_found h.1 h.2.2.2.2.1 x y z
  exact ⟨r, M1, M2, A, Q, v, h1, h2, i, (sbC A Q v).use h.2.1 c (by decide +kernel), (scC A).use h.2.2.1 c (by decide +kernel), (seC A Q v).use h.2.2.2.1 c (by decide +kernel), hb, (swC2 A Q).use h.2.2.2.2.2.1 c (by decide +kernel), h.2.2.2.2.2.2⟩
theorem st_rates (h : INV n A Q v M) (x y : Int32) : stO n M (f_ax_rates x y) (f_mo_rates x y) := by
  obtain ⟨r, M2, ⟨⟨M1, h1, h2⟩, hb, hb2⟩, i, c⟩ := op_rates h.1 h.2.2.2.2.1 h.2.2.2.2.2.1 x y
  exact ⟨r, M1, M2, A, Q, v, h1, h2, i, (sbC A Q v).use h.2.1 c (by decide +kernel), (scC A).use h.2.2.1 c (by decide +kernel), (seC A Q v).use h.2.2.2.1 c (by decide +kernel), hb, hb2, h.2.2.2.2.2.2⟩
/-- a call that may throw -/
theorem st_fact (h : INV n A Q v M) (x y : Int32) : (∃ (b : Int32) (M1 M2 : dM) (A : sA) (Q : sQ) (v : Nat → Nat), f_ax_fact x y M = some (b, M1) ∧ f_mo_fact x y M1 = some (b, M2) ∧ gI M2 66 0 = 0 ∧ INV n A Q v M2) ∨ (¬ (f_ax_within x (gI M 12 7) = true ∧ f_ax_within y 20 = true) ∧ f_mo_fact x y M = some (0, sI M 66 0 1)) := by
  rcases op_fact h.1 x y with ⟨_, o⟩ | o
  · obtain ⟨r, M2, ⟨M1, h1, h2, h3⟩, i⟩ := inv_V h o (by decide +kernel)
    exact Or.inl ⟨r, M1, M2, A, Q, v, h1, h2, h3, i⟩
  · exact Or.inr o
theorem st_parted (h : INV n A Q v M) (x y : Int32) : (∃ (b : Int32) (M1 M2 : dM) (A : sA) (Q : sQ) (v : Nat → Nat), f_ax_parted x y M = some (b, M1) ∧ f_mo_parted x y M1 = some (b, M2) ∧ gI M2 66 0 = 0 ∧ INV n A Q v M2) ∨ (¬ (f_mo_within x 1 20 = true ∧ f_ax_within y 2 = true) ∧ f_mo_parted x y M = some (0, sI M 66 0 1)) := by
  rcases op_parted h.1 h.2.2.2.2.1 h.2.2.2.2.2.1 x y with ⟨_, r, M2, ⟨⟨M1, h1, h2, h3⟩, hb, hb2⟩, i, c⟩ | o
  · exact Or.inl ⟨r, M1, M2, A, Q, v, h1, h2, h3, i, (sbC A Q v).use h.2.1 c (by decide +kernel), (scC A).use h.2.2.1 c (by decide +kernel), (seC A Q v).use h.2.2.2.1 c (by decide +kernel), hb, hb2, h.2.2.2.2.2.2⟩
  · exact Or.inr o
theorem pA_eq {A A' : sA} (h : ∀ k j, k ≠ 81 → k ≠ 130 → k ≠ 131 → ¬ (k = 66 ∧ j = 17) → ¬ (k = 66 ∧ j = 97) → A' k j = A k j) : pA A' = pA A := by
  funext k j
  unfold pA
  cases hc : (Nat.beq k 81 || Nat.beq k 130 || Nat.beq k 131 || (Nat.beq k 66 && (Nat.beq j 17 || Nat.beq j 97))) with
  | true => rfl
  | false =>
    show A' k j = A k j
    refine h k j ?_ ?_ ?_ ?_ ?_
    · rintro rfl; revert hc; simp
    · rintro rfl; revert hc; simp
    · rintro rfl; revert hc; simp
    · rintro ⟨rfl, rfl⟩; revert hc; simp
    · rintro ⟨rfl, rfl⟩; revert hc; simp
theorem rcO_eq {A A' : sA} (h : pA A' = pA A) : rcO A' = rcO A := by rw [← rcO_p A', h, rcO_p A]
theorem st_feed (h : INV n A Q v M) (x y z : Int64) : stO n M (f_ax_feed x y z) (f_mo_feed x y z) := by
  obtain ⟨r, M1, M2, h1, h2, w', rc', rm', c⟩ := op_feed h.1.1 h.1.2.1 h.1.2.2.1 x y z
  have e : pA (addsS A (byt3 x y z) 24) = pA A := pA_eq (fun k j h81 _ _ h17 _ => addsS_off A _ k j h81 h17 24)
  refine ⟨r, M1, M2, _, Q, v, h1, h2, inv_mk w' rc' rm' h.1.2.2.2.1 ((srcW Q v).use h.1.2.2.2.2.1 c (by decide +kernel)) (rmW_w h.1.2.2.2.2.2.1 c (by decide +kernel)) ?_ ?_⟩
  · rw [caA_eq e]
    exact (scaA A Q v).use (caA_of h) c (by decide +kernel)
  · rw [addsS_off A _ 66 97 (by decide) (by decide) 24]
    exact h.2.2.2.2.2.2
theorem st_mark (h : INV n A Q v M) (hn : n < 2147483647) (x : Int32) {bk : Int32} (hbk : bk = nI 0 ∨ bk = nI 1) : stO (n + 1) M (f_ax_mark x bk) (f_mo_mark x bk) := by
  have h97 := h.2.2.2.2.2.2
  obtain ⟨r, A', M1, M2, h1, h2, w', rc', rm', c, hla, hc⟩ := op_mark h.1.1 h.1.2.1 h.1.2.2.1 (by omega) x hbk
  refine ⟨r, M1, M2, A', Q, v, h1, h2, inv_mk w' rc' rm' h.1.2.2.2.1 ((srcW Q v).use h.1.2.2.2.2.1 c (by decide +kernel)) (rmW_w h.1.2.2.2.2.2.1 c (by decide +kernel)) ?_ (by omega)⟩
  rcases hc with ⟨c2, he⟩ | ⟨hf, h66⟩
  · rw [caA_eq (pA_eq (fun k j _ h1 h2 _ h3 => he k j h1 h2 h3))]
    exact (scaA A Q v).use (caA_of h) c2 (by decide +kernel)
  · exact caA_fresh hf (Or.inl h66)
theorem st_law (h : INV n A Q v M) : stO n M f_ax_law f_mo_law := by
  obtain ⟨x, Q', v', M1, M2, h1, h2, w', rc', rm', wq', cw', mw', c, hc⟩ := op_law h.1.1 h.1.2.1 h.1.2.2.1 h.1.2.2.2.1 h.1.2.2.2.2.1 h.1.2.2.2.2.2.1
  have e : pA (aU A 66 17 0) = pA A := pA_eq (fun k j _ _ _ h17 _ => by rw [aU_at, if_neg h17])
  refine ⟨x, M1, M2, _, Q', v', h1, h2, inv_mk w' rc' rm' wq' cw' mw' ?_ (by rw [aU_at, if_neg (by decide)]; exact h.2.2.2.2.2.2)⟩
  rcases hc with ⟨rfl, rfl, c2⟩ | hf
  · rw [caA_eq e]
    exact useX (scaA A Q' v') (fun _ _ h => h) (caA_of h) c2 (by decide +kernel)
  · refine caA_fresh hf ?_
    rw [rcO_eq e]
    rcases h.1.2.2.2.2.2.2.1 with z | z
    · exact Or.inl ((c 6 6 (by decide +kernel)).1.trans z)
    · exact Or.inr (fun i hi => ((c 11 i (by rw [show ky 11 i = 11 from rfl]; decide +kernel)).1).trans (z i hi))
end STEPS
