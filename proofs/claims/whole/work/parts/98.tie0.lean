/-! ===== what the caches know does not look at the tape and the marks (made by gentie0.py) ===== -/
def pA (A : sA) : sA := fun k j => cond (Nat.beq k 81 || Nat.beq k 130 || Nat.beq k 131 || (Nat.beq k 66 && (Nat.beq j 17 || Nat.beq j 97))) 0 (A k j)
theorem p66_3 (A : sA) : pA A 66 3 = A 66 3 := rfl
theorem p66_9 (A : sA) : pA A 66 9 = A 66 9 := rfl
theorem p66_55 (A : sA) : pA A 66 55 = A 66 55 := rfl
theorem p66_69 (A : sA) : pA A 66 69 = A 66 69 := rfl
theorem p66_77 (A : sA) : pA A 66 77 = A 66 77 := rfl
theorem p67 (A : sA) (j : Nat) : pA A 67 j = A 67 j := rfl
theorem p68 (A : sA) (j : Nat) : pA A 68 j = A 68 j := rfl
theorem p69 (A : sA) (j : Nat) : pA A 69 j = A 69 j := rfl
theorem p70 (A : sA) (j : Nat) : pA A 70 j = A 70 j := rfl
theorem p71 (A : sA) (j : Nat) : pA A 71 j = A 71 j := rfl
theorem p72 (A : sA) (j : Nat) : pA A 72 j = A 72 j := rfl
theorem p73 (A : sA) (j : Nat) : pA A 73 j = A 73 j := rfl
theorem p74 (A : sA) (j : Nat) : pA A 74 j = A 74 j := rfl
theorem p75 (A : sA) (j : Nat) : pA A 75 j = A 75 j := rfl
theorem p76 (A : sA) (j : Nat) : pA A 76 j = A 76 j := rfl
theorem p77 (A : sA) (j : Nat) : pA A 77 j = A 77 j := rfl
theorem p78 (A : sA) (j : Nat) : pA A 78 j = A 78 j := rfl
theorem p79 (A : sA) (j : Nat) : pA A 79 j = A 79 j := rfl
theorem p80 (A : sA) (j : Nat) : pA A 80 j = A 80 j := rfl
theorem p101 (A : sA) (j : Nat) : pA A 101 j = A 101 j := rfl
theorem p102 (A : sA) (j : Nat) : pA A 102 j = A 102 j := rfl
theorem p103 (A : sA) (j : Nat) : pA A 103 j = A 103 j := rfl
theorem p108 (A : sA) (j : Nat) : pA A 108 j = A 108 j := rfl
theorem p109 (A : sA) (j : Nat) : pA A 109 j = A 109 j := rfl
theorem p110 (A : sA) (j : Nat) : pA A 110 j = A 110 j := rfl
theorem p113 (A : sA) (j : Nat) : pA A 113 j = A 113 j := rfl
theorem p115 (A : sA) (j : Nat) : pA A 115 j = A 115 j := rfl
theorem p116 (A : sA) (j : Nat) : pA A 116 j = A 116 j := rfl
theorem p117 (A : sA) (j : Nat) : pA A 117 j = A 117 j := rfl
theorem p118 (A : sA) (j : Nat) : pA A 118 j = A 118 j := rfl
theorem p119 (A : sA) (j : Nat) : pA A 119 j = A 119 j := rfl
theorem atL_p (A : sA) : atL (pA A) = atL A := by
  funext s d h i
  simp only [atL, p66_3, p66_9, p66_55, p66_69, p66_77, p67, p68, p69, p70, p71, p72, p73, p74, p75, p76, p77, p78, p79, p80, p101, p102, p103, p108, p109, p110, p113, p115, p116, p117, p118, p119]
  try rfl
theorem prs_pn (A : sA) {s : _} {d : _} {h : _} : ∀ n, prs (pA A) s d h n = prs A s d h n
  | 0 => rfl
  | n + 1 => by
    have ih := prs_pn A (s := s) (d := d) (h := h) n
    simp only [prs, ih, atL_p, p66_3, p66_9, p66_55, p66_69, p66_77, p67, p68, p69, p70, p71, p72, p73, p74, p75, p76, p77, p78, p79, p80, p101, p102, p103, p108, p109, p110, p113, p115, p116, p117, p118, p119]
    try rfl
theorem prs_p (A : sA) : prs (pA A) = prs A := by
  funext s d h n
  exact prs_pn A n
theorem pre_p (A : sA) : pre (pA A) = pre A := by
  funext s d h
  simp only [pre, prs_p, p66_3, p66_9, p66_55, p66_69, p66_77, p67, p68, p69, p70, p71, p72, p73, p74, p75, p76, p77, p78, p79, p80, p101, p102, p103, p108, p109, p110, p113, p115, p116, p117, p118, p119]
  try rfl
theorem alb_p (A : sA) : alb (pA A) = alb A := by
  funext s d b h
  simp only [alb, pre_p, p66_3, p66_9, p66_55, p66_69, p66_77, p67, p68, p69, p70, p71, p72, p73, p74, p75, p76, p77, p78, p79, p80, p101, p102, p103, p108, p109, p110, p113, p115, p116, p117, p118, p119]
  try rfl
theorem alN_pn (A : sA) {s : _} {d : _} {b : _} : ∀ n, alN (pA A) s d b n = alN A s d b n
  | 0 => rfl
  | n + 1 => by
    have ih := alN_pn A (s := s) (d := d) (b := b) n
    simp only [alN, ih, alb_p, p66_3, p66_9, p66_55, p66_69, p66_77, p67, p68, p69, p70, p71, p72, p73, p74, p75, p76, p77, p78, p79, p80, p101, p102, p103, p108, p109, p110, p113, p115, p116, p117, p118, p119]
    try rfl
theorem alN_p (A : sA) : alN (pA A) = alN A := by
  funext s d b n
  exact alN_pn A n
theorem al_p (A : sA) : al (pA A) = al A := by
  funext s d b
  simp only [al, alN_p, p66_3, p66_9, p66_55, p66_69, p66_77, p67, p68, p69, p70, p71, p72, p73, p74, p75, p76, p77, p78, p79, p80, p101, p102, p103, p108, p109, p110, p113, p115, p116, p117, p118, p119]
  try rfl
theorem alL_p (A : sA) : alL (pA A) = alL A := by
  funext i
  simp only [alL, al_p, p66_3, p66_9, p66_55, p66_69, p66_77, p67, p68, p69, p70, p71, p72, p73, p74, p75, p76, p77, p78, p79, p80, p101, p102, p103, p108, p109, p110, p113, p115, p116, p117, p118, p119]
  try rfl
theorem gfc_p (A : sA) : gfc (pA A) = gfc A := by
  funext s d h b l ms st fi tw k
  simp only [gfc, alb_p, pre_p, p66_3, p66_9, p66_55, p66_69, p66_77, p67, p68, p69, p70, p71, p72, p73, p74, p75, p76, p77, p78, p79, p80, p101, p102, p103, p108, p109, p110, p113, p115, p116, p117, p118, p119]
  try rfl
theorem agF_p (A : sA) : agF (pA A) = agF A := by
  funext f
  simp only [agF, p66_3, p66_9, p66_55, p66_69, p66_77, p67, p68, p69, p70, p71, p72, p73, p74, p75, p76, p77, p78, p79, p80, p101, p102, p103, p108, p109, p110, p113, p115, p116, p117, p118, p119]
  try rfl
theorem tw_p (A : sA) : tw (pA A) = tw A := by
  funext far f g
  simp only [tw, p66_3, p66_9, p66_55, p66_69, p66_77, p67, p68, p69, p70, p71, p72, p73, p74, p75, p76, p77, p78, p79, p80, p101, p102, p103, p108, p109, p110, p113, p115, p116, p117, p118, p119]
  try rfl
theorem fiF_p (A : sA) : fiF (pA A) = fiF A := by
  funext f
  simp only [fiF, agF_p, p66_3, p66_9, p66_55, p66_69, p66_77, p67, p68, p69, p70, p71, p72, p73, p74, p75, p76, p77, p78, p79, p80, p101, p102, p103, p108, p109, p110, p113, p115, p116, p117, p118, p119]
  try rfl
theorem twF_p (A : sA) : twF (pA A) = twF A := by
  funext far f
  simp only [twF, tw_p, p66_3, p66_9, p66_55, p66_69, p66_77, p67, p68, p69, p70, p71, p72, p73, p74, p75, p76, p77, p78, p79, p80, p101, p102, p103, p108, p109, p110, p113, p115, p116, p117, p118, p119]
  try rfl
theorem fc_p (A : sA) : fc (pA A) = fc A := by
  funext far f k
  simp only [fc, gfc_p, fiF_p, twF_p, p66_3, p66_9, p66_55, p66_69, p66_77, p67, p68, p69, p70, p71, p72, p73, p74, p75, p76, p77, p78, p79, p80, p101, p102, p103, p108, p109, p110, p113, p115, p116, p117, p118, p119]
  try rfl
theorem eaF_p (A : sA) : eaF (pA A) = eaF A := by
  funext Q far f
  simp only [eaF, fc_p, p66_3, p66_9, p66_55, p66_69, p66_77, p67, p68, p69, p70, p71, p72, p73, p74, p75, p76, p77, p78, p79, p80, p101, p102, p103, p108, p109, p110, p113, p115, p116, p117, p118, p119]
  try rfl
theorem twB_pn (A : sA) {far : _} {f : _} : ∀ n, twB (pA A) far f n = twB A far f n
  | 0 => rfl
  | n + 1 => by
    have ih := twB_pn A (far := far) (f := f) n
    simp only [twB, ih, tw_p, p66_3, p66_9, p66_55, p66_69, p66_77, p67, p68, p69, p70, p71, p72, p73, p74, p75, p76, p77, p78, p79, p80, p101, p102, p103, p108, p109, p110, p113, p115, p116, p117, p118, p119]
    try rfl
theorem twB_p (A : sA) : twB (pA A) = twB A := by
  funext far f n
  exact twB_pn A n
theorem limF_p (A : sA) : limF (pA A) = limF A := by
  funext f b
  simp only [limF, p66_3, p66_9, p66_55, p66_69, p66_77, p67, p68, p69, p70, p71, p72, p73, p74, p75, p76, p77, p78, p79, p80, p101, p102, p103, p108, p109, p110, p113, p115, p116, p117, p118, p119]
  try rfl
theorem canL_p (A : sA) : canL (pA A) = canL A := by
  funext s f i
  simp only [canL, alL_p, limF_p, p66_3, p66_9, p66_55, p66_69, p66_77, p67, p68, p69, p70, p71, p72, p73, p74, p75, p76, p77, p78, p79, p80, p101, p102, p103, p108, p109, p110, p113, p115, p116, p117, p118, p119]
  try rfl
theorem canLB_p (A : sA) : canLB (pA A) = canLB A := by
  funext s f i
  unfold canLB
  rw [canL_p]
  try rfl
theorem canN_pn (A : sA) {s : _} {f : _} : ∀ n, canN (pA A) s f n = canN A s f n
  | 0 => rfl
  | n + 1 => by
    have ih := canN_pn A (s := s) (f := f) n
    simp only [canN, ih, canLB_p, p66_3, p66_9, p66_55, p66_69, p66_77, p67, p68, p69, p70, p71, p72, p73, p74, p75, p76, p77, p78, p79, p80, p101, p102, p103, p108, p109, p110, p113, p115, p116, p117, p118, p119]
    try rfl
theorem canN_p (A : sA) : canN (pA A) = canN A := by
  funext s f n
  exact canN_pn A n
theorem canF_p (A : sA) : canF (pA A) = canF A := by
  funext s f
  simp only [canF, canN_p, p66_3, p66_9, p66_55, p66_69, p66_77, p67, p68, p69, p70, p71, p72, p73, p74, p75, p76, p77, p78, p79, p80, p101, p102, p103, p108, p109, p110, p113, p115, p116, p117, p118, p119]
  try rfl
theorem seL_p (A : sA) : seL (pA A) = seL A := by
  funext s f i
  simp only [seL, p66_3, p66_9, p66_55, p66_69, p66_77, p67, p68, p69, p70, p71, p72, p73, p74, p75, p76, p77, p78, p79, p80, p101, p102, p103, p108, p109, p110, p113, p115, p116, p117, p118, p119]
  try rfl
theorem seN_pn (A : sA) {s : _} {f : _} : ∀ n, seN (pA A) s f n = seN A s f n
  | 0 => rfl
  | n + 1 => by
    have ih := seN_pn A (s := s) (f := f) n
    simp only [seN, ih, seL_p, p66_3, p66_9, p66_55, p66_69, p66_77, p67, p68, p69, p70, p71, p72, p73, p74, p75, p76, p77, p78, p79, p80, p101, p102, p103, p108, p109, p110, p113, p115, p116, p117, p118, p119]
    try rfl
theorem seN_p (A : sA) : seN (pA A) = seN A := by
  funext s f n
  exact seN_pn A n
theorem seF_p (A : sA) : seF (pA A) = seF A := by
  funext s f
  simp only [seF, seN_p, p66_3, p66_9, p66_55, p66_69, p66_77, p67, p68, p69, p70, p71, p72, p73, p74, p75, p76, p77, p78, p79, p80, p101, p102, p103, p108, p109, p110, p113, p115, p116, p117, p118, p119]
  try rfl
theorem byF_p (A : sA) : byF (pA A) = byF A := by
  funext v f
  simp only [byF, canF_p, seF_p, p66_3, p66_9, p66_55, p66_69, p66_77, p67, p68, p69, p70, p71, p72, p73, p74, p75, p76, p77, p78, p79, p80, p101, p102, p103, p108, p109, p110, p113, p115, p116, p117, p118, p119]
  try rfl
theorem mayF_p (A : sA) : mayF (pA A) = mayF A := by
  funext v f
  simp only [mayF, byF_p, canF_p, p66_3, p66_9, p66_55, p66_69, p66_77, p67, p68, p69, p70, p71, p72, p73, p74, p75, p76, p77, p78, p79, p80, p101, p102, p103, p108, p109, p110, p113, p115, p116, p117, p118, p119]
  try rfl
theorem putF_p (A : sA) : putF (pA A) = putF A := by
  funext Q v f
  simp only [putF, byF_p, eaF_p, p66_3, p66_9, p66_55, p66_69, p66_77, p67, p68, p69, p70, p71, p72, p73, p74, p75, p76, p77, p78, p79, p80, p101, p102, p103, p108, p109, p110, p113, p115, p116, p117, p118, p119]
  try rfl
theorem nd1_p (A : sA) : nd1 (pA A) = nd1 A := by
  funext Q v f H
  simp only [nd1, putF_p, mayF_p, tw_p, p66_3, p66_9, p66_55, p66_69, p66_77, p67, p68, p69, p70, p71, p72, p73, p74, p75, p76, p77, p78, p79, p80, p101, p102, p103, p108, p109, p110, p113, p115, p116, p117, p118, p119]
  try rfl
theorem nd_p (A : sA) : nd (pA A) = nd A := by
  funext Q v i H
  simp only [nd, nd1_p, p66_3, p66_9, p66_55, p66_69, p66_77, p67, p68, p69, p70, p71, p72, p73, p74, p75, p76, p77, p78, p79, p80, p101, p102, p103, p108, p109, p110, p113, p115, p116, p117, p118, p119]
  try rfl
theorem exP_p (A : sA) : exP (pA A) = exP A := by
  funext Q v s
  simp only [exP, nd_p, p66_3, p66_9, p66_55, p66_69, p66_77, p67, p68, p69, p70, p71, p72, p73, p74, p75, p76, p77, p78, p79, p80, p101, p102, p103, p108, p109, p110, p113, p115, p116, p117, p118, p119]
  try rfl
theorem exB_p (A : sA) : exB (pA A) = exB A := by
  funext Q v s
  unfold exB
  rw [exP_p]
  try rfl
theorem sT_p (A : sA) : sT (pA A) = sT A := by
  funext Q v
  simp only [sT, exB_p, p66_3, p66_9, p66_55, p66_69, p66_77, p67, p68, p69, p70, p71, p72, p73, p74, p75, p76, p77, p78, p79, p80, p101, p102, p103, p108, p109, p110, p113, p115, p116, p117, p118, p119]
  try rfl
theorem duB_p (A : sA) : duB (pA A) = duB A := by
  funext Q v f
  simp only [duB, eaF_p, sT_p, p66_3, p66_9, p66_55, p66_69, p66_77, p67, p68, p69, p70, p71, p72, p73, p74, p75, p76, p77, p78, p79, p80, p101, p102, p103, p108, p109, p110, p113, p115, p116, p117, p118, p119]
  try rfl
theorem duF_p (A : sA) : duF (pA A) = duF A := by
  funext Q v
  simp only [duF, duB_p, p66_3, p66_9, p66_55, p66_69, p66_77, p67, p68, p69, p70, p71, p72, p73, p74, p75, p76, p77, p78, p79, p80, p101, p102, p103, p108, p109, p110, p113, p115, p116, p117, p118, p119]
  try rfl
theorem psN_pn (A : sA) {ok : _} {x : _} : ∀ n, psN (pA A) ok x n = psN A ok x n
  | 0 => rfl
  | n + 1 => by
    have ih := psN_pn A (ok := ok) (x := x) n
    simp only [psN, ih, p66_3, p66_9, p66_55, p66_69, p66_77, p67, p68, p69, p70, p71, p72, p73, p74, p75, p76, p77, p78, p79, p80, p101, p102, p103, p108, p109, p110, p113, p115, p116, p117, p118, p119]
    try rfl
theorem psN_p (A : sA) : psN (pA A) = psN A := by
  funext ok x n
  exact psN_pn A n
theorem psG_p (A : sA) : psG (pA A) = psG A := by
  funext ok x
  simp only [psG, psN_p, p66_3, p66_9, p66_55, p66_69, p66_77, p67, p68, p69, p70, p71, p72, p73, p74, p75, p76, p77, p78, p79, p80, p101, p102, p103, p108, p109, p110, p113, p115, p116, p117, p118, p119]
  try rfl
theorem itG_pn (A : sA) {ok : _} : ∀ n, itG (pA A) ok n = itG A ok n
  | 0 => rfl
  | n + 1 => by
    have ih := itG_pn A (ok := ok) n
    simp only [itG, ih, psG_p, p66_3, p66_9, p66_55, p66_69, p66_77, p67, p68, p69, p70, p71, p72, p73, p74, p75, p76, p77, p78, p79, p80, p101, p102, p103, p108, p109, p110, p113, p115, p116, p117, p118, p119]
    try rfl
theorem itG_p (A : sA) : itG (pA A) = itG A := by
  funext ok n
  exact itG_pn A n
theorem swG_p (A : sA) : swG (pA A) = swG A := by
  funext ok
  simp only [swG, itG_p, p66_3, p66_9, p66_55, p66_69, p66_77, p67, p68, p69, p70, p71, p72, p73, p74, p75, p76, p77, p78, p79, p80, p101, p102, p103, p108, p109, p110, p113, p115, p116, p117, p118, p119]
  try rfl
theorem okO_p (A : sA) : okO (pA A) = okO A := by
  funext u i
  simp only [okO, p66_3, p66_9, p66_55, p66_69, p66_77, p67, p68, p69, p70, p71, p72, p73, p74, p75, p76, p77, p78, p79, p80, p101, p102, p103, p108, p109, p110, p113, p115, p116, p117, p118, p119]
  try rfl
theorem swO_p (A : sA) : swO (pA A) = swO A := by
  funext u
  simp only [swO, swG_p, okO_p, p66_3, p66_9, p66_55, p66_69, p66_77, p67, p68, p69, p70, p71, p72, p73, p74, p75, p76, p77, p78, p79, p80, p101, p102, p103, p108, p109, p110, p113, p115, p116, p117, p118, p119]
  try rfl
theorem seO_p (A : sA) : seO (pA A) = seO A := by
  funext d u
  simp only [seO, swO_p, p66_3, p66_9, p66_55, p66_69, p66_77, p67, p68, p69, p70, p71, p72, p73, p74, p75, p76, p77, p78, p79, p80, p101, p102, p103, p108, p109, p110, p113, p115, p116, p117, p118, p119]
  try rfl
theorem kpB_p (A : sA) : kpB (pA A) = kpB A := by
  funext du a b f
  simp only [kpB, p66_3, p66_9, p66_55, p66_69, p66_77, p67, p68, p69, p70, p71, p72, p73, p74, p75, p76, p77, p78, p79, p80, p101, p102, p103, p108, p109, p110, p113, p115, p116, p117, p118, p119]
  try rfl
theorem knF_p (A : sA) : knF (pA A) = knF A := by
  funext du a b
  simp only [knF, kpB_p, p66_3, p66_9, p66_55, p66_69, p66_77, p67, p68, p69, p70, p71, p72, p73, p74, p75, p76, p77, p78, p79, p80, p101, p102, p103, p108, p109, p110, p113, p115, p116, p117, p118, p119]
  try rfl
theorem GD_p (A : sA) : GD (pA A) = GD A := by
  funext du kn c
  simp only [GD, seO_p, p66_3, p66_9, p66_55, p66_69, p66_77, p67, p68, p69, p70, p71, p72, p73, p74, p75, p76, p77, p78, p79, p80, p101, p102, p103, p108, p109, p110, p113, p115, p116, p117, p118, p119]
  try rfl
theorem gdF_p (A : sA) : gdF (pA A) = gdF A := by
  funext du kn
  unfold gdF
  rw [GD_p]
  try rfl
theorem gvF_p (A : sA) : gvF (pA A) = gvF A := by
  funext du a b
  simp only [gvF, knF_p, gdF_p, p66_3, p66_9, p66_55, p66_69, p66_77, p67, p68, p69, p70, p71, p72, p73, p74, p75, p76, p77, p78, p79, p80, p101, p102, p103, p108, p109, p110, p113, p115, p116, p117, p118, p119]
  try rfl
theorem faP_p (A : sA) : faP (pA A) = faP A := by
  funext c S
  simp only [faP, swO_p, p66_3, p66_9, p66_55, p66_69, p66_77, p67, p68, p69, p70, p71, p72, p73, p74, p75, p76, p77, p78, p79, p80, p101, p102, p103, p108, p109, p110, p113, p115, p116, p117, p118, p119]
  try rfl
theorem ctS_p (A : sA) : ctS (pA A) = ctS A := by
  funext c m
  simp only [ctS, faP_p, p66_3, p66_9, p66_55, p66_69, p66_77, p67, p68, p69, p70, p71, p72, p73, p74, p75, p76, p77, p78, p79, p80, p101, p102, p103, p108, p109, p110, p113, p115, p116, p117, p118, p119]
  try rfl
theorem ct_p (A : sA) : ct (pA A) = ct A := by
  funext c
  unfold ct
  rw [faP_p, ctS_p]
theorem hbF_p (A : sA) : hbF (pA A) = hbF A := by
  funext b m
  simp only [hbF, p66_3, p66_9, p66_55, p66_69, p66_77, p67, p68, p69, p70, p71, p72, p73, p74, p75, p76, p77, p78, p79, p80, p101, p102, p103, p108, p109, p110, p113, p115, p116, p117, p118, p119]
  try rfl
theorem twS_pn (A : sA) {far : _} : ∀ n, twS (pA A) far n = twS A far n
  | 0 => rfl
  | n + 1 => by
    have ih := twS_pn A (far := far) n
    simp only [twS, ih, tw_p, p66_3, p66_9, p66_55, p66_69, p66_77, p67, p68, p69, p70, p71, p72, p73, p74, p75, p76, p77, p78, p79, p80, p101, p102, p103, p108, p109, p110, p113, p115, p116, p117, p118, p119]
    try rfl
theorem twS_p (A : sA) : twS (pA A) = twS A := by
  funext far n
  exact twS_pn A n
theorem mxC_pn (A : sA)  : ∀ n, mxC (pA A)  n = mxC A  n
  | 0 => rfl
  | n + 1 => by
    have ih := mxC_pn A  n
    simp only [mxC, ih, hbF_p, p66_3, p66_9, p66_55, p66_69, p66_77, p67, p68, p69, p70, p71, p72, p73, p74, p75, p76, p77, p78, p79, p80, p101, p102, p103, p108, p109, p110, p113, p115, p116, p117, p118, p119]
    try rfl
theorem mxC_p (A : sA) : mxC (pA A) = mxC A := by
  funext  n
  exact mxC_pn A n
theorem dfc_p (A : sA) : dfc (pA A) = dfc A := by
  funext Q v d m k
  simp only [dfc, eaF_p, twS_p, mxC_p, fc_p, p66_3, p66_9, p66_55, p66_69, p66_77, p67, p68, p69, p70, p71, p72, p73, p74, p75, p76, p77, p78, p79, p80, p101, p102, p103, p108, p109, p110, p113, p115, p116, p117, p118, p119]
  try rfl
theorem pfN_p (A : sA) : pfN (pA A) = pfN A := by
  funext d
  simp only [pfN, p66_3, p66_9, p66_55, p66_69, p66_77, p67, p68, p69, p70, p71, p72, p73, p74, p75, p76, p77, p78, p79, p80, p101, p102, p103, p108, p109, p110, p113, p115, p116, p117, p118, p119]
  try rfl
theorem dfv_p (A : sA) : dfv (pA A) = dfv A := by
  funext Q v d k
  simp only [dfv, dfc_p, pfN_p, p66_3, p66_9, p66_55, p66_69, p66_77, p67, p68, p69, p70, p71, p72, p73, p74, p75, p76, p77, p78, p79, p80, p101, p102, p103, p108, p109, p110, p113, p115, p116, p117, p118, p119]
  try rfl
theorem skD_p (A : sA) (Q : sQ) (v : Nat → Nat) : ∀ n d, skD (pA A) Q v n d = skD A Q v n d
  | 0, _ => rfl
  | n + 1, d => by
    have ih := skD_p A Q v n (d + 1)
    simp only [skD, ih, dfv_p]
theorem enN_p (A : sA) : enN (pA A) = enN A := by
  funext Q v
  simp only [enN, skD_p]
theorem lay0_p (A : sA) : lay0 (pA A) = lay0 A := by
  funext j
  simp only [lay0, p66_3, p66_9, p66_55, p66_69, p66_77, p67, p68, p69, p70, p71, p72, p73, p74, p75, p76, p77, p78, p79, p80, p101, p102, p103, p108, p109, p110, p113, p115, p116, p117, p118, p119]
  try rfl
theorem laC_p (A : sA) : laC (pA A) = laC A := by
  funext s n
  simp only [laC, lay0_p, p66_3, p66_9, p66_55, p66_69, p66_77, p67, p68, p69, p70, p71, p72, p73, p74, p75, p76, p77, p78, p79, p80, p101, p102, p103, p108, p109, p110, p113, p115, p116, p117, p118, p119]
  try rfl
theorem klF_p (A : sA) : klF (pA A) = klF A := by
  funext s k
  simp only [klF, lay0_p, p66_3, p66_9, p66_55, p66_69, p66_77, p67, p68, p69, p70, p71, p72, p73, p74, p75, p76, p77, p78, p79, p80, p101, p102, p103, p108, p109, p110, p113, p115, p116, p117, p118, p119]
  try rfl
theorem adW_p (A : sA) : adW (pA A) = adW A := by
  funext st sd dv V
  simp only [adW, klF_p, laC_p, p66_3, p66_9, p66_55, p66_69, p66_77, p67, p68, p69, p70, p71, p72, p73, p74, p75, p76, p77, p78, p79, p80, p101, p102, p103, p108, p109, p110, p113, p115, p116, p117, p118, p119]
  try rfl
theorem ptW_p (A : sA) : ptW (pA A) = ptW A := by
  funext i h V
  simp only [ptW, alL_p, laC_p, adW_p, p66_3, p66_9, p66_55, p66_69, p66_77, p67, p68, p69, p70, p71, p72, p73, p74, p75, p76, p77, p78, p79, p80, p101, p102, p103, p108, p109, p110, p113, p115, p116, p117, p118, p119]
  try rfl
theorem sgF_p (A : sA) : sgF (pA A) = sgF A := by
  funext p k
  simp only [sgF, p66_3, p66_9, p66_55, p66_69, p66_77, p67, p68, p69, p70, p71, p72, p73, p74, p75, p76, p77, p78, p79, p80, p101, p102, p103, p108, p109, p110, p113, p115, p116, p117, p118, p119]
  try rfl
theorem mkF_p (A : sA) : mkF (pA A) = mkF A := by
  funext p s k
  simp only [mkF, sgF_p, p66_3, p66_9, p66_55, p66_69, p66_77, p67, p68, p69, p70, p71, p72, p73, p74, p75, p76, p77, p78, p79, p80, p101, p102, p103, p108, p109, p110, p113, p115, p116, p117, p118, p119]
  try rfl
theorem mkN_p (A : sA) : mkN (pA A) = mkN A := by
  funext p s
  simp only [mkN, mkF_p, p66_3, p66_9, p66_55, p66_69, p66_77, p67, p68, p69, p70, p71, p72, p73, p74, p75, p76, p77, p78, p79, p80, p101, p102, p103, p108, p109, p110, p113, p115, p116, p117, p118, p119]
  try rfl
theorem gwF_p (A : sA) : gwF (pA A) = gwF A := by
  funext i h l ms st fi k
  simp only [gwF, gfc_p, p66_3, p66_9, p66_55, p66_69, p66_77, p67, p68, p69, p70, p71, p72, p73, p74, p75, p76, p77, p78, p79, p80, p101, p102, p103, p108, p109, p110, p113, p115, p116, p117, p118, p119]
  try rfl
theorem enT_p (A : sA) : enT (pA A) = enT A := by
  funext Q i h l p s g j
  simp only [enT, mkN_p, gwF_p, p66_3, p66_9, p66_55, p66_69, p66_77, p67, p68, p69, p70, p71, p72, p73, p74, p75, p76, p77, p78, p79, p80, p101, p102, p103, p108, p109, p110, p113, p115, p116, p117, p118, p119]
  try rfl
theorem tkX_p (A : sA) : tkX (pA A) = tkX A := by
  funext Q i h l p X
  simp only [tkX, enT_p, p66_3, p66_9, p66_55, p66_69, p66_77, p67, p68, p69, p70, p71, p72, p73, p74, p75, p76, p77, p78, p79, p80, p101, p102, p103, p108, p109, p110, p113, p115, p116, p117, p118, p119]
  try rfl
theorem dgX_p (A : sA) : dgX (pA A) = dgX A := by
  funext Q i h X
  simp only [dgX, tkX_p, laC_p, klF_p, p66_3, p66_9, p66_55, p66_69, p66_77, p67, p68, p69, p70, p71, p72, p73, p74, p75, p76, p77, p78, p79, p80, p101, p102, p103, p108, p109, p110, p113, p115, p116, p117, p118, p119]
  try rfl
theorem stX_p (A : sA) : stX (pA A) = stX A := by
  funext Q i h X
  simp only [stX, dgX_p, ptW_p, p66_3, p66_9, p66_55, p66_69, p66_77, p67, p68, p69, p70, p71, p72, p73, p74, p75, p76, p77, p78, p79, p80, p101, p102, p103, p108, p109, p110, p113, p115, p116, p117, p118, p119]
  try rfl
theorem runH_pn (A : sA) {Q : _} {i : _} {X : _} : ∀ n, runH (pA A) Q i X n = runH A Q i X n
  | 0 => rfl
  | n + 1 => by
    have ih := runH_pn A (Q := Q) (i := i) (X := X) n
    simp only [runH, ih, stX_p, p66_3, p66_9, p66_55, p66_69, p66_77, p67, p68, p69, p70, p71, p72, p73, p74, p75, p76, p77, p78, p79, p80, p101, p102, p103, p108, p109, p110, p113, p115, p116, p117, p118, p119]
    try rfl
theorem runH_p (A : sA) : runH (pA A) = runH A := by
  funext Q i X n
  exact runH_pn A n
theorem runL_pn (A : sA) {Q : _} {s : _} : ∀ n, runL (pA A) Q s n = runL A Q s n
  | 0 => rfl
  | n + 1 => by
    have ih := runL_pn A (Q := Q) (s := s) n
    simp only [runL, ih, runH_p, p66_3, p66_9, p66_55, p66_69, p66_77, p67, p68, p69, p70, p71, p72, p73, p74, p75, p76, p77, p78, p79, p80, p101, p102, p103, p108, p109, p110, p113, p115, p116, p117, p118, p119]
    try rfl
theorem runL_p (A : sA) : runL (pA A) = runL A := by
  funext Q s n
  exact runL_pn A n
theorem uX_p (A : sA) : uX (pA A) = uX A := by
  funext Q s
  simp only [uX, runL_p, p66_3, p66_9, p66_55, p66_69, p66_77, p67, p68, p69, p70, p71, p72, p73, p74, p75, p76, p77, p78, p79, p80, p101, p102, p103, p108, p109, p110, p113, p115, p116, p117, p118, p119]
  try rfl
