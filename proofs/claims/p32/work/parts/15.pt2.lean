/-! A POINT of a method's walk -/
def hOK (TT : List (List aCT)) (g : jG) (EI : aB → jH → Prop) (W : List aR) (bk0 : aB) (h0 : jH) (bk : aB) (h : jH) : Prop :=
  HT TT g bk h ∧ BD TT bk ∧ EI bk h ∧ UN TT W bk0 h0 h ∧ (∀ B b, bk0 B = some b → bk B = some b) ∧ ∀ B, B ≤ 1 → ∃ b, bk B = some b
def PT (TT : List (List aCT)) (g : jG) (EI : aB → jH → Prop) (W : List aR) (bk0 : aB) (h0 : jH) (ev : List Int) (y : Nat) (vs : List Int) (bk : aB) (al : List (Option Value)) (st : List Value) (h : jH) (S : aS) : Prop :=
  gOK g vs bk al st h S.1 S.2.1 S.2.2.1 S.2.2.2.1 S.2.2.2.2.1 S.2.2.2.2.2 ∧ hOK TT g EI W bk0 h0 bk h ∧ al.length = jmx y ∧ ∀ (i : Nat) (z : Int), ev[i]? = some z → vs[i]? = some z
/-- the answer of a contract, with the values ev of its ids -/
def postOK (vs : List Int) (l : List aF) : Prop := ∀ F ∈ l, ∃ z, fev vs F = some z ∧ 0 ≤ z
def outOK (bk : aB) (h : jH) (os : List Int) (outs : List aC) : Prop := os.length = outs.length ∧ ∀ (j : Nat) (q : aC) (x : Int), outs[j]? = some q → os[j]? = some x → (q.2.2.2.1 ≤ x ∧ x ≤ q.2.2.2.2) ∧ ∃ b c, bk q.1 = some b ∧ h[b + q.2.1]? = some c ∧ plAt c (q.2.2.1 : Nat) x
def tsOK (ev : List Int) (ts : List aF) (z : Int) : Prop := ts = [] ∨ (z = 1 ∧ ∀ F ∈ ts, ∃ w, fev ev F = some w ∧ 0 ≤ w) ∨ (z = 0 ∧ (∀ F ∈ ts, ∃ w, fev ev F = some w) ∧ ∃ F ∈ ts, ∃ w, fev ev F = some w ∧ w < 0)
def ansOK (g : jG) (bk : aB) (ev os : List Int) (post : List aF) (v : Option Value) (q : aQ) : Prop := match q.1 with
  | 0 => ∃ x : Int32, v = some (.int x) ∧ (q.2.1 ≤ x.toInt ∧ x.toInt ≤ q.2.2.1) ∧ tsOK ev q.2.2.2.2.2 x.toInt ∧ postOK (ev ++ os ++ [x.toInt]) post
  | 2 => (∃ b, bk q.2.2.2.1 = some b ∧ v = some (jad g b q.2.2.2.2.1)) ∧ postOK (ev ++ os) post
  | 5 => ∃ (x : Int32) (t : Int), v = some (.int x) ∧ 0 ≤ t ∧ t ≤ q.2.2.1 ∧ x.toInt = q.2.1 + q.2.2.2.1 * t ∧ postOK (ev ++ os ++ [x.toInt]) post
  | 9 => v = none ∧ postOK (ev ++ os) post
  | _ => False
def kPost (TT : List (List aCT)) (g : jG) (EI : aB → jH → Prop) (K : aK) (bk : aB) (h : jH) (ev : List Int) (v : Option Value) (h' : jH) : Prop :=
  ∃ (bk' : aB) (os : List Int), hOK TT g EI K.2.2.2.2.2.2.2.1 bk h bk' h' ∧ outOK bk' h' os K.2.2.2.2.2.1 ∧ ∃ q ∈ K.2.2.2.2.1, ansOK g bk' ev os K.2.2.2.2.2.2.1 v q
/-- WHAT A CONTRACT SAYS -/
def kOK (TT : List (List aCT)) (g : jG) (EI : aB → jH → Prop) (l : Launch) (K : aK) : Prop :=
  ∀ (bk : aB) (h : jH) (av : List Value) (ev : List Int), HT TT g bk h → BD TT bk → EI bk h → (∀ B, B ≤ 1 → ∃ b, bk B = some b) → (lg_sl av).length ≤ jmx K.1 → ev.length = kN K → (∀ q ∈ spSd 0 K.2.1, ∀ z, ev[q.1]? = some z → (z - q.2.1) % (q.2.2 : Int) = 0) →
    gOK g ev bk (jal K.1 av) [] h (kEnv K) K.2.2.2.1 (spLoc 0 K.2.1) [] (clOv (spEnv K.2.1).length K.2.2.1) [] →
    jCal l g K.1 K.2.2.2.2.2.2.2.2.1 av h K.2.2.2.2.2.2.2.2.2.1 K.2.2.2.2.2.2.2.2.2.2 (kPost TT g EI K bk h ev)
