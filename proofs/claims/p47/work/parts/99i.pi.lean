/-! rules of the reference: the text's rows are copied into the row of numbers -/
section PI
variable {l : Launch} {g : jG} {n : Int}
/-- a store of which nothing but the types is said -/
theorem hOK.st0 {W : List aR} {bk0 bk : aB} {h0 h : jH} (hO : hOK TTs g (fun _ _ => True) W bk0 h0 bk h) {B b o ty m : Nat} {sg : List aSeg} (hb : bk B = some b) (ht : tyAt TTs B o = some (.inl (ty, m, sg))) {f : Nat → Int32} (hc : h[b + o]? = some (.inl (ty, m, f))) {i : Nat} {v : Int32} (hv : sgOK sg i v.toInt) {lo hi : Int} (hW : subW [(B, o, lo, hi)] W = true) (h1 : lo ≤ i) (h2 : (i : Int) ≤ hi) :
    hOK TTs g (fun _ _ => True) W bk0 h0 bk (h.set (b + o) (.inl (ty, m, upd f i v))) := by
  obtain ⟨a1, a2, a3, a4, a5, a6⟩ := hO
  have hU : UN TTs [(B, o, lo, hi)] bk h (h.set (b + o) (.inl (ty, m, upd f i v))) := UN.set a2 hb (tyAt_lt ht) hc (offW_arr h1 h2)
  have hH : HT TTs g bk (h.set (b + o) (.inl (ty, m, upd f i v))) := by
    refine a1.set a2 hb ht ⟨_, rfl, fun j hj => ?_⟩
    obtain ⟨c', q1, f', q2, q3⟩ := a1 B b o _ hb ht
    cases hc.symm.trans q1
    cases q2
    by_cases hji : j = i
    · subst hji
      rw [show upd f j v j = v from if_pos rfl]
      exact hv
    · rw [show upd f i v j = f j from if_neg hji]
      exact q3 j hj
  exact ⟨hH, a2, trivial, a4.tr a5 (hU.mono hW), a5, a6⟩
def rowB (X : aSeg) : Bool := ROWs.all (fun s => sgEq [s] [X] || Nat.ble (s.1 + s.2.1) X.1 || Nat.ble (X.1 + X.2.1) s.1)
theorem rowB_ok {X : aSeg} (h : rowB X = true) : ∀ s ∈ ROWs, s = X ∨ s.1 + s.2.1 ≤ X.1 ∨ X.1 + X.2.1 ≤ s.1 := by
  intro s hs
  have h1 := List.all_eq_true.mp h s hs
  simp only [Bool.or_eq_true] at h1
  rcases h1 with (h1 | h1) | h1
  · exact Or.inl (List.cons.inj (sgEq_ok _ _ h1)).1
  · exact Or.inr (Or.inl (Nat.le_of_ble_eq_true h1))
  · exact Or.inr (Or.inr (Nat.le_of_ble_eq_true h1))
theorem rowB_a : ∀ t, t < 2 → rowB (1130 + 930 * t, 1, 1, [(0, 16)]) = true := by decide +kernel
theorem rowB_b : ∀ t, t < 2 → rowB (1131 + 930 * t, 128, 8, [(0, 1), (0, 11), (-2147483648, 2147483647), (0, 1), (0, 15), (0, 400), (0, 400), (-2147483648, 2147483647)]) = true := by decide +kernel
theorem rowB_c : ∀ t, t < 2 → rowB (1260 + 930 * t, 800, 2, [(0, 13), (0, 15)]) = true := by decide +kernel
theorem row_sa {t : Nat} {z : Int} (ht : t < 2) (hz : 0 ≤ z ∧ z ≤ 16) : sgOK ROWs (1130 + 930 * t) z := by
  intro s hs h1 h2 q hq
  rcases rowB_ok (rowB_a t ht) s hs with rfl | e | e
  · have hq : [((0 : Int), (16 : Int))][(1130 + 930 * t - (1130 + 930 * t)) % 1]? = some q := hq
    rw [Nat.mod_one] at hq
    cases hq
    exact hz
  · dsimp only at e; omega
  · dsimp only at e; omega
theorem row_sb {t k j : Nat} {z : Int} (ht : t < 2) (hk : k < 16) (hj : j < 8) (hz : ∀ q : Int × Int, [((0 : Int), (1 : Int)), (0, 11), (-2147483648, 2147483647), (0, 1), (0, 15), (0, 400), (0, 400), (-2147483648, 2147483647)][j]? = some q → q.1 ≤ z ∧ z ≤ q.2) : sgOK ROWs (1131 + 930 * t + (8 * k + j)) z := by
  intro s hs h1 h2 q hq
  rcases rowB_ok (rowB_b t ht) s hs with rfl | e | e
  · refine hz q ?_
    have hq : [((0 : Int), (1 : Int)), (0, 11), (-2147483648, 2147483647), (0, 1), (0, 15), (0, 400), (0, 400), (-2147483648, 2147483647)][(1131 + 930 * t + (8 * k + j) - (1131 + 930 * t)) % 8]? = some q := hq
    rw [show (1131 + 930 * t + (8 * k + j) - (1131 + 930 * t)) % 8 = j by omega] at hq
    exact hq
  · dsimp only at e; omega
  · dsimp only at e; omega
theorem row_sc {t p j : Nat} {z : Int} (ht : t < 2) (hp : p < 400) (hj : j < 2) (hz : ∀ q : Int × Int, [((0 : Int), (13 : Int)), (0, 15)][j]? = some q → q.1 ≤ z ∧ z ≤ q.2) : sgOK ROWs (1260 + 930 * t + (2 * p + j)) z := by
  intro s hs h1 h2 q hq
  rcases rowB_ok (rowB_c t ht) s hs with rfl | e | e
  · refine hz q ?_
    have hq : [((0 : Int), (13 : Int)), (0, 15)][(1260 + 930 * t + (2 * p + j) - (1260 + 930 * t)) % 2]? = some q := hq
    rw [show (1260 + 930 * t + (2 * p + j) - (1260 + 930 * t)) % 2 = j by omega] at hq
    exact hq
  · dsimp only at e; omega
  · dsimp only at e; omega
theorem dep_rg {f O A : Nat → Int32} {a : Nat} : ∀ (k p D : Nat), (∃ D', rg O A k p D = some D') → (∀ i, p ≤ i → i < p + k → f (a + 130 + 2 * i) = O i ∧ f (a + 130 + 2 * i + 1) = A i) → dep f a k p D = true := by
  intro k
  induction k with
  | zero => intro p D _ _; rfl
  | succ k ih =>
    intro p D hD hf
    obtain ⟨D', hD⟩ := hD
    rw [rg] at hD
    obtain ⟨e1, e2⟩ := hf p (by omega) (by omega)
    rw [dep, e1, e2]
    cases h1 : stD (O p).toInt (A p).toInt D with
    | none => rw [h1] at hD; cases hD
    | some D1 =>
      rw [h1] at hD
      have ih := ih (p + 1) D1 ⟨D', hD⟩ (fun i h1 h2 => hf i (by omega) (by omega))
      rw [stD] at h1
      by_cases q1 : (O p).toInt = 10
      · rw [if_pos q1] at h1
        by_cases q2 : 1 ≤ D
        · rw [if_pos q2] at h1
          cases h1
          simp only [q1, decide_true, cond_true, Bool.and_eq_true]
          exact ⟨Nat.ble_eq_true_of_le q2, ih⟩
        · rw [if_neg q2] at h1; cases h1
      · rw [if_neg q1] at h1
        by_cases q2 : (O p).toInt = 11 ∨ (O p).toInt = 12
        · rw [if_pos q2] at h1
          by_cases q3 : 2 ≤ D
          · rw [if_pos q3] at h1
            cases h1
            have q4 : (decide ((O p).toInt = 11) || decide ((O p).toInt = 12)) = true := by
              rcases q2 with q2 | q2 <;> simp [q2]
            simp only [q1, decide_false, cond_false, q4, cond_true, Bool.and_eq_true]
            exact ⟨Nat.ble_eq_true_of_le q3, ih⟩
          · rw [if_neg q3] at h1; cases h1
        · rw [if_neg q2] at h1
          by_cases q3 : (O p).toInt = 1 ∨ (O p).toInt = 2 ∨ ((O p).toInt = 3 ∧ (A p).toInt ≤ 11)
          · rw [if_pos q3] at h1
            cases h1
            have q4 : (decide ((O p).toInt = 11) || decide ((O p).toInt = 12)) = false := by
              simp only [Bool.or_eq_false_iff, decide_eq_false_iff_not]
              exact ⟨fun e => q2 (Or.inl e), fun e => q2 (Or.inr e)⟩
            simp only [q1, decide_false, cond_false, q4, Bool.and_eq_true]
            refine ⟨?_, ih⟩
            simp only [Bool.or_eq_true, decide_eq_true_eq, Bool.and_eq_true]
            rcases q3 with q3 | q3 | q3
            · exact Or.inl (Or.inl q3)
            · exact Or.inl (Or.inr q3)
            · exact Or.inr q3
          · rw [if_neg q3] at h1; cases h1
/-- the row with a text's clauses, as far as the k-th number -/
def cp1 (t q : Nat) (N r : Nat → Int32) (k : Nat) : Nat → Int32 := fun i => if i = 1130 + 930 * t then Int32.ofInt (q : Int) else if 1131 + 930 * t ≤ i ∧ i < 1131 + 930 * t + k then N (i - (1131 + 930 * t)) else r i
def cp2 (t : Nat) (O A r : Nat → Int32) (k : Nat) : Nat → Int32 := fun i => if 1260 + 930 * t ≤ i ∧ i < 1260 + 930 * t + 2 * k then (if (i - (1260 + 930 * t)) % 2 = 0 then O ((i - (1260 + 930 * t)) / 2) else A ((i - (1260 + 930 * t)) / 2)) else r i
theorem cp1_0 {t q : Nat} {N r : Nat → Int32} : upd r (1130 + 930 * t) (Int32.ofInt (q : Int)) = cp1 t q N r 0 := by
  funext i
  show (if i = 1130 + 930 * t then _ else _) = (if i = 1130 + 930 * t then _ else _)
  by_cases e : i = 1130 + 930 * t
  · rw [if_pos e, if_pos e]
  · rw [if_neg e, if_neg e, if_neg (by omega)]
theorem cp1_s {t q k : Nat} {N r : Nat → Int32} : upd (cp1 t q N r k) (1131 + 930 * t + k) (N k) = cp1 t q N r (k + 1) := by
  funext i
  show (if i = 1131 + 930 * t + k then N k else if i = 1130 + 930 * t then _ else _) = (if i = 1130 + 930 * t then _ else _)
  by_cases e : i = 1131 + 930 * t + k
  · rw [if_pos e, if_neg (by omega), if_pos (by omega), show i - (1131 + 930 * t) = k by omega]
  · rw [if_neg e]
    by_cases e2 : i = 1130 + 930 * t
    · rw [if_pos e2, if_pos e2]
    · rw [if_neg e2, if_neg e2]
      by_cases e3 : 1131 + 930 * t ≤ i ∧ i < 1131 + 930 * t + k
      · rw [if_pos e3, if_pos (by omega)]
      · rw [if_neg e3, if_neg (by omega)]
theorem cp2_0 {t : Nat} {O A r : Nat → Int32} : r = cp2 t O A r 0 := by
  funext i
  exact (if_neg (by omega)).symm
theorem cp2_s {t k : Nat} {O A r : Nat → Int32} : upd (upd (cp2 t O A r k) (1260 + 930 * t + 2 * k) (O k)) (1260 + 930 * t + 2 * k + 1) (A k) = cp2 t O A r (k + 1) := by
  funext i
  show (if i = 1260 + 930 * t + 2 * k + 1 then A k else if i = 1260 + 930 * t + 2 * k then O k else _) = (if 1260 + 930 * t ≤ i ∧ i < 1260 + 930 * t + 2 * (k + 1) then _ else _)
  by_cases e : i = 1260 + 930 * t + 2 * k + 1
  · rw [if_pos e, if_pos (by omega), if_neg (by omega), show (i - (1260 + 930 * t)) / 2 = k by omega]
  · rw [if_neg e]
    by_cases e2 : i = 1260 + 930 * t + 2 * k
    · rw [if_pos e2, if_pos (by omega), if_pos (by omega), show (i - (1260 + 930 * t)) / 2 = k by omega]
    · rw [if_neg e2]
      show (if 1260 + 930 * t ≤ i ∧ i < 1260 + 930 * t + 2 * k then _ else _) = _
      by_cases e3 : 1260 + 930 * t ≤ i ∧ i < 1260 + 930 * t + 2 * k
      · rw [if_pos e3, if_pos (show 1260 + 930 * t ≤ i ∧ i < 1260 + 930 * t + 2 * (k + 1) by omega)]
      · rw [if_neg e3, if_neg (show ¬ (1260 + 930 * t ≤ i ∧ i < 1260 + 930 * t + 2 * (k + 1)) by omega)]
/-- the row with a text is as a row must be -/
theorem cp_ok {t q c : Nat} {N O A r : Nat → Int32} (ht : t < 2) (hq : q ≤ 16) (hc : c ≤ 400) (hcl : clOK N O A q c) (hl : lgOK r 0) (hcd : cdOK r 0) : lgOK (cp2 t O A (cp1 t q N r (8 * q)) c) 0 ∧ cdOK (cp2 t O A (cp1 t q N r (8 * q)) c) 0 := by
  generalize hf : cp2 t O A (cp1 t q N r (8 * q)) c = f
  have same : ∀ i, (i < 1130 + 930 * t ∨ 2060 + 930 * t ≤ i ∨ (1131 + 930 * t + 8 * q ≤ i ∧ i < 1260 + 930 * t)) → f i = r i := fun i hi => by
    rw [← hf]
    show (if 1260 + 930 * t ≤ i ∧ i < 1260 + 930 * t + 2 * c then _ else if i = 1130 + 930 * t then _ else if 1131 + 930 * t ≤ i ∧ i < 1131 + 930 * t + 8 * q then _ else r i) = r i
    rw [if_neg (by omega), if_neg (by omega), if_neg (by omega)]
  have atq : f (1130 + 930 * t) = Int32.ofInt (q : Int) := by
    rw [← hf]
    show (if 1260 + 930 * t ≤ 1130 + 930 * t ∧ _ then _ else if 1130 + 930 * t = 1130 + 930 * t then _ else _) = _
    rw [if_neg (by omega), if_pos rfl]
  have atN : ∀ j, j < 8 * q → f (1131 + 930 * t + j) = N j := fun j hj => by
    rw [← hf]
    show (if 1260 + 930 * t ≤ 1131 + 930 * t + j ∧ _ then _ else if 1131 + 930 * t + j = 1130 + 930 * t then _ else if 1131 + 930 * t ≤ 1131 + 930 * t + j ∧ 1131 + 930 * t + j < 1131 + 930 * t + 8 * q then N (1131 + 930 * t + j - (1131 + 930 * t)) else _) = _
    rw [if_neg (by omega), if_neg (by omega), if_pos (by omega), show 1131 + 930 * t + j - (1131 + 930 * t) = j by omega]
  have atC : ∀ i, i < c → f (1130 + 930 * t + 130 + 2 * i) = O i ∧ f (1130 + 930 * t + 130 + 2 * i + 1) = A i := fun i hi => by
    rw [← hf]
    constructor
    · show (if 1260 + 930 * t ≤ 1130 + 930 * t + 130 + 2 * i ∧ 1130 + 930 * t + 130 + 2 * i < 1260 + 930 * t + 2 * c then (if (1130 + 930 * t + 130 + 2 * i - (1260 + 930 * t)) % 2 = 0 then O ((1130 + 930 * t + 130 + 2 * i - (1260 + 930 * t)) / 2) else _) else _) = _
      rw [if_pos (by omega), if_pos (by omega), show (1130 + 930 * t + 130 + 2 * i - (1260 + 930 * t)) / 2 = i by omega]
    · show (if 1260 + 930 * t ≤ 1130 + 930 * t + 130 + 2 * i + 1 ∧ 1130 + 930 * t + 130 + 2 * i + 1 < 1260 + 930 * t + 2 * c then (if (1130 + 930 * t + 130 + 2 * i + 1 - (1260 + 930 * t)) % 2 = 0 then _ else A ((1130 + 930 * t + 130 + 2 * i + 1 - (1260 + 930 * t)) / 2)) else _) = _
      rw [if_pos (by omega), if_neg (by omega), show (1130 + 930 * t + 130 + 2 * i + 1 - (1260 + 930 * t)) / 2 = i by omega]
  refine ⟨hl.cg (fun i h1 h2 => same i (by omega)), ?_, ?_⟩
  · intro t2 ht2 k hk hn s e hs he h4
    rw [Nat.zero_add] at hn hs he ⊢
    by_cases hT : t2 = t
    · subst hT
      rw [atq, i32_n (by omega)] at hn
      have hkq : k < q := by omega
      obtain ⟨s', e', a1, a2, a3, a4, D, a5⟩ := hcl k hkq
      have es := atN (8 * k + 5) (by omega)
      have ee := atN (8 * k + 6) (by omega)
      rw [show 1131 + 930 * t2 + (8 * k + 5) = 1130 + 930 * t2 + 1 + 8 * k + 5 by omega] at es
      rw [show 1131 + 930 * t2 + (8 * k + 6) = 1130 + 930 * t2 + 1 + 8 * k + 6 by omega] at ee
      rw [es] at hs
      rw [ee] at he
      have a15 := a1.2.2.2.2.2 (by decide)
      have q1 : s' = s := by omega
      have q2 : e' = e := by omega
      subst q1 q2
      exact dep_rg _ _ _ ⟨D, a5⟩ (fun i h1 h2 => atC i (by omega))
    · have ne : ∀ i, 1130 + 930 * t2 ≤ i → i ≤ 1130 + 930 * t2 + 929 → f i = r i := fun i h1 h2 => same i (by omega)
      rw [ne _ (by omega) (by omega)] at hn hs he
      rw [dep_cg (f := r) ne _ _ _ (by omega)]
      have := hcd.1 t2 ht2 k hk (by rw [Nat.zero_add]; exact hn) s e (by rw [Nat.zero_add]; exact hs) (by rw [Nat.zero_add]; exact he) h4
      rw [Nat.zero_add] at this
      exact this
  · intro t2 ht2 k hk h0
    rw [Nat.zero_add] at h0 ⊢
    have old := hcd.2 t2 ht2 k hk
    rw [Nat.zero_add] at old
    by_cases hT : t2 = t
    · subst hT
      by_cases hkq : k < q
      · obtain ⟨s', e', a1, -⟩ := hcl k hkq
        have e0 := atN (8 * k) (by omega)
        have e2 := atN (8 * k + 2) (by omega)
        rw [show 1131 + 930 * t2 + 8 * k = 1130 + 930 * t2 + 1 + 8 * k by omega] at e0
        rw [show 1131 + 930 * t2 + (8 * k + 2) = 1130 + 930 * t2 + 1 + 8 * k + 2 by omega] at e2
        rw [e0] at h0
        rw [e2]
        exact a1.2.2.1 (by decide) h0
      · rw [same _ (by omega)] at h0
        rw [same _ (by omega)]
        exact old h0
    · rw [same _ (by omega)] at h0
      rw [same _ (by omega)]
      exact old h0
end PI
