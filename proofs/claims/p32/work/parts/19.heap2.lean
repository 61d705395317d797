section HQ
variable {TT : List (List aCT)} {g : jG} {EI : aB → jH → Prop} {W P : List aR} {bk0 : aB} {h0 : jH} {ev : List Int} {y : Nat} {vs : List Int} {bk : aB} {al : List (Option Value)} {st : List Value} {h : jH} {env : List aE} {fc : List aF} {loc : List (Option aV)} {stk : List aV} {ov : List aO} {pr : List Nat}
variable {l : Launch} {d pc kc ks : Nat} {Q : Option Value → jH → Prop}
theorem PT.know {B o b : Nat} {F : aF} {i : Nat} {z x : Int} {c : jC} (hp : PT TT g EI W bk0 h0 ev y vs bk al st h (env, fc, loc, stk, ov, pr)) (hb : bk B = some b) (hc : h[b + o]? = some c) (hF : fev vs F = some z) (hx : plAt c z x) (hi : vs[i]? = some x) : PT TT g EI W bk0 h0 ev y vs bk al st h (env, fc, loc, stk, (B, o, F, i) :: ov, pr) := by
  refine ⟨⟨hp.1.1, hp.1.2.1, hp.1.2.2.1, hp.1.2.2.2.1, hp.1.2.2.2.2.1, fun q hq => ?_, hp.1.2.2.2.2.2.2⟩, hp.2⟩
  rcases List.mem_cons.mp hq with rfl | hq
  · exact ⟨z, b, c, x, hF, hb, hc, hx, hi⟩
  · exact hp.1.2.2.2.2.2.1 q hq
theorem narz {x : Int32} (h1 : 0 ≤ x.toInt) (h2 : x.toInt ≤ 1) : narrow .boolean (.int x) = .int x ∧ fits .boolean (.int x) = true := by
  have : x.toInt = 0 ∨ x.toInt = 1 := by omega
  rcases this with e | e
  · have : x = 0 := Int32.toInt_inj.mp e
    subst this
    exact ⟨by decide, by decide⟩
  · have : x = 1 := Int32.toInt_inj.mp e
    subst this
    exact ⟨by decide, by decide⟩
theorem ct_fs {ci f : Nat} {ts : List aT} {fs : List Value} {t : aT} {v : Value} (hlen : fs.length = ts.length) (hfs : ∀ (k : Nat) (t : aT), ts[k]? = some t → ∃ v, fs[k]? = some v ∧ ftOK g bk t v) (ht : ts[f]? = some t) (hv : ftOK g bk t v) : ctOK g bk (.inr (ci, ts)) (.inr (ci, fs.set f v)) := by
  refine ⟨_, rfl, by rw [List.length_set]; exact hlen, fun k t2 hk => ?_⟩
  by_cases e : f = k
  · subst e
    cases ht.symm.trans hk
    exact ⟨v, List.getElem?_set_self (by rw [hlen]; exact (List.getElem?_eq_some_iff.mp ht).1), hv⟩
  · obtain ⟨v2, g1, g2⟩ := hfs k t2 hk
    exact ⟨v2, by rw [List.getElem?_set_ne e]; exact g1, g2⟩
theorem st_put {own j : Nat} {v w : aV} {q : Nat × Nat} {S : aS} (hE : eiOK TT g EI P) (ho : jcN own = (jyN y).cls) (hd : decode (jbC y) pc = .ok (.putfield j, 3)) (hw : Nat.beq w.1 2 = true) (hf : jfind jeF own j = some q) (hS : aPut TT W P env fc loc stk ov pr w.2.1 w.2.2 q.1 q.2 v = some S) (hp : PT TT g EI W bk0 h0 ev y vs bk al st h (env, fc, loc, v :: w :: stk, ov, pr)) (k : Go TT g EI W bk0 h0 ev y l d Q (pc + 3) S kc ks) : J l g y d pc al st h kc ks Q := by
  obtain ⟨w1, s1, rfl, q1, hp1⟩ := hp.pop
  obtain ⟨w2, s2, rfl, q2, hp2⟩ := hp1.pop
  obtain ⟨b, hb, rfl⟩ := q2.rf hw
  rw [aPut] at hS
  cases ht : tyAt TT w.2.1 w.2.2 with
  | none => rw [ht] at hS; cases hS
  | some ct =>
    rw [ht] at hS
    cases ct with
    | inl a => cases hS
    | inr r =>
      dsimp only at hS
      obtain ⟨c, hc, fs, rfl, hlen, hfs⟩ := hp2.2.1.1 _ b w.2.2 _ hb ht
      cases hcc : (Nat.beq r.1 q.1 && subW [(w.2.1, w.2.2, ((q.2 : Nat) : Int), ((q.2 : Nat) : Int))] W && apW [(w.2.1, w.2.2, ((q.2 : Nat) : Int), ((q.2 : Nat) : Int))] P) with
      | false => rw [hcc] at hS; cases hS
      | true =>
        rw [hcc] at hS
        simp only [Bool.and_eq_true] at hcc
        obtain ⟨⟨hci, hsub⟩, hap⟩ := hcc
        simp only [cond_true] at hS
        have hci : r.1 = q.1 := Nat.eq_of_beq_eq_true hci
        cases hq : r.2[q.2]? with
        | none => rw [hq] at hS; cases hS
        | some t =>
          rw [hq] at hS
          dsimp only at hS
          have hm : (own, j, r.1, q.2) ∈ jeF := by rw [hci]; exact jfind_mem hf
          have hfl : q.2 < fs.length := by rw [hlen]; exact (List.getElem?_eq_some_iff.mp hq).1
          obtain ⟨rr, hrr, -⟩ : ∃ rr : vw_C, jcl[r.1]? = some rr ∧ True := by
            cases hz : jcl[r.1]? with
            | some rr => exact ⟨rr, rfl, trivial⟩
            | none =>
              exfalso
              have h13 : 13 ≤ r.1 := by
                rcases Nat.lt_or_ge r.1 13 with hh | hh
                · rw [List.getElem?_eq_getElem (show r.1 < jcl.length from hh)] at hz
                  cases hz
                · exact hh
              have hk : jfkAt q.1 q.2 = none := by
                rw [jfkAt, List.getElem?_eq_none (show jfk.length ≤ q.1 by rw [← hci]; exact h13)]
              obtain ⟨tk, tlo, thi, tB, to⟩ := t
              obtain ⟨vk, va, vb⟩ := v
              simp only [hk, fkI, fkJ, fkR, Bool.and_false, cond_false] at hS
              split at hS <;> cases hS
          obtain ⟨tk, tlo, thi, tB, to⟩ := t
          obtain ⟨vk, va, vb⟩ := v
          match tk, vk, hS, q1 with
          | 0, 0, hS, q1 =>
            obtain ⟨x, rfl, hx⟩ := q1
            cases hcc2 : (aWithin env fc va tlo thi && fkI (jfkAt q.1 q.2) tlo thi) with
            | false => simp only [hcc2] at hS; cases hS
            | true =>
              simp only [hcc2, cond_true] at hS
              simp only [Bool.and_eq_true] at hcc2
              have hbd := aWithin_ok hp2.ee hcc2.1 hx
              have hS := Option.some.inj hS
              subst hS
              have hct : ctOK g bk (.inr (r.1, r.2)) (.inr (r.1, fs.set q.2 (.int x))) := ct_fs hlen hfs hq ⟨x, rfl, hbd.1, hbd.2⟩
              have hP2 := hp2.write hE hb ht hc hct offW_fs hsub hap
              have hlt : b + w.2.2 < h.length := (List.getElem?_eq_some_iff.mp hc).1
              have hP3 := hP2.know (F := fcon q.2) (i := va) (z := (q.2 : Nat)) (x := x.toInt) hb (List.getElem?_set_self hlt) fcon_ok ⟨by omega, x, by simpa using List.getElem?_set_self hfl, rfl⟩ hx
              cases hjk : jfkAt q.1 q.2 with
              | none => rw [hjk] at hcc2; exact absurd hcc2.2 (by simp [fkI, fkJ, fkR])
              | some kk =>
                obtain ⟨n1, n2, n3, n4, n5⟩ := jfk_at (by rw [← hci]; exact hrr) hjk
                match kk, hjk with
                | 0, hjk => exact j_put hd ho hm hc hrr n1 hfl (n2 rfl).1 (n2 rfl).2 rfl rfl (k _ _ _ _ _ hP3)
                | 1, hjk =>
                  rw [hjk] at hcc2
                  simp only [fkI, Bool.and_eq_true, decide_eq_true_eq] at hcc2
                  obtain ⟨z1, z2⟩ := narz (x := x) (by omega) (by omega)
                  exact j_put hd ho hm hc hrr n1 hfl (n3 rfl).1 (n3 rfl).2 z1 z2 (k _ _ _ _ _ hP3)
                | n + 2, hjk => rw [hjk] at hcc2; exact absurd hcc2.2 (by simp [fkI, fkJ, fkR])
          | 1, 1, hS, q1 =>
            obtain ⟨x, rfl, hx⟩ := q1
            cases hcc2 : (aWithin env fc va tlo thi && fkJ (jfkAt q.1 q.2)) with
            | false => simp only [hcc2] at hS; cases hS
            | true =>
              simp only [hcc2, cond_true] at hS
              simp only [Bool.and_eq_true] at hcc2
              have hbd := aWithin_ok hp2.ee hcc2.1 hx
              have hS := Option.some.inj hS
              subst hS
              have hct : ctOK g bk (.inr (r.1, r.2)) (.inr (r.1, fs.set q.2 (.long x))) := ct_fs hlen hfs hq ⟨x, rfl, hbd.1, hbd.2⟩
              have hP2 := hp2.write hE hb ht hc hct offW_fs hsub hap
              cases hjk : jfkAt q.1 q.2 with
              | none => rw [hjk] at hcc2; exact absurd hcc2.2 (by simp [fkI, fkJ, fkR])
              | some kk =>
                obtain ⟨n1, n2, n3, n4, n5⟩ := jfk_at (by rw [← hci]; exact hrr) hjk
                match kk, hjk with
                | 2, hjk => exact j_put hd ho hm hc hrr n1 hfl (n4 rfl).1 (n4 rfl).2 rfl rfl (k _ _ _ _ _ hP2)
                | 0, hjk => rw [hjk] at hcc2; exact absurd hcc2.2 (by simp [fkI, fkJ, fkR])
                | 1, hjk => rw [hjk] at hcc2; exact absurd hcc2.2 (by simp [fkI, fkJ, fkR])
                | n + 3, hjk => rw [hjk] at hcc2; exact absurd hcc2.2 (by simp [fkI, fkJ, fkR])
          | 2, 2, hS, q1 =>
            obtain ⟨b2, hb2, rfl⟩ := q1
            cases hcc2 : (Nat.beq va tB && Nat.beq vb to && fkR (jfkAt q.1 q.2)) with
            | false => simp only [hcc2] at hS; cases hS
            | true =>
              simp only [hcc2, cond_true] at hS
              simp only [Bool.and_eq_true] at hcc2
              have e1 := Nat.eq_of_beq_eq_true hcc2.1.1
              have e2 := Nat.eq_of_beq_eq_true hcc2.1.2
              have hS2 := Option.some.inj hS
              clear hS
              subst e1
              subst e2
              subst hS2
              have hct : ctOK g bk (.inr (r.1, r.2)) (.inr (r.1, fs.set q.2 (jad g b2 vb))) := ct_fs hlen hfs hq ⟨b2, hb2, rfl⟩
              have hP2 := hp2.write hE hb ht hc hct offW_fs hsub hap
              cases hjk : jfkAt q.1 q.2 with
              | none => rw [hjk] at hcc2; exact absurd hcc2.2 (by simp [fkI, fkJ, fkR])
              | some kk =>
                obtain ⟨n1, n2, n3, n4, n5⟩ := jfk_at (by rw [← hci]; exact hrr) hjk
                match kk, hjk with
                | 3, hjk =>
                  obtain ⟨m1, nm, m2⟩ := n5 rfl
                  exact j_put hd ho hm hc hrr n1 hfl m1 m2 rfl rfl (k _ _ _ _ _ hP2)
                | 0, hjk => rw [hjk] at hcc2; exact absurd hcc2.2 (by simp [fkI, fkJ, fkR])
                | 1, hjk => rw [hjk] at hcc2; exact absurd hcc2.2 (by simp [fkI, fkJ, fkR])
                | 2, hjk => rw [hjk] at hcc2; exact absurd hcc2.2 (by simp [fkI, fkJ, fkR])
                | n + 4, hjk => rw [hjk] at hcc2; exact absurd hcc2.2 (by simp [fkI, fkJ, fkR])
          | 0, n + 1, hS, q1 => cases hS
          | 1, 0, hS, q1 => cases hS
          | 1, n + 2, hS, q1 => cases hS
          | 2, 0, hS, q1 => cases hS
          | 2, 1, hS, q1 => cases hS
          | 2, n + 3, hS, q1 => cases hS
          | m + 3, n, hS, q1 => cases n <;> cases hS

theorem aIdx_ok {x n : Nat} {a : Int × Int} {i : Int32} (he : envOK vs env fc) (ha : aIdx env fc x n = some a) (hx : vs[x]? = some i.toInt) : (a.1 ≤ i.toInt ∧ i.toInt ≤ a.2) ∧ 0 ≤ a.1 ∧ a.2 < n := by
  rw [aIdx] at ha
  cases hq : aiv env fc x with
  | none => rw [hq] at ha; cases ha
  | some p =>
    rw [hq] at ha
    have b := aiv_ok he.1 he.2.1 he.2.2 hq hx
    dsimp only at ha
    have key : ∀ (lo hi : Int), lo = (bif decide (p.1 < 0) && ent env fc (lin env x) then 0 else p.1) → hi = (bif decide ((n : Int) ≤ p.2) && ent env fc (fadd (-1) (fcon ((n : Int) - 1)) (lin env x)) then (n : Int) - 1 else p.2) → lo ≤ i.toInt ∧ i.toInt ≤ hi := by
      intro lo hi h1 h2
      constructor
      · rw [h1]
        cases hc : (decide (p.1 < 0) && ent env fc (lin env x)) with
        | false => exact b.1
        | true =>
          simp only [Bool.and_eq_true] at hc
          obtain ⟨w, w1, w2⟩ := ent_ok he.1 he.2.2 hc.2
          rw [lin_ok he.2.1 hx] at w1
          cases w1
          exact w2
      · rw [h2]
        cases hc : (decide ((n : Int) ≤ p.2) && ent env fc (fadd (-1) (fcon ((n : Int) - 1)) (lin env x))) with
        | false => exact b.2
        | true =>
          simp only [Bool.and_eq_true] at hc
          obtain ⟨w, w1, w2⟩ := ent_ok he.1 he.2.2 hc.2
          rw [fadd_ok fcon_ok (lin_ok he.2.1 hx)] at w1
          cases w1
          simp only [cond_true]
          omega
    have hk := key _ _ rfl rfl
    revert ha hk
    generalize (bif decide (p.1 < 0) && ent env fc (lin env x) then 0 else p.1) = lo
    generalize (bif decide ((n : Int) ≤ p.2) && ent env fc (fadd (-1) (fcon ((n : Int) - 1)) (lin env x)) then (n : Int) - 1 else p.2) = hi
    intro ha hk
    cases hc : (decide (0 ≤ lo) && decide (hi < (n : Int))) with
    | false => rw [hc] at ha; cases ha
    | true =>
      rw [hc] at ha
      cases ha
      simp only [Bool.and_eq_true, decide_eq_true_eq] at hc
      exact ⟨hk, hc⟩
/-- the bounds of one residue class, of all -/
theorem sgHull_ok : ∀ (t : List (Int × Int)) (a q : Int × Int), (q = a ∨ q ∈ t) → (sgHull t a).1 ≤ q.1 ∧ q.2 ≤ (sgHull t a).2 := by
  intro t
  induction t with
  | nil =>
    intro a q hq
    rcases hq with rfl | hq
    · exact ⟨Int.le_refl _, Int.le_refl _⟩
    · exact absurd hq List.not_mem_nil
  | cons r t ih =>
    intro a q hq
    rw [sgHull]
    have mono : ∀ (t : List (Int × Int)) (a b : Int × Int), a.1 ≤ b.1 → b.2 ≤ a.2 → (sgHull t a).1 ≤ (sgHull t b).1 ∧ (sgHull t b).2 ≤ (sgHull t a).2 := by
      intro t
      induction t with
      | nil => intro a b h1 h2; exact ⟨h1, h2⟩
      | cons r t ih =>
        intro a b h1 h2
        rw [sgHull, sgHull]
        apply ih
        · show (bif decide (r.1 < a.1) then r.1 else a.1) ≤ (bif decide (r.1 < b.1) then r.1 else b.1)
          cases c1 : decide (r.1 < a.1) <;> cases c2 : decide (r.1 < b.1) <;> simp at c1 c2 ⊢ <;> omega
        · show (bif decide (b.2 < r.2) then r.2 else b.2) ≤ (bif decide (a.2 < r.2) then r.2 else a.2)
          cases c1 : decide (a.2 < r.2) <;> cases c2 : decide (b.2 < r.2) <;> simp at c1 c2 ⊢ <;> omega
    have hin : ∀ q : Int × Int, (q = a ∨ q = r) → (bif decide (r.1 < a.1) then r.1 else a.1) ≤ q.1 ∧ q.2 ≤ (bif decide (a.2 < r.2) then r.2 else a.2) := by
      intro q hq
      cases c1 : decide (r.1 < a.1) <;> cases c2 : decide (a.2 < r.2) <;> simp at c1 c2 ⊢ <;> rcases hq with rfl | rfl <;> constructor <;> omega
    rcases hq with hq | hq
    · obtain ⟨h1, h2⟩ := hin q (Or.inl hq)
      obtain ⟨h3, h4⟩ := ih q q (Or.inl rfl)
      obtain ⟨h5, h6⟩ := mono t (bif decide (r.1 < a.1) then r.1 else a.1, bif decide (a.2 < r.2) then r.2 else a.2) q h1 h2
      exact ⟨Int.le_trans h5 h3, Int.le_trans h4 h6⟩
    · rcases List.mem_cons.mp hq with hq | hq
      · obtain ⟨h1, h2⟩ := hin q (Or.inr hq)
        obtain ⟨h3, h4⟩ := ih q q (Or.inl rfl)
        obtain ⟨h5, h6⟩ := mono t (bif decide (r.1 < a.1) then r.1 else a.1, bif decide (a.2 < r.2) then r.2 else a.2) q h1 h2
        exact ⟨Int.le_trans h5 h3, Int.le_trans h4 h6⟩
      · exact ih _ q (Or.inr hq)
theorem sgMeet_ok : ∀ (t : List (Int × Int)) (a q : Int × Int), (q = a ∨ q ∈ t) → q.1 ≤ (sgMeet t a).1 ∧ (sgMeet t a).2 ≤ q.2 := by
  intro t
  induction t with
  | nil =>
    intro a q hq
    rcases hq with rfl | hq
    · exact ⟨Int.le_refl _, Int.le_refl _⟩
    · exact absurd hq List.not_mem_nil
  | cons r t ih =>
    intro a q hq
    rw [sgMeet]
    have mono : ∀ (t : List (Int × Int)) (a : Int × Int), a.1 ≤ (sgMeet t a).1 ∧ (sgMeet t a).2 ≤ a.2 := fun t a => by
      induction t generalizing a with
      | nil => exact ⟨Int.le_refl _, Int.le_refl _⟩
      | cons r t ih =>
        rw [sgMeet]
        obtain ⟨h1, h2⟩ := ih (bif decide (a.1 < r.1) then r.1 else a.1, bif decide (r.2 < a.2) then r.2 else a.2)
        constructor
        · refine Int.le_trans ?_ h1
          show a.1 ≤ (bif decide (a.1 < r.1) then r.1 else a.1)
          cases c1 : decide (a.1 < r.1) <;> simp at c1 ⊢ <;> omega
        · refine Int.le_trans h2 ?_
          show (bif decide (r.2 < a.2) then r.2 else a.2) ≤ a.2
          cases c1 : decide (r.2 < a.2) <;> simp at c1 ⊢ <;> omega
    obtain ⟨h1, h2⟩ := mono t (bif decide (a.1 < r.1) then r.1 else a.1, bif decide (r.2 < a.2) then r.2 else a.2)
    have hin : ∀ q : Int × Int, (q = a ∨ q = r) → q.1 ≤ (bif decide (a.1 < r.1) then r.1 else a.1) ∧ (bif decide (r.2 < a.2) then r.2 else a.2) ≤ q.2 := by
      intro q hq
      cases c1 : decide (a.1 < r.1) <;> cases c2 : decide (r.2 < a.2) <;> simp at c1 c2 ⊢ <;> rcases hq with rfl | rfl <;> constructor <;> omega
    rcases hq with hq | hq
    · obtain ⟨h3, h4⟩ := hin q (Or.inl hq)
      exact ⟨Int.le_trans h3 h1, Int.le_trans h2 h4⟩
    · rcases List.mem_cons.mp hq with hq | hq
      · obtain ⟨h3, h4⟩ := hin q (Or.inr hq)
        exact ⟨Int.le_trans h3 h1, Int.le_trans h2 h4⟩
      · exact ih _ q (Or.inr hq)
end HQ
