/-! arrays: segments, loads, stores -/
def sgWF : List aSeg → Bool
  | [] => true
  | s :: t => t.all (fun r => Nat.ble (s.1 + s.2.1) r.1) && sgWF t
theorem sgWF_one : ∀ {sg : List aSeg}, sgWF sg = true → ∀ {s r : aSeg} {i : Nat}, s ∈ sg → r ∈ sg → s.1 ≤ i → i < s.1 + s.2.1 → r.1 ≤ i → i < r.1 + r.2.1 → s = r := by
  intro sg
  induction sg with
  | nil => intro _ s r i hs; exact absurd hs List.not_mem_nil
  | cons a t ih =>
    intro hw s r i hs hr h1 h2 h3 h4
    rw [sgWF] at hw
    simp only [Bool.and_eq_true] at hw
    have key : ∀ z ∈ t, a.1 + a.2.1 ≤ z.1 := fun z hz => Nat.le_of_ble_eq_true (List.all_eq_true.mp hw.1 z hz)
    rcases List.mem_cons.mp hs with e1 | e1
    · rcases List.mem_cons.mp hr with e2 | e2
      · rw [e1, e2]
      · have := key r e2
        rw [e1] at h2
        omega
    · rcases List.mem_cons.mp hr with e2 | e2
      · have := key s e1
        rw [e2] at h4
        omega
      · exact ih hw.2 e1 e2 h1 h2 h3 h4
theorem fevl_mod {vs : List Int} {p : Int} : ∀ (L : List (Nat × Int)) (r : Int), L.all (fun q => decide (q.2 % p = 0)) = true → fevl vs L = some r → r % p = 0 := by
  intro L
  induction L with
  | nil => intro r _ hr; rw [fevl] at hr; cases hr; simp
  | cons q t ih =>
    intro r ha hr
    simp only [List.all_cons, Bool.and_eq_true, decide_eq_true_eq] at ha
    obtain ⟨x, r2, g1, g2, rfl⟩ := fevl_some hr
    have h1 := ih r2 (by simpa using ha.2) g2
    have h2 : (q.2 * x) % p = 0 := by rw [Int.mul_emod, ha.1]; simp
    rw [Int.add_emod, h1, h2]
    simp
theorem sgFind_ok {sg : List aSeg} {lo hi : Int} {s : aSeg} (hf : sgFind sg lo hi = some s) : s ∈ sg ∧ (s.1 : Int) ≤ lo ∧ hi < (s.1 : Int) + (s.2.1 : Int) ∧ 0 < s.2.2.1 ∧ s.2.2.2.length = s.2.2.1 := by
  have h1 := List.find?_some hf
  have h2 := List.mem_of_find?_eq_some hf
  simp only [Bool.and_eq_true, decide_eq_true_eq] at h1
  refine ⟨h2, h1.1.1.1, h1.1.1.2, ?_, Nat.eq_of_beq_eq_true h1.2⟩
  have h3 := h1.1.2
  simp [Nat.blt] at h3
  omega
/-- the residue of a place, by its form -/
theorem sgRes_at {vs : List Int} {s : aSeg} {F : aF} {q : Int × Int} {i : Nat} (hp : 0 < s.2.2.1) (hr : sgRes s F = some q) (hF : fev vs F = some (i : Int)) (hi : s.1 ≤ i) : s.2.2.2[(i - s.1) % s.2.2.1]? = some q := by
  rw [sgRes] at hr
  cases ha : F.1.all (fun q => decide (q.2 % (s.2.2.1 : Int) = 0)) with
  | false => rw [ha] at hr; cases hr
  | true =>
    rw [ha] at hr
    simp only [cond_true] at hr
    obtain ⟨r, h1, h2⟩ := fev_some hF
    have h3 := fevl_mod _ _ ha h1
    have h4 : ((F.2 - (s.1 : Int)) % (s.2.2.1 : Int)).toNat = (i - s.1) % s.2.2.1 := by
      have e1 : (F.2 - (s.1 : Int)) % (s.2.2.1 : Int) = ((i : Int) - (s.1 : Int)) % (s.2.2.1 : Int) := by
        rw [h2, show r + F.2 - (s.1 : Int) = r + (F.2 - (s.1 : Int)) by omega, Int.add_emod, h3]
        simp
      rw [e1, show ((i : Int) - (s.1 : Int)) = ((i - s.1 : Nat) : Int) by omega, ← Int.natCast_emod]
      omega
    rw [← h4]
    exact hr
theorem sgL_ok {vs : List Int} {sg : List aSeg} {F : aF} {lo hi : Int} {i : Nat} {x : Int32} (hs : sgOK sg i x.toInt) (hF : fev vs F = some (i : Int)) (h1 : lo ≤ i) (h2 : (i : Int) ≤ hi) : (sgL sg F lo hi).1 ≤ x.toInt ∧ x.toInt ≤ (sgL sg F lo hi).2 := by
  rw [sgL]
  cases hf : sgFind sg lo hi with
  | none => exact ⟨i32_lo x, i32_hi x⟩
  | some s =>
    obtain ⟨m1, m2, m3, m4, m5⟩ := sgFind_ok hf
    have i1 : s.1 ≤ i := by omega
    have i2 : i < s.1 + s.2.1 := by omega
    have hq := hs s m1 i1 i2
    dsimp only
    cases hr : sgRes s F with
    | some q => exact hq q (sgRes_at m4 hr hF i1)
    | none =>
      dsimp only
      have hlt : (i - s.1) % s.2.2.1 < s.2.2.2.length := by rw [m5]; exact Nat.mod_lt _ m4
      have hg : s.2.2.2[(i - s.1) % s.2.2.1]? = some s.2.2.2[(i - s.1) % s.2.2.1] := List.getElem?_eq_getElem hlt
      have hb := hq _ hg
      have hm := List.mem_of_getElem? hg
      revert hb hm
      generalize s.2.2.2[(i - s.1) % s.2.2.1] = q
      intro hb hm
      cases hl : s.2.2.2 with
      | nil => rw [hl] at hm; exact absurd hm List.not_mem_nil
      | cons a t =>
        rw [hl] at hm
        have := sgHull_ok t a q (List.mem_cons.mp hm)
        dsimp only
        omega
theorem sgS_ok {vs : List Int} {sg : List aSeg} {F : aF} {lo hi : Int} {i : Nat} {x : Int} {b : Int × Int} (hw : sgWF sg = true) (hb : sgS sg F lo hi = some b) (hF : fev vs F = some (i : Int)) (h1 : lo ≤ i) (h2 : (i : Int) ≤ hi) (hx : b.1 ≤ x ∧ x ≤ b.2) : sgOK sg i x := by
  rw [sgS] at hb
  cases hf : sgFind sg lo hi with
  | none => rw [hf] at hb; cases hb
  | some s =>
    rw [hf] at hb
    dsimp only at hb
    obtain ⟨m1, m2, m3, m4, m5⟩ := sgFind_ok hf
    have i1 : s.1 ≤ i := by omega
    have i2 : i < s.1 + s.2.1 := by omega
    intro s2 hs2 j1 j2 q hq
    have e := sgWF_one hw m1 hs2 i1 i2 j1 j2
    subst e
    cases hr : sgRes s F with
    | some q2 =>
      rw [hr] at hb
      cases hb
      cases (sgRes_at m4 hr hF i1).symm.trans hq
      exact hx
    | none =>
      rw [hr] at hb
      dsimp only at hb
      have hm := List.mem_of_getElem? hq
      cases hl : s.2.2.2 with
      | nil => rw [hl] at hm; exact absurd hm List.not_mem_nil
      | cons a t =>
        rw [hl] at hm hb
        cases hb
        have := sgMeet_ok t a q (List.mem_cons.mp hm)
        omega
/-- all arrays' segments are apart, their lengths small -/
def tySg (TT : List (List aCT)) : Bool := TT.all (fun l => l.all (fun t => match t with
  | .inl q => sgWF q.2.2 && Nat.blt q.2.1 2147483648
  | .inr _ => true))
theorem tySg_ok {TT : List (List aCT)} (hT : tySg TT = true) {B o : Nat} {q : Nat × Nat × List aSeg} (ht : tyAt TT B o = some (.inl q)) : sgWF q.2.2 = true ∧ q.2.1 < 2147483648 := by
  rw [tyAt] at ht
  cases hB : TT[B]? with
  | none => rw [hB] at ht; cases ht
  | some L =>
    rw [hB] at ht
    have h1 := List.all_eq_true.mp hT L (List.mem_of_getElem? hB)
    have h2 := List.all_eq_true.mp h1 _ (List.mem_of_getElem? ht)
    simp only [Bool.and_eq_true] at h2
    refine ⟨h2.1, ?_⟩
    have h3 := h2.2
    simp [Nat.blt] at h3
    omega
section AR2
variable {TT : List (List aCT)} {g : jG} {EI : aB → jH → Prop} {W P : List aR} {bk0 : aB} {h0 : jH} {ev : List Int} {y : Nat} {vs : List Int} {bk : aB} {al : List (Option Value)} {st : List Value} {h : jH} {env : List aE} {fc : List aF} {loc : List (Option aV)} {stk : List aV} {ov : List aO} {pr : List Nat}
variable {l : Launch} {d pc kc ks : Nat} {Q : Option Value → jH → Prop}
theorem pForm_ok {x : Nat} {lo hi z : Int} (he : envOK vs env fc) (hx : vs[x]? = some z) (h1 : lo ≤ z) (h2 : z ≤ hi) : fev vs (pForm env x lo hi) = some z := by
  rw [pForm]
  cases hc : decide (lo = hi) with
  | true =>
    simp only [decide_eq_true_eq] at hc
    simp only [cond_true]
    rw [fcon_ok]
    congr 1
    omega
  | false => exact lin_ok he.2.1 hx
theorem st_ald {ty : Nat} {v w : aV} {S : aS} (hty : (ty = 0 ∧ decode (jbC y) pc = .ok (.iaload, 1)) ∨ (ty = 1 ∧ decode (jbC y) pc = .ok (.baload, 1))) (hv : Nat.beq v.1 0 = true) (hw : Nat.beq w.1 2 = true) (hS : aAld TT ty env fc loc stk ov pr w.2.1 w.2.2 v.2.1 = some S) (hp : PT TT g EI W bk0 h0 ev y vs bk al st h (env, fc, loc, v :: w :: stk, ov, pr)) (k : Go TT g EI W bk0 h0 ev y l d Q (pc + 1) S kc ks) : J l g y d pc al st h kc ks Q := by
  obtain ⟨w1, s1, rfl, q1, hp1⟩ := hp.pop
  obtain ⟨w2, s2, rfl, q2, hp2⟩ := hp1.pop
  obtain ⟨i, rfl, hi⟩ := q1.int hv
  obtain ⟨b, hb, rfl⟩ := q2.rf hw
  rw [aAld] at hS
  cases ht : tyAt TT w.2.1 w.2.2 with
  | none => rw [ht] at hS; cases hS
  | some ct =>
    rw [ht] at hS
    cases ct with
    | inr r => cases hS
    | inl r =>
      dsimp only at hS
      obtain ⟨c, hc, f, rfl, hsg⟩ := hp2.2.1.1 _ b w.2.2 _ hb ht
      cases hty2 : Nat.beq r.1 ty with
      | false => rw [hty2] at hS; cases hS
      | true =>
        rw [hty2] at hS
        simp only [cond_true] at hS
        have hrt : r.1 = ty := Nat.eq_of_beq_eq_true hty2
        cases ha : aIdx env fc v.2.1 r.2.1 with
        | none => rw [ha] at hS; cases hS
        | some a =>
          rw [ha] at hS
          have hS2 := Option.some.inj hS
          clear hS
          subst hS2
          obtain ⟨⟨a1, a2⟩, a3, a4⟩ := aIdx_ok hp2.ee ha hi
          have hcl := i32_clamp (i := i) (by omega)
          have hin : vp_in i r.2.1 := i32_in (by omega) (by omega)
          have hlt : i.toNatClampNeg < r.2.1 := by omega
          have hbd := sgL_ok (F := pForm env v.2.1 a.1 a.2) (lo := a.1) (hi := a.2) (hsg _ hlt) (by rw [pForm_ok hp2.ee hi a1 a2]; congr 1; omega) (by omega) (by omega)
          have hpl : plAt (.inl (r.1, r.2.1, f)) i.toInt (f i.toNatClampNeg).toInt := ⟨by omega, by show (f i.toInt.toNat).toInt = _; rfl⟩
          obtain ⟨vs', hP⟩ := hp2.read (lo := (sgL r.2.2 (pForm env v.2.1 a.1 a.2) a.1 a.2).1) (hi := (sgL r.2.2 (pForm env v.2.1 a.1 a.2) a.1 a.2).2) hb hc (pForm_ok hp2.ee hi a1 a2) hpl hbd.1 hbd.2
          rcases hty with ⟨e, hd⟩ | ⟨e, hd⟩
          · subst e
            exact j_iald hd (by rw [← hrt]; exact hc) hin (k _ _ _ _ _ hP)
          · subst e
            exact j_zald hd (by rw [← hrt]; exact hc) hin (k _ _ _ _ _ hP)
theorem st_ast {ty : Nat} {v x w : aV} {S : aS} (hE : eiOK TT g EI P) (hT : tySg TT = true) (hty : (ty = 0 ∧ decode (jbC y) pc = .ok (.iastore, 1)) ∨ (ty = 1 ∧ decode (jbC y) pc = .ok (.bastore, 1))) (hv : Nat.beq v.1 0 = true) (hx : Nat.beq x.1 0 = true) (hw : Nat.beq w.1 2 = true) (hS : aAst TT W P ty env fc loc stk ov pr w.2.1 w.2.2 x.2.1 v.2.1 = some S) (hp : PT TT g EI W bk0 h0 ev y vs bk al st h (env, fc, loc, v :: x :: w :: stk, ov, pr)) (k : Go TT g EI W bk0 h0 ev y l d Q (pc + 1) S kc ks) : J l g y d pc al st h kc ks Q := by
  obtain ⟨w1, s1, rfl, q1, hp1⟩ := hp.pop
  obtain ⟨w2, s2, rfl, q2, hp2⟩ := hp1.pop
  obtain ⟨w3, s3, rfl, q3, hp3⟩ := hp2.pop
  obtain ⟨n, rfl, hn⟩ := q1.int hv
  obtain ⟨i, rfl, hi⟩ := q2.int hx
  obtain ⟨b, hb, rfl⟩ := q3.rf hw
  rw [aAst] at hS
  cases ht : tyAt TT w.2.1 w.2.2 with
  | none => rw [ht] at hS; cases hS
  | some ct =>
    rw [ht] at hS
    cases ct with
    | inr r => cases hS
    | inl r =>
      dsimp only at hS
      obtain ⟨c, hc, f, rfl, hsg⟩ := hp3.2.1.1 _ b w.2.2 _ hb ht
      cases hty2 : Nat.beq r.1 ty with
      | false => rw [hty2] at hS; cases hS
      | true =>
        rw [hty2] at hS
        simp only [cond_true] at hS
        have hrt : r.1 = ty := Nat.eq_of_beq_eq_true hty2
        cases ha : aIdx env fc x.2.1 r.2.1 with
        | none => rw [ha] at hS; cases hS
        | some a =>
          rw [ha] at hS
          dsimp only at hS
          cases hs : sgS r.2.2 (pForm env x.2.1 a.1 a.2) a.1 a.2 with
          | none => rw [hs] at hS; cases hS
          | some bb =>
            rw [hs] at hS
            dsimp only at hS
            cases hcc : (aWithin env fc v.2.1 bb.1 bb.2 && (Nat.beq ty 0 || aWithin env fc v.2.1 0 1) && subW [(w.2.1, w.2.2, a.1, a.2)] W && apW [(w.2.1, w.2.2, a.1, a.2)] P) with
            | false => rw [hcc] at hS; cases hS
            | true =>
              rw [hcc] at hS
              simp only [Bool.and_eq_true] at hcc
              obtain ⟨⟨⟨c1, c2⟩, hsub⟩, hap⟩ := hcc
              have hS2 := Option.some.inj hS
              clear hS
              subst hS2
              obtain ⟨⟨a1, a2⟩, a3, a4⟩ := aIdx_ok hp3.ee ha hi
              obtain ⟨hwf, -⟩ := tySg_ok hT ht
              have hcl := i32_clamp (i := i) (by omega)
              have hin : vp_in i r.2.1 := i32_in (by omega) (by omega)
              have hlt : i.toNatClampNeg < r.2.1 := by omega
              have hbd := aWithin_ok hp3.ee c1 hn
              have hso : sgOK r.2.2 i.toNatClampNeg n.toInt := sgS_ok hwf hs (by rw [pForm_ok hp3.ee hi a1 a2]; congr 1; omega) (by omega) (by omega) hbd
              have hct : ctOK g bk (.inl r) (.inl (r.1, r.2.1, upd f i.toNatClampNeg n)) := ⟨_, rfl, fun j hj => by
                by_cases e : j = i.toNatClampNeg
                · subst e
                  simp only [upd, if_true]
                  exact hso
                · simp only [upd, if_neg e]
                  exact hsg j hj⟩
              have hP2 := hp3.write hE hb ht hc hct (offW_arr (by omega) (by omega)) hsub hap
              have hlen : b + w.2.2 < h.length := (List.getElem?_eq_some_iff.mp hc).1
              have hP3 := hP2.know (F := pForm env x.2.1 a.1 a.2) (i := v.2.1) (z := i.toInt) (x := n.toInt) hb (List.getElem?_set_self hlen) (pForm_ok hp3.ee hi a1 a2) ⟨by omega, by show (upd f i.toNatClampNeg n i.toInt.toNat).toInt = _; rw [show i.toInt.toNat = i.toNatClampNeg from rfl]; simp [upd]⟩ hn
              rcases hty with ⟨e, hd⟩ | ⟨e, hd⟩
              · subst e
                rw [hrt] at hP3
                exact j_iast hd (by rw [← hrt]; exact hc) hin (k _ _ _ _ _ hP3)
              · subst e
                have hz : vp_nar .boolean n = n := by
                  simp only [show Nat.beq 1 0 = false from rfl, Bool.false_or] at c2
                  have := aWithin_ok hp3.ee c2 hn
                  have hz := (narz (x := n) this.1 this.2).1
                  simp only [vp_nar, hz]
                rw [hrt] at hP3
                refine j_zast hd (by rw [← hrt]; exact hc) hin ?_
                rw [hz]
                exact k _ _ _ _ _ hP3
theorem st_alen {w : aV} {q : Nat × Nat × List aSeg} (hT : tySg TT = true) (hd : decode (jbC y) pc = .ok (.arraylength, 1)) (hw : Nat.beq w.1 2 = true) (ht : tyAt TT w.2.1 w.2.2 = some (.inl q)) (h1 : Nat.ble q.1 1 = true) (hp : PT TT g EI W bk0 h0 ev y vs bk al st h (env, fc, loc, w :: stk, ov, pr)) (k : Go TT g EI W bk0 h0 ev y l d Q (pc + 1) (env ++ [eNew (q.2.1 : Nat) (q.2.1 : Nat) (some (fcon (q.2.1 : Nat)))], fc, loc, (0, env.length, 0) :: stk, ov, pr) kc ks) : J l g y d pc al st h kc ks Q := by
  obtain ⟨w1, s1, rfl, q1, hp1⟩ := hp.pop
  obtain ⟨b, hb, rfl⟩ := q1.rf hw
  obtain ⟨c, hc, f, rfl, hsg⟩ := hp1.2.1.1 _ b w.2.2 _ hb ht
  obtain ⟨-, hlt⟩ := tySg_ok hT ht
  have hv : (Int32.ofNat q.2.1).toInt = (q.2.1 : Int) := nI_toInt (by omega)
  have h1 : q.1 ≤ 1 := Nat.le_of_ble_eq_true h1
  refine j_alen hd (by omega) hc (k _ _ _ _ _ (hp1.push32 ?_))
  rw [hv]
  exact eVal.fm (Int.le_refl _) (Int.le_refl _) fcon_ok
end AR2
