/-! reading and writing places -/
theorem ovFind_mem {B o i : Nat} {F : aF} : ∀ {ov : List aO}, ovFind B o F ov = some i → (B, o, F, i) ∈ ov := by
  intro ov
  induction ov with
  | nil => intro hh; cases hh
  | cons q t ih =>
    intro hh
    rw [ovFind] at hh
    cases hc : (Nat.beq q.1 B && Nat.beq q.2.1 o && fEq q.2.2.1 F) with
    | true =>
      rw [hc] at hh
      simp only [Bool.and_eq_true] at hc
      obtain ⟨⟨c1, c2⟩, c3⟩ := hc
      have e1 := Nat.eq_of_beq_eq_true c1
      have e2 := Nat.eq_of_beq_eq_true c2
      have e3 : q.2.2.1 = F := by simpa [fEq] using c3
      have e4 : q.2.2.2 = i := Option.some.inj hh
      have e5 : q = (B, o, F, i) := by rw [← e1, ← e2, ← e3, ← e4]
      rw [e5]
      exact List.mem_cons_self
    | false =>
      rw [hc] at hh
      exact List.mem_cons_of_mem _ (ih hh)
section HP
variable {TT : List (List aCT)} {g : jG} {EI : aB → jH → Prop} {W : List aR} {bk0 : aB} {h0 : jH} {ev : List Int} {y : Nat} {vs : List Int} {bk : aB} {al : List (Option Value)} {st : List Value} {h : jH} {env : List aE} {fc : List aF} {loc : List (Option aV)} {stk : List aV} {ov : List aO} {pr : List Nat}
/-- an int is read at a place: what is known of it, or a new id -/
theorem PT.read {B o b : Nat} {F : aF} {lo hi z : Int} {c : jC} {x : Int32} (hp : PT TT g EI W bk0 h0 ev y vs bk al st h (env, fc, loc, stk, ov, pr)) (hb : bk B = some b) (hc : h[b + o]? = some c) (hF : fev vs F = some z) (hx : plAt c z x.toInt) (hlo : lo ≤ x.toInt) (hhi : x.toInt ≤ hi) : ∃ vs', PT TT g EI W bk0 h0 ev y vs' bk al (.int x :: st) h (aRead env fc loc stk ov pr B o F lo hi) := by
  rw [aRead]
  cases hf : ovFind B o F ov with
  | some i =>
    obtain ⟨z2, b2, c2, x2, g1, g2, g3, g4, g5⟩ := hp.1.2.2.2.2.2.1 _ (ovFind_mem hf)
    cases hF.symm.trans g1
    cases hb.symm.trans g2
    cases hc.symm.trans g3
    have hxx : x.toInt = x2 := by
      cases c with
      | inl a => exact hx.2.symm.trans g4.2
      | inr a =>
        obtain ⟨-, w1, k1, k2⟩ := hx
        obtain ⟨-, w2, k3, k4⟩ := g4
        cases k1.symm.trans k3
        omega
    refine ⟨vs, hp.put (v := (0, i, 0)) ⟨x, rfl, ?_⟩⟩
    show vs[i]? = some x.toInt
    rw [hxx]
    exact g5
  | none =>
    have hP := hp.push32 (e := eNew lo hi none) (x := x) (eVal.bd hlo hhi)
    refine ⟨vs ++ [x.toInt], ⟨hP.1.1, hP.1.2.1, hP.1.2.2.1, hP.1.2.2.2.1, hP.1.2.2.2.2.1, fun q hq => ?_, hP.1.2.2.2.2.2.2⟩, hP.2⟩
    rcases List.mem_cons.mp hq with rfl | hq
    · exact ⟨z, b, c, x.toInt, fev_app hF, hb, hc, hx, by show (vs ++ [x.toInt])[env.length]? = _; rw [hp.1.1.1]; simp⟩
    · exact hP.1.2.2.2.2.2.1 q hq
variable {l : Launch} {d pc kc ks : Nat} {Q : Option Value → jH → Prop}
theorem jfind_mem {L : List (Nat × Nat × Nat × Nat)} {own i : Nat} {q : Nat × Nat} (hf : jfind L own i = some q) : (own, i, q.1, q.2) ∈ L := by
  rw [jfind] at hf
  cases hc : L.find? (fun q => Nat.beq q.2.1 i && Nat.beq q.1 own) with
  | none => rw [hc] at hf; cases hf
  | some r =>
    rw [hc] at hf
    have hr := List.find?_some hc
    have hm := List.mem_of_find?_eq_some hc
    simp only [Bool.and_eq_true] at hr
    have e1 := Nat.eq_of_beq_eq_true hr.1
    have e2 := Nat.eq_of_beq_eq_true hr.2
    have e3 : r.2.2 = q := Option.some.inj hf
    have e4 : r = (own, i, q.1, q.2) := by rw [← e1, ← e2, ← e3]
    rw [← e4]
    exact hm
theorem jfind3_mem {L : List (Nat × Nat × Nat)} {own i y2 : Nat} (hf : jfind3 L own i = some y2) : (own, i, y2) ∈ L := by
  rw [jfind3] at hf
  cases hc : L.find? (fun q => Nat.beq q.2.1 i && Nat.beq q.1 own) with
  | none => rw [hc] at hf; cases hf
  | some r =>
    rw [hc] at hf
    have hr := List.find?_some hc
    have hm := List.mem_of_find?_eq_some hc
    simp only [Bool.and_eq_true] at hr
    have e1 := Nat.eq_of_beq_eq_true hr.1
    have e2 := Nat.eq_of_beq_eq_true hr.2
    have e3 : r.2.2 = y2 := Option.some.inj hf
    have e4 : r = (own, i, y2) := by rw [← e1, ← e2, ← e3]
    rw [← e4]
    exact hm
/-- the objects' types have as many fields as their classes -/
def tyCl (TT : List (List aCT)) : Bool := TT.all (fun l => l.all (fun t => match t with
  | .inl _ => true
  | .inr q => (match jcl[q.1]? with | some r => Nat.beq q.2.length r.2.2 | none => false)))
theorem tyCl_ok (hT : tyCl TT = true) {B o : Nat} {q : Nat × List aT} (ht : tyAt TT B o = some (.inr q)) : ∀ r, jcl[q.1]? = some r → q.2.length = r.2.2 := by
  intro r hr
  rw [tyAt] at ht
  cases hB : TT[B]? with
  | none => rw [hB] at ht; cases ht
  | some L =>
    rw [hB] at ht
    have h1 := List.all_eq_true.mp hT L (List.mem_of_getElem? hB)
    have h2 := List.all_eq_true.mp h1 _ (List.mem_of_getElem? ht)
    simp only [hr] at h2
    exact Nat.eq_of_beq_eq_true h2
theorem st_get {own j : Nat} {v : aV} {q : Nat × Nat} {S : aS} (hT : tyCl TT = true) (ho : jcN own = (jyN y).cls) (hd : decode (jbC y) pc = .ok (.getfield j, 3)) (hv : Nat.beq v.1 2 = true) (hf : jfind jeF own j = some q) (hS : aGet TT env fc loc stk ov pr v.2.1 v.2.2 q.1 q.2 = some S) (hp : PT TT g EI W bk0 h0 ev y vs bk al st h (env, fc, loc, v :: stk, ov, pr)) (k : Go TT g EI W bk0 h0 ev y l d Q (pc + 3) S kc ks) : J l g y d pc al st h kc ks Q := by
  obtain ⟨w1, s1, rfl, q1, hp1⟩ := hp.pop
  obtain ⟨b, hb, rfl⟩ := q1.rf hv
  rw [aGet] at hS
  cases ht : tyAt TT v.2.1 v.2.2 with
  | none => rw [ht] at hS; cases hS
  | some ct =>
    rw [ht] at hS
    cases ct with
    | inl a => cases hS
    | inr r =>
      dsimp only at hS
      obtain ⟨c, hc, fs, rfl, hlen, hfs⟩ := hp1.2.1.1 _ b v.2.2 _ hb ht
      cases hci : Nat.beq r.1 q.1 with
      | false => rw [hci] at hS; cases hS
      | true =>
        rw [hci] at hS
        simp only [cond_true] at hS
        have hci : r.1 = q.1 := Nat.eq_of_beq_eq_true hci
        cases hq : r.2[q.2]? with
        | none => rw [hq] at hS; cases hS
        | some t =>
          rw [hq] at hS
          dsimp only at hS
          obtain ⟨w, hw, hft⟩ := hfs q.2 t hq
          have hn : ∀ z, jcl[r.1]? = some z → q.2 < z.2.2 := fun z hz => by
            rw [← tyCl_ok hT ht z hz]
            exact (List.getElem?_eq_some_iff.mp hq).1
          have hm : (own, j, r.1, q.2) ∈ jeF := by rw [hci]; exact jfind_mem hf
          refine j_get hd ho hm hc hn hw ?_
          obtain ⟨tk, tlo, thi, tB, to⟩ := t
          match tk, hft, hS with
          | 0, ⟨x, hx, x1, x2⟩, hS =>
            subst hx
            have hS := Option.some.inj hS
            subst hS
            obtain ⟨vs', hP⟩ := hp1.read (F := fcon q.2) (z := (q.2 : Nat)) (lo := tlo) (hi := thi) hb hc fcon_ok ⟨by omega, x, by simpa using hw, rfl⟩ x1 x2
            exact k _ _ _ _ _ hP
          | 1, ⟨x, hx, x1, x2⟩, hS =>
            subst hx
            have hS := Option.some.inj hS
            subst hS
            exact k _ _ _ _ _ (hp1.push64 (eVal.bd x1 x2))
          | 2, ⟨b2, hb2, hx⟩, hS =>
            subst hx
            have hS := Option.some.inj hS
            subst hS
            exact k _ _ _ _ _ (hp1.put (v := (2, tB, to)) ⟨b2, hb2, rfl⟩)
          | 3, hx, hS =>
            have hS := Option.some.inj hS
            subst hS
            dsimp only at k
            cases hpr : pr.contains tB with
            | true =>
              rw [hpr] at k
              obtain ⟨b2, hb2⟩ := hp1.1.2.2.2.2.2.2 tB (by simpa using hpr)
              rcases hx with ⟨b3, hb3, hx⟩ | ⟨hx, -⟩
              · subst hx
                exact k _ _ _ _ _ (hp1.put (v := (2, tB, to)) ⟨b3, hb3, rfl⟩)
              · exact absurd (hx.symm.trans hb2) (by simp)
            | false =>
              rw [hpr] at k
              exact k _ _ _ _ _ (hp1.put (v := (4, tB, to)) hx)
          | n + 4, hx, hS => cases hS

theorem ovKill_mem {Wk : List aR} {q : aO} (hq : q ∈ ovKill TT env Wk ov) : q ∈ ov ∧ q.2.1 < tyLen TT q.1 ∧ ∀ w ∈ Wk, q.1 = w.1 → q.2.1 = w.2.1 → ∃ a b, flb env q.2.2.1 = some a ∧ flb env (fmul (-1) q.2.2.1) = some b ∧ (-b < w.2.2.1 ∨ w.2.2.2 < a) := by
  obtain ⟨h1, h2⟩ := List.mem_filter.mp hq
  simp only [Bool.and_eq_true] at h2
  refine ⟨h1, by have h9 := h2.1; simp [Nat.blt] at h9; omega, fun w hw e1 e2 => ?_⟩
  have h3 := List.all_eq_true.mp h2.2 w hw
  simp only [Bool.or_eq_true] at h3
  rcases h3 with h3 | h3
  · rw [e1, e2] at h3
    simp at h3
  · cases c1 : flb env q.2.2.1 with
    | none => rw [c1] at h3; simp at h3
    | some a =>
      cases c2 : flb env (fmul (-1) q.2.2.1) with
      | none => rw [c1, c2] at h3; simp at h3
      | some b =>
        rw [c1, c2] at h3
        simp only [Bool.or_eq_true, decide_eq_true_eq] at h3
        exact ⟨a, b, rfl, rfl, h3⟩
/-- a place that isn't written keeps what it holds -/
theorem plAt_off {Wk : List aR} {B o : Nat} {c c' : jC} {z x : Int} (hoff : offW Wk B o c c') (hn : ¬ inW Wk B o z.toNat) (hx : plAt c z x) : plAt c' z x := by
  cases c with
  | inl a => cases c' with
    | inl a' => exact ⟨hx.1, by rw [hoff.2.2 _ hn]; exact hx.2⟩
    | inr a' => exact absurd hoff id
  | inr a => cases c' with
    | inl a' => exact absurd hoff id
    | inr a' =>
      obtain ⟨h1, w, h2, h3⟩ := hx
      exact ⟨h1, w, by rw [hoff.2.2 _ hn]; exact h2, h3⟩
theorem ov_un {Wk : List aR} {bk' : aB} {h' : jH} (hE : eIv vs env) (hu : UN TT Wk bk h h') (hb : ∀ B b, bk B = some b → bk' B = some b) (ho : ovOK vs bk h ov) : ovOK vs bk' h' (ovKill TT env Wk ov) := by
  intro q hq
  obtain ⟨h1, h2, h3⟩ := ovKill_mem hq
  obtain ⟨z, b, c, x, g1, g2, g3, g4, g5⟩ := ho q h1
  obtain ⟨c', k1, k2⟩ := hu.2 q.1 b q.2.1 c g2 h2 g3
  refine ⟨z, b, c', x, g1, hb _ _ g2, k1, plAt_off k2 (fun hi => ?_) g4, g5⟩
  obtain ⟨w, hw, e1, e2, e3, e4⟩ := hi
  obtain ⟨a, b2, f1, f2, f3⟩ := h3 w hw e1.symm e2.symm
  obtain ⟨z1, y1, y2⟩ := flb_ok hE f1
  obtain ⟨z2, y3, y4⟩ := flb_ok hE f2
  rw [g1] at y1
  cases y1
  rw [fneg1 g1] at y3
  cases y3
  have hz0 : 0 ≤ z := by
    cases c with
    | inl a => exact g4.1
    | inr a => exact g4.1
  have hz : ((z.toNat : Nat) : Int) = z := by omega
  rw [hz] at e3 e4
  omega
/-- what the walk leans on: the extra word EI holds wherever P's places are as they were -/
def eiOK (TT : List (List aCT)) (g : jG) (EI : aB → jH → Prop) (P : List aR) : Prop := ∀ (bk : aB) (h h' : jH) (Wk : List aR), apW Wk P = true → UN TT Wk bk h h' → h'.length = h.length → HT TT g bk h → HT TT g bk h' → EI bk h → EI bk h'
theorem PT.write {P : List aR} {B o b : Nat} {lo hi : Int} {t : aCT} {c c' : jC} (hE : eiOK TT g EI P) (hp : PT TT g EI W bk0 h0 ev y vs bk al st h (env, fc, loc, stk, ov, pr)) (hb : bk B = some b) (ht : tyAt TT B o = some t) (hc : h[b + o]? = some c) (hc' : ctOK g bk t c') (hoff : offW [(B, o, lo, hi)] B o c c') (hW : subW [(B, o, lo, hi)] W = true) (hP : apW [(B, o, lo, hi)] P = true) : PT TT g EI W bk0 h0 ev y vs bk al st (h.set (b + o) c') (env, fc, loc, stk, ovKill TT env [(B, o, lo, hi)] ov, pr) := by
  obtain ⟨⟨a1, a2, a3, a4, a5, a6, a7⟩, ⟨b1, b2, b3, b4, b5, b6⟩, hl, hq⟩ := hp
  have hu : UN TT [(B, o, lo, hi)] bk h (h.set (b + o) c') := UN.set b2 hb (tyAt_lt ht) hc hoff
  have hT := b1.set b2 hb ht hc'
  exact ⟨⟨a1, a2, a3, a4, a5, ov_un a1 hu (fun _ _ q => q) a6, a7⟩, ⟨hT, b2, hE bk h _ _ hP hu (by rw [List.length_set]) b1 hT b3, b4.tr b5 (hu.mono hW), b5, b6⟩, hl, hq⟩
theorem aWithin_ok {x : Nat} {lo hi z : Int} (he : envOK vs env fc) (hw : aWithin env fc x lo hi = true) (hx : vs[x]? = some z) : lo ≤ z ∧ z ≤ hi := by
  rw [aWithin] at hw
  cases ha : aiv env fc x with
  | none => rw [ha] at hw; cases hw
  | some a =>
    rw [ha] at hw
    simp only [Bool.and_eq_true, Bool.or_eq_true, decide_eq_true_eq] at hw
    have b := aiv_ok he.1 he.2.1 he.2.2 ha hx
    refine ⟨?_, ?_⟩
    · rcases hw.1 with q | q
      · omega
      · obtain ⟨w, w1, w2⟩ := ent_ok he.1 he.2.2 q
        rw [fadd1 (lin_ok he.2.1 hx)] at w1
        cases w1
        omega
    · rcases hw.2 with q | q
      · omega
      · obtain ⟨w, w1, w2⟩ := ent_ok he.1 he.2.2 q
        rw [fadd_ok fcon_ok (lin_ok he.2.1 hx)] at w1
        cases w1
        omega
theorem offW_fs {B o f ci : Nat} {fs : List Value} {v : Value} : offW [(B, o, (f : Int), (f : Int))] B o (.inr (ci, fs)) (.inr (ci, fs.set f v)) := by
  refine ⟨rfl, List.length_set .., fun i hi => ?_⟩
  show (fs.set f v)[i]? = fs[i]?
  by_cases e : f = i
  · subst e
    exact absurd ⟨_, List.mem_cons_self, rfl, rfl, Int.le_refl _, Int.le_refl _⟩ hi
  · exact List.getElem?_set_ne e
theorem offW_arr {B o n ty : Nat} {lo hi : Int} {f : Nat → Int32} {i : Nat} {v : Int32} (h1 : lo ≤ i) (h2 : (i : Int) ≤ hi) : offW [(B, o, lo, hi)] B o (.inl (ty, n, f)) (.inl (ty, n, upd f i v)) := by
  refine ⟨rfl, rfl, fun j hj => ?_⟩
  show upd f i v j = f j
  by_cases e : j = i
  · subst e
    exact absurd ⟨_, List.mem_cons_self, rfl, rfl, h1, h2⟩ hj
  · simp [upd, e]
end HP
