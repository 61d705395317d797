/-! null tests, switches, constants of the pool -/
section SW
variable {TT : List (List aCT)} {g : jG} {EI : aB → jH → Prop} {W P : List aR} {bk0 : aB} {h0 : jH} {ev : List Int} {y : Nat} {vs : List Int} {bk : aB} {al : List (Option Value)} {st : List Value} {h : jH} {env : List aE} {fc : List aF} {loc : List (Option aV)} {stk : List aV} {ov : List aO} {pr : List Nat}
variable {l : Launch} {d pc kc ks : Nat} {Q : Option Value → jH → Prop}
/-- block B is there: its cell or null is its cell -/
theorem PT.pres {B o b : Nat} (hp : PT TT g EI W bk0 h0 ev y vs bk al st h (env, fc, loc, stk, ov, pr)) (hb : bk B = some b) : PT TT g EI W bk0 h0 ev y vs bk al st h (env, fc, loc.map (fun z => bif decide (z = some (4, B, o)) then some (2, B, o) else z), stk, ov, B :: pr) := by
  refine ⟨⟨hp.1.1, hp.1.2.1, hp.1.2.2.1, fun i v hv => ?_, hp.1.2.2.2.2.1, hp.1.2.2.2.2.2.1, fun z hz => ?_⟩, hp.2⟩
  · rw [List.getElem?_map] at hv
    cases hl : loc[i]? with
    | none => rw [hl] at hv; cases hv
    | some z =>
      rw [hl] at hv
      have hv : (bif decide (z = some (4, B, o)) then some (2, B, o) else z) = some v := Option.some.inj hv
      cases hc : decide (z = some (4, B, o)) with
      | false =>
        rw [hc] at hv
        simp only [cond_false] at hv
        subst hv
        exact hp.1.2.2.2.1 i v hl
      | true =>
        rw [hc] at hv
        have hv2 : (2, B, o) = v := Option.some.inj hv
        subst hv2
        simp only [decide_eq_true_eq] at hc
        subst hc
        obtain ⟨w, g1, g2⟩ := hp.1.2.2.2.1 i (4, B, o) hl
        rcases g2 with g2 | ⟨g2, -⟩
        · exact ⟨w, g1, g2⟩
        · exact absurd (g2.symm.trans hb) (by simp)
  · rcases List.mem_cons.mp hz with rfl | hz
    · exact ⟨b, hb⟩
    · exact hp.1.2.2.2.2.2.2 z hz
theorem st_ifnull2 {off : Int} {v : aV} (hd : decode (jbC y) pc = .ok (.ifnull off, 3)) (hv : Nat.beq v.1 2 = true) (hp : PT TT g EI W bk0 h0 ev y vs bk al st h (env, fc, loc, v :: stk, ov, pr)) (k : Go TT g EI W bk0 h0 ev y l d Q (pc + 3) (env, fc, loc, stk, ov, pr) kc ks) : J l g y d pc al st h kc ks Q := by
  obtain ⟨w1, s1, rfl, q1, hp1⟩ := hp.pop
  obtain ⟨b, hb, rfl⟩ := q1.rf hv
  exact j_ifnull hd (k _ _ _ _ _ hp1)
theorem st_ifnonnull2 {off : Int} {v : aV} (hd : decode (jbC y) pc = .ok (.ifnonnull off, 3)) (ht : 0 ≤ (pc : Int) + off) (hv : Nat.beq v.1 2 = true) (hp : PT TT g EI W bk0 h0 ev y vs bk al st h (env, fc, loc, v :: stk, ov, pr)) (k : Go TT g EI W bk0 h0 ev y l d Q (tgtN pc off) (env, fc, loc, stk, ov, pr) kc ks) : J l g y d pc al st h kc ks Q := by
  obtain ⟨w1, s1, rfl, q1, hp1⟩ := hp.pop
  obtain ⟨b, hb, rfl⟩ := q1.rf hv
  exact j_ifnonnull hd (tgtN_ok ht) (k _ _ _ _ _ hp1)
theorem st_ifnull3 {off : Int} {a o : Nat} (hd : decode (jbC y) pc = .ok (.ifnull off, 3)) (ht : 0 ≤ (pc : Int) + off) (hp : PT TT g EI W bk0 h0 ev y vs bk al st h (env, fc, loc, (3, a, o) :: stk, ov, pr)) (k : Go TT g EI W bk0 h0 ev y l d Q (tgtN pc off) (env, fc, loc, stk, ov, pr) kc ks) : J l g y d pc al st h kc ks Q := by
  obtain ⟨w1, s1, rfl, q1, hp1⟩ := hp.pop
  have q1 : w1 = .null := q1
  subst q1
  exact j_ifnullN hd (tgtN_ok ht) (k _ _ _ _ _ hp1)
theorem st_ifnonnull3 {off : Int} {a o : Nat} (hd : decode (jbC y) pc = .ok (.ifnonnull off, 3)) (hp : PT TT g EI W bk0 h0 ev y vs bk al st h (env, fc, loc, (3, a, o) :: stk, ov, pr)) (k : Go TT g EI W bk0 h0 ev y l d Q (pc + 3) (env, fc, loc, stk, ov, pr) kc ks) : J l g y d pc al st h kc ks Q := by
  obtain ⟨w1, s1, rfl, q1, hp1⟩ := hp.pop
  have q1 : w1 = .null := q1
  subst q1
  exact j_ifnonnullN hd (k _ _ _ _ _ hp1)
theorem st_ifnull4 {off : Int} {B o : Nat} (hd : decode (jbC y) pc = .ok (.ifnull off, 3)) (ht : 0 ≤ (pc : Int) + off) (hp : PT TT g EI W bk0 h0 ev y vs bk al st h (env, fc, loc, (4, B, o) :: stk, ov, pr)) (k1 : Go TT g EI W bk0 h0 ev y l d Q (tgtN pc off) (env, fc, loc, stk, ov, pr) kc ks) (k2 : Go TT g EI W bk0 h0 ev y l d Q (pc + 3) (env, fc, loc.map (fun z => bif decide (z = some (4, B, o)) then some (2, B, o) else z), stk, ov, B :: pr) kc ks) : J l g y d pc al st h kc ks Q := by
  obtain ⟨w1, s1, rfl, q1, hp1⟩ := hp.pop
  rcases q1 with ⟨b, hb, rfl⟩ | ⟨hb, rfl⟩
  · exact j_ifnull hd (k2 _ _ _ _ _ (hp1.pres hb))
  · exact j_ifnullN hd (tgtN_ok ht) (k1 _ _ _ _ _ hp1)
theorem st_ifnonnull4 {off : Int} {B o : Nat} (hd : decode (jbC y) pc = .ok (.ifnonnull off, 3)) (ht : 0 ≤ (pc : Int) + off) (hp : PT TT g EI W bk0 h0 ev y vs bk al st h (env, fc, loc, (4, B, o) :: stk, ov, pr)) (k1 : Go TT g EI W bk0 h0 ev y l d Q (pc + 3) (env, fc, loc, stk, ov, pr) kc ks) (k2 : Go TT g EI W bk0 h0 ev y l d Q (tgtN pc off) (env, fc, loc.map (fun z => bif decide (z = some (4, B, o)) then some (2, B, o) else z), stk, ov, B :: pr) kc ks) : J l g y d pc al st h kc ks Q := by
  obtain ⟨w1, s1, rfl, q1, hp1⟩ := hp.pop
  rcases q1 with ⟨b, hb, rfl⟩ | ⟨hb, rfl⟩
  · exact j_ifnonnull hd (tgtN_ok ht) (k2 _ _ _ _ _ (hp1.pres hb))
  · exact j_ifnonnullN hd (k1 _ _ _ _ _ hp1)
theorem aSw_mem {i : Nat} : ∀ (L : List Int) (lo : Int) (n : Nat) (o : Int), L[n]? = some o → ∀ r ∈ aBr (cAsm env fc .eq (fadd 1 (lin env i) (fcon (-(lo + n))))) (tgtN pc o) loc stk ov pr kc ks, r ∈ aSw env fc pc loc stk ov pr kc ks i lo L := by
  intro L
  induction L with
  | nil => intro lo n o hn; simp at hn
  | cons a t ih =>
    intro lo n o hn r hr
    rw [aSw]
    cases n with
    | zero =>
      have e : a = o := by simpa using hn
      subst e
      refine List.mem_append_left _ ?_
      rw [show lo + ((0 : Nat) : Int) = lo by omega] at hr
      exact hr
    | succ n =>
      refine List.mem_append_right _ (ih (lo + 1) n o (by simpa using hn) r ?_)
      rw [show lo + ((n + 1 : Nat) : Int) = lo + 1 + (n : Int) by omega] at hr
      exact hr
theorem st_table {dflt lo hi : Int} {offs : Array Int} {len : Nat} {v : aV} (hd : decode (jbC y) pc = .ok (.tableswitch dflt lo hi offs, len)) (hv : Nat.beq v.1 0 = true) (hn : (offs.toList.length : Int) = hi - lo + 1) (ht : 0 ≤ (pc : Int) + dflt) (hts : ∀ o ∈ offs.toList, 0 ≤ (pc : Int) + o) (hp : PT TT g EI W bk0 h0 ev y vs bk al st h (env, fc, loc, v :: stk, ov, pr))
    (k : GoA TT g EI W bk0 h0 ev y l d Q (aSw env fc pc loc stk ov pr kc ks v.2.1 lo offs.toList ++ (aBr (cAsm env fc .lt (fadd 1 (lin env v.2.1) (fcon (-lo)))) (tgtN pc dflt) loc stk ov pr kc ks ++ aBr (cAsm env fc .gt (fadd 1 (lin env v.2.1) (fcon (-hi)))) (tgtN pc dflt) loc stk ov pr kc ks))) : J l g y d pc al st h kc ks Q := by
  obtain ⟨w1, s1, rfl, q1, hp1⟩ := hp.pop
  obtain ⟨a, rfl, ha⟩ := q1.int hv
  have hl := lin_ok hp1.ee.2.1 ha
  by_cases h1 : a.toInt < lo
  · obtain ⟨r, g1, g2⟩ := cAsm_ok (c := .lt) hp1.ee (fadd1 (c := -lo) hl) (show a.toInt + -lo < 0 by omega)
    exact j_tableOut hd (Or.inl h1) (tgtN_ok ht) (k (tgtN pc dflt, (r.1, r.2, loc, stk, ov, pr), kc, ks) (List.mem_append_right _ (List.mem_append_left _ (by rw [g1]; exact List.mem_cons_self))) _ _ _ _ _ (hp1.setE g2))
  · by_cases h2 : hi < a.toInt
    · obtain ⟨r, g1, g2⟩ := cAsm_ok (c := .gt) hp1.ee (fadd1 (c := -hi) hl) (show 0 < a.toInt + -hi by omega)
      exact j_tableOut hd (Or.inr h2) (tgtN_ok ht) (k (tgtN pc dflt, (r.1, r.2, loc, stk, ov, pr), kc, ks) (List.mem_append_right _ (List.mem_append_right _ (by rw [g1]; exact List.mem_cons_self))) _ _ _ _ _ (hp1.setE g2))
    · have hlt : (a.toInt - lo).toNat < offs.toList.length := by omega
      have ho : offs.toList[(a.toInt - lo).toNat]? = some offs.toList[(a.toInt - lo).toNat] := List.getElem?_eq_getElem hlt
      revert ho
      generalize offs.toList[(a.toInt - lo).toNat] = o
      intro ho
      have ho2 : offs[(a.toInt - lo).toNat]? = some o := by rw [← Array.getElem?_toList]; exact ho
      obtain ⟨r, g1, g2⟩ := cAsm_ok (c := .eq) hp1.ee (fadd1 (c := -(lo + ((a.toInt - lo).toNat : Int))) hl) (show a.toInt + -(lo + ((a.toInt - lo).toNat : Int)) = 0 by omega)
      exact j_tableIn hd h1 h2 ho2 (tgtN_ok (hts o (List.mem_of_getElem? ho))) (k (tgtN pc o, (r.1, r.2, loc, stk, ov, pr), kc, ks) (List.mem_append_left _ (aSw_mem _ lo _ o ho _ (by rw [g1]; exact List.mem_cons_self))) _ _ _ _ _ (hp1.setE g2))
theorem st_lookup {dflt : Int} {ps : Array (Int × Int)} {len : Nat} {v : aV} (hd : decode (jbC y) pc = .ok (.lookupswitch dflt ps, len)) (hv : Nat.beq v.1 0 = true) (hs : (ps.toList.zip (ps.toList.drop 1)).all (fun (a, next) => a.1 < next.1) = true) (ht : 0 ≤ (pc : Int) + dflt) (hts : ∀ o ∈ ps.toList, 0 ≤ (pc : Int) + o.2) (hp : PT TT g EI W bk0 h0 ev y vs bk al st h (env, fc, loc, v :: stk, ov, pr))
    (k : GoA TT g EI W bk0 h0 ev y l d Q (aSwL env fc pc loc stk ov pr kc ks v.2.1 ps.toList ++ [(tgtN pc dflt, (env, fc, loc, stk, ov, pr), kc, ks)])) : J l g y d pc al st h kc ks Q := by
  obtain ⟨w1, s1, rfl, q1, hp1⟩ := hp.pop
  obtain ⟨a, rfl, ha⟩ := q1.int hv
  have hl := lin_ok hp1.ee.2.1 ha
  have key : ∀ (L : List (Int × Int)), (∀ o ∈ L, 0 ≤ (pc : Int) + o.2) → (∀ r ∈ aSwL env fc pc loc stk ov pr kc ks v.2.1 L, Go TT g EI W bk0 h0 ev y l d Q r.1 r.2.1 r.2.2.1 r.2.2.2) → ∃ tgt : Nat, (pc : Int) + Op.lookupswitch.offset L dflt a.toInt = (tgt : Int) ∧ J l g y d tgt al s1 h kc ks Q := by
    intro L
    induction L with
    | nil => intro _ _; exact ⟨tgtN pc dflt, tgtN_ok ht, k (tgtN pc dflt, (env, fc, loc, stk, ov, pr), kc, ks) (List.mem_append_right _ List.mem_cons_self) _ _ _ _ _ hp1⟩
    | cons q t ih =>
      intro h1 h2
      rw [Op.lookupswitch.offset_cons]
      by_cases e : q.1 = a.toInt
      · rw [if_pos e]
        obtain ⟨r, g1, g2⟩ := cAsm_ok (c := .eq) hp1.ee (fadd1 (c := -q.1) hl) (show a.toInt + -q.1 = 0 by omega)
        exact ⟨tgtN pc q.2, tgtN_ok (h1 q List.mem_cons_self), h2 (tgtN pc q.2, (r.1, r.2, loc, stk, ov, pr), kc, ks) (by rw [aSwL]; exact List.mem_append_left _ (by rw [g1]; exact List.mem_cons_self)) _ _ _ _ _ (hp1.setE g2)⟩
      · rw [if_neg e]
        exact ih (fun o ho => h1 o (List.mem_cons_of_mem _ ho)) (fun r hr => h2 r (by rw [aSwL]; exact List.mem_append_right _ hr))
  obtain ⟨tgt, t1, t2⟩ := key ps.toList hts (fun r hr => k r (List.mem_append_left _ hr))
  exact j_lookup hd hs rfl t1 t2
theorem st_ldc {own i : Nat} {q : Nat × Nat × Int32} (ho : jcN own = (jyN y).cls) (hf : jeV.find? (fun q => Nat.beq q.2.1 i && Nat.beq q.1 own) = some q) (hd : decode (jbC y) pc = .ok (.ldc i, 2)) (hp : PT TT g EI W bk0 h0 ev y vs bk al st h (env, fc, loc, stk, ov, pr)) (k : Go TT g EI W bk0 h0 ev y l d Q (pc + 2) (env ++ [eNew q.2.2.toInt q.2.2.toInt (some (fcon q.2.2.toInt))], fc, loc, (0, env.length, 0) :: stk, ov, pr) kc ks) : J l g y d pc al st h kc ks Q := by
  have h1 := List.find?_some hf
  have h2 := List.mem_of_find?_eq_some hf
  simp only [Bool.and_eq_true] at h1
  have e1 := Nat.eq_of_beq_eq_true h1.1
  have e2 := Nat.eq_of_beq_eq_true h1.2
  have e3 : q = (own, i, q.2.2) := by rw [← e1, ← e2]
  rw [e3] at h2
  exact j_ldc ho h2 hd (k _ _ _ _ _ (hp.push32 (eVal.fm (Int.le_refl _) (Int.le_refl _) fcon_ok)))
theorem st_ldcw {own i : Nat} {q : Nat × Nat × Int32} (ho : jcN own = (jyN y).cls) (hf : jeV.find? (fun q => Nat.beq q.2.1 i && Nat.beq q.1 own) = some q) (hd : decode (jbC y) pc = .ok (.ldc_w i, 3)) (hp : PT TT g EI W bk0 h0 ev y vs bk al st h (env, fc, loc, stk, ov, pr)) (k : Go TT g EI W bk0 h0 ev y l d Q (pc + 3) (env ++ [eNew q.2.2.toInt q.2.2.toInt (some (fcon q.2.2.toInt))], fc, loc, (0, env.length, 0) :: stk, ov, pr) kc ks) : J l g y d pc al st h kc ks Q := by
  have h1 := List.find?_some hf
  have h2 := List.mem_of_find?_eq_some hf
  simp only [Bool.and_eq_true] at h1
  have e1 := Nat.eq_of_beq_eq_true h1.1
  have e2 := Nat.eq_of_beq_eq_true h1.2
  have e3 : q = (own, i, q.2.2) := by rw [← e1, ← e2]
  rw [e3] at h2
  exact j_ldcw ho h2 hd (k _ _ _ _ _ (hp.push32 (eVal.fm (Int.le_refl _) (Int.le_refl _) fcon_ok)))
theorem st_ldc2 {own i : Nat} {q : Nat × Nat × Int64} (ho : jcN own = (jyN y).cls) (hf : jeW.find? (fun q => Nat.beq q.2.1 i && Nat.beq q.1 own) = some q) (hd : decode (jbC y) pc = .ok (.ldc2_w i, 3)) (hp : PT TT g EI W bk0 h0 ev y vs bk al st h (env, fc, loc, stk, ov, pr)) (k : Go TT g EI W bk0 h0 ev y l d Q (pc + 3) (env ++ [eNew q.2.2.toInt q.2.2.toInt (some (fcon q.2.2.toInt))], fc, loc, (1, env.length, 0) :: stk, ov, pr) kc ks) : J l g y d pc al st h kc ks Q := by
  have h1 := List.find?_some hf
  have h2 := List.mem_of_find?_eq_some hf
  simp only [Bool.and_eq_true] at h1
  have e1 := Nat.eq_of_beq_eq_true h1.1
  have e2 := Nat.eq_of_beq_eq_true h1.2
  have e3 : q = (own, i, q.2.2) := by rw [← e1, ← e2]
  rw [e3] at h2
  exact j_ldc2 ho h2 hd (k _ _ _ _ _ (hp.push64 (eVal.fm (Int.le_refl _) (Int.le_refl _) fcon_ok)))
end SW
