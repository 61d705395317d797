/-! note, walked by hand -/
section NT
variable {l : Launch} {g : jG} {d kc ks : Nat} {Q : Option Value → jH → Prop} {h : jH}
/-- the row behind a note at place t of the log -/
def nf (f : Nat → Int32) (t : Nat) (kind start goal name : Int32) : Nat → Int32 := upd (upd (upd (upd (upd (upd f (624 + 5 * t) (f 0)) (624 + 5 * t + 1) kind) (624 + 5 * t + 2) start) (624 + 5 * t + 3) goal) (624 + 5 * t + 4) name) 1 (f 1 + Int32.ofInt 1)
theorem i32_at {x : Int32} {n : Nat} (h : x.toInt = (n : Int)) : x.toNatClampNeg = n := by
  have := i32_clamp (i := x) (by omega)
  omega
theorem i32_addn {x : Int32} {n : Nat} {j : Int} (hx : x.toInt = (n : Int)) (hj : 0 ≤ j ∧ j ≤ 100) (hn : n ≤ 100000) : (x + Int32.ofInt j).toInt = (n : Int) + j := by
  have e : x = Int32.ofInt (n : Int) := by rw [← hx, Int32.ofInt_toInt]
  rw [e, ← Int32.ofInt_add]
  exact i32_ofInt (by omega) (by omega)
theorem set2 {α : Type} {l : List α} {i : Nat} {x y : α} : (l.set i x).set i y = l.set i y := List.set_set ..
theorem note_run {b : Nat} {fs : List Value} {f : Nat → Int32} {kind start goal name : Int32} {o5 : Option Value} (ho : h[b]? = some (.inr (12, fs))) (hf : fs[2]? = some (.ref (g.2.2 + (b + 1)))) (hr : h[b + 1]? = some (.inl (0, 5270, f))) (hL : 0 ≤ (f 1).toInt)
    (k : Q none (h.set (b + 1) (.inl (0, 5270, nf f ((f 1).toInt % 100).toNat kind start goal name)))) : J l g 245 d 0 [some (.ref (g.2.2 + b)), some (.int kind), some (.int start), some (.int goal), some (.int name), o5] [] h kc ks Q := by
  have hla : b + 1 < h.length := (List.getElem?_eq_some_iff.mp hr).1
  have hob : ∀ c : jC, (h.set (b + 1) c)[b]? = some (.inr (12, fs)) := fun c => by rw [List.getElem?_set_ne (by omega)]; exact ho
  have hself : ∀ c : jC, (h.set (b + 1) c)[b + 1]? = some c := fun c => List.getElem?_set_self hla
  have hn2 : ∀ r, jcl[12]? = some r → 2 < r.2.2 := fun r hr => by cases hr; decide +kernel
  have hcls : jcN 12 = (jyN 245).cls := by decide +kernel
  have h12 : (12, 7, 12, 2) ∈ jeF := by decide +kernel
  generalize ht : ((f 1).toInt % 100).toNat = t at k
  have htb : t < 100 := by omega
  have h100 : (Int8.ofInt 100).toInt32 = Int32.ofInt 100 := by decide
  have h624 : (Int16.ofInt 624).toInt32 = Int32.ofInt 624 := by decide
  refine j_sipush (n := 624) (by decide +kernel) ?_
  refine j_iconst (n := 5) (by decide +kernel) ?_
  refine j_aload_n (k4 := 0) (by decide +kernel) rfl ?_
  refine j_get (own := 12) (i := 7) (ci := 12) (f := 2) (by decide +kernel) hcls h12 ho hn2 hf ?_
  refine j_iconst (n := 1) (by decide +kernel) ?_
  refine j_iald (by decide +kernel) hr (i32_in (by decide) (by decide)) ?_
  refine j_bipush (n := 100) (by decide +kernel) ?_
  refine j_irem (by decide +kernel) (by decide) ?_
  refine j_imul (by decide +kernel) ?_
  refine j_iadd (by decide +kernel) ?_
  rw [h100, h624]
  have e1 : f (Int32.ofInt 1).toNatClampNeg = f 1 := rfl
  rw [e1]
  have e2 : (f 1 - f 1 / Int32.ofInt 100 * Int32.ofInt 100).toInt = (t : Int) := by
    rw [i32_rem hL (by decide)]
    rw [show (Int32.ofInt 100).toInt = 100 by decide]
    omega
  generalize (f 1 - f 1 / Int32.ofInt 100 * Int32.ofInt 100) = x at e2
  have e3 : (Int32.ofInt 624 + Int32.ofInt 5 * x).toInt = ((624 + 5 * t : Nat) : Int) := by
    have e : x = Int32.ofInt (t : Int) := by rw [← e2, Int32.ofInt_toInt]
    rw [e, ← Int32.ofInt_mul, ← Int32.ofInt_add]
    rw [i32_ofInt (by omega) (by omega)]
    omega
  generalize (Int32.ofInt 624 + Int32.ofInt 5 * x) = kk at e3
  have c0 := i32_at e3
  have d1 : (kk + Int32.ofInt 1).toInt = ((624 + 5 * t + 1 : Nat) : Int) := by
    rw [i32_addn e3 (by omega) (by omega)]
    omega
  have d2 : (kk + Int32.ofInt 2).toInt = ((624 + 5 * t + 2 : Nat) : Int) := by
    rw [i32_addn e3 (by omega) (by omega)]
    omega
  have d3 : (kk + Int32.ofInt 3).toInt = ((624 + 5 * t + 3 : Nat) : Int) := by
    rw [i32_addn e3 (by omega) (by omega)]
    omega
  have d4 : (kk + Int32.ofInt 4).toInt = ((624 + 5 * t + 4 : Nat) : Int) := by
    rw [i32_addn e3 (by omega) (by omega)]
    omega
  refine j_istore (i := 5) (by decide +kernel) (by decide +kernel) ?_
  -- minute
  refine j_aload_n (k4 := 0) (by decide +kernel) rfl ?_
  refine j_get (own := 12) (i := 7) (ci := 12) (f := 2) (by decide +kernel) hcls h12 ho hn2 hf ?_
  refine j_iload (i := 5) (by decide +kernel) rfl ?_
  refine j_aload_n (k4 := 0) (by decide +kernel) rfl ?_
  refine j_get (own := 12) (i := 7) (ci := 12) (f := 2) (by decide +kernel) hcls h12 ho hn2 hf ?_
  refine j_iconst (n := 0) (by decide +kernel) ?_
  refine j_iald (by decide +kernel) hr (i32_in (by decide) (by decide)) ?_
  refine j_iast (by decide +kernel) hr (i32_in (by omega) (by omega)) ?_
  rw [c0]
  -- kind
  refine j_aload_n (k4 := 0) (by decide +kernel) rfl ?_
  refine j_get (own := 12) (i := 7) (ci := 12) (f := 2) (by decide +kernel) hcls h12 (hob _) hn2 hf ?_
  refine j_iload (i := 5) (by decide +kernel) rfl ?_
  refine j_iconst (n := 1) (by decide +kernel) ?_
  refine j_iadd (by decide +kernel) ?_
  refine j_iload_n (k4 := 1) (by decide +kernel) rfl ?_
  refine j_iast (by decide +kernel) (hself _) (i32_in (by omega) (by omega)) ?_
  rw [set2, i32_at d1]
  -- start
  refine j_aload_n (k4 := 0) (by decide +kernel) rfl ?_
  refine j_get (own := 12) (i := 7) (ci := 12) (f := 2) (by decide +kernel) hcls h12 (hob _) hn2 hf ?_
  refine j_iload (i := 5) (by decide +kernel) rfl ?_
  refine j_iconst (n := 2) (by decide +kernel) ?_
  refine j_iadd (by decide +kernel) ?_
  refine j_iload_n (k4 := 2) (by decide +kernel) rfl ?_
  refine j_iast (by decide +kernel) (hself _) (i32_in (by omega) (by omega)) ?_
  rw [set2, i32_at d2]
  -- goal
  refine j_aload_n (k4 := 0) (by decide +kernel) rfl ?_
  refine j_get (own := 12) (i := 7) (ci := 12) (f := 2) (by decide +kernel) hcls h12 (hob _) hn2 hf ?_
  refine j_iload (i := 5) (by decide +kernel) rfl ?_
  refine j_iconst (n := 3) (by decide +kernel) ?_
  refine j_iadd (by decide +kernel) ?_
  refine j_iload_n (k4 := 3) (by decide +kernel) rfl ?_
  refine j_iast (by decide +kernel) (hself _) (i32_in (by omega) (by omega)) ?_
  rw [set2, i32_at d3]
  -- name
  refine j_aload_n (k4 := 0) (by decide +kernel) rfl ?_
  refine j_get (own := 12) (i := 7) (ci := 12) (f := 2) (by decide +kernel) hcls h12 (hob _) hn2 hf ?_
  refine j_iload (i := 5) (by decide +kernel) rfl ?_
  refine j_iconst (n := 4) (by decide +kernel) ?_
  refine j_iadd (by decide +kernel) ?_
  refine j_iload (i := 4) (by decide +kernel) rfl ?_
  refine j_iast (by decide +kernel) (hself _) (i32_in (by omega) (by omega)) ?_
  rw [set2, i32_at d4]
  -- one more
  refine j_aload_n (k4 := 0) (by decide +kernel) rfl ?_
  refine j_get (own := 12) (i := 7) (ci := 12) (f := 2) (by decide +kernel) hcls h12 (hob _) hn2 hf ?_
  refine j_iconst (n := 1) (by decide +kernel) ?_
  refine j_dup2 (by decide +kernel) rfl rfl ?_
  refine j_iald (by decide +kernel) (hself _) (i32_in (by decide) (by decide)) ?_
  refine j_iconst (n := 1) (by decide +kernel) ?_
  refine j_iadd (by decide +kernel) ?_
  refine j_iast (by decide +kernel) (hself _) (i32_in (by decide) (by decide)) ?_
  rw [set2]
  refine j_ret (v := none) ⟨by decide +kernel, by decide +kernel⟩ ?_ rfl
  have e5 : upd (upd (upd (upd (upd f (624 + 5 * t) (f (Int32.ofInt 0).toNatClampNeg)) (624 + 5 * t + 1) kind) (624 + 5 * t + 2) start) (624 + 5 * t + 3) goal) (624 + 5 * t + 4) name (Int32.ofInt 1).toNatClampNeg = f 1 := by
    rw [show (Int32.ofInt 1).toNatClampNeg = 1 by decide]
    simp only [upd]
    rw [if_neg (by omega), if_neg (by omega), if_neg (by omega), if_neg (by omega), if_neg (by omega)]
  rw [e5]
  exact k
end NT
