/-! exact walks: a state copied onto another one -/
section CP
variable {l : Launch} {g : jG}
def cpf (n : Nat) (f f1 : Nat → Int32) : Nat → Int32 := va_cpy f f1 0 0 n
theorem cpf_lt {n z : Nat} {f f1 : Nat → Int32} (hz : z < n) : cpf n f f1 z = f z := by
  unfold cpf va_cpy
  first
    | (rw [if_pos (by omega)]; congr 1; omega)
    | (rw [if_pos ⟨by omega, by omega⟩]; congr 1; omega)
    | (simp [hz])
/-- a cell of a state whose cells stand from b on: its shape -/
def shp (g : jG) (b : Nat) (t : aCT) (c : jC) : Prop := match t with
  | .inl a => ∃ f, c = .inl (a.1, a.2.1, f)
  | .inr o => ∃ fs, c = .inr (o.1, fs) ∧ fs.length = o.2.length ∧ ∀ (k : Nat) (t : aT), o.2[k]? = some t → (t.1 = 0 → ∃ x : Int32, fs[k]? = some (.int x)) ∧ (t.1 = 2 → fs[k]? = some (.ref (g.2.2 + (b + t.2.2.2.2))))
/-- two states, the one from bs on, the other one from bd on -/
def InC (g : jG) (h : jH) (bs bd : Nat) (S D : Nat → jC) : Prop := (∀ o t, TT_2[o]? = some t → h[bs + o]? = some (S o) ∧ shp g bs t (S o)) ∧ (∀ o t, TT_2[o]? = some t → h[bd + o]? = some (D o) ∧ shp g bd t (D o)) ∧ ∀ o o', o < 48 → o' < 48 → bs + o ≠ bd + o'
/-- (o, 0): the array o copied; (o, z): the object's field z; from 1000 on: field z - 1000 becomes 0 -/
def opC (a b : jC) (q : Nat) : jC := match a, b with
  | .inl a, .inl b => .inl (b.1, b.2.1, cpf b.2.1 a.2.2 b.2.2)
  | .inr a, .inr b => .inr (b.1, b.2.set (if 1000 ≤ q then q - 1000 else q) (if 1000 ≤ q then .int 0 else a.2.getD q .null))
  | _, c => c
def opA (S D : Nat → jC) (q : Nat × Nat) : Nat → jC := fun o => if o = q.1 then opC (S o) (D o) q.2 else D o
theorem t2_len : TT_2.length = 48 := by decide +kernel
theorem t2_lt {o : Nat} {t : aCT} (h : TT_2[o]? = some t) : o < 48 := by
  have := (List.getElem?_eq_some_iff.mp h).1
  rw [t2_len] at this
  exact this
theorem InC.op {h : jH} {bs bd : Nat} {S D : Nat → jC} {q : Nat × Nat} (hI : InC g h bs bd S D) {t : aCT} (ht : TT_2[q.1]? = some t) (hs : shp g bd t (opC (S q.1) (D q.1) q.2)) : InC g (h.set (bd + q.1) (opC (S q.1) (D q.1) q.2)) bs bd S (opA S D q) := by
  obtain ⟨h1, h2, h3⟩ := hI
  have hq := t2_lt ht
  refine ⟨fun o t' ht' => ?_, fun o t' ht' => ?_, h3⟩
  · rw [List.getElem?_set_ne (fun e => h3 o q.1 (t2_lt ht') hq e.symm)]
    exact h1 o t' ht'
  · by_cases e : o = q.1
    · subst e
      cases ht.symm.trans ht'
      unfold opA
      rw [if_pos rfl]
      exact ⟨List.getElem?_set_self (List.getElem?_eq_some_iff.mp (h2 _ _ ht).1).1, hs⟩
    · unfold opA
      rw [if_neg e, List.getElem?_set_ne (by omega)]
      exact h2 o t' ht'
theorem xc_row {h : jH} {a0 a1 n : Nat} {f f1 : Nat → Int32} (h0 : h[a0]? = some (.inl (0, n, f))) (h1 : h[a1]? = some (.inl (0, n, f1))) (hn : n ≤ 100000) : jCal l g 92 1 [.ref (g.2.2 + a0), .ref (g.2.2 + a1)] h 0 0 (fun v h' => v = none ∧ h' = h.set a1 (.inl (0, n, cpf n f f1))) := by
  have hcls : jcN 7 = (jyN 92).cls := by decide +kernel
  have en : (Int32.ofNat n).toInt = n := by rw [show Int32.ofNat n = Int32.ofInt (n : Int) from rfl]; exact i32_ofInt (by omega) (by omega)
  have ek : (Int32.ofNat n).toNatClampNeg = n := i32_at en
  have e0 : (Int32.ofInt 0).toNatClampNeg = 0 := i32_at (by decide)
  have z0 : ¬ Int32.ofInt 0 < 0 := by decide
  refine jCal_of (by decide +kernel) (show 2 ≤ jmx 92 by decide +kernel) ?_
  show J l g 92 1 0 [some (.ref (g.2.2 + a0)), some (.ref (g.2.2 + a1))] [] h 0 0 _
  refine j_aload_n (k4 := 0) (dQ (by decide +kernel)) rfl ?_
  refine j_iconst (n := 0) (dQ (by decide +kernel)) ?_
  refine j_aload_n (k4 := 1) (dQ (by decide +kernel)) rfl ?_
  refine j_iconst (n := 0) (dQ (by decide +kernel)) ?_
  refine j_aload_n (k4 := 0) (dQ (by decide +kernel)) rfl ?_
  refine j_alen (dQ (by decide +kernel)) (Or.inl rfl) h0 ?_
  refine j_aload_n (k4 := 1) (dQ (by decide +kernel)) rfl ?_
  refine j_alen (dQ (by decide +kernel)) (Or.inl rfl) h1 ?_
  refine j_mmin (own := 7) (i := 172) (dQ (by decide +kernel)) hcls (by decide +kernel) (by decide) (show 1 + (1 + (1 + (1 + 0))) ≤ 8 by decide) ?_
  rw [show (if Int32.ofNat n < Int32.ofNat n then Int32.ofNat n else Int32.ofNat n) = Int32.ofNat n from ite_self _]
  refine j_copy (own := 7) (i := 217) (dQ (by decide +kernel)) hcls (by decide +kernel) h0 h1 z0 z0 (fun q => absurd (i32_lt.mp q) (by rw [en]; show ¬ ((n : Int) < 0); omega)) (by rw [e0, ek]; omega) (by rw [e0, ek]; omega) (by decide) (by decide) ?_
  rw [e0, ek]
  exact j_ret (v := none) ⟨by decide +kernel, by decide +kernel⟩ ⟨rfl, rfl⟩ rfl
section M
variable {y d pc own : Nat} {al : List (Option Value)} {h : jH} {kc ks bs bd od : Nat} {S D : Nat → jC} {Q : Option Value → jH → Prop}
theorem c_row {i i3 ci k o2 n : Nat} {ts : List aT} {sg : List aSeg} (hd0 : decode (jbC y) pc = .ok (.aload_n 1, 1)) (hd1 : decode (jbC y) (pc + 1) = .ok (.getfield i, 3)) (hd2 : decode (jbC y) (pc + 4) = .ok (.aload_n 0, 1)) (hd3 : decode (jbC y) (pc + 5) = .ok (.getfield i, 3)) (hd4 : decode (jbC y) (pc + 8) = .ok (.invokestatic i3, 3)) (ho : jcN own = (jyN y).cls) (hf : (own, i, ci, k) ∈ jeF) (hm : (own, i3, 92) ∈ jeM) (ht : TT_2[od]? = some (.inr (ci, ts))) (hk : ts[k]? = some (2, 0, 0, 2, o2)) (ht2 : TT_2[o2]? = some (.inl (0, n, sg))) (hn : n ≤ 100000) (hcn : ∀ r, jcl[ci]? = some r → k < r.2.2) (hd : 2 ≤ d) (a0 : al[0]? = some (some (.ref (g.2.2 + (bd + od))))) (a1 : al[1]? = some (some (.ref (g.2.2 + (bs + od))))) (hI : InC g h bs bd S D)
    (kk : ∀ h', InC g h' bs bd S (opA S D (o2, 0)) → J l g y d (pc + 11) al [] h' kc ks Q) : J l g y d pc al [] h kc ks Q := by
  obtain ⟨c1, fs, e1, -, f1⟩ := hI.1 od _ ht
  obtain ⟨c2, fd, e2, -, f2⟩ := hI.2.1 od _ ht
  obtain ⟨c3, F, e3⟩ := hI.1 o2 _ ht2
  obtain ⟨c4, G, e4⟩ := hI.2.1 o2 _ ht2
  rw [e1] at c1
  rw [e2] at c2
  rw [e3] at c3
  rw [e4] at c4
  have g1 : fs[k]? = some (.ref (g.2.2 + (bs + o2))) := (f1 k _ hk).2 rfl
  have g2 : fd[k]? = some (.ref (g.2.2 + (bd + o2))) := (f2 k _ hk).2 rfl
  refine j_aload_n (k4 := 1) hd0 a1 ?_
  refine j_get hd1 ho hf c1 hcn g1 ?_
  refine j_aload_n (k4 := 0) hd2 a0 ?_
  refine j_get hd3 ho hf c2 hcn g2 ?_
  refine J.room (kc := 0 + kc) (ks := 0 + ks) (j_callS (own := own) (i := i3) (y2 := 92) (d2 := 1) (mc := 0) (ms := 0) (As := [.ref (g.2.2 + (bs + o2)), .ref (g.2.2 + (bd + o2))]) (st := []) hd4 ho hm (by decide) (by decide +kernel) (by decide +kernel) (by decide +kernel) (by decide +kernel) (show 2 = jnp 92 by decide +kernel) (by omega) (by decide) (xc_row c3 c4 hn) (fun v h1 hq => ?_)) (by omega) (by omega)
  obtain ⟨rfl, rfl⟩ := hq
  have e : (Sum.inl (0, n, cpf n F G) : jC) = opC (S o2) (D o2) 0 := by rw [e3, e4]; rfl
  rw [e]
  exact kk _ (hI.op (q := (o2, 0)) ht2 (by rw [← e]; exact ⟨_, rfl⟩))
theorem c_fld {i ci k : Nat} {ts : List aT} {r : vw_C} (hd0 : decode (jbC y) pc = .ok (.aload_n 0, 1)) (hd1 : decode (jbC y) (pc + 1) = .ok (.aload_n 1, 1)) (hd2 : decode (jbC y) (pc + 2) = .ok (.getfield i, 3)) (hd3 : decode (jbC y) (pc + 5) = .ok (.putfield i, 3)) (ho : jcN own = (jyN y).cls) (hf : (own, i, ci, k) ∈ jeF) (ht : TT_2[od]? = some (.inr (ci, ts))) {lo hi : Int} (hk : ts[k]? = some (0, lo, hi, 0, 0)) (hr : jcl[ci]? = some r) (hcn : k < r.2.2) (hfin : (r.2.1 k).2.2.2 = false) (hty : parseFieldDescriptor (r.2.1 k).2.2.1 = some .int) (hk2 : k < 1000) (a0 : al[0]? = some (some (.ref (g.2.2 + (bd + od))))) (a1 : al[1]? = some (some (.ref (g.2.2 + (bs + od))))) (hI : InC g h bs bd S D)
    (kk : ∀ h', InC g h' bs bd S (opA S D (od, k)) → J l g y d (pc + 8) al [] h' kc ks Q) : J l g y d pc al [] h kc ks Q := by
  obtain ⟨c1, fs, e1, l1, f1⟩ := hI.1 od _ ht
  obtain ⟨c2, fd, e2, l2, f2⟩ := hI.2.1 od _ ht
  rw [e1] at c1
  rw [e2] at c2
  obtain ⟨x, g1⟩ := (f1 k _ hk).1 rfl
  have hkl : k < fd.length := by
    rw [l2]
    exact (List.getElem?_eq_some_iff.mp hk).1
  refine j_aload_n (k4 := 0) hd0 a0 ?_
  refine j_aload_n (k4 := 1) hd1 a1 ?_
  refine j_get hd2 ho hf c1 (fun r' hr' => by cases hr.symm.trans hr'; exact hcn) g1 ?_
  refine j_put (ty := .int) hd3 ho hf c2 hr hcn hkl hfin hty rfl rfl ?_
  have e : (Sum.inr (ci, fd.set k (.int x)) : jC) = opC (S od) (D od) k := by
    rw [e1, e2]
    show _ = Sum.inr (ci, fd.set (if 1000 ≤ k then k - 1000 else k) (if 1000 ≤ k then .int 0 else fs.getD k .null))
    rw [if_neg (by omega), if_neg (by omega), List.getD_eq_getElem?_getD, g1]
    rfl
  rw [e]
  refine kk _ (hI.op (q := (od, k)) ht (by
    rw [← e]
    refine ⟨_, rfl, by rw [List.length_set]; exact l2, fun k' t' hk' => ?_⟩
    by_cases h2 : k = k'
    · subst h2
      rw [hk] at hk'
      cases hk'
      refine ⟨fun _ => ⟨x, List.getElem?_set_self hkl⟩, fun q => absurd (show (0 : Nat) = 2 from q) (by decide)⟩
    · rw [List.getElem?_set_ne h2]
      exact f2 k' t' hk'))
/-- the boolean field k becomes 0 -/
theorem c_zero {i ci k : Nat} {ts : List aT} {r : vw_C} (hd0 : decode (jbC y) pc = .ok (.aload_n 0, 1)) (hd1 : decode (jbC y) (pc + 1) = .ok (.iconst 0, 1)) (hd3 : decode (jbC y) (pc + 2) = .ok (.putfield i, 3)) (ho : jcN own = (jyN y).cls) (hf : (own, i, ci, k) ∈ jeF) (ht : TT_2[od]? = some (.inr (ci, ts))) {lo hi : Int} (hk : ts[k]? = some (0, lo, hi, 0, 0)) (hr : jcl[ci]? = some r) (hcn : k < r.2.2) (hfin : (r.2.1 k).2.2.2 = false) (hty : parseFieldDescriptor (r.2.1 k).2.2.1 = some .boolean) (a0 : al[0]? = some (some (.ref (g.2.2 + (bd + od))))) (hI : InC g h bs bd S D)
    (kk : ∀ h', InC g h' bs bd S (opA S D (od, 1000 + k)) → J l g y d (pc + 5) al [] h' kc ks Q) : J l g y d pc al [] h kc ks Q := by
  obtain ⟨c1, fs, e1, l1, f1⟩ := hI.1 od _ ht
  obtain ⟨c2, fd, e2, l2, f2⟩ := hI.2.1 od _ ht
  rw [e2] at c2
  have hkl : k < fd.length := by
    rw [l2]
    exact (List.getElem?_eq_some_iff.mp hk).1
  refine j_aload_n (k4 := 0) hd0 a0 ?_
  refine j_iconst (n := 0) hd1 ?_
  refine j_put (ty := .boolean) hd3 ho hf c2 hr hcn hkl hfin hty rfl rfl ?_
  have e : (Sum.inr (ci, fd.set k (.int (Int32.ofInt 0))) : jC) = opC (S od) (D od) (1000 + k) := by
    rw [e1, e2]
    show _ = Sum.inr (ci, fd.set (if 1000 ≤ 1000 + k then 1000 + k - 1000 else 1000 + k) (if 1000 ≤ 1000 + k then .int 0 else fs.getD (1000 + k) .null))
    rw [if_pos (by omega), if_pos (by omega), show 1000 + k - 1000 = k by omega]
    rfl
  rw [e]
  refine kk _ (hI.op (q := (od, 1000 + k)) ht (by
    rw [← e]
    refine ⟨_, rfl, by rw [List.length_set]; exact l2, fun k' t' hk' => ?_⟩
    by_cases h2 : k = k'
    · subst h2
      rw [hk] at hk'
      cases hk'
      refine ⟨fun _ => ⟨_, List.getElem?_set_self hkl⟩, fun q => absurd (show (0 : Nat) = 2 from q) (by decide)⟩
    · rw [List.getElem?_set_ne h2]
      exact f2 k' t' hk'))
/-- a part's copyFrom -/
def cxP (g : jG) (bs bd : Nat) (S D : Nat → jC) (ops : List (Nat × Nat)) (v : Option Value) (h' : jH) : Prop := v = none ∧ InC g h' bs bd S (ops.foldl (opA S) D)
theorem c_sub {i i3 ci k o2 y2 d2 : Nat} {ops : List (Nat × Nat)} {ci2 : Nat} {ts ts2 : List aT} (hd0 : decode (jbC y) pc = .ok (.aload_n 0, 1)) (hd1 : decode (jbC y) (pc + 1) = .ok (.getfield i, 3)) (hd2 : decode (jbC y) (pc + 4) = .ok (.aload_n 1, 1)) (hd3 : decode (jbC y) (pc + 5) = .ok (.getfield i, 3)) (hd4 : decode (jbC y) (pc + 8) = .ok (.invokevirtual i3, 3)) (ho : jcN own = (jyN y).cls) (hf : (own, i, ci, k) ∈ jeF) (hm : (own, i3, y2) ∈ jeM) (hy : y2 < 315) (hyC : y2 ∈ jeC) (hyS : y2 ∈ jeS) (hyK : y2 ∈ jeK) (hk0 : jkd y2 = 0) (hyI : y2 ∈ jeI) (hnp : 1 = jnp y2) (ht : TT_2[od]? = some (.inr (ci, ts))) (hk : ts[k]? = some (2, 0, 0, 2, o2)) (ht2 : TT_2[o2]? = some (.inr (ci2, ts2))) (hcl : ∀ r, jcl[ci2]? = some r → r.1 = (jyN y2).cls) (hcn : ∀ r, jcl[ci]? = some r → k < r.2.2) (hd : d2 + 1 ≤ d) (a0 : al[0]? = some (some (.ref (g.2.2 + (bd + od))))) (a1 : al[1]? = some (some (.ref (g.2.2 + (bs + od))))) (hI : InC g h bs bd S D)
    (hc : jCal l g y2 d2 [.ref (g.2.2 + (bd + o2)), .ref (g.2.2 + (bs + o2))] h 0 0 (cxP g bs bd S D ops))
    (kk : ∀ h', InC g h' bs bd S (ops.foldl (opA S) D) → J l g y d (pc + 11) al [] h' kc ks Q) : J l g y d pc al [] h kc ks Q := by
  obtain ⟨c1, fs, e1, -, f1⟩ := hI.1 od _ ht
  obtain ⟨c2, fd, e2, -, f2⟩ := hI.2.1 od _ ht
  obtain ⟨c4, G, e4, -⟩ := hI.2.1 o2 _ ht2
  rw [e1] at c1
  rw [e2] at c2
  rw [e4] at c4
  have g1 : fs[k]? = some (.ref (g.2.2 + (bs + o2))) := (f1 k _ hk).2 rfl
  have g2 : fd[k]? = some (.ref (g.2.2 + (bd + o2))) := (f2 k _ hk).2 rfl
  refine j_aload_n (k4 := 0) hd0 a0 ?_
  refine j_get hd1 ho hf c2 hcn g2 ?_
  refine j_aload_n (k4 := 1) hd2 a1 ?_
  refine j_get hd3 ho hf c1 hcn g1 ?_
  refine J.room (kc := 0 + kc) (ks := 0 + ks) (j_callV (own := own) (i := i3) (y2 := y2) (d2 := d2) (mc := 0) (ms := 0) (a := bd + o2) (As := [.ref (g.2.2 + (bs + o2))]) (st := []) hd4 ho hm hy hyC hyS hyK hk0 hyI hnp hd (by decide) c4 hcl hc (fun v h1 hq => ?_)) (by omega) (by omega)
  obtain ⟨rfl, hq⟩ := hq
  exact kk _ hq
end M
end CP
