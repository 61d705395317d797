/-! stores of locals, branches -/
def jpre (al : List (Option Value)) (i : Nat) : List (Option Value) := match i with | 0 => al | k + 1 => match al[k]? with | some (some w) => if w.category = 2 then al.set k none else al | _ => al
def apre (loc : List (Option aV)) (i : Nat) : List (Option aV) := match i with | 0 => loc | k + 1 => match loc[k]? with | some (some w) => bif Nat.beq w.1 1 then loc.set k none else loc | _ => loc
theorem jst1_eq {al : List (Option Value)} {i : Nat} {v : Value} : jst1 al i v = (jpre al i).set i (some v) := rfl
theorem jst2_eq {al : List (Option Value)} {i : Nat} {v : Value} : jst2 al i v = ((jpre al i).set (i + 1) none).set i (some v) := rfl
theorem aSt1_eq {loc : List (Option aV)} {i : Nat} {v : aV} : aSt1 loc i v = (apre loc i).set i (some v) := rfl
theorem aSt2_eq {loc : List (Option aV)} {i : Nat} {v : aV} : aSt2 loc i v = ((apre loc i).set (i + 1) none).set i (some v) := rfl
theorem jpre_len {al : List (Option Value)} {i : Nat} : (jpre al i).length = al.length := by
  unfold jpre
  split
  · rfl
  · split
    · split
      · rw [List.length_set]
      · rfl
    · rfl
theorem jpre_keep {al : List (Option Value)} {i j : Nat} {w : Value} (h : al[j]? = some (some w)) (hn : ¬ (j + 1 = i ∧ w.category = 2)) : (jpre al i)[j]? = some (some w) := by
  unfold jpre
  split
  · exact h
  · next k =>
    split
    · next u hu =>
      split
      · next hc =>
        by_cases hj : k = j
        · subst hj
          rw [hu] at h
          cases h
          exact absurd ⟨rfl, hc⟩ hn
        · rw [List.getElem?_set_ne hj]; exact h
      · exact h
    · exact h
theorem apre_get {loc : List (Option aV)} {i j : Nat} {u : aV} (h : (apre loc i)[j]? = some (some u)) : loc[j]? = some (some u) ∧ ¬ (j + 1 = i ∧ Nat.beq u.1 1 = true) := by
  unfold apre at h
  split at h
  · exact ⟨h, by omega⟩
  · next k =>
    split at h
    · next w hw =>
      cases hc : Nat.beq w.1 1 with
      | true =>
        rw [hc] at h
        simp only [cond_true] at h
        by_cases hj : k = j
        · subst hj
          rw [List.getElem?_set_self', hw] at h
          cases h
        · rw [List.getElem?_set_ne hj] at h
          exact ⟨h, by omega⟩
      | false =>
        rw [hc] at h
        simp only [cond_false] at h
        refine ⟨h, fun q => ?_⟩
        have : j = k := by omega
        subst this
        rw [hw] at h
        cases h
        rw [hc] at q
        exact absurd q.2 (by decide)
    · next hw =>
      refine ⟨h, fun q => ?_⟩
      have : j = k := by omega
      subst this
      exact hw u h
theorem vOK.cat2 {g : jG} {vs : List Int} {bk : aB} {v : aV} {w : Value} (h : vOK g vs bk v w) (hc : w.category = 2) : Nat.beq v.1 1 = true := by
  have h1 := h.cat
  rw [hc] at h1
  cases hb : Nat.beq v.1 1 with
  | true => rfl
  | false => rw [hb] at h1; cases h1
theorem lo_st1 {g : jG} {vs : List Int} {bk : aB} {loc : List (Option aV)} {al : List (Option Value)} {i : Nat} {v : aV} {w : Value} (h : loOK g vs bk loc al) (hv : vOK g vs bk v w) (hi : i < al.length) : loOK g vs bk (aSt1 loc i v) (jst1 al i w) := by
  intro j u hu
  rw [aSt1_eq] at hu
  rw [jst1_eq]
  by_cases hj : i = j
  · subst hj
    rw [List.getElem?_set_self'] at hu
    have huv : u = v := by
      revert hu
      generalize (apre loc i)[i]? = o
      intro hu
      cases o with
      | none => cases hu
      | some o => simpa using hu.symm
    subst huv
    exact ⟨w, List.getElem?_set_self (by rw [jpre_len]; exact hi), hv⟩
  · rw [List.getElem?_set_ne hj] at hu
    obtain ⟨h1, h2⟩ := apre_get hu
    obtain ⟨w', h3, h4⟩ := h j u h1
    exact ⟨w', by rw [List.getElem?_set_ne hj]; exact jpre_keep h3 (fun q => h2 ⟨q.1, h4.cat2 q.2⟩), h4⟩
theorem lo_st2 {g : jG} {vs : List Int} {bk : aB} {loc : List (Option aV)} {al : List (Option Value)} {i : Nat} {v : aV} {w : Value} (h : loOK g vs bk loc al) (hv : vOK g vs bk v w) (hi : i < al.length) : loOK g vs bk (aSt2 loc i v) (jst2 al i w) := by
  intro j u hu
  rw [aSt2_eq] at hu
  rw [jst2_eq]
  by_cases hj : i = j
  · subst hj
    rw [List.getElem?_set_self'] at hu
    have huv : u = v := by
      revert hu
      generalize ((apre loc i).set (i + 1) none)[i]? = o
      intro hu
      cases o with
      | none => cases hu
      | some o => simpa using hu.symm
    subst huv
    exact ⟨w, List.getElem?_set_self (by rw [List.length_set, jpre_len]; exact hi), hv⟩
  · rw [List.getElem?_set_ne hj] at hu
    by_cases hj1 : i + 1 = j
    · subst hj1
      rw [List.getElem?_set_self'] at hu
      exfalso
      revert hu
      generalize (apre loc i)[i + 1]? = o
      intro hu
      cases o with
      | none => cases hu
      | some o => simp at hu
    · rw [List.getElem?_set_ne hj1] at hu
      obtain ⟨h1, h2⟩ := apre_get hu
      obtain ⟨w', h3, h4⟩ := h j u h1
      exact ⟨w', by rw [List.getElem?_set_ne hj, List.getElem?_set_ne hj1]; exact jpre_keep h3 (fun q => h2 ⟨q.1, h4.cat2 q.2⟩), h4⟩
section ST2
variable {TT : List (List aCT)} {g : jG} {EI : aB → jH → Prop} {W : List aR} {bk0 : aB} {h0 : jH} {ev : List Int} {y : Nat} {vs : List Int} {bk : aB} {al : List (Option Value)} {st : List Value} {h : jH} {env : List aE} {fc : List aF} {loc : List (Option aV)} {stk : List aV} {ov : List aO} {pr : List Nat}
variable {l : Launch} {d pc kc ks : Nat} {Q : Option Value → jH → Prop}
theorem PT.st1 {i : Nat} {v : aV} {w : Value} (hp : PT TT g EI W bk0 h0 ev y vs bk al st h (env, fc, loc, stk, ov, pr)) (hv : vOK g vs bk v w) (hi : i < jmx y) : PT TT g EI W bk0 h0 ev y vs bk (jst1 al i w) st h (env, fc, aSt1 loc i v, stk, ov, pr) :=
  ⟨⟨hp.1.1, hp.1.2.1, hp.1.2.2.1, lo_st1 hp.1.2.2.2.1 hv (by rw [hp.2.2.1]; exact hi), hp.1.2.2.2.2⟩, hp.2.1, by rw [jst1_eq, List.length_set, jpre_len]; exact hp.2.2.1, hp.2.2.2⟩
theorem PT.st2 {i : Nat} {v : aV} {w : Value} (hp : PT TT g EI W bk0 h0 ev y vs bk al st h (env, fc, loc, stk, ov, pr)) (hv : vOK g vs bk v w) (hi : i < jmx y) : PT TT g EI W bk0 h0 ev y vs bk (jst2 al i w) st h (env, fc, aSt2 loc i v, stk, ov, pr) :=
  ⟨⟨hp.1.1, hp.1.2.1, hp.1.2.2.1, lo_st2 hp.1.2.2.2.1 hv (by rw [hp.2.2.1]; exact hi), hp.1.2.2.2.2⟩, hp.2.1, by rw [jst2_eq, List.length_set, List.length_set, jpre_len]; exact hp.2.2.1, hp.2.2.2⟩
theorem st_istore_n {k4 : Fin 4} {v : aV} (hd : decode (jbC y) pc = .ok (.istore_n k4, 1)) (hv : Nat.beq v.1 0 = true) (hi : (k4 : Nat) < jmx y) (hp : PT TT g EI W bk0 h0 ev y vs bk al st h (env, fc, loc, v :: stk, ov, pr)) (k : Go TT g EI W bk0 h0 ev y l d Q (pc + 1) (env, fc, aSt1 loc k4 v, stk, ov, pr) kc ks) : J l g y d pc al st h kc ks Q := by
  obtain ⟨w, s1, rfl, q1, hp1⟩ := hp.pop
  obtain ⟨x, rfl, hx⟩ := q1.int hv
  exact j_istore_n hd hi (k _ _ _ _ _ (hp1.st1 q1 hi))
theorem st_istore {i : Nat} {v : aV} (hd : decode (jbC y) pc = .ok (.istore i, 2)) (hv : Nat.beq v.1 0 = true) (hi : i < jmx y) (hp : PT TT g EI W bk0 h0 ev y vs bk al st h (env, fc, loc, v :: stk, ov, pr)) (k : Go TT g EI W bk0 h0 ev y l d Q (pc + 2) (env, fc, aSt1 loc i v, stk, ov, pr) kc ks) : J l g y d pc al st h kc ks Q := by
  obtain ⟨w, s1, rfl, q1, hp1⟩ := hp.pop
  obtain ⟨x, rfl, hx⟩ := q1.int hv
  exact j_istore hd hi (k _ _ _ _ _ (hp1.st1 q1 hi))
theorem st_astore_n {k4 : Fin 4} {v : aV} (hd : decode (jbC y) pc = .ok (.astore_n k4, 1)) (hv : Nat.ble 2 v.1 = true) (hi : (k4 : Nat) < jmx y) (hp : PT TT g EI W bk0 h0 ev y vs bk al st h (env, fc, loc, v :: stk, ov, pr)) (k : Go TT g EI W bk0 h0 ev y l d Q (pc + 1) (env, fc, aSt1 loc k4 v, stk, ov, pr) kc ks) : J l g y d pc al st h kc ks Q := by
  obtain ⟨w, s1, rfl, q1, hp1⟩ := hp.pop
  rcases q1.ge2 hv with rfl | ⟨a, rfl⟩
  · exact j_astore_nN hd hi (k _ _ _ _ _ (hp1.st1 q1 hi))
  · exact j_astore_n hd hi (k _ _ _ _ _ (hp1.st1 q1 hi))
theorem st_astore {i : Nat} {v : aV} (hd : decode (jbC y) pc = .ok (.astore i, 2)) (hv : Nat.ble 2 v.1 = true) (hi : i < jmx y) (hp : PT TT g EI W bk0 h0 ev y vs bk al st h (env, fc, loc, v :: stk, ov, pr)) (k : Go TT g EI W bk0 h0 ev y l d Q (pc + 2) (env, fc, aSt1 loc i v, stk, ov, pr) kc ks) : J l g y d pc al st h kc ks Q := by
  obtain ⟨w, s1, rfl, q1, hp1⟩ := hp.pop
  rcases q1.ge2 hv with rfl | ⟨a, rfl⟩
  · exact j_astoreN hd hi (k _ _ _ _ _ (hp1.st1 q1 hi))
  · exact j_astore hd hi (k _ _ _ _ _ (hp1.st1 q1 hi))
theorem st_lstore_n {k4 : Fin 4} {v : aV} (hd : decode (jbC y) pc = .ok (.lstore_n k4, 1)) (hv : Nat.beq v.1 1 = true) (hi : (k4 : Nat) + 1 < jmx y) (hp : PT TT g EI W bk0 h0 ev y vs bk al st h (env, fc, loc, v :: stk, ov, pr)) (k : Go TT g EI W bk0 h0 ev y l d Q (pc + 1) (env, fc, aSt2 loc k4 v, stk, ov, pr) kc ks) : J l g y d pc al st h kc ks Q := by
  obtain ⟨w, s1, rfl, q1, hp1⟩ := hp.pop
  obtain ⟨x, rfl, hx⟩ := q1.long hv
  exact j_lstore_n hd hi (k _ _ _ _ _ (hp1.st2 q1 (by omega)))
theorem st_lstore {i : Nat} {v : aV} (hd : decode (jbC y) pc = .ok (.lstore i, 2)) (hv : Nat.beq v.1 1 = true) (hi : i + 1 < jmx y) (hp : PT TT g EI W bk0 h0 ev y vs bk al st h (env, fc, loc, v :: stk, ov, pr)) (k : Go TT g EI W bk0 h0 ev y l d Q (pc + 2) (env, fc, aSt2 loc i v, stk, ov, pr) kc ks) : J l g y d pc al st h kc ks Q := by
  obtain ⟨w, s1, rfl, q1, hp1⟩ := hp.pop
  obtain ⟨x, rfl, hx⟩ := q1.long hv
  exact j_lstore hd hi (k _ _ _ _ _ (hp1.st2 q1 (by omega)))
/-- a new id that stands nowhere yet -/
theorem PT.fresh {e : aE} {z : Int} (hp : PT TT g EI W bk0 h0 ev y vs bk al st h (env, fc, loc, stk, ov, pr)) (he : eVal vs e z) : PT TT g EI W bk0 h0 ev y (vs ++ [z]) bk al st h (env ++ [e], fc, loc, stk, ov, pr) ∧ (vs ++ [z])[env.length]? = some z := by
  obtain ⟨⟨a1, a2, a3, a4, a5, a6, a7⟩, hh, hl, hq⟩ := hp
  exact ⟨⟨⟨a1.push he.1, a2.push a1.1 (fun F q => fev_app (he.2.1 F q)) he.2.2.app, a3.app, a4.app, a5.app, a6.app, a7⟩, hh, hl, fun i z q => getE_app (hq i z q)⟩, by rw [a1.1]; simp⟩
theorem st_iinc {i : Nat} {n : Int} {v : aV} {e : aE} (hd : decode (jbC y) pc = .ok (.iinc i n, 3)) (hi : i < jmx y) (hn1 : -32768 ≤ n) (hn2 : n ≤ 32767) (hl : loc[i]? = some (some v)) (hv : Nat.beq v.1 0 = true) (he : ∀ x : Int32, vs[v.2.1]? = some x.toInt → eVal vs e (x + Int32.ofInt n).toInt) (hp : PT TT g EI W bk0 h0 ev y vs bk al st h (env, fc, loc, stk, ov, pr)) (k : Go TT g EI W bk0 h0 ev y l d Q (pc + 3) (env ++ [e], fc, aSt1 loc i (0, env.length, 0), stk, ov, pr) kc ks) : J l g y d pc al st h kc ks Q := by
  obtain ⟨w, h1, h2⟩ := hp.getL hl
  obtain ⟨x, rfl, hx⟩ := h2.int hv
  obtain ⟨hp2, hz⟩ := hp.fresh (he x hx)
  exact j_iinc hd hi h1 (k _ _ _ _ _ (hp2.st1 (v := (0, env.length, 0)) (w := .int (x + Int32.ofInt n)) ⟨_, rfl, hz⟩ hi))
theorem iinc_v {i : Nat} {n : Int} {a : Int × Int} (h : envOK vs env fc) (hn1 : -32768 ≤ n) (hn2 : n ≤ 32767) (he : aiv env fc i = some a) (h1 : (-2147483648 : Int) ≤ a.1 + n) (h2 : a.2 + n ≤ (2147483647 : Int)) : ∀ x : Int32, vs[i]? = some x.toInt → eVal vs (eNew (a.1 + n) (a.2 + n) (some (fadd 1 (lin env i) (fcon n)))) (x + Int32.ofInt n).toInt := by
  intro x hx
  have b := aiv_ok h.1 h.2.1 h.2.2 he hx
  have hn : (Int32.ofInt n).toInt = n := i32_ofInt (by omega) (by omega)
  rw [i32_add (by rw [hn]; omega) (by rw [hn]; omega), hn]
  exact eVal.fm (by omega) (by omega) (fadd1 (lin_ok h.2.1 hx))
theorem j_icmp {c : ClassFile.Cond} {a b : Int32} {off : Int} {tgt : Nat} (hd : decode (jbC y) pc = .ok (.if_icmp c off, 3)) (ht : (pc : Int) + off = (tgt : Int)) (kt : cHolds c (a.toInt - b.toInt) → J l g y d tgt al st h kc ks Q) (kf : ¬ cHolds c (a.toInt - b.toInt) → J l g y d (pc + 3) al st h kc ks Q) : J l g y d pc al (.int b :: .int a :: st) h kc ks Q := by
  cases c with
  | eq => exact j_icmp_eq hd ht (fun q => kt (by rw [q]; show _ = _; omega)) (fun q => kf (fun z => q (Int32.toInt_inj.mp (by have : _ - _ = _ := z; omega))))
  | ne => exact j_icmp_ne hd ht (fun q => kt (fun z => q (Int32.toInt_inj.mp (by omega)))) (fun q => kf (fun z => q (fun e => z (by rw [e]; omega))))
  | lt => exact j_icmp_lt hd ht (fun q => kt (by have := Int32.lt_iff_toInt_lt.mp q; show _ < _; omega)) (fun q => kf (fun z => q (Int32.lt_iff_toInt_lt.mpr (by have : _ < _ := z; omega))))
  | ge => exact j_icmp_ge hd ht (fun q => kt (by have := Int32.le_iff_toInt_le.mp q; show _ ≤ _; omega)) (fun q => kf (fun z => q (Int32.le_iff_toInt_le.mpr (by have : _ ≤ _ := z; omega))))
  | gt => exact j_icmp_gt hd ht (fun q => kt (by have := Int32.lt_iff_toInt_lt.mp q; show _ < _; omega)) (fun q => kf (fun z => q (Int32.lt_iff_toInt_lt.mpr (by have : _ < _ := z; omega))))
  | le => exact j_icmp_le hd ht (fun q => kt (by have := Int32.le_iff_toInt_le.mp q; show _ ≤ _; omega)) (fun q => kf (fun z => q (Int32.le_iff_toInt_le.mpr (by have : _ ≤ _ := z; omega))))
theorem i32z : (0 : Int32).toInt = 0 := rfl
theorem j_ifc {c : ClassFile.Cond} {a : Int32} {off : Int} {tgt : Nat} (hd : decode (jbC y) pc = .ok (.ifCond c off, 3)) (ht : (pc : Int) + off = (tgt : Int)) (kt : cHolds c a.toInt → J l g y d tgt al st h kc ks Q) (kf : ¬ cHolds c a.toInt → J l g y d (pc + 3) al st h kc ks Q) : J l g y d pc al (.int a :: st) h kc ks Q := by
  cases c with
  | eq => exact j_if_eq hd ht (fun q => kt (by rw [q]; rfl)) (fun q => kf (fun z => q (Int32.toInt_inj.mp z)))
  | ne => exact j_if_ne hd ht (fun q => kt (fun z => q (Int32.toInt_inj.mp z))) (fun q => kf (fun z => q (fun e => z (by rw [e]; rfl))))
  | lt => exact j_if_lt hd ht (fun q => kt (by have := Int32.lt_iff_toInt_lt.mp q; rw [i32z] at this; exact this)) (fun q => kf (fun z => q (Int32.lt_iff_toInt_lt.mpr (by rw [i32z]; exact z))))
  | ge => exact j_if_ge hd ht (fun q => kt (by have := Int32.le_iff_toInt_le.mp q; rw [i32z] at this; exact this)) (fun q => kf (fun z => q (Int32.le_iff_toInt_le.mpr (by rw [i32z]; exact z))))
  | gt => exact j_if_gt hd ht (fun q => kt (by have := Int32.lt_iff_toInt_lt.mp q; rw [i32z] at this; exact this)) (fun q => kf (fun z => q (Int32.lt_iff_toInt_lt.mpr (by rw [i32z]; exact z))))
  | le => exact j_if_le hd ht (fun q => kt (by have := Int32.le_iff_toInt_le.mp q; rw [i32z] at this; exact this)) (fun q => kf (fun z => q (Int32.le_iff_toInt_le.mpr (by rw [i32z]; exact z))))
/-- all of these ways go on -/
def GoA (TT : List (List aCT)) (g : jG) (EI : aB → jH → Prop) (W : List aR) (bk0 : aB) (h0 : jH) (ev : List Int) (y : Nat) (l : Launch) (d : Nat) (Q : Option Value → jH → Prop) (L : List (Nat × aS × Nat × Nat)) : Prop := ∀ r ∈ L, Go TT g EI W bk0 h0 ev y l d Q r.1 r.2.1 r.2.2.1 r.2.2.2
theorem tgtN_ok {off : Int} (h : 0 ≤ (pc : Int) + off) : (pc : Int) + off = (tgtN pc off : Int) := by unfold tgtN; omega
theorem st_icmp {c : ClassFile.Cond} {off : Int} {v w : aV} (hd : decode (jbC y) pc = .ok (.if_icmp c off, 3)) (ht : 0 ≤ (pc : Int) + off) (hv : Nat.beq v.1 0 = true) (hw : Nat.beq w.1 0 = true) (hp : PT TT g EI W bk0 h0 ev y vs bk al st h (env, fc, loc, v :: w :: stk, ov, pr))
    (k : GoA TT g EI W bk0 h0 ev y l d Q (aBr (cAsm env fc c (fadd (-1) (lin env w.2.1) (lin env v.2.1))) (tgtN pc off) loc stk ov pr kc ks ++ aBr (cAsm env fc (cNeg c) (fadd (-1) (lin env w.2.1) (lin env v.2.1))) (pc + 3) loc stk ov pr kc ks)) : J l g y d pc al st h kc ks Q := by
  obtain ⟨w1, s1, rfl, q1, hp1⟩ := hp.pop
  obtain ⟨w2, s2, rfl, q2, hp2⟩ := hp1.pop
  obtain ⟨b, rfl, hb⟩ := q1.int hv
  obtain ⟨a, rfl, ha⟩ := q2.int hw
  have hF : fev vs (fadd (-1) (lin env w.2.1) (lin env v.2.1)) = some (a.toInt - b.toInt) := by rw [fadd_ok (lin_ok hp2.ee.2.1 ha) (lin_ok hp2.ee.2.1 hb)]; congr 1; omega
  refine j_icmp hd (tgtN_ok ht) (fun q => ?_) (fun q => ?_)
  · obtain ⟨r, g1, g2⟩ := cAsm_ok hp2.ee hF q
    exact k (tgtN pc off, (r.1, r.2, loc, stk, ov, pr), kc, ks) (List.mem_append_left _ (by rw [g1]; exact List.mem_cons_self)) _ _ _ _ _ (hp2.setE g2)
  · obtain ⟨r, g1, g2⟩ := cAsm_ok hp2.ee hF (cNeg_ok q)
    exact k (pc + 3, (r.1, r.2, loc, stk, ov, pr), kc, ks) (List.mem_append_right _ (by rw [g1]; exact List.mem_cons_self)) _ _ _ _ _ (hp2.setE g2)
theorem st_ifc {c : ClassFile.Cond} {off : Int} {v : aV} (hd : decode (jbC y) pc = .ok (.ifCond c off, 3)) (ht : 0 ≤ (pc : Int) + off) (hv : Nat.beq v.1 0 = true) (hp : PT TT g EI W bk0 h0 ev y vs bk al st h (env, fc, loc, v :: stk, ov, pr))
    (k : GoA TT g EI W bk0 h0 ev y l d Q (aBr (tAsm env fc c v.2.1) (tgtN pc off) loc stk ov pr kc ks ++ aBr (tAsm env fc (cNeg c) v.2.1) (pc + 3) loc stk ov pr kc ks)) : J l g y d pc al st h kc ks Q := by
  obtain ⟨w1, s1, rfl, q1, hp1⟩ := hp.pop
  obtain ⟨a, rfl, ha⟩ := q1.int hv
  refine j_ifc hd (tgtN_ok ht) (fun q => ?_) (fun q => ?_)
  · obtain ⟨r, g1, g2⟩ := tAsm_ok hp1.ee ha q
    exact k (tgtN pc off, (r.1, r.2, loc, stk, ov, pr), kc, ks) (List.mem_append_left _ (by rw [g1]; exact List.mem_cons_self)) _ _ _ _ _ (hp1.setE g2)
  · obtain ⟨r, g1, g2⟩ := tAsm_ok hp1.ee ha (cNeg_ok q)
    exact k (pc + 3, (r.1, r.2, loc, stk, ov, pr), kc, ks) (List.mem_append_right _ (by rw [g1]; exact List.mem_cons_self)) _ _ _ _ _ (hp1.setE g2)
end ST2
