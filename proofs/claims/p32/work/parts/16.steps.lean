
section ST
variable {TT : List (List aCT)} {g : jG} {EI : aB → jH → Prop} {W : List aR} {bk0 : aB} {h0 : jH} {ev : List Int} {y : Nat} {vs : List Int} {bk : aB} {al : List (Option Value)} {st : List Value} {h : jH} {env : List aE} {fc : List aF} {loc : List (Option aV)} {stk : List aV} {ov : List aO} {pr : List Nat}
theorem PT.push {k : Nat} {e : aE} {z : Int} {w : Value} (hp : PT TT g EI W bk0 h0 ev y vs bk al st h (env, fc, loc, stk, ov, pr)) (he : eVal vs e z) (hw : (k = 0 ∧ ∃ x : Int32, w = .int x ∧ x.toInt = z) ∨ (k = 1 ∧ ∃ x : Int64, w = .long x ∧ x.toInt = z)) : PT TT g EI W bk0 h0 ev y (vs ++ [z]) bk al (w :: st) h (env ++ [e], fc, loc, (k, env.length, 0) :: stk, ov, pr) :=
  ⟨gOK.push hp.1 he.1 he.2.1 he.2.2 hw, hp.2.1, hp.2.2.1, fun i z q => getE_app (hp.2.2.2 i z q)⟩
theorem PT.push32 {e : aE} {x : Int32} (hp : PT TT g EI W bk0 h0 ev y vs bk al st h (env, fc, loc, stk, ov, pr)) (he : eVal vs e x.toInt) : PT TT g EI W bk0 h0 ev y (vs ++ [x.toInt]) bk al (.int x :: st) h (env ++ [e], fc, loc, (0, env.length, 0) :: stk, ov, pr) := hp.push he (Or.inl ⟨rfl, x, rfl, rfl⟩)
theorem PT.push64 {e : aE} {x : Int64} (hp : PT TT g EI W bk0 h0 ev y vs bk al st h (env, fc, loc, stk, ov, pr)) (he : eVal vs e x.toInt) : PT TT g EI W bk0 h0 ev y (vs ++ [x.toInt]) bk al (.long x :: st) h (env ++ [e], fc, loc, (1, env.length, 0) :: stk, ov, pr) := hp.push he (Or.inr ⟨rfl, x, rfl, rfl⟩)
theorem PT.pop {v : aV} (hp : PT TT g EI W bk0 h0 ev y vs bk al st h (env, fc, loc, v :: stk, ov, pr)) : ∃ w st', st = w :: st' ∧ vOK g vs bk v w ∧ PT TT g EI W bk0 h0 ev y vs bk al st' h (env, fc, loc, stk, ov, pr) := by
  obtain ⟨⟨a1, a2, a3, a4, a5, a6, a7⟩, hh⟩ := hp
  match st, a5 with
  | [], a5 => exact absurd a5 id
  | w :: st', a5 => exact ⟨w, st', rfl, a5.1, ⟨a1, a2, a3, a4, a5.2, a6, a7⟩, hh⟩
theorem PT.put {v : aV} {w : Value} (hp : PT TT g EI W bk0 h0 ev y vs bk al st h (env, fc, loc, stk, ov, pr)) (hv : vOK g vs bk v w) : PT TT g EI W bk0 h0 ev y vs bk al (w :: st) h (env, fc, loc, v :: stk, ov, pr) :=
  ⟨⟨hp.1.1, hp.1.2.1, hp.1.2.2.1, hp.1.2.2.2.1, ⟨hv, hp.1.2.2.2.2.1⟩, hp.1.2.2.2.2.2⟩, hp.2⟩
theorem PT.ee (hp : PT TT g EI W bk0 h0 ev y vs bk al st h (env, fc, loc, stk, ov, pr)) : envOK vs env fc := ⟨hp.1.1, hp.1.2.1, hp.1.2.2.1⟩
theorem PT.setE {env' : List aE} {fc' : List aF} (hp : PT TT g EI W bk0 h0 ev y vs bk al st h (env, fc, loc, stk, ov, pr)) (he : envOK vs env' fc') : PT TT g EI W bk0 h0 ev y vs bk al st h (env', fc', loc, stk, ov, pr) := ⟨⟨he.1, he.2.1, he.2.2, hp.1.2.2.2⟩, hp.2⟩
variable {l : Launch} {d pc kc ks : Nat} {Q : Option Value → jH → Prop}
/-- from all points of the state S at pc the method goes on to its end -/
def Go (TT : List (List aCT)) (g : jG) (EI : aB → jH → Prop) (W : List aR) (bk0 : aB) (h0 : jH) (ev : List Int) (y : Nat) (l : Launch) (d : Nat) (Q : Option Value → jH → Prop) (pc : Nat) (S : aS) (kc ks : Nat) : Prop :=
  ∀ (vs : List Int) (bk : aB) (al : List (Option Value)) (st : List Value) (h : jH), PT TT g EI W bk0 h0 ev y vs bk al st h S → J l g y d pc al st h kc ks Q

theorem st_iconst {n : Int} (hd : decode (jbC y) pc = .ok (.iconst n, 1)) (h1 : -1 ≤ n) (h2 : n ≤ 5) (hp : PT TT g EI W bk0 h0 ev y vs bk al st h (env, fc, loc, stk, ov, pr)) (k : Go TT g EI W bk0 h0 ev y l d Q (pc + 1) (env ++ [eNew n n (some (fcon n))], fc, loc, (0, env.length, 0) :: stk, ov, pr) kc ks) : J l g y d pc al st h kc ks Q := by
  have hv : (Int32.ofInt n).toInt = n := by exact i32_ofInt (by omega) (by omega)
  refine j_iconst hd (k _ _ _ _ _ (hp.push32 (x := Int32.ofInt n) ?_))
  rw [hv]
  exact eVal.fm (Int.le_refl _) (Int.le_refl _) fcon_ok
theorem st_bipush {n : Int} (hd : decode (jbC y) pc = .ok (.bipush n, 2)) (h1 : -128 ≤ n) (h2 : n ≤ 127) (hp : PT TT g EI W bk0 h0 ev y vs bk al st h (env, fc, loc, stk, ov, pr)) (k : Go TT g EI W bk0 h0 ev y l d Q (pc + 2) (env ++ [eNew n n (some (fcon n))], fc, loc, (0, env.length, 0) :: stk, ov, pr) kc ks) : J l g y d pc al st h kc ks Q := by
  have hv : ((Int8.ofInt n).toInt32).toInt = n := by rw [Int8.toInt_toInt32, Int8.toInt_ofInt, show Int8.size = 256 from rfl]; exact Int.bmod_eq_of_le (by omega) (by omega)
  refine j_bipush hd (k _ _ _ _ _ (hp.push32 (x := (Int8.ofInt n).toInt32) ?_))
  rw [hv]
  exact eVal.fm (Int.le_refl _) (Int.le_refl _) fcon_ok
theorem st_sipush {n : Int} (hd : decode (jbC y) pc = .ok (.sipush n, 3)) (h1 : -32768 ≤ n) (h2 : n ≤ 32767) (hp : PT TT g EI W bk0 h0 ev y vs bk al st h (env, fc, loc, stk, ov, pr)) (k : Go TT g EI W bk0 h0 ev y l d Q (pc + 3) (env ++ [eNew n n (some (fcon n))], fc, loc, (0, env.length, 0) :: stk, ov, pr) kc ks) : J l g y d pc al st h kc ks Q := by
  have hv : ((Int16.ofInt n).toInt32).toInt = n := by rw [Int16.toInt_toInt32, Int16.toInt_ofInt, show Int16.size = 65536 from rfl]; exact Int.bmod_eq_of_le (by omega) (by omega)
  refine j_sipush hd (k _ _ _ _ _ (hp.push32 (x := (Int16.ofInt n).toInt32) ?_))
  rw [hv]
  exact eVal.fm (Int.le_refl _) (Int.le_refl _) fcon_ok
theorem st_lconst {n : Fin 2} (hd : decode (jbC y) pc = .ok (.lconst n, 1)) (hp : PT TT g EI W bk0 h0 ev y vs bk al st h (env, fc, loc, stk, ov, pr)) (k : Go TT g EI W bk0 h0 ev y l d Q (pc + 1) (env ++ [eNew (n : Nat) (n : Nat) (some (fcon (n : Nat)))], fc, loc, (1, env.length, 0) :: stk, ov, pr) kc ks) : J l g y d pc al st h kc ks Q := by
  have hv : (Int64.ofNat (n : Nat)).toInt = ((n : Nat) : Int) := (by decide : ∀ n : Fin 2, (Int64.ofNat (n : Nat)).toInt = ((n : Nat) : Int)) n
  refine j_lconst hd (k _ _ _ _ _ (hp.push64 (x := Int64.ofNat (n : Nat)) ?_))
  rw [hv]
  exact eVal.fm (Int.le_refl _) (Int.le_refl _) fcon_ok
theorem st_iadd {v w : aV} {e : aE} (hd : decode (jbC y) pc = .ok (.iadd, 1)) (hv : Nat.beq v.1 0 = true) (hw : Nat.beq w.1 0 = true) (he : aSum (-2147483648 : Int) (2147483647 : Int) env fc w.2.1 v.2.1 = some e) (hp : PT TT g EI W bk0 h0 ev y vs bk al st h (env, fc, loc, v :: w :: stk, ov, pr)) (k : Go TT g EI W bk0 h0 ev y l d Q (pc + 1) (env ++ [e], fc, loc, (0, env.length, 0) :: stk, ov, pr) kc ks) : J l g y d pc al st h kc ks Q := by
  obtain ⟨w1, s1, rfl, q1, hp9⟩ := hp.pop
  clear hp
  have hp := hp9
  clear hp9
  obtain ⟨w2, s2, rfl, q2, hp9⟩ := hp.pop
  clear hp
  have hp := hp9
  clear hp9
  obtain ⟨b, rfl, hb⟩ := q1.int hv
  obtain ⟨a, rfl, ha⟩ := q2.int hw
  exact j_iadd hd (k _ _ _ _ _ (hp.push32 (aSum_ok32 (g := g) hp.ee.1 hp.ee.2.1 hp.ee.2.2 ha hb he)))
theorem st_isub {v w : aV} {e : aE} (hd : decode (jbC y) pc = .ok (.isub, 1)) (hv : Nat.beq v.1 0 = true) (hw : Nat.beq w.1 0 = true) (he : aDif (-2147483648 : Int) (2147483647 : Int) env fc w.2.1 v.2.1 = some e) (hp : PT TT g EI W bk0 h0 ev y vs bk al st h (env, fc, loc, v :: w :: stk, ov, pr)) (k : Go TT g EI W bk0 h0 ev y l d Q (pc + 1) (env ++ [e], fc, loc, (0, env.length, 0) :: stk, ov, pr) kc ks) : J l g y d pc al st h kc ks Q := by
  obtain ⟨w1, s1, rfl, q1, hp9⟩ := hp.pop
  clear hp
  have hp := hp9
  clear hp9
  obtain ⟨w2, s2, rfl, q2, hp9⟩ := hp.pop
  clear hp
  have hp := hp9
  clear hp9
  obtain ⟨b, rfl, hb⟩ := q1.int hv
  obtain ⟨a, rfl, ha⟩ := q2.int hw
  exact j_isub hd (k _ _ _ _ _ (hp.push32 (aDif_ok32 hp.ee.1 hp.ee.2.1 hp.ee.2.2 ha hb he)))
theorem st_imul {v w : aV} {e : aE} (hd : decode (jbC y) pc = .ok (.imul, 1)) (hv : Nat.beq v.1 0 = true) (hw : Nat.beq w.1 0 = true) (he : aMul env fc w.2.1 v.2.1 = some e) (hp : PT TT g EI W bk0 h0 ev y vs bk al st h (env, fc, loc, v :: w :: stk, ov, pr)) (k : Go TT g EI W bk0 h0 ev y l d Q (pc + 1) (env ++ [e], fc, loc, (0, env.length, 0) :: stk, ov, pr) kc ks) : J l g y d pc al st h kc ks Q := by
  obtain ⟨w1, s1, rfl, q1, hp9⟩ := hp.pop
  clear hp
  have hp := hp9
  clear hp9
  obtain ⟨w2, s2, rfl, q2, hp9⟩ := hp.pop
  clear hp
  have hp := hp9
  clear hp9
  obtain ⟨b, rfl, hb⟩ := q1.int hv
  obtain ⟨a, rfl, ha⟩ := q2.int hw
  exact j_imul hd (k _ _ _ _ _ (hp.push32 (aMul_ok hp.ee.1 hp.ee.2.1 hp.ee.2.2 ha hb he)))
theorem PT.gh {x' z' : Nat} {a b : Int32} (hp : PT TT g EI W bk0 h0 ev y vs bk al st h (env, fc, loc, stk, ov, pr)) (ha : vs[x']? = some a.toInt) (hb : vs[z']? = some b.toInt) : ∃ ws, PT TT g EI W bk0 h0 ev y (vs ++ ws) bk al st h ((aGh env fc x' z').1, (aGh env fc x' z').2, loc, stk, ov, pr) := by
  rw [aGh]
  cases g1 : aiv env fc x' with
  | none => exact ⟨[], by rw [List.append_nil]; exact hp⟩
  | some p =>
    cases g2 : aiv env fc z' with
    | none => exact ⟨[], by rw [List.append_nil]; exact hp⟩
    | some r =>
      dsimp only
      cases hc : (decide (0 ≤ p.1) && decide (0 < r.1) && decide (r.1 = r.2) && decide (r.1 ≤ p.2) && (aQuo x' r.1 0 env).isNone) with
      | false => exact ⟨[], by rw [List.append_nil]; exact hp⟩
      | true =>
        simp only [Bool.and_eq_true, decide_eq_true_eq] at hc
        obtain ⟨⟨⟨⟨u1, u2⟩, u3⟩, u4⟩, -⟩ := hc
        simp only [cond_true]
        obtain ⟨h1, h2, h3⟩ := hp.ee
        have b1 := aiv_ok h1 h2 h3 g1 ha
        have b2 := aiv_ok h1 h2 h3 g2 hb
        have e1 := i32_div (x := a) (y := b) (by omega) (by omega)
        have hb2 : b.toInt = r.1 := by omega
        have hP := hp.push32 (e := (p.1 / r.1, p.2 / r.1, none, 2, x', r.1, [])) (x := a / b) ⟨by rw [e1, hb2]; exact ⟨Int.ediv_le_ediv u2 b1.1, Int.ediv_le_ediv u2 b1.2⟩, (fun F q => by cases q), (fun q => absurd (show (_ : Nat) = _ from q) (by simp)), (fun _ => ⟨a.toInt, ha, by omega, u2, by rw [e1, hb2]⟩), (fun q => absurd (show (_ : Nat) = _ from q) (by simp))⟩
        have hF : fev (vs ++ [(a / b).toInt]) (fadd (-r.1) (lin env x') ([(env.length, 1)], 0)) = some (a.toInt - r.1 * (a.toInt / r.1)) := by
          rw [fadd_ok (fev_app (lin_ok h2 ha)) (fone_ok (z := (a / b).toInt) (by rw [h1.1]; simp))]
          congr 1
          rw [e1, hb2, Int.neg_mul]
          omega
        have m1 := Int.emod_nonneg a.toInt (show r.1 ≠ 0 by omega)
        have m2 := Int.emod_lt_of_pos a.toInt u2
        have m3 := Int.emod_add_mul_ediv a.toInt r.1
        obtain ⟨w9, s9, e9, -, hP2⟩ := hP.pop
        cases e9
        refine ⟨[(a / b).toInt], hP2.setE ⟨hP2.ee.1, hP2.ee.2.1, fun F hF2 => ?_⟩⟩
        rcases List.mem_cons.mp hF2 with rfl | hF2
        · exact ⟨_, hF, by omega⟩
        · rcases List.mem_cons.mp hF2 with rfl | hF2
          · refine ⟨_, fadd_ok fcon_ok hF, by omega⟩
          · exact hP2.ee.2.2 F hF2
theorem st_irem {v w : aV} {e : aE} (hd : decode (jbC y) pc = .ok (.irem, 1)) (hv : Nat.beq v.1 0 = true) (hw : Nat.beq w.1 0 = true) (he : aRem (aGh env fc w.2.1 v.2.1).1 (aGh env fc w.2.1 v.2.1).2 w.2.1 v.2.1 = some e) (hp : PT TT g EI W bk0 h0 ev y vs bk al st h (env, fc, loc, v :: w :: stk, ov, pr)) (k : Go TT g EI W bk0 h0 ev y l d Q (pc + 1) ((aGh env fc w.2.1 v.2.1).1 ++ [e], (aGh env fc w.2.1 v.2.1).2, loc, (0, (aGh env fc w.2.1 v.2.1).1.length, 0) :: stk, ov, pr) kc ks) : J l g y d pc al st h kc ks Q := by
  obtain ⟨w1, s1, rfl, q1, hp1⟩ := hp.pop
  obtain ⟨w2, s2, rfl, q2, hp2⟩ := hp1.pop
  obtain ⟨b, rfl, hb⟩ := q1.int hv
  obtain ⟨a, rfl, ha⟩ := q2.int hw
  obtain ⟨ws, hp3⟩ := hp2.gh ha hb
  have hq := aRem_ok hp3.ee.1 hp3.ee.2.1 hp3.ee.2.2 (getE_app ha) (getE_app hb) he
  exact j_irem hd hq.1 (k _ _ _ _ _ (hp3.push32 hq.2))
theorem st_iand {v w : aV} {e : aE} (hd : decode (jbC y) pc = .ok (.iand, 1)) (hv : Nat.beq v.1 0 = true) (hw : Nat.beq w.1 0 = true) (he : aAnd env fc w.2.1 v.2.1 = some e) (hp : PT TT g EI W bk0 h0 ev y vs bk al st h (env, fc, loc, v :: w :: stk, ov, pr)) (k : Go TT g EI W bk0 h0 ev y l d Q (pc + 1) (env ++ [e], fc, loc, (0, env.length, 0) :: stk, ov, pr) kc ks) : J l g y d pc al st h kc ks Q := by
  obtain ⟨w1, s1, rfl, q1, hp9⟩ := hp.pop
  clear hp
  have hp := hp9
  clear hp9
  obtain ⟨w2, s2, rfl, q2, hp9⟩ := hp.pop
  clear hp
  have hp := hp9
  clear hp9
  obtain ⟨b, rfl, hb⟩ := q1.int hv
  obtain ⟨a, rfl, ha⟩ := q2.int hw
  exact j_iand hd (k _ _ _ _ _ (hp.push32 (aAnd_ok hp.ee.1 hp.ee.2.1 hp.ee.2.2 ha hb he)))
theorem st_ior {v w : aV} {e : aE} (hd : decode (jbC y) pc = .ok (.ior, 1)) (hv : Nat.beq v.1 0 = true) (hw : Nat.beq w.1 0 = true) (he : aOr env fc w.2.1 v.2.1 = some e) (hp : PT TT g EI W bk0 h0 ev y vs bk al st h (env, fc, loc, v :: w :: stk, ov, pr)) (k : Go TT g EI W bk0 h0 ev y l d Q (pc + 1) (env ++ [e], fc, loc, (0, env.length, 0) :: stk, ov, pr) kc ks) : J l g y d pc al st h kc ks Q := by
  obtain ⟨w1, s1, rfl, q1, hp9⟩ := hp.pop
  clear hp
  have hp := hp9
  clear hp9
  obtain ⟨w2, s2, rfl, q2, hp9⟩ := hp.pop
  clear hp
  have hp := hp9
  clear hp9
  obtain ⟨b, rfl, hb⟩ := q1.int hv
  obtain ⟨a, rfl, ha⟩ := q2.int hw
  exact j_ior hd (k _ _ _ _ _ (hp.push32 (aOr_ok (Or.inl rfl) hp.ee.1 hp.ee.2.1 hp.ee.2.2 ha hb he)))
theorem st_ixor {v w : aV} {e : aE} (hd : decode (jbC y) pc = .ok (.ixor, 1)) (hv : Nat.beq v.1 0 = true) (hw : Nat.beq w.1 0 = true) (he : aOr env fc w.2.1 v.2.1 = some e) (hp : PT TT g EI W bk0 h0 ev y vs bk al st h (env, fc, loc, v :: w :: stk, ov, pr)) (k : Go TT g EI W bk0 h0 ev y l d Q (pc + 1) (env ++ [e], fc, loc, (0, env.length, 0) :: stk, ov, pr) kc ks) : J l g y d pc al st h kc ks Q := by
  obtain ⟨w1, s1, rfl, q1, hp9⟩ := hp.pop
  clear hp
  have hp := hp9
  clear hp9
  obtain ⟨w2, s2, rfl, q2, hp9⟩ := hp.pop
  clear hp
  have hp := hp9
  clear hp9
  obtain ⟨b, rfl, hb⟩ := q1.int hv
  obtain ⟨a, rfl, ha⟩ := q2.int hw
  exact j_ixor hd (k _ _ _ _ _ (hp.push32 (aOr_ok (Or.inr rfl) hp.ee.1 hp.ee.2.1 hp.ee.2.2 ha hb he)))
theorem st_ishl {v w : aV} {e : aE} (hd : decode (jbC y) pc = .ok (.ishl, 1)) (hv : Nat.beq v.1 0 = true) (hw : Nat.beq w.1 0 = true) (he : aShl env fc w.2.1 v.2.1 = some e) (hp : PT TT g EI W bk0 h0 ev y vs bk al st h (env, fc, loc, v :: w :: stk, ov, pr)) (k : Go TT g EI W bk0 h0 ev y l d Q (pc + 1) (env ++ [e], fc, loc, (0, env.length, 0) :: stk, ov, pr) kc ks) : J l g y d pc al st h kc ks Q := by
  obtain ⟨w1, s1, rfl, q1, hp9⟩ := hp.pop
  clear hp
  have hp := hp9
  clear hp9
  obtain ⟨w2, s2, rfl, q2, hp9⟩ := hp.pop
  clear hp
  have hp := hp9
  clear hp9
  obtain ⟨b, rfl, hb⟩ := q1.int hv
  obtain ⟨a, rfl, ha⟩ := q2.int hw
  exact j_ishl hd (k _ _ _ _ _ (hp.push32 (aShl_ok hp.ee.1 hp.ee.2.1 hp.ee.2.2 ha hb he)))
theorem st_ishr {v w : aV} {e : aE} (hd : decode (jbC y) pc = .ok (.ishr, 1)) (hv : Nat.beq v.1 0 = true) (hw : Nat.beq w.1 0 = true) (he : aShr env fc w.2.1 v.2.1 = some e) (hp : PT TT g EI W bk0 h0 ev y vs bk al st h (env, fc, loc, v :: w :: stk, ov, pr)) (k : Go TT g EI W bk0 h0 ev y l d Q (pc + 1) (env ++ [e], fc, loc, (0, env.length, 0) :: stk, ov, pr) kc ks) : J l g y d pc al st h kc ks Q := by
  obtain ⟨w1, s1, rfl, q1, hp9⟩ := hp.pop
  clear hp
  have hp := hp9
  clear hp9
  obtain ⟨w2, s2, rfl, q2, hp9⟩ := hp.pop
  clear hp
  have hp := hp9
  clear hp9
  obtain ⟨b, rfl, hb⟩ := q1.int hv
  obtain ⟨a, rfl, ha⟩ := q2.int hw
  exact j_ishr hd (k _ _ _ _ _ (hp.push32 (aShr_ok hp.ee.1 hp.ee.2.1 hp.ee.2.2 ha hb he)))
theorem st_ladd {v w : aV} {e : aE} (hd : decode (jbC y) pc = .ok (.ladd, 1)) (hv : Nat.beq v.1 1 = true) (hw : Nat.beq w.1 1 = true) (he : aSum (-9223372036854775808 : Int) (9223372036854775807 : Int) env fc w.2.1 v.2.1 = some e) (hp : PT TT g EI W bk0 h0 ev y vs bk al st h (env, fc, loc, v :: w :: stk, ov, pr)) (k : Go TT g EI W bk0 h0 ev y l d Q (pc + 1) (env ++ [e], fc, loc, (1, env.length, 0) :: stk, ov, pr) kc ks) : J l g y d pc al st h kc ks Q := by
  obtain ⟨w1, s1, rfl, q1, hp9⟩ := hp.pop
  clear hp
  have hp := hp9
  clear hp9
  obtain ⟨w2, s2, rfl, q2, hp9⟩ := hp.pop
  clear hp
  have hp := hp9
  clear hp9
  obtain ⟨b, rfl, hb⟩ := q1.long hv
  obtain ⟨a, rfl, ha⟩ := q2.long hw
  exact j_ladd hd (k _ _ _ _ _ (hp.push64 (aSum_ok64 (g := g) hp.ee.1 hp.ee.2.1 hp.ee.2.2 ha hb he)))
theorem st_lsub {v w : aV} {e : aE} (hd : decode (jbC y) pc = .ok (.lsub, 1)) (hv : Nat.beq v.1 1 = true) (hw : Nat.beq w.1 1 = true) (he : aDif (-9223372036854775808 : Int) (9223372036854775807 : Int) env fc w.2.1 v.2.1 = some e) (hp : PT TT g EI W bk0 h0 ev y vs bk al st h (env, fc, loc, v :: w :: stk, ov, pr)) (k : Go TT g EI W bk0 h0 ev y l d Q (pc + 1) (env ++ [e], fc, loc, (1, env.length, 0) :: stk, ov, pr) kc ks) : J l g y d pc al st h kc ks Q := by
  obtain ⟨w1, s1, rfl, q1, hp9⟩ := hp.pop
  clear hp
  have hp := hp9
  clear hp9
  obtain ⟨w2, s2, rfl, q2, hp9⟩ := hp.pop
  clear hp
  have hp := hp9
  clear hp9
  obtain ⟨b, rfl, hb⟩ := q1.long hv
  obtain ⟨a, rfl, ha⟩ := q2.long hw
  exact j_lsub hd (k _ _ _ _ _ (hp.push64 (aDif_ok64 hp.ee.1 hp.ee.2.1 hp.ee.2.2 ha hb he)))
theorem st_iushr {v w : aV} (hd : decode (jbC y) pc = .ok (.iushr, 1)) (hv : Nat.beq v.1 0 = true) (hw : Nat.beq w.1 0 = true) (hp : PT TT g EI W bk0 h0 ev y vs bk al st h (env, fc, loc, v :: w :: stk, ov, pr)) (k : Go TT g EI W bk0 h0 ev y l d Q (pc + 1) (env ++ [eNew (-2147483648 : Int) (2147483647 : Int) none], fc, loc, (0, env.length, 0) :: stk, ov, pr) kc ks) : J l g y d pc al st h kc ks Q := by
  obtain ⟨w1, s1, rfl, q1, hp9⟩ := hp.pop
  clear hp
  have hp := hp9
  clear hp9
  obtain ⟨w2, s2, rfl, q2, hp9⟩ := hp.pop
  clear hp
  have hp := hp9
  clear hp9
  obtain ⟨b, rfl, hb⟩ := q1.int hv
  obtain ⟨a, rfl, ha⟩ := q2.int hw
  exact j_iushr hd (k _ _ _ _ _ (hp.push32 (eVal.any32 _)))
theorem st_lmul {v w : aV} (hd : decode (jbC y) pc = .ok (.lmul, 1)) (hv : Nat.beq v.1 1 = true) (hw : Nat.beq w.1 1 = true) (hp : PT TT g EI W bk0 h0 ev y vs bk al st h (env, fc, loc, v :: w :: stk, ov, pr)) (k : Go TT g EI W bk0 h0 ev y l d Q (pc + 1) (env ++ [eNew (-9223372036854775808 : Int) (9223372036854775807 : Int) none], fc, loc, (1, env.length, 0) :: stk, ov, pr) kc ks) : J l g y d pc al st h kc ks Q := by
  obtain ⟨w1, s1, rfl, q1, hp9⟩ := hp.pop
  clear hp
  have hp := hp9
  clear hp9
  obtain ⟨w2, s2, rfl, q2, hp9⟩ := hp.pop
  clear hp
  have hp := hp9
  clear hp9
  obtain ⟨b, rfl, hb⟩ := q1.long hv
  obtain ⟨a, rfl, ha⟩ := q2.long hw
  exact j_lmul hd (k _ _ _ _ _ (hp.push64 (eVal.any64 _)))
theorem st_land {v w : aV} (hd : decode (jbC y) pc = .ok (.land, 1)) (hv : Nat.beq v.1 1 = true) (hw : Nat.beq w.1 1 = true) (hp : PT TT g EI W bk0 h0 ev y vs bk al st h (env, fc, loc, v :: w :: stk, ov, pr)) (k : Go TT g EI W bk0 h0 ev y l d Q (pc + 1) (env ++ [eNew (-9223372036854775808 : Int) (9223372036854775807 : Int) none], fc, loc, (1, env.length, 0) :: stk, ov, pr) kc ks) : J l g y d pc al st h kc ks Q := by
  obtain ⟨w1, s1, rfl, q1, hp9⟩ := hp.pop
  clear hp
  have hp := hp9
  clear hp9
  obtain ⟨w2, s2, rfl, q2, hp9⟩ := hp.pop
  clear hp
  have hp := hp9
  clear hp9
  obtain ⟨b, rfl, hb⟩ := q1.long hv
  obtain ⟨a, rfl, ha⟩ := q2.long hw
  exact j_land hd (k _ _ _ _ _ (hp.push64 (eVal.any64 _)))
theorem st_lor {v w : aV} (hd : decode (jbC y) pc = .ok (.lor, 1)) (hv : Nat.beq v.1 1 = true) (hw : Nat.beq w.1 1 = true) (hp : PT TT g EI W bk0 h0 ev y vs bk al st h (env, fc, loc, v :: w :: stk, ov, pr)) (k : Go TT g EI W bk0 h0 ev y l d Q (pc + 1) (env ++ [eNew (-9223372036854775808 : Int) (9223372036854775807 : Int) none], fc, loc, (1, env.length, 0) :: stk, ov, pr) kc ks) : J l g y d pc al st h kc ks Q := by
  obtain ⟨w1, s1, rfl, q1, hp9⟩ := hp.pop
  clear hp
  have hp := hp9
  clear hp9
  obtain ⟨w2, s2, rfl, q2, hp9⟩ := hp.pop
  clear hp
  have hp := hp9
  clear hp9
  obtain ⟨b, rfl, hb⟩ := q1.long hv
  obtain ⟨a, rfl, ha⟩ := q2.long hw
  exact j_lor hd (k _ _ _ _ _ (hp.push64 (eVal.any64 _)))
theorem st_lxor {v w : aV} (hd : decode (jbC y) pc = .ok (.lxor, 1)) (hv : Nat.beq v.1 1 = true) (hw : Nat.beq w.1 1 = true) (hp : PT TT g EI W bk0 h0 ev y vs bk al st h (env, fc, loc, v :: w :: stk, ov, pr)) (k : Go TT g EI W bk0 h0 ev y l d Q (pc + 1) (env ++ [eNew (-9223372036854775808 : Int) (9223372036854775807 : Int) none], fc, loc, (1, env.length, 0) :: stk, ov, pr) kc ks) : J l g y d pc al st h kc ks Q := by
  obtain ⟨w1, s1, rfl, q1, hp9⟩ := hp.pop
  clear hp
  have hp := hp9
  clear hp9
  obtain ⟨w2, s2, rfl, q2, hp9⟩ := hp.pop
  clear hp
  have hp := hp9
  clear hp9
  obtain ⟨b, rfl, hb⟩ := q1.long hv
  obtain ⟨a, rfl, ha⟩ := q2.long hw
  exact j_lxor hd (k _ _ _ _ _ (hp.push64 (eVal.any64 _)))
theorem st_lshl {v w : aV} (hd : decode (jbC y) pc = .ok (.lshl, 1)) (hv : Nat.beq v.1 0 = true) (hw : Nat.beq w.1 1 = true) (hp : PT TT g EI W bk0 h0 ev y vs bk al st h (env, fc, loc, v :: w :: stk, ov, pr)) (k : Go TT g EI W bk0 h0 ev y l d Q (pc + 1) (env ++ [eNew (-9223372036854775808 : Int) (9223372036854775807 : Int) none], fc, loc, (1, env.length, 0) :: stk, ov, pr) kc ks) : J l g y d pc al st h kc ks Q := by
  obtain ⟨w1, s1, rfl, q1, hp9⟩ := hp.pop
  clear hp
  have hp := hp9
  clear hp9
  obtain ⟨w2, s2, rfl, q2, hp9⟩ := hp.pop
  clear hp
  have hp := hp9
  clear hp9
  obtain ⟨b, rfl, hb⟩ := q1.int hv
  obtain ⟨a, rfl, ha⟩ := q2.long hw
  exact j_lshl hd (k _ _ _ _ _ (hp.push64 (eVal.any64 _)))
theorem st_lshr {v w : aV} (hd : decode (jbC y) pc = .ok (.lshr, 1)) (hv : Nat.beq v.1 0 = true) (hw : Nat.beq w.1 1 = true) (hp : PT TT g EI W bk0 h0 ev y vs bk al st h (env, fc, loc, v :: w :: stk, ov, pr)) (k : Go TT g EI W bk0 h0 ev y l d Q (pc + 1) (env ++ [eNew (-9223372036854775808 : Int) (9223372036854775807 : Int) none], fc, loc, (1, env.length, 0) :: stk, ov, pr) kc ks) : J l g y d pc al st h kc ks Q := by
  obtain ⟨w1, s1, rfl, q1, hp9⟩ := hp.pop
  clear hp
  have hp := hp9
  clear hp9
  obtain ⟨w2, s2, rfl, q2, hp9⟩ := hp.pop
  clear hp
  have hp := hp9
  clear hp9
  obtain ⟨b, rfl, hb⟩ := q1.int hv
  obtain ⟨a, rfl, ha⟩ := q2.long hw
  exact j_lshr hd (k _ _ _ _ _ (hp.push64 (eVal.any64 _)))
theorem st_idiv {v w : aV} {e : aE × List aF} (hd : decode (jbC y) pc = .ok (.idiv, 1)) (hv : Nat.beq v.1 0 = true) (hw : Nat.beq w.1 0 = true) (he : aDiv env fc w.2.1 v.2.1 = some e) (hp : PT TT g EI W bk0 h0 ev y vs bk al st h (env, fc, loc, v :: w :: stk, ov, pr)) (k : Go TT g EI W bk0 h0 ev y l d Q (pc + 1) (env ++ [e.1], e.2, loc, (0, env.length, 0) :: stk, ov, pr) kc ks) : J l g y d pc al st h kc ks Q := by
  obtain ⟨w1, s1, rfl, q1, hp9⟩ := hp.pop
  clear hp
  have hp := hp9
  clear hp9
  obtain ⟨w2, s2, rfl, q2, hp9⟩ := hp.pop
  clear hp
  have hp := hp9
  clear hp9
  obtain ⟨b, rfl, hb⟩ := q1.int hv
  obtain ⟨a, rfl, ha⟩ := q2.int hw
  obtain ⟨h1, h2, h3⟩ := hp.ee
  obtain ⟨p, r, g1, g2, he⟩ := aiv2 he
  have b1 := aiv_ok h1 h2 h3 g1 ha
  have b2 := aiv_ok h1 h2 h3 g2 hb
  have hne : 0 < r.1 → ¬ b = 0 := fun q1 q => by rw [q] at b2; simp at b2; omega
  cases hc : (decide (0 ≤ p.1) && decide (0 < r.1)) with
  | true =>
    rw [hc] at he
    simp only [Bool.and_eq_true, decide_eq_true_eq] at hc
    simp only [cond_true] at he
    have e1 := i32_div (x := a) (y := b) (by omega) (by omega)
    by_cases hr : r.1 = r.2
    · simp only [hr, decide_true, cond_true] at he
      have hb2 : b.toInt = r.2 := by omega
      have hr0 : 0 < r.2 := by omega
      cases he
      have hP := hp.push32 (e := (p.1 / r.2, p.2 / r.2, none, 2, w.2.1, r.2, [])) (x := a / b) ⟨by rw [e1, hb2]; exact ⟨Int.ediv_le_ediv hr0 b1.1, Int.ediv_le_ediv hr0 b1.2⟩, (fun F q => by cases q), (fun q => absurd (show (_ : Nat) = _ from q) (by simp)), (fun _ => ⟨a.toInt, ha, by omega, hr0, by rw [e1, hb2]⟩), (fun q => absurd (show (_ : Nat) = _ from q) (by simp))⟩
      have hF : fev (vs ++ [(a / b).toInt]) (fadd (-r.2) (lin env w.2.1) ([(env.length, 1)], 0)) = some (a.toInt - r.2 * (a.toInt / r.2)) := by
        rw [fadd_ok (fev_app (lin_ok h2 ha)) (fone_ok (z := (a / b).toInt) (by rw [h1.1]; simp))]
        congr 1
        rw [e1, hb2, Int.neg_mul]
        omega
      have m1 := Int.emod_nonneg a.toInt (show r.2 ≠ 0 by omega)
      have m2 := Int.emod_lt_of_pos a.toInt hr0
      have m3 := Int.emod_add_mul_ediv a.toInt r.2
      refine j_idiv hd (hne (by omega)) (k _ _ _ _ _ (hP.setE ⟨hP.ee.1, hP.ee.2.1, fun F hF2 => ?_⟩))
      rcases List.mem_cons.mp hF2 with rfl | hF2
      · exact ⟨_, hF, by omega⟩
      · rcases List.mem_cons.mp hF2 with rfl | hF2
        · refine ⟨_, fadd_ok fcon_ok hF, by omega⟩
        · exact hP.ee.2.2 F hF2
    · simp only [hr, decide_false, cond_false] at he
      cases he
      refine j_idiv hd (hne (by omega)) (k _ _ _ _ _ (hp.push32 ?_))
      rw [e1]
      have hb0 : 0 < b.toInt := by omega
      exact eVal.bd (Int.ediv_nonneg (by omega) (by omega)) (Int.le_trans (Int.ediv_le_self _ (by omega)) b1.2)
  | false =>
    rw [hc] at he
    simp only [cond_false] at he
    by_cases hr : 0 < r.1
    · simp only [hr, decide_true, cond_true] at he
      cases he
      exact j_idiv hd (hne hr) (k _ _ _ _ _ (hp.push32 (eVal.any32 _)))
    · simp only [hr, decide_false, cond_false] at he
      cases he
theorem st_ineg {v : aV} {e : aE} (hd : decode (jbC y) pc = .ok (.ineg, 1)) (hv : Nat.beq v.1 0 = true) (he : aNeg env fc v.2.1 = some e) (hp : PT TT g EI W bk0 h0 ev y vs bk al st h (env, fc, loc, v :: stk, ov, pr)) (k : Go TT g EI W bk0 h0 ev y l d Q (pc + 1) (env ++ [e], fc, loc, (0, env.length, 0) :: stk, ov, pr) kc ks) : J l g y d pc al st h kc ks Q := by
  obtain ⟨w1, s1, rfl, q1, hp9⟩ := hp.pop
  clear hp
  have hp := hp9
  clear hp9
  obtain ⟨a, rfl, ha⟩ := q1.int hv
  exact j_ineg hd (k _ _ _ _ _ (hp.push32 (aNeg_ok hp.ee.1 hp.ee.2.1 hp.ee.2.2 ha he)))
theorem st_i2l {v : aV} {a : Int × Int} (hd : decode (jbC y) pc = .ok (.i2l, 1)) (hv : Nat.beq v.1 0 = true) (he : aiv env fc v.2.1 = some a) (hp : PT TT g EI W bk0 h0 ev y vs bk al st h (env, fc, loc, v :: stk, ov, pr)) (k : Go TT g EI W bk0 h0 ev y l d Q (pc + 1) (env ++ [eNew a.1 a.2 (some (lin env v.2.1))], fc, loc, (1, env.length, 0) :: stk, ov, pr) kc ks) : J l g y d pc al st h kc ks Q := by
  obtain ⟨w1, s1, rfl, q1, hp9⟩ := hp.pop
  clear hp
  have hp := hp9
  clear hp9
  obtain ⟨x, rfl, hx⟩ := q1.int hv
  have b := aiv_ok hp.ee.1 hp.ee.2.1 hp.ee.2.2 he hx
  refine j_i2l hd (k _ _ _ _ _ (hp.push64 ?_))
  rw [i2l_ok]
  exact eVal.fm b.1 b.2 (lin_ok hp.ee.2.1 hx)
theorem st_l2i {v : aV} {a : Int × Int} (hd : decode (jbC y) pc = .ok (.l2i, 1)) (hv : Nat.beq v.1 1 = true) (he : aiv env fc v.2.1 = some a) (h1 : (-2147483648 : Int) ≤ a.1) (h2 : a.2 ≤ (2147483647 : Int)) (hp : PT TT g EI W bk0 h0 ev y vs bk al st h (env, fc, loc, v :: stk, ov, pr)) (k : Go TT g EI W bk0 h0 ev y l d Q (pc + 1) (env ++ [eNew a.1 a.2 (some (lin env v.2.1))], fc, loc, (0, env.length, 0) :: stk, ov, pr) kc ks) : J l g y d pc al st h kc ks Q := by
  obtain ⟨w1, s1, rfl, q1, hp9⟩ := hp.pop
  clear hp
  have hp := hp9
  clear hp9
  obtain ⟨x, rfl, hx⟩ := q1.long hv
  have b := aiv_ok hp.ee.1 hp.ee.2.1 hp.ee.2.2 he hx
  refine j_l2i hd (k _ _ _ _ _ (hp.push32 ?_))
  rw [l2i_ok (by omega) (by omega)]
  exact eVal.fm b.1 b.2 (lin_ok hp.ee.2.1 hx)
theorem st_l2i0 {v : aV} (hd : decode (jbC y) pc = .ok (.l2i, 1)) (hv : Nat.beq v.1 1 = true) (hp : PT TT g EI W bk0 h0 ev y vs bk al st h (env, fc, loc, v :: stk, ov, pr)) (k : Go TT g EI W bk0 h0 ev y l d Q (pc + 1) (env ++ [eNew (-2147483648 : Int) (2147483647 : Int) none], fc, loc, (0, env.length, 0) :: stk, ov, pr) kc ks) : J l g y d pc al st h kc ks Q := by
  obtain ⟨w1, s1, rfl, q1, hp9⟩ := hp.pop
  clear hp
  have hp := hp9
  clear hp9
  obtain ⟨x, rfl, hx⟩ := q1.long hv
  exact j_l2i hd (k _ _ _ _ _ (hp.push32 (eVal.any32 _)))
theorem st_lcmp {v w : aV} (hd : decode (jbC y) pc = .ok (.lcmp, 1)) (hv : Nat.beq v.1 1 = true) (hw : Nat.beq w.1 1 = true) (hp : PT TT g EI W bk0 h0 ev y vs bk al st h (env, fc, loc, v :: w :: stk, ov, pr)) (k : Go TT g EI W bk0 h0 ev y l d Q (pc + 1) (env ++ [(-1, 1, none, 3, 0, 0, [fadd (-1) (lin env w.2.1) (lin env v.2.1)])], fc, loc, (0, env.length, 0) :: stk, ov, pr) kc ks) : J l g y d pc al st h kc ks Q := by
  obtain ⟨w1, s1, rfl, q1, hp9⟩ := hp.pop
  clear hp
  have hp := hp9
  clear hp9
  obtain ⟨w2, s2, rfl, q2, hp9⟩ := hp.pop
  clear hp
  have hp := hp9
  clear hp9
  obtain ⟨b, rfl, hb⟩ := q1.long hv
  obtain ⟨a, rfl, ha⟩ := q2.long hw
  have hc := cmp_ok a b
  refine j_lcmp hd (k _ _ _ _ _ (hp.push32 ⟨?_, (fun F q => by cases q), (fun q => absurd (show (_ : Nat) = _ from q) (by simp)), (fun q => absurd (show (_ : Nat) = _ from q) (by simp)), fun _ F hF => ?_⟩))
  · show -1 ≤ (lg_cmp a b).toInt ∧ (lg_cmp a b).toInt ≤ 1
    omega
  · have hF : F = fadd (-1) (lin env w.2.1) (lin env v.2.1) := by simpa using hF
    subst hF
    refine ⟨_, fadd_ok (lin_ok hp.ee.2.1 ha) (lin_ok hp.ee.2.1 hb), ?_⟩
    rw [show a.toInt + -1 * b.toInt = a.toInt - b.toInt by omega]
    exact hc
theorem st_dup {v : aV} (hd : decode (jbC y) pc = .ok (.dup, 1)) (hv : Nat.beq v.1 1 = false) (hp : PT TT g EI W bk0 h0 ev y vs bk al st h (env, fc, loc, v :: stk, ov, pr)) (k : Go TT g EI W bk0 h0 ev y l d Q (pc + 1) (env, fc, loc, v :: v :: stk, ov, pr) kc ks) : J l g y d pc al st h kc ks Q := by
  obtain ⟨w1, s1, rfl, q1, hp9⟩ := hp.pop
  clear hp
  have hp := hp9
  clear hp9
  exact j_dup hd (by rw [q1.cat, hv]; rfl) (k _ _ _ _ _ ((hp.put q1).put q1))
theorem st_pop {v : aV} (hd : decode (jbC y) pc = .ok (.pop, 1)) (hv : Nat.beq v.1 1 = false) (hp : PT TT g EI W bk0 h0 ev y vs bk al st h (env, fc, loc, v :: stk, ov, pr)) (k : Go TT g EI W bk0 h0 ev y l d Q (pc + 1) (env, fc, loc, stk, ov, pr) kc ks) : J l g y d pc al st h kc ks Q := by
  obtain ⟨w1, s1, rfl, q1, hp9⟩ := hp.pop
  clear hp
  have hp := hp9
  clear hp9
  exact j_pop hd (by rw [q1.cat, hv]; rfl) (k _ _ _ _ _ hp)
theorem st_dup2 {v w : aV} (hd : decode (jbC y) pc = .ok (.dup2, 1)) (hv : Nat.beq v.1 1 = false) (hw : Nat.beq w.1 1 = false) (hp : PT TT g EI W bk0 h0 ev y vs bk al st h (env, fc, loc, v :: w :: stk, ov, pr)) (k : Go TT g EI W bk0 h0 ev y l d Q (pc + 1) (env, fc, loc, v :: w :: v :: w :: stk, ov, pr) kc ks) : J l g y d pc al st h kc ks Q := by
  obtain ⟨w1, s1, rfl, q1, hp9⟩ := hp.pop
  clear hp
  have hp := hp9
  clear hp9
  obtain ⟨w2, s2, rfl, q2, hp9⟩ := hp.pop
  clear hp
  have hp := hp9
  clear hp9
  exact j_dup2 hd (by rw [q1.cat, hv]; rfl) (by rw [q2.cat, hw]; rfl) (k _ _ _ _ _ ((((hp.put q2).put q1).put q2).put q1))
theorem st_null (hd : decode (jbC y) pc = .ok (.aconst_null, 1)) (hp : PT TT g EI W bk0 h0 ev y vs bk al st h (env, fc, loc, stk, ov, pr)) (k : Go TT g EI W bk0 h0 ev y l d Q (pc + 1) (env, fc, loc, (3, 0, 0) :: stk, ov, pr) kc ks) : J l g y d pc al st h kc ks Q := j_null hd (k _ _ _ _ _ (hp.put (v := (3, 0, 0)) rfl))
theorem PT.getL {i : Nat} {v : aV} (hp : PT TT g EI W bk0 h0 ev y vs bk al st h (env, fc, loc, stk, ov, pr)) (hi : loc[i]? = some (some v)) : ∃ w, al[i]? = some (some w) ∧ vOK g vs bk v w := hp.1.2.2.2.1 i v hi
theorem st_iload_n {k4 : Fin 4} {v : aV} (hd : decode (jbC y) pc = .ok (.iload_n k4, 1)) (hi : loc[(k4 : Nat)]? = some (some v)) (hv : Nat.beq v.1 0 = true) (hp : PT TT g EI W bk0 h0 ev y vs bk al st h (env, fc, loc, stk, ov, pr)) (k : Go TT g EI W bk0 h0 ev y l d Q (pc + 1) (env, fc, loc, v :: stk, ov, pr) kc ks) : J l g y d pc al st h kc ks Q := by
  obtain ⟨w, h1, h2⟩ := hp.getL hi
  obtain ⟨x, rfl, hx⟩ := h2.int hv
  exact j_iload_n hd h1 (k _ _ _ _ _ (hp.put h2))
theorem st_iload {i : Nat} {v : aV} (hd : decode (jbC y) pc = .ok (.iload i, 2)) (hi : loc[i]? = some (some v)) (hv : Nat.beq v.1 0 = true) (hp : PT TT g EI W bk0 h0 ev y vs bk al st h (env, fc, loc, stk, ov, pr)) (k : Go TT g EI W bk0 h0 ev y l d Q (pc + 2) (env, fc, loc, v :: stk, ov, pr) kc ks) : J l g y d pc al st h kc ks Q := by
  obtain ⟨w, h1, h2⟩ := hp.getL hi
  obtain ⟨x, rfl, hx⟩ := h2.int hv
  exact j_iload hd h1 (k _ _ _ _ _ (hp.put h2))
theorem st_lload_n {k4 : Fin 4} {v : aV} (hd : decode (jbC y) pc = .ok (.lload_n k4, 1)) (hi : loc[(k4 : Nat)]? = some (some v)) (hv : Nat.beq v.1 1 = true) (hp : PT TT g EI W bk0 h0 ev y vs bk al st h (env, fc, loc, stk, ov, pr)) (k : Go TT g EI W bk0 h0 ev y l d Q (pc + 1) (env, fc, loc, v :: stk, ov, pr) kc ks) : J l g y d pc al st h kc ks Q := by
  obtain ⟨w, h1, h2⟩ := hp.getL hi
  obtain ⟨x, rfl, hx⟩ := h2.long hv
  exact j_lload_n hd h1 (k _ _ _ _ _ (hp.put h2))
theorem st_lload {i : Nat} {v : aV} (hd : decode (jbC y) pc = .ok (.lload i, 2)) (hi : loc[i]? = some (some v)) (hv : Nat.beq v.1 1 = true) (hp : PT TT g EI W bk0 h0 ev y vs bk al st h (env, fc, loc, stk, ov, pr)) (k : Go TT g EI W bk0 h0 ev y l d Q (pc + 2) (env, fc, loc, v :: stk, ov, pr) kc ks) : J l g y d pc al st h kc ks Q := by
  obtain ⟨w, h1, h2⟩ := hp.getL hi
  obtain ⟨x, rfl, hx⟩ := h2.long hv
  exact j_lload hd h1 (k _ _ _ _ _ (hp.put h2))
theorem st_aload_n {k4 : Fin 4} {v : aV} (hd : decode (jbC y) pc = .ok (.aload_n k4, 1)) (hi : loc[(k4 : Nat)]? = some (some v)) (hv : Nat.ble 2 v.1 = true) (hp : PT TT g EI W bk0 h0 ev y vs bk al st h (env, fc, loc, stk, ov, pr)) (k : Go TT g EI W bk0 h0 ev y l d Q (pc + 1) (env, fc, loc, v :: stk, ov, pr) kc ks) : J l g y d pc al st h kc ks Q := by
  obtain ⟨w, h1, h2⟩ := hp.getL hi
  rcases h2.ge2 hv with rfl | ⟨a, rfl⟩
  · exact j_aload_nN hd h1 (k _ _ _ _ _ (hp.put h2))
  · exact j_aload_n hd h1 (k _ _ _ _ _ (hp.put h2))
theorem st_aload {i : Nat} {v : aV} (hd : decode (jbC y) pc = .ok (.aload i, 2)) (hi : loc[i]? = some (some v)) (hv : Nat.ble 2 v.1 = true) (hp : PT TT g EI W bk0 h0 ev y vs bk al st h (env, fc, loc, stk, ov, pr)) (k : Go TT g EI W bk0 h0 ev y l d Q (pc + 2) (env, fc, loc, v :: stk, ov, pr) kc ks) : J l g y d pc al st h kc ks Q := by
  obtain ⟨w, h1, h2⟩ := hp.getL hi
  rcases h2.ge2 hv with rfl | ⟨a, rfl⟩
  · exact j_aloadN hd h1 (k _ _ _ _ _ (hp.put h2))
  · exact j_aload hd h1 (k _ _ _ _ _ (hp.put h2))
end ST
