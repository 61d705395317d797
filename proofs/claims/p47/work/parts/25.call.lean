/-! calls -/
theorem jyo_ok : ((List.range 315).all (fun y => match jcl[jyo.getD y 99]? with | some r => decide (r.1 = (jyN y).cls) | none => true)) = true := by decide +kernel
theorem jyo_cl {y2 : Nat} (hy : y2 < 315) : ∀ r, jcl[jyo.getD y2 99]? = some r → r.1 = (jyN y2).cls := by
  intro r hr
  have h1 := List.all_eq_true.mp jyo_ok y2 (List.mem_range.mpr hy)
  rw [hr] at h1
  exact of_decide_eq_true h1
/-- all of the first list stand in the second, in its order -/
def subS : List Nat → List Nat → Bool
  | [], [] => true
  | _ :: _, [] => false
  | [], _ :: _ => true
  | a :: s, b :: t => bif Nat.beq a b then subS s t else subS (a :: s) t
theorem subS_mem : ∀ (t s : List Nat), subS s t = true → ∀ x, x ∈ s → x ∈ t
  | [], [], _, x, h => h
  | [], _ :: _, e, _, _ => by rw [subS] at e; cases e
  | _ :: _, [], _, _, h => absurd h List.not_mem_nil
  | b :: t, a :: s, e, x, h => by
    rw [subS] at e
    cases hb : Nat.beq a b with
    | false =>
      rw [hb] at e
      exact List.mem_cons_of_mem _ (subS_mem t (a :: s) e x h)
    | true =>
      rw [hb] at e
      rcases List.mem_cons.mp h with rfl | h1
      · rw [Nat.eq_of_beq_eq_true hb]
        exact List.mem_cons_self
      · exact List.mem_cons_of_mem _ (subS_mem t s e x h1)
theorem je_all : (subS (List.range 315) jeC && subS (List.range 315) jeK && subS ((List.range 315).filter (fun y => !Nat.beq (jkd y) 2)) jeI && subS ((List.range 315).filter (fun y => Nat.beq (jkd y) 0)) jeS) = true := by decide +kernel
theorem je_mem {y2 : Nat} (hy : y2 < 315) : y2 ∈ jeC ∧ y2 ∈ jeK ∧ (jkd y2 ≠ 2 → y2 ∈ jeI) ∧ (jkd y2 = 0 → y2 ∈ jeS) := by
  obtain ⟨h1, d⟩ := Bool.and_eq_true_iff.mp je_all
  obtain ⟨h2, c⟩ := Bool.and_eq_true_iff.mp h1
  obtain ⟨a, b⟩ := Bool.and_eq_true_iff.mp h2
  have hr : y2 ∈ List.range 315 := List.mem_range.mpr hy
  refine ⟨subS_mem _ _ a y2 hr, subS_mem _ _ b y2 hr, fun h3 => subS_mem _ _ c y2 (List.mem_filter.mpr ⟨hr, ?_⟩), fun h3 => subS_mem _ _ d y2 (List.mem_filter.mpr ⟨hr, ?_⟩)⟩
  · show (!Nat.beq (jkd y2) 2) = true
    cases hb : Nat.beq (jkd y2) 2 with
    | false => rfl
    | true => exact absurd (Nat.eq_of_beq_eq_true hb) h3
  · show Nat.beq (jkd y2) 0 = true
    rw [h3]
    rfl
theorem eFm_plain {zs : List Int} {L : List aE} (hp : plain L) : eFm zs L := by
  intro i e z he hz
  obtain ⟨lo, hi, rfl⟩ := hp e (List.mem_of_getElem? he)
  exact ⟨(fun F q => by cases q), tg0⟩
theorem plain_app {a b : List aE} (h1 : plain a) (h2 : plain b) : plain (a ++ b) := fun e he => by
  rcases List.mem_append.mp he with z | z
  · exact h1 e z
  · exact h2 e z
theorem idv_range : ∀ (os vs : List Int), idv (vs ++ os) ((List.range os.length).map (fun j => vs.length + j)) os := by
  intro os vs
  rw [idv, List.map_map]
  apply List.ext_getElem?
  intro j
  rw [List.getElem?_map, List.getElem?_map]
  rcases Nat.lt_or_ge j os.length with hj | hj
  · rw [List.getElem?_range hj, List.getElem?_eq_getElem hj]
    show some ((vs ++ os)[vs.length + j]?) = _
    rw [getE_right (by omega), show vs.length + j - vs.length = j by omega, List.getElem?_eq_getElem hj]
    rfl
  · rw [List.getElem?_eq_none (by simpa using hj), List.getElem?_eq_none hj]
    rfl
theorem sk_cat {g : jG} {vs : List Int} {bk : aB} : ∀ (stk : List aV) (st : List Value), skOK g vs bk stk st → (st.map fun v => v.category).sum = catS stk := by
  intro stk
  induction stk with
  | nil => intro st hs; cases st with
    | nil => rfl
    | cons => exact absurd hs id
  | cons v t ih =>
    intro st hs
    cases st with
    | nil => exact absurd hs id
    | cons w u =>
      rw [List.map_cons, List.sum_cons, ih u hs.2, hs.1.cat, catS]
theorem sk_at {g : jG} {vs : List Int} {bk : aB} : ∀ (stk : List aV) (st : List Value), skOK g vs bk stk st → stk.length = st.length ∧ ∀ (i : Nat) (v : aV), stk[i]? = some v → ∃ w, st[i]? = some w ∧ vOK g vs bk v w := by
  intro stk
  induction stk with
  | nil => intro st hs; cases st with
    | nil => exact ⟨rfl, fun i v hv => by simp at hv⟩
    | cons => exact absurd hs id
  | cons v t ih =>
    intro st hs
    cases st with
    | nil => exact absurd hs id
    | cons w u =>
      obtain ⟨h1, h2⟩ := ih u hs.2
      refine ⟨by simp [h1], fun i v2 hi => ?_⟩
      cases i with
      | zero =>
        have e : v = v2 := by simpa using hi
        subst e
        exact ⟨w, rfl, hs.1⟩
      | succ i =>
        obtain ⟨x, x1, x2⟩ := h2 i v2 (by simpa using hi)
        exact ⟨x, by simpa using x1, x2⟩
theorem sk_drop {g : jG} {vs : List Int} {bk : aB} : ∀ (n : Nat) (stk : List aV) (st : List Value), skOK g vs bk stk st → skOK g vs bk (stk.drop n) (st.drop n) := by
  intro n
  induction n with
  | zero => intro stk st hs; exact hs
  | succ n ih =>
    intro stk st hs
    cases stk with
    | nil => cases st with
      | nil => exact hs
      | cons => exact absurd hs id
    | cons v t =>
      cases st with
      | nil => exact absurd hs id
      | cons w u => exact ih t u hs.2
section CL
variable {TT : List (List aCT)} {g : jG} {EI : aB → jH → Prop} {W P : List aR} {bk0 : aB} {h0 : jH} {ev : List Int} {y : Nat} {vs : List Int} {bk : aB} {al : List (Option Value)} {st : List Value} {h : jH} {env : List aE} {fc : List aF} {loc : List (Option aV)} {stk : List aV} {ov : List aO} {pr : List Nat} {l : Launch} {d pc kc ks : Nat} {Q : Option Value → jH → Prop}
theorem PT.drop (n : Nat) (hp : PT TT g EI W bk0 h0 ev y vs bk al st h (env, fc, loc, stk, ov, pr)) : PT TT g EI W bk0 h0 ev y vs bk al (st.drop n) h (env, fc, loc, stk.drop n, ov, pr) :=
  ⟨⟨hp.1.1, hp.1.2.1, hp.1.2.2.1, hp.1.2.2.2.1, sk_drop n _ _ hp.1.2.2.2.2.1, hp.1.2.2.2.2.2⟩, hp.2⟩
/-- a contract at a call -/
theorem stepB_ok {i s : Nat} {lo z : Int} (hM : eFm vs env) (hz : vs[i]? = some z) (h : stepB env i lo s = true) : (z - lo) % (s : Int) = 0 := by
  rw [stepB, Bool.and_eq_true] at h
  have h1 := lin_ok hM hz
  rw [fev] at h1
  cases hr : fevl vs (lin env i).1 with
  | none => rw [hr] at h1; cases h1
  | some r =>
    rw [hr] at h1
    have h2 : r + (lin env i).2 = z := Option.some.inj h1
    have h3 := fevl_mod _ _ h.1 hr
    have h4 : ((lin env i).2 - lo) % (s : Int) = 0 := by simpa using h.2
    have h5 := Int.dvd_add (Int.dvd_of_emod_eq_zero h3) (Int.dvd_of_emod_eq_zero h4)
    rw [show z - lo = r + ((lin env i).2 - lo) by omega]
    exact Int.emod_eq_zero_of_dvd h5
theorem stepsB_ok {pids : List Nat} {zs zc : List Int} {L : List (Nat × Int × Nat)} (hM : eFm vs env) (hi : idv vs pids zs) (h : stepsB env pids L = true) : ∀ q ∈ L, ∀ z, (zs ++ zc)[q.1]? = some z → (z - q.2.1) % (q.2.2 : Int) = 0 := by
  intro q hq z hz
  have h1 := List.all_eq_true.mp h q hq
  cases hp : pids[q.1]? with
  | none => rw [hp] at h1; cases h1
  | some i =>
    rw [hp] at h1
    have hlt : q.1 < pids.length := (List.getElem?_eq_some_iff.mp hp).1
    rw [List.getElem?_append_left (by rw [← hi.len]; exact hlt)] at hz
    have h2 := congrArg (fun l => l[q.1]?) hi
    simp only [List.getElem?_map, hp, hz, Option.map_some] at h2
    exact stepB_ok hM (Option.some.inj h2) h1
theorem aApp_ok {K : aK} {L : List aS} {as : List aV} {As : List Value} (hK : kOK TT g EI l K) (hA : aApp TT W d K env fc loc stk ov pr as = some L) (hp : PT TT g EI W bk0 h0 ev y vs bk al st h (env, fc, loc, stk, ov, pr)) (hl : As.length = as.length) (ha : ∀ (i : Nat) (v : aV), as[i]? = some v → ∃ w, As[i]? = some w ∧ vOK g vs bk v w) :
    K.2.2.2.2.2.2.2.2.1 + 1 ≤ d ∧ catS stk ≤ 8 ∧ ∃ Q' : Option Value → jH → Prop, jCal l g K.1 K.2.2.2.2.2.2.2.2.1 As h K.2.2.2.2.2.2.2.2.2.1 K.2.2.2.2.2.2.2.2.2.2 Q' ∧ ∀ v h', Q' v h' → ∃ S ∈ L, ∃ (vs' : List Int) (bk' : aB), PT TT g EI W bk0 h0 ev y vs' bk' al (v.toList ++ st) h' S := by
  rw [aApp] at hA
  cases hs : spIds env fc (as.map some) (K.2.1.filter (fun q => q.isSome)) with
  | none => rw [hs] at hA; cases hA
  | some pids =>
    rw [hs] at hA
    dsimp only at hA
    cases hc : clIds TT K.2.2.1 env ov fc with
    | none => rw [hc] at hA; cases hA
    | some r =>
      rw [hc] at hA
      dsimp only at hA
      cases hb : (spFit K.2.1 (jmx K.1) && Nat.beq as.length (K.2.1.filter (fun q => q.isSome)).length && entA r.1 fc (pids ++ r.2.2) K.2.2.2.1 && subW K.2.2.2.2.2.2.2.1 W && Nat.ble (K.2.2.2.2.2.2.2.2.1 + 1) d && Nat.ble (catS stk) 8 && stk.all (fun v => Nat.ble v.1 3) && stepsB env pids (spSd 0 K.2.1)) with
      | false => rw [hb] at hA; cases hA
      | true =>
        rw [hb] at hA
        simp only [cond_true] at hA
        simp only [Bool.and_eq_true] at hb
        obtain ⟨⟨⟨⟨⟨⟨⟨b1, b2⟩, b3⟩, b4⟩, b5⟩, b6⟩, b7⟩, b8⟩ := hb
        refine ⟨Nat.le_of_ble_eq_true b5, Nat.le_of_ble_eq_true b6, ?_⟩
        obtain ⟨zs, i1, i2, i3⟩ := spIds_ok (g := g) (bk := bk) hp.ee _ (as.map some) (As.map some) pids hs (fun i v hi => by
          rw [List.getElem?_map] at hi
          cases hv : as[i]? with
          | none => rw [hv] at hi; cases hi
          | some v2 =>
            rw [hv] at hi
            have e : v2 = v := by simpa using hi
            subst e
            obtain ⟨w, w1, w2⟩ := ha i v2 hv
            exact ⟨w, by rw [List.getElem?_map, w1]; rfl, w2⟩)
        obtain ⟨ws, zc, hP, j1, j2⟩ := clIds_ok _ vs env ov r hc hp
        have hid : idv (vs ++ ws) (pids ++ r.2.2) (zs ++ zc) := idv.cat i1.app j1
        have hpre := entA_ok hP.ee hid b3
        rw [spEnv_filter] at i2
        obtain ⟨a1, a2⟩ := args_ok (g := g) (bk := bk) (zz := zs ++ zc) (av := As) (y2 := K.1) b1 (by rw [hl]; exact Nat.eq_of_beq_eq_true b2) (fun i v hi => by
          obtain ⟨w, w1, w2⟩ := i3 [] zc i v hi
          rw [List.getElem?_map] at w1
          cases hv : As[i]? with
          | none => rw [hv] at w1; cases w1
          | some w3 =>
            rw [hv] at w1
            have e : w3 = w := by simpa using w1
            subst e
            exact ⟨w3, rfl, by simpa using w2⟩)
        have hI : eIv (zs ++ zc) (kEnv K) := eIv.appl i2 (out_bd j2)
        have hJ := hK bk h As (zs ++ zc) hp.2.1.1 hp.2.1.2.1 hp.2.1.2.2.1 hp.2.1.2.2.2.2.2 a1 (by rw [← hI.1]; simp [kEnv, kN, clEnv]) (fun q hq z hz => stepsB_ok hp.ee.2.1 i1 b8 q hq z hz) ⟨hI, eFm_plain (plain_app (spEnv_plain _) clEnv_plain), hpre, a2, trivial, fun q hq => by
          obtain ⟨j, c, h1, rfl⟩ := clOv_mem _ _ _ hq
          have hj : j < zc.length := by rw [j2.1]; exact (List.getElem?_eq_some_iff.mp h1).1
          have hx : zc[j]? = some zc[j] := List.getElem?_eq_getElem hj
          obtain ⟨-, b, cc, k1, k2, k3⟩ := j2.2 j c _ h1 hx
          refine ⟨_, b, cc, zc[j], fcon_ok, k1, k2, k3, ?_⟩
          show (zs ++ zc)[(spEnv K.2.1).length + j]? = _
          rw [i2.1, getE_right (by omega), show zs.length + j - zs.length = j by omega]
          exact hx, fun B hB => absurd hB List.not_mem_nil⟩
        refine ⟨_, hJ, fun v h' hq => ?_⟩
        obtain ⟨bk', os, q1, q2, q, q3, q4⟩ := hq
        have hP2 := (hP.after q1 b4 b7).outs q2
        obtain ⟨S, s1, s2⟩ := aAnsA_mem hA q q3
        have hi2 : idv (vs ++ ws ++ os) (pids ++ r.2.2 ++ (List.range K.2.2.2.2.2.1.length).map (fun j => r.1.length + j)) (zs ++ zc ++ os) := by
          refine idv.cat hid.app ?_
          have := idv_range os (vs ++ ws)
          rw [q2.1, ← hP.1.1.1] at this
          exact this
        obtain ⟨vs', hv⟩ := aAns_ok hP2 hi2 q4 s2
        exact ⟨S, s1, vs', bk', hv⟩
theorem aCall_ok {KT : List aK} {n y2 : Nat} {as : List aV} : ∀ {C : List Nat} {r : Nat × Nat × List aS}, aCall TT KT W d n y2 kc ks env fc loc stk ov pr as C = some r → ∃ k K, KT[k]? = some K ∧ k < n ∧ K.1 = y2 ∧ K.2.2.2.2.2.2.2.2.2.1 + r.1 = kc ∧ K.2.2.2.2.2.2.2.2.2.2 + r.2.1 = ks ∧ aApp TT W d K env fc loc stk ov pr as = some r.2.2 := by
  intro C
  induction C with
  | nil => intro r hr; rw [aCall] at hr; cases hr
  | cons k t ih =>
    intro r hr
    rw [aCall] at hr
    cases hk : KT[k]? with
    | none => rw [hk] at hr; cases hr
    | some K =>
      rw [hk] at hr
      dsimp only at hr
      cases hb : (Nat.blt k n && Nat.beq K.1 y2 && Nat.ble K.2.2.2.2.2.2.2.2.2.1 kc && Nat.ble K.2.2.2.2.2.2.2.2.2.2 ks) with
      | false => rw [hb] at hr; exact ih hr
      | true =>
        rw [hb] at hr
        simp only [cond_true] at hr
        cases ha : aApp TT W d K env fc loc stk ov pr as with
        | none => rw [ha] at hr; exact ih hr
        | some L =>
          rw [ha] at hr
          have hr2 := Option.some.inj hr
          clear hr
          subst hr2
          simp only [Bool.and_eq_true] at hb
          obtain ⟨⟨⟨b1, b2⟩, b3⟩, b4⟩ := hb
          have b3 := Nat.le_of_ble_eq_true b3
          have b4 := Nat.le_of_ble_eq_true b4
          refine ⟨k, K, hk, Nat.le_of_ble_eq_true b1, Nat.eq_of_beq_eq_true b2, ?_, ?_, ha⟩
          · show _ + (kc - _) = kc; omega
          · show _ + (ks - _) = ks; omega
/-- the arguments on the stack -/
theorem sk_args {n : Nat} (hs : skOK g vs bk stk st) (hn : n ≤ stk.length) : st = ((st.take n).reverse).reverse ++ st.drop n ∧ ((st.take n).reverse).length = ((stk.take n).reverse).length ∧ ((st.take n).reverse).length = n ∧ ∀ (i : Nat) (v : aV), ((stk.take n).reverse)[i]? = some v → ∃ w, ((st.take n).reverse)[i]? = some w ∧ vOK g vs bk v w := by
  obtain ⟨h1, h2⟩ := sk_at _ _ hs
  have e1 : (stk.take n).length = n := by rw [List.length_take]; omega
  have e2 : (st.take n).length = n := by rw [List.length_take]; omega
  refine ⟨by rw [List.reverse_reverse, List.take_append_drop], by rw [List.length_reverse, List.length_reverse, e1, e2], by rw [List.length_reverse, e2], fun i v hi => ?_⟩
  have hlt : i < n := by
    have := (List.getElem?_eq_some_iff.mp hi).1
    rw [List.length_reverse, e1] at this
    exact this
  rw [List.getElem?_reverse (by rw [e1]; exact hlt), e1, List.getElem?_take, if_pos (by omega)] at hi
  obtain ⟨w, w1, w2⟩ := h2 _ v hi
  exact ⟨w, by rw [List.getElem?_reverse (by rw [e2]; exact hlt), e2, List.getElem?_take, if_pos (by omega)]; exact w1, w2⟩
end CL
