/-! image and back of the class, with what becomes of the relation's numbers -/
section XR
variable {l : Launch} {g : jG} {n : Int}
theorem eq_post {a x : Int} (hp : postOK ([a] ++ [] ++ [x]) [([(0, -1), (1, 1)], 0), ([(0, 1), (1, -1)], 0)]) : x = a := by
  obtain ⟨w1, e1, p1⟩ := hp _ List.mem_cons_self
  obtain ⟨w2, e2, p2⟩ := hp _ (List.mem_cons_of_mem _ List.mem_cons_self)
  have e1 : some (-1 * a + (1 * x + 0) + 0) = some w1 := e1
  have e2 : some (1 * a + (-1 * x + 0) + 0) = some w2 := e2
  have e1 := Option.some.inj e1
  have e2 := Option.some.inj e2
  omega
theorem cv_set {h : jH} {i a z : Nat} {c : jC} {x : Int} (hne : i ≠ a) (hc : cv h a z x) : cv (h.set i c) a z x := by
  obtain ⟨c', c1, c2⟩ := hc
  exact ⟨c', by rw [List.getElem?_set_ne hne]; exact c1, c2⟩
theorem lu_436 (hk : kOK TTs g (EIm n) l Kx_436) {W0 : List aR} {bk0 bk : aB} {h0 h : jH} (hO : hOK TTs g (EIm n) W0 bk0 h0 bk h) {a0 : Nat} (ha0 : bk 0 = some a0) {x1 : Int32} (hx1 : (-2147483648 : Int) ≤ x1.toInt ∧ x1.toInt ≤ 2147483647) :
    jCal l g 17 1 [.ref (g.2.2 + (a0 + 0)), .int x1] h 0 0 (kPost TTs g (EIm n) Kx_436 bk h [x1.toInt]) := by
  refine hk bk h [.ref (g.2.2 + (a0 + 0)), .int x1] [x1.toInt] hO.1 hO.2.1 hO.2.2.1 hO.2.2.2.2.2 (show 2 ≤ jmx 17 by decide +kernel) rfl (fun q hq => ?_) ⟨⟨rfl, fun i e z he hz => ?_⟩, eFm_plain (plain_app (spEnv_plain _) clEnv_plain), fun F hF => absurd hF List.not_mem_nil, fun i v hv => ?_, trivial, fun q hq => ?_, fun B hB => absurd hB List.not_mem_nil⟩
  · have hq : q ∈ ([] : List (Nat × Int × Nat)) := hq
    exact absurd hq List.not_mem_nil
  · match i, he, hz with
    | 0, he, hz => cases he; cases hz; exact hx1
    | i + 1, he, _ => cases he
  · match i, hv with
    | 0, hv => cases hv; exact ⟨_, rfl, a0, ha0, rfl⟩
    | 1, hv => cases hv; exact ⟨_, rfl, x1, rfl, rfl⟩
    | i + 2, hv => cases hv
  · exact absurd hq List.not_mem_nil
theorem lu_439 (hk : kOK TTs g (EIm n) l Kx_439) {W0 : List aR} {bk0 bk : aB} {h0 h : jH} (hO : hOK TTs g (EIm n) W0 bk0 h0 bk h) {a0 : Nat} (ha0 : bk 0 = some a0)  :
    jCal l g 127 1 [.ref (g.2.2 + (a0 + 0))] h 0 0 (kPost TTs g (EIm n) Kx_439 bk h []) := by
  refine hk bk h [.ref (g.2.2 + (a0 + 0))] [] hO.1 hO.2.1 hO.2.2.1 hO.2.2.2.2.2 (show 1 ≤ jmx 127 by decide +kernel) rfl (fun q hq => ?_) ⟨⟨rfl, fun i e z he hz => ?_⟩, eFm_plain (plain_app (spEnv_plain _) clEnv_plain), fun F hF => absurd hF List.not_mem_nil, fun i v hv => ?_, trivial, fun q hq => ?_, fun B hB => absurd hB List.not_mem_nil⟩
  · have hq : q ∈ ([] : List (Nat × Int × Nat)) := hq
    exact absurd hq List.not_mem_nil
  · match i, he, hz with
    | i + 0, he, _ => cases he
  · match i, hv with
    | 0, hv => cases hv; exact ⟨_, rfl, a0, ha0, rfl⟩
    | i + 1, hv => cases hv
  · exact absurd hq List.not_mem_nil
theorem lu_440 (hk : kOK TTs g (EIm n) l Kx_440) {W0 : List aR} {bk0 bk : aB} {h0 h : jH} (hO : hOK TTs g (EIm n) W0 bk0 h0 bk h) {a0 : Nat} (ha0 : bk 0 = some a0) {x1 : Int32} (hx1 : (-6 : Int) ≤ x1.toInt ∧ x1.toInt ≤ -1) :
    jCal l g 16 1 [.ref (g.2.2 + (a0 + 0)), .int x1] h 0 0 (kPost TTs g (EIm n) Kx_440 bk h [x1.toInt]) := by
  refine hk bk h [.ref (g.2.2 + (a0 + 0)), .int x1] [x1.toInt] hO.1 hO.2.1 hO.2.2.1 hO.2.2.2.2.2 (show 2 ≤ jmx 16 by decide +kernel) rfl (fun q hq => ?_) ⟨⟨rfl, fun i e z he hz => ?_⟩, eFm_plain (plain_app (spEnv_plain _) clEnv_plain), fun F hF => absurd hF List.not_mem_nil, fun i v hv => ?_, trivial, fun q hq => ?_, fun B hB => absurd hB List.not_mem_nil⟩
  · have hq : q ∈ ([] : List (Nat × Int × Nat)) := hq
    exact absurd hq List.not_mem_nil
  · match i, he, hz with
    | 0, he, hz => cases he; cases hz; exact hx1
    | i + 1, he, _ => cases he
  · match i, hv with
    | 0, hv => cases hv; exact ⟨_, rfl, a0, ha0, rfl⟩
    | 1, hv => cases hv; exact ⟨_, rfl, x1, rfl, rfl⟩
    | i + 2, hv => cases hv
  · exact absurd hq List.not_mem_nil
def xmR0 : List aR := [(0, 0, 1, 1), (0, 0, 7, 7)] ++ Kx_734.2.2.2.2.2.2.2.1 ++ Kx_736.2.2.2.2.2.2.2.1
def xmD0Q (g : jG) (n : Int) (bk : aB) (h : jH) (b : Nat) (v : Option Value) (h' : jH) : Prop := v = some (.int 0) ∧ ∃ bk' a, hOK TTs g (EIm n) xmR0 bk h bk' h' ∧ bk' 2 = some a ∧ ∀ q ∈ rlE, ∀ i, i < rln q → ∃ x, cv h' (b + 1 + (q.1 - 1)) (rlz q i) x ∧ cv h' (a + (q.1 - 1)) (rlz q i) x
set_option maxRecDepth 16384 in
theorem xmD_0 (ha : ∀ (k : Nat) (K : aK), KTx[k]? = some K → kOK TTs g (EIm n) l K) {bk : aB} {h : jH} {b : Nat} (hT : HT TTs g bk h) (hD : BD TTs bk) (hE : EIm n bk h) (hb1 : ∀ B, B ≤ 1 → ∃ b, bk B = some b) (hb : bk 0 = some b) (h7 : bk 7 = none) :
    jCal l g 193 9 [jad g b 0, .int 0] h 48 4307 (xmD0Q g n bk h b) := by
  have hcls : jcN 11 = (jyN 193).cls := by decide +kernel
  have fin : ∀ (bk' : aB) (h' : jH) (v : Value) (a : Nat), hOK TTs g (EIm n) xmR0 bk h bk' h' → bk' 2 = some a → (∀ q ∈ rlE, ∀ i, i < rln q → ∃ x, cv h' (b + 1 + (q.1 - 1)) (rlz q i) x ∧ cv h' (a + (q.1 - 1)) (rlz q i) x) → J l g 193 9 68 [some (jad g b 0), some (.int 0), some v] [] h' 0 0 (xmD0Q g n bk h b) := by
    intro bk' h' v a hO hX hC
    have hb' := hO.2.2.2.2.1 0 b hb
    obtain ⟨cx, hcx, fx, rfl, -, -⟩ := hO.1 0 b 0 _ hb' ty_x0
    have hcx : h'[b + 0]? = some (.inr (11, fx)) := hcx
    refine j_aload_n (k4 := 0) (dQ (by decide +kernel)) rfl ?_
    refine j_iconst (n := 0) (dQ (by decide +kernel)) ?_
    show J l g 193 9 70 _ (([.int (Int32.ofInt 0)] : List Value).reverse ++ .ref (g.2.2 + (b + 0)) :: []) h' (0 + 0) (0 + 0) _
    refine j_cV (own := 11) (i := 48) (y2 := 17) (d2 := 1) (a := b + 0) (As := [.int (Int32.ofInt 0)]) (st := []) (dQ (by decide +kernel)) hcls (by decide +kernel) (by decide) (by decide +kernel) (show 1 = jnp 17 by decide +kernel) (by decide) (by decide) hcx (fun r hr => by cases hr; decide +kernel) (lu_436 (ha 436 _ rfl) hO hb' ⟨i32_lo _, i32_hi _⟩) (fun v2 h2 hq => ?_)
    obtain ⟨bk2, os, hO2, ko, q, hq1, hq2⟩ := hq
    have hos : os = [] := List.eq_nil_of_length_eq_zero ko.1
    subst hos
    have hq3 : q = (0, -2147483648, 2147483647, 0, 0, []) := List.mem_singleton.mp hq1
    subst hq3
    obtain ⟨x, rfl, -, -, hp⟩ := hq2
    have hx := eq_post hp
    have hx0 : x = 0 := i32_eq (by rw [hx]; rfl)
    subst hx0
    refine j_ret (v := some (.int 0)) ⟨by decide +kernel, Or.inl (by decide +kernel)⟩ ⟨rfl, bk2, a, hO.tr (by decide +kernel) hO2, hO2.2.2.2.2.1 _ a hX, fun q hq i hi => ?_⟩ rfl
    obtain ⟨x, x1, x2⟩ := hC q hq i hi
    refine ⟨x, ?_, rlX_off hO2 hX (rl_ty (k := 0) (by decide) hq) (apW_mem (by decide +kernel : apW [(0, 0, 7, 7)] (rlFk 0) = true) (rl_xk hq)) hi x2⟩
    rw [rl_sh hq] at x1 ⊢
    exact rlX_off hO2 hb' (rlE_at hq).1 (apW_mem (by decide +kernel : apW [(0, 0, 7, 7)] rlF0 = true) (rl_x0 hq)) hi x1
  have sto : ∀ (bk' : aB) (h' : jH) (a : Nat) (fs' : List Value), h'[b + 0]? = some (.inr (11, fs')) → fs'.length = 12 → hOK TTs g (EIm n) xmR0 bk h bk' (h'.set (b + 0) (.inr (11, fs'.set 1 (jad g a 0)))) → bk' 2 = some a → (∀ q ∈ rlE, ∀ i, i < rln q → ∃ x, cv h' (b + 1 + (q.1 - 1)) (rlz q i) x ∧ cv h' (a + (q.1 - 1)) (rlz q i) x) → J l g 193 9 51 [some (jad g b 0), some (.int 0), some (jad g a 0)] [] h' 0 0 (xmD0Q g n bk h b) := by
    intro bk' h' a fs' hc' hl' hO hX hC
    refine j_iload_n (k4 := 1) (dQ (by decide +kernel)) rfl ?_
    refine j_if_ne (off := 11) (tgt := 63) (dQ (by decide +kernel)) (by decide) (fun e => absurd rfl e) (fun _ => ?_)
    refine j_aload_n (k4 := 0) (dQ (by decide +kernel)) rfl ?_
    refine j_aload_n (k4 := 2) (dQ (by decide +kernel)) rfl ?_
    refine j_put (own := 11) (i := 353) (ci := 11) (f := 1) (ty := .object "TrainDescriber$State") (dQ (by decide +kernel)) hcls (by decide +kernel) hc' rfl (by decide +kernel) (by omega) (by decide +kernel) (by decide +kernel) rfl rfl ?_
    refine j_goto (off := 8) (tgt := 68) (dQ (by decide +kernel)) (by decide) ?_
    refine fin bk' _ _ a hO hX (fun q hq i hi => ?_)
    obtain ⟨x, x1, x2⟩ := hC q hq i hi
    have hb' := hO.2.2.2.2.1 0 b hb
    refine ⟨x, cv_set (by omega) x1, cv_set (fun e => ?_) x2⟩
    have := (hO.2.1 0 2 b a 0 (q.1 - 1) hb' hX (by decide +kernel) (rl_ty (k := 0) (by decide) hq) e).1
    cases this
  have n11 : ∀ f, f < 12 → ∀ r, jcl[11]? = some r → f < r.2.2 := fun f hf r hr => by
    cases hr
    have : (12 : Nat) = nfX11 := by decide +kernel
    show f < nfX11
    omega
  have xl : xTs.length = 12 := by decide +kernel
  -- from 43 on: the call
  have cal : ∀ (WB : List aR) (bkA : aB) (hA : jH) (a : Nat), HT TTs g bkA hA → bkA 0 = some b → (∃ ss, hA[a + 0]? = some (.inr (7, ss))) →
      (∃ P : Option Value → jH → Prop, jCal l g 194 3 [.ref (g.2.2 + (a + 0)), .ref (g.2.2 + (b + 1))] hA 0 0 P ∧ ∀ v h', P v h' → v = none ∧ ∃ bk', hOK TTs g (EIm n) WB bkA hA bk' h' ∧ ∀ q ∈ rlE, ∀ i, i < rln q → ∃ x, cv hA (b + 1 + (q.1 - 1)) (rlz q i) x ∧ cv h' (b + 1 + (q.1 - 1)) (rlz q i) x ∧ cv h' (a + (q.1 - 1)) (rlz q i) x) →
      (∀ (bk' : aB) (h' : jH), hOK TTs g (EIm n) WB bkA hA bk' h' → (∀ q ∈ rlE, ∀ i, i < rln q → ∃ x, cv h' (b + 1 + (q.1 - 1)) (rlz q i) x ∧ cv h' (a + (q.1 - 1)) (rlz q i) x) → J l g 193 9 51 [some (jad g b 0), some (.int 0), some (jad g a 0)] [] h' 0 0 (xmD0Q g n bk h b)) →
      J l g 193 9 43 [some (jad g b 0), some (.int 0), some (jad g a 0)] [] hA 0 0 (xmD0Q g n bk h b) := by
    intro WB bkA hA a hTA hbA hca hcal k
    obtain ⟨ss, hss⟩ := hca
    obtain ⟨P, hcal, hP⟩ := hcal
    obtain ⟨c, hc, fs, rfl, hfl, hfs⟩ := hTA 0 b 0 _ hbA ty_x0
    obtain ⟨vn, hvn, bn, hbn, rfl⟩ := hfs 0 (2, 0, 0, 0, 1) rfl
    have hbn : bkA 0 = some bn := hbn
    cases hbA.symm.trans hbn
    refine j_aload_n (k4 := 2) (dQ (by decide +kernel)) rfl ?_
    refine j_aload_n (k4 := 0) (dQ (by decide +kernel)) rfl ?_
    refine j_get (own := 11) (i := 10) (ci := 11) (f := 0) (dQ (by decide +kernel)) hcls (by decide +kernel) hc (n11 0 (by decide)) hvn ?_
    show J l g 193 9 48 _ (([jad g b 1] : List Value).reverse ++ .ref (g.2.2 + (a + 0)) :: []) _ (0 + 0) (0 + 0) _
    refine j_cV (own := 11) (i := 359) (y2 := 194) (d2 := 3) (a := a + 0) (As := [jad g b 1]) (st := []) (dQ (by decide +kernel)) hcls (by decide +kernel) (by decide) (by decide +kernel) (show 1 = jnp 194 by decide +kernel) (by decide) (by decide) hss (fun r hr => by cases hr; decide +kernel) hcal (fun v h' hq => ?_)
    obtain ⟨rfl, bk', hO, hC⟩ := hP v h' hq
    exact k bk' h' hO (fun q hq i hi => by
      obtain ⟨x, -, x1, x2⟩ := hC q hq i hi
      exact ⟨x, x1, x2⟩)
  obtain ⟨c, hc, fs, rfl, hfl, hfs⟩ := hT 0 b 0 _ hb ty_x0
  obtain ⟨v, hv, hvt⟩ := hfs 1 (3, 0, 0, 2, 0) rfl
  refine jCal_of (show plainName (jyN 193).cls = true by decide +kernel) (show 2 ≤ jmx 193 by decide +kernel) ?_
  show J l g 193 9 0 [some (jad g b 0), some (.int 0), none] [] h 48 4307 _
  refine j_iload_n (k4 := 1) (dQ (by decide +kernel)) rfl ?_
  refine j_if_lt (off := 8) (tgt := 9) (dQ (by decide +kernel)) (by decide) (fun e => absurd e (by decide)) (fun _ => ?_)
  refine j_iload_n (k4 := 1) (dQ (by decide +kernel)) rfl ?_
  refine j_iconst (n := 2) (dQ (by decide +kernel)) ?_
  refine j_icmp_lt (off := 9) (tgt := 15) (dQ (by decide +kernel)) (by decide) (fun _ => ?_) (fun e => absurd (by decide) e)
  refine j_iload_n (k4 := 1) (dQ (by decide +kernel)) rfl ?_
  refine j_if_ne (off := 10) (tgt := 26) (dQ (by decide +kernel)) (by decide) (fun e => absurd rfl e) (fun _ => ?_)
  refine j_aload_n (k4 := 0) (dQ (by decide +kernel)) rfl ?_
  refine j_get (own := 11) (i := 353) (ci := 11) (f := 1) (dQ (by decide +kernel)) hcls (by decide +kernel) hc (n11 1 (by decide)) hv ?_
  refine j_goto (off := 7) (tgt := 30) (dQ (by decide +kernel)) (by decide) ?_
  rcases hvt with ⟨a, hXa, rfl⟩ | ⟨hXn, rfl⟩
  · have hXa : bk 2 = some a := hXa
    refine j_astore_n (k4 := 2) (dQ (by decide +kernel)) (by decide +kernel) ?_
    show J l g 193 9 31 [some (jad g b 0), some (.int 0), some (jad g a 0)] [] h 48 4307 _
    refine j_aload_n (k4 := 2) (dQ (by decide +kernel)) rfl ?_
    refine j_ifnonnull (off := 11) (tgt := 43) (dQ (by decide +kernel)) (by decide) ?_
    refine J.room (kc := 0) (ks := 0) ?_ (by omega) (by omega)
    obtain ⟨cs, hcs, ss, rfl, -, -⟩ := hT 2 a 0 _ hXa ty_s2
    have hO0 : hOK TTs g (EIm n) [] bk h bk h := hOK.rf hT hD hE hb1
    refine cal Kx_734.2.2.2.2.2.2.2.1 bk h a hT hb ⟨ss, hcs⟩ (cf_20 ha hO0 hXa hb) (fun bk' h' hO hC => ?_)
    have hb' := hO.2.2.2.2.1 0 b hb
    obtain ⟨c', hc', fs', rfl, hfl', hfs'⟩ := hO.1 0 b 0 _ hb' ty_x0
    obtain ⟨w, hw, hwt⟩ := hfs' 1 (3, 0, 0, 2, 0) rfl
    refine sto bk' h' a fs' hc' (by rw [hfl']; exact xl) ?_ (hO.2.2.2.2.1 2 a hXa) hC
    have hwa : w = jad g a 0 := by
      rcases hwt with ⟨a', ha', rfl⟩ | ⟨ha', -⟩
      · have ha' : bk' 2 = some a' := ha'
        cases (hO.2.2.2.2.1 2 a hXa).symm.trans ha'
        rfl
      · have ha' : bk' 2 = none := ha'
        rw [hO.2.2.2.2.1 2 a hXa] at ha'
        cases ha'
    rw [hwa] at hw
    rw [set_id fs' 1 _ hw, set_id h' (b + 0) _ hc']
    exact ⟨hO.1, hO.2.1, hO.2.2.1, hO.2.2.2.1.mono (by decide +kernel), hO.2.2.2.2.1, hO.2.2.2.2.2⟩
  · have hXn : bk 2 = none := hXn
    refine j_astore_nN (k4 := 2) (dQ (by decide +kernel)) (by decide +kernel) ?_
    show J l g 193 9 31 [some (jad g b 0), some (.int 0), some .null] [] h 48 4307 _
    refine j_aload_nN (k4 := 2) (dQ (by decide +kernel)) rfl ?_
    refine j_ifnonnullN (off := 11) (dQ (by decide +kernel)) ?_
    obtain ⟨L, H, hL, hcev, htyp⟩ := iniB_ok ini_7
    have hLl : L.length = 20 := by
      have e := hL
      cases e
      rfl
    refine J.room (kc := 1 + (47 + 0)) (ks := L.length + (4287 + 0)) ?_ (by omega) (by rw [hLl]; omega)
    refine new_run (i := 7) (j := 9) (y2 := 2) (own2 := 7) (fuel := 500) (d2 := 8) (by decide +kernel) (by decide +kernel) (by decide +kernel) hcls (by decide +kernel) hL (Or.inl (by decide +kernel)) (by decide) (by decide +kernel) (by decide +kernel) (by decide +kernel) (by decide +kernel) (by decide +kernel) (by decide +kernel) (by decide +kernel) (by decide +kernel) (by decide) (by decide) hcev ?_
    refine j_astore_n (k4 := 2) (dQ (by decide +kernel)) (by decide +kernel) ?_
    show J l g 193 9 43 [some (jad g b 0), some (.int 0), some (jad g h.length 0)] [] (chp g h H) 0 0 _
    have no37 : ∀ (B o k : Nat) (q : Nat × List aT) (t : aT), tyAt TTs B o = some (.inr q) → q.2[k]? = some t → ¬ (t.1 = 3 ∧ t.2.2.2.1 = 7) := fun B o k q t h1 h2 e => by
      obtain ⟨e1, -, -⟩ := only3_ok on_7 h1 h2 e.1 e.2
      subst e1
      cases h1
    have hT7 : HT TTs g (bkN bk 7 h.length) (chp g h H) := HT_add hT h7 (show TTs[7]? = some TT_7 from rfl) (by decide +kernel) htyp no37
    obtain ⟨cs, hcs, ss, rfl, -, -⟩ := hT7 7 h.length 0 _ bkN_self ty_s7
    have hO0 : hOK TTs g (EIm n) [] (bkN bk 7 h.length) (chp g h H) (bkN bk 7 h.length) (chp g h H) := hOK.rf hT7 (BD_new hT hD h7) (EIm_add hT hE) (fun B hB => by
      obtain ⟨c, hc⟩ := hb1 B hB
      exact ⟨c, bkN_old h7 hc⟩)
    refine cal Kx_736.2.2.2.2.2.2.2.1 (bkN bk 7 h.length) (chp g h H) h.length hT7 (bkN_old h7 hb) ⟨ss, hcs⟩ (cf_70 ha hO0 bkN_self (bkN_old h7 hb)) (fun bk' h' hO hC => ?_)
    have sub : ∀ B c, bk B = some c → bk' B = some c := fun B c hB => hO.2.2.2.2.1 B c (bkN_old h7 hB)
    have hb' := sub 0 b hb
    have h7' : bk' 7 = some h.length := hO.2.2.2.2.1 7 _ bkN_self
    obtain ⟨c', hc', fs', rfl, hfl', hfs'⟩ := hO.1 0 b 0 _ hb' ty_x0
    obtain ⟨w, hw, hwt⟩ := hfs' 1 (3, 0, 0, 2, 0) rfl
    have hcH : (chp g h H)[b + 0]? = some (.inr (11, fs)) := by
      rw [chp, List.getElem?_append_left (List.getElem?_eq_some_iff.mp hc).1]
      exact hc
    have hwn : w = .null := by
      obtain ⟨c2, g1, g2⟩ := hO.2.2.2.1.2 0 b 0 _ (bkN_old h7 hb) (by decide +kernel) hcH
      cases hc'.symm.trans g1
      have g3 := g2.2.2 1 (fun hin => by
        obtain ⟨z, hz, z1, -⟩ := hin
        have : (Kx_736.2.2.2.2.2.2.2.1).all (fun z => !Nat.beq z.1 0) = true := by decide +kernel
        have := List.all_eq_true.mp this z hz
        rw [z1] at this
        cases this)
      have g4 : fs'[1]? = fs[1]? := g3
      rw [hw, hv] at g4
      exact Option.some.inj g4
    have hX' : bk' 2 = none := by
      rcases hwt with ⟨a', ha', e⟩ | ⟨ha', -⟩
      · rw [hwn] at e
        cases e
      · exact ha'
    refine sto (bkR bk' 2 h.length) h' h.length fs' hc' (by rw [hfl']; exact xl) ?_ bkR_self hC
    have U0 : UN TTs xmR0 bk h (chp g h H) := UN_add hT
    have U1 : UN TTs xmR0 (bkN bk 7 h.length) (chp g h H) h' := hO.2.2.2.1.mono (by decide +kernel)
    have U2 : UN TTs xmR0 bk' h' (h'.set (b + 0) (.inr (11, fs'.set 1 (jad g h.length 0)))) := (UN.set (W := [(0, 0, 1, 1)]) hO.2.1 hb' (by decide +kernel) hc' offW_fs).mono (by decide +kernel)
    refine ⟨HT_ren hO.1 hO.2.1 hX' h7' ren_2 on_2 hb' hc' ⟨_, _, ty_x0, rfl, rfl, rfl, rfl⟩, BD_ren hO.2.1 h7' (by decide) ren_2, EIm_ren hO.1 hO.2.1 hO.2.2.1 hb' (by decide), (U0.tr (fun B c hB => bkN_old h7 hB) U1).tr sub U2, fun B c hB => ?_, fun B hB => ?_⟩
    · rw [bkR_ne (fun e => by subst e; rw [hXn] at hB; cases hB) (fun e => by subst e; rw [h7] at hB; cases hB)]
      exact sub B c hB
    · rw [bkR_ne (by omega) (by omega)]
      exact hO.2.2.2.2.2 B hB
def xmR1 : List aR := [(0, 0, 2, 2), (0, 0, 7, 7)] ++ Kx_735.2.2.2.2.2.2.2.1 ++ Kx_736.2.2.2.2.2.2.2.1
def xmD1Q (g : jG) (n : Int) (bk : aB) (h : jH) (b : Nat) (v : Option Value) (h' : jH) : Prop := v = some (.int 0) ∧ ∃ bk' a, hOK TTs g (EIm n) xmR1 bk h bk' h' ∧ bk' 3 = some a ∧ ∀ q ∈ rlE, ∀ i, i < rln q → ∃ x, cv h' (b + 1 + (q.1 - 1)) (rlz q i) x ∧ cv h' (a + (q.1 - 1)) (rlz q i) x
set_option maxRecDepth 16384 in
theorem xmD_1 (ha : ∀ (k : Nat) (K : aK), KTx[k]? = some K → kOK TTs g (EIm n) l K) {bk : aB} {h : jH} {b : Nat} (hT : HT TTs g bk h) (hD : BD TTs bk) (hE : EIm n bk h) (hb1 : ∀ B, B ≤ 1 → ∃ b, bk B = some b) (hb : bk 0 = some b) (h7 : bk 7 = none) :
    jCal l g 193 9 [jad g b 0, .int 1] h 48 4307 (xmD1Q g n bk h b) := by
  have hcls : jcN 11 = (jyN 193).cls := by decide +kernel
  have fin : ∀ (bk' : aB) (h' : jH) (v : Value) (a : Nat), hOK TTs g (EIm n) xmR1 bk h bk' h' → bk' 3 = some a → (∀ q ∈ rlE, ∀ i, i < rln q → ∃ x, cv h' (b + 1 + (q.1 - 1)) (rlz q i) x ∧ cv h' (a + (q.1 - 1)) (rlz q i) x) → J l g 193 9 68 [some (jad g b 0), some (.int 1), some v] [] h' 0 0 (xmD1Q g n bk h b) := by
    intro bk' h' v a hO hX hC
    have hb' := hO.2.2.2.2.1 0 b hb
    obtain ⟨cx, hcx, fx, rfl, -, -⟩ := hO.1 0 b 0 _ hb' ty_x0
    have hcx : h'[b + 0]? = some (.inr (11, fx)) := hcx
    refine j_aload_n (k4 := 0) (dQ (by decide +kernel)) rfl ?_
    refine j_iconst (n := 0) (dQ (by decide +kernel)) ?_
    show J l g 193 9 70 _ (([.int (Int32.ofInt 0)] : List Value).reverse ++ .ref (g.2.2 + (b + 0)) :: []) h' (0 + 0) (0 + 0) _
    refine j_cV (own := 11) (i := 48) (y2 := 17) (d2 := 1) (a := b + 0) (As := [.int (Int32.ofInt 0)]) (st := []) (dQ (by decide +kernel)) hcls (by decide +kernel) (by decide) (by decide +kernel) (show 1 = jnp 17 by decide +kernel) (by decide) (by decide) hcx (fun r hr => by cases hr; decide +kernel) (lu_436 (ha 436 _ rfl) hO hb' ⟨i32_lo _, i32_hi _⟩) (fun v2 h2 hq => ?_)
    obtain ⟨bk2, os, hO2, ko, q, hq1, hq2⟩ := hq
    have hos : os = [] := List.eq_nil_of_length_eq_zero ko.1
    subst hos
    have hq3 : q = (0, -2147483648, 2147483647, 0, 0, []) := List.mem_singleton.mp hq1
    subst hq3
    obtain ⟨x, rfl, -, -, hp⟩ := hq2
    have hx := eq_post hp
    have hx0 : x = 0 := i32_eq (by rw [hx]; rfl)
    subst hx0
    refine j_ret (v := some (.int 0)) ⟨by decide +kernel, Or.inl (by decide +kernel)⟩ ⟨rfl, bk2, a, hO.tr (by decide +kernel) hO2, hO2.2.2.2.2.1 _ a hX, fun q hq i hi => ?_⟩ rfl
    obtain ⟨x, x1, x2⟩ := hC q hq i hi
    refine ⟨x, ?_, rlX_off hO2 hX (rl_ty (k := 1) (by decide) hq) (apW_mem (by decide +kernel : apW [(0, 0, 7, 7)] (rlFk 1) = true) (rl_xk hq)) hi x2⟩
    rw [rl_sh hq] at x1 ⊢
    exact rlX_off hO2 hb' (rlE_at hq).1 (apW_mem (by decide +kernel : apW [(0, 0, 7, 7)] rlF0 = true) (rl_x0 hq)) hi x1
  have sto : ∀ (bk' : aB) (h' : jH) (a : Nat) (fs' : List Value), h'[b + 0]? = some (.inr (11, fs')) → fs'.length = 12 → hOK TTs g (EIm n) xmR1 bk h bk' (h'.set (b + 0) (.inr (11, fs'.set 2 (jad g a 0)))) → bk' 3 = some a → (∀ q ∈ rlE, ∀ i, i < rln q → ∃ x, cv h' (b + 1 + (q.1 - 1)) (rlz q i) x ∧ cv h' (a + (q.1 - 1)) (rlz q i) x) → J l g 193 9 51 [some (jad g b 0), some (.int 1), some (jad g a 0)] [] h' 0 0 (xmD1Q g n bk h b) := by
    intro bk' h' a fs' hc' hl' hO hX hC
    refine j_iload_n (k4 := 1) (dQ (by decide +kernel)) rfl ?_
    refine j_if_ne (off := 11) (tgt := 63) (dQ (by decide +kernel)) (by decide) (fun _ => ?_) (fun e => absurd (by decide) e)
    refine j_aload_n (k4 := 0) (dQ (by decide +kernel)) rfl ?_
    refine j_aload_n (k4 := 2) (dQ (by decide +kernel)) rfl ?_
    refine j_put (own := 11) (i := 356) (ci := 11) (f := 2) (ty := .object "TrainDescriber$State") (dQ (by decide +kernel)) hcls (by decide +kernel) hc' rfl (by decide +kernel) (by omega) (by decide +kernel) (by decide +kernel) rfl rfl ?_
    refine fin bk' _ _ a hO hX (fun q hq i hi => ?_)
    obtain ⟨x, x1, x2⟩ := hC q hq i hi
    have hb' := hO.2.2.2.2.1 0 b hb
    refine ⟨x, cv_set (by omega) x1, cv_set (fun e => ?_) x2⟩
    have := (hO.2.1 0 3 b a 0 (q.1 - 1) hb' hX (by decide +kernel) (rl_ty (k := 1) (by decide) hq) e).1
    cases this
  have n11 : ∀ f, f < 12 → ∀ r, jcl[11]? = some r → f < r.2.2 := fun f hf r hr => by
    cases hr
    have : (12 : Nat) = nfX11 := by decide +kernel
    show f < nfX11
    omega
  have xl : xTs.length = 12 := by decide +kernel
  -- from 43 on: the call
  have cal : ∀ (WB : List aR) (bkA : aB) (hA : jH) (a : Nat), HT TTs g bkA hA → bkA 0 = some b → (∃ ss, hA[a + 0]? = some (.inr (7, ss))) →
      (∃ P : Option Value → jH → Prop, jCal l g 194 3 [.ref (g.2.2 + (a + 0)), .ref (g.2.2 + (b + 1))] hA 0 0 P ∧ ∀ v h', P v h' → v = none ∧ ∃ bk', hOK TTs g (EIm n) WB bkA hA bk' h' ∧ ∀ q ∈ rlE, ∀ i, i < rln q → ∃ x, cv hA (b + 1 + (q.1 - 1)) (rlz q i) x ∧ cv h' (b + 1 + (q.1 - 1)) (rlz q i) x ∧ cv h' (a + (q.1 - 1)) (rlz q i) x) →
      (∀ (bk' : aB) (h' : jH), hOK TTs g (EIm n) WB bkA hA bk' h' → (∀ q ∈ rlE, ∀ i, i < rln q → ∃ x, cv h' (b + 1 + (q.1 - 1)) (rlz q i) x ∧ cv h' (a + (q.1 - 1)) (rlz q i) x) → J l g 193 9 51 [some (jad g b 0), some (.int 1), some (jad g a 0)] [] h' 0 0 (xmD1Q g n bk h b)) →
      J l g 193 9 43 [some (jad g b 0), some (.int 1), some (jad g a 0)] [] hA 0 0 (xmD1Q g n bk h b) := by
    intro WB bkA hA a hTA hbA hca hcal k
    obtain ⟨ss, hss⟩ := hca
    obtain ⟨P, hcal, hP⟩ := hcal
    obtain ⟨c, hc, fs, rfl, hfl, hfs⟩ := hTA 0 b 0 _ hbA ty_x0
    obtain ⟨vn, hvn, bn, hbn, rfl⟩ := hfs 0 (2, 0, 0, 0, 1) rfl
    have hbn : bkA 0 = some bn := hbn
    cases hbA.symm.trans hbn
    refine j_aload_n (k4 := 2) (dQ (by decide +kernel)) rfl ?_
    refine j_aload_n (k4 := 0) (dQ (by decide +kernel)) rfl ?_
    refine j_get (own := 11) (i := 10) (ci := 11) (f := 0) (dQ (by decide +kernel)) hcls (by decide +kernel) hc (n11 0 (by decide)) hvn ?_
    show J l g 193 9 48 _ (([jad g b 1] : List Value).reverse ++ .ref (g.2.2 + (a + 0)) :: []) _ (0 + 0) (0 + 0) _
    refine j_cV (own := 11) (i := 359) (y2 := 194) (d2 := 3) (a := a + 0) (As := [jad g b 1]) (st := []) (dQ (by decide +kernel)) hcls (by decide +kernel) (by decide) (by decide +kernel) (show 1 = jnp 194 by decide +kernel) (by decide) (by decide) hss (fun r hr => by cases hr; decide +kernel) hcal (fun v h' hq => ?_)
    obtain ⟨rfl, bk', hO, hC⟩ := hP v h' hq
    exact k bk' h' hO (fun q hq i hi => by
      obtain ⟨x, -, x1, x2⟩ := hC q hq i hi
      exact ⟨x, x1, x2⟩)
  obtain ⟨c, hc, fs, rfl, hfl, hfs⟩ := hT 0 b 0 _ hb ty_x0
  obtain ⟨v, hv, hvt⟩ := hfs 2 (3, 0, 0, 3, 0) rfl
  refine jCal_of (show plainName (jyN 193).cls = true by decide +kernel) (show 2 ≤ jmx 193 by decide +kernel) ?_
  show J l g 193 9 0 [some (jad g b 0), some (.int 1), none] [] h 48 4307 _
  refine j_iload_n (k4 := 1) (dQ (by decide +kernel)) rfl ?_
  refine j_if_lt (off := 8) (tgt := 9) (dQ (by decide +kernel)) (by decide) (fun e => absurd e (by decide)) (fun _ => ?_)
  refine j_iload_n (k4 := 1) (dQ (by decide +kernel)) rfl ?_
  refine j_iconst (n := 2) (dQ (by decide +kernel)) ?_
  refine j_icmp_lt (off := 9) (tgt := 15) (dQ (by decide +kernel)) (by decide) (fun _ => ?_) (fun e => absurd (by decide) e)
  refine j_iload_n (k4 := 1) (dQ (by decide +kernel)) rfl ?_
  refine j_if_ne (off := 10) (tgt := 26) (dQ (by decide +kernel)) (by decide) (fun _ => ?_) (fun e => absurd (by decide) e)
  refine j_aload_n (k4 := 0) (dQ (by decide +kernel)) rfl ?_
  refine j_get (own := 11) (i := 356) (ci := 11) (f := 2) (dQ (by decide +kernel)) hcls (by decide +kernel) hc (n11 2 (by decide)) hv ?_
  rcases hvt with ⟨a, hXa, rfl⟩ | ⟨hXn, rfl⟩
  · have hXa : bk 3 = some a := hXa
    refine j_astore_n (k4 := 2) (dQ (by decide +kernel)) (by decide +kernel) ?_
    show J l g 193 9 31 [some (jad g b 0), some (.int 1), some (jad g a 0)] [] h 48 4307 _
    refine j_aload_n (k4 := 2) (dQ (by decide +kernel)) rfl ?_
    refine j_ifnonnull (off := 11) (tgt := 43) (dQ (by decide +kernel)) (by decide) ?_
    refine J.room (kc := 0) (ks := 0) ?_ (by omega) (by omega)
    obtain ⟨cs, hcs, ss, rfl, -, -⟩ := hT 3 a 0 _ hXa ty_s3
    have hO0 : hOK TTs g (EIm n) [] bk h bk h := hOK.rf hT hD hE hb1
    refine cal Kx_735.2.2.2.2.2.2.2.1 bk h a hT hb ⟨ss, hcs⟩ (cf_30 ha hO0 hXa hb) (fun bk' h' hO hC => ?_)
    have hb' := hO.2.2.2.2.1 0 b hb
    obtain ⟨c', hc', fs', rfl, hfl', hfs'⟩ := hO.1 0 b 0 _ hb' ty_x0
    obtain ⟨w, hw, hwt⟩ := hfs' 2 (3, 0, 0, 3, 0) rfl
    refine sto bk' h' a fs' hc' (by rw [hfl']; exact xl) ?_ (hO.2.2.2.2.1 3 a hXa) hC
    have hwa : w = jad g a 0 := by
      rcases hwt with ⟨a', ha', rfl⟩ | ⟨ha', -⟩
      · have ha' : bk' 3 = some a' := ha'
        cases (hO.2.2.2.2.1 3 a hXa).symm.trans ha'
        rfl
      · have ha' : bk' 3 = none := ha'
        rw [hO.2.2.2.2.1 3 a hXa] at ha'
        cases ha'
    rw [hwa] at hw
    rw [set_id fs' 2 _ hw, set_id h' (b + 0) _ hc']
    exact ⟨hO.1, hO.2.1, hO.2.2.1, hO.2.2.2.1.mono (by decide +kernel), hO.2.2.2.2.1, hO.2.2.2.2.2⟩
  · have hXn : bk 3 = none := hXn
    refine j_astore_nN (k4 := 2) (dQ (by decide +kernel)) (by decide +kernel) ?_
    show J l g 193 9 31 [some (jad g b 0), some (.int 1), some .null] [] h 48 4307 _
    refine j_aload_nN (k4 := 2) (dQ (by decide +kernel)) rfl ?_
    refine j_ifnonnullN (off := 11) (dQ (by decide +kernel)) ?_
    obtain ⟨L, H, hL, hcev, htyp⟩ := iniB_ok ini_7
    have hLl : L.length = 20 := by
      have e := hL
      cases e
      rfl
    refine J.room (kc := 1 + (47 + 0)) (ks := L.length + (4287 + 0)) ?_ (by omega) (by rw [hLl]; omega)
    refine new_run (i := 7) (j := 9) (y2 := 2) (own2 := 7) (fuel := 500) (d2 := 8) (by decide +kernel) (by decide +kernel) (by decide +kernel) hcls (by decide +kernel) hL (Or.inl (by decide +kernel)) (by decide) (by decide +kernel) (by decide +kernel) (by decide +kernel) (by decide +kernel) (by decide +kernel) (by decide +kernel) (by decide +kernel) (by decide +kernel) (by decide) (by decide) hcev ?_
    refine j_astore_n (k4 := 2) (dQ (by decide +kernel)) (by decide +kernel) ?_
    show J l g 193 9 43 [some (jad g b 0), some (.int 1), some (jad g h.length 0)] [] (chp g h H) 0 0 _
    have no37 : ∀ (B o k : Nat) (q : Nat × List aT) (t : aT), tyAt TTs B o = some (.inr q) → q.2[k]? = some t → ¬ (t.1 = 3 ∧ t.2.2.2.1 = 7) := fun B o k q t h1 h2 e => by
      obtain ⟨e1, -, -⟩ := only3_ok on_7 h1 h2 e.1 e.2
      subst e1
      cases h1
    have hT7 : HT TTs g (bkN bk 7 h.length) (chp g h H) := HT_add hT h7 (show TTs[7]? = some TT_7 from rfl) (by decide +kernel) htyp no37
    obtain ⟨cs, hcs, ss, rfl, -, -⟩ := hT7 7 h.length 0 _ bkN_self ty_s7
    have hO0 : hOK TTs g (EIm n) [] (bkN bk 7 h.length) (chp g h H) (bkN bk 7 h.length) (chp g h H) := hOK.rf hT7 (BD_new hT hD h7) (EIm_add hT hE) (fun B hB => by
      obtain ⟨c, hc⟩ := hb1 B hB
      exact ⟨c, bkN_old h7 hc⟩)
    refine cal Kx_736.2.2.2.2.2.2.2.1 (bkN bk 7 h.length) (chp g h H) h.length hT7 (bkN_old h7 hb) ⟨ss, hcs⟩ (cf_70 ha hO0 bkN_self (bkN_old h7 hb)) (fun bk' h' hO hC => ?_)
    have sub : ∀ B c, bk B = some c → bk' B = some c := fun B c hB => hO.2.2.2.2.1 B c (bkN_old h7 hB)
    have hb' := sub 0 b hb
    have h7' : bk' 7 = some h.length := hO.2.2.2.2.1 7 _ bkN_self
    obtain ⟨c', hc', fs', rfl, hfl', hfs'⟩ := hO.1 0 b 0 _ hb' ty_x0
    obtain ⟨w, hw, hwt⟩ := hfs' 2 (3, 0, 0, 3, 0) rfl
    have hcH : (chp g h H)[b + 0]? = some (.inr (11, fs)) := by
      rw [chp, List.getElem?_append_left (List.getElem?_eq_some_iff.mp hc).1]
      exact hc
    have hwn : w = .null := by
      obtain ⟨c2, g1, g2⟩ := hO.2.2.2.1.2 0 b 0 _ (bkN_old h7 hb) (by decide +kernel) hcH
      cases hc'.symm.trans g1
      have g3 := g2.2.2 2 (fun hin => by
        obtain ⟨z, hz, z1, -⟩ := hin
        have : (Kx_736.2.2.2.2.2.2.2.1).all (fun z => !Nat.beq z.1 0) = true := by decide +kernel
        have := List.all_eq_true.mp this z hz
        rw [z1] at this
        cases this)
      have g4 : fs'[2]? = fs[2]? := g3
      rw [hw, hv] at g4
      exact Option.some.inj g4
    have hX' : bk' 3 = none := by
      rcases hwt with ⟨a', ha', e⟩ | ⟨ha', -⟩
      · rw [hwn] at e
        cases e
      · exact ha'
    refine sto (bkR bk' 3 h.length) h' h.length fs' hc' (by rw [hfl']; exact xl) ?_ bkR_self hC
    have U0 : UN TTs xmR1 bk h (chp g h H) := UN_add hT
    have U1 : UN TTs xmR1 (bkN bk 7 h.length) (chp g h H) h' := hO.2.2.2.1.mono (by decide +kernel)
    have U2 : UN TTs xmR1 bk' h' (h'.set (b + 0) (.inr (11, fs'.set 2 (jad g h.length 0)))) := (UN.set (W := [(0, 0, 2, 2)]) hO.2.1 hb' (by decide +kernel) hc' offW_fs).mono (by decide +kernel)
    refine ⟨HT_ren hO.1 hO.2.1 hX' h7' ren_3 on_3 hb' hc' ⟨_, _, ty_x0, rfl, rfl, rfl, rfl⟩, BD_ren hO.2.1 h7' (by decide) ren_3, EIm_ren hO.1 hO.2.1 hO.2.2.1 hb' (by decide), (U0.tr (fun B c hB => bkN_old h7 hB) U1).tr sub U2, fun B c hB => ?_, fun B hB => ?_⟩
    · rw [bkR_ne (fun e => by subst e; rw [hXn] at hB; cases hB) (fun e => by subst e; rw [h7] at hB; cases hB)]
      exact sub B c hB
    · rw [bkR_ne (by omega) (by omega)]
      exact hO.2.2.2.2.2 B hB
set_option maxRecDepth 16384 in
theorem bkN_0 (ha : ∀ (k : Nat) (K : aK), KTx[k]? = some K → kOK TTs g (EIm n) l K) {bk : aB} {h : jH} {b : Nat} (hT : HT TTs g bk h) (hD : BD TTs bk) (hE : EIm n bk h) (hb1 : ∀ B, B ≤ 1 → ∃ b, bk B = some b) (hb : bk 0 = some b) (hXn : bk 2 = none) :
    jCal l g 200 4 [jad g b 0, .int 0] h 0 0 (fun v h' => v = some (.int (-2)) ∧ ∃ bk', hOK TTs g (EIm n) [(0, 0, 7, 7)] bk h bk' h') := by
  have hcls : jcN 11 = (jyN 200).cls := by decide +kernel
  have n11 : ∀ f, f < 12 → ∀ r, jcl[11]? = some r → f < r.2.2 := fun f hf r hr => by
    cases hr
    have : (12 : Nat) = nfX11 := by decide +kernel
    show f < nfX11
    omega
  have hO0 : hOK TTs g (EIm n) [] bk h bk h := hOK.rf hT hD hE hb1
  obtain ⟨c, hc, fs, rfl, hfl, hfs⟩ := hT 0 b 0 _ hb ty_x0
  have hc : h[b + 0]? = some (.inr (11, fs)) := hc
  obtain ⟨v, hv, hvt⟩ := hfs 1 (3, 0, 0, 2, 0) rfl
  refine jCal_of (show plainName (jyN 200).cls = true by decide +kernel) (show 2 ≤ jmx 200 by decide +kernel) ?_
  show J l g 200 4 0 [some (jad g b 0), some (.int 0), none] [] h 0 0 _
  refine j_iload_n (k4 := 1) (dQ (by decide +kernel)) rfl ?_
  refine j_if_lt (off := 8) (tgt := 9) (dQ (by decide +kernel)) (by decide) (fun e => absurd e (by decide)) (fun _ => ?_)
  refine j_iload_n (k4 := 1) (dQ (by decide +kernel)) rfl ?_
  refine j_iconst (n := 2) (dQ (by decide +kernel)) ?_
  refine j_icmp_lt (off := 9) (tgt := 15) (dQ (by decide +kernel)) (by decide) (fun _ => ?_) (fun e => absurd (by decide) e)
  refine j_iload_n (k4 := 1) (dQ (by decide +kernel)) rfl ?_
  refine j_if_ne (off := 10) (tgt := 26) (dQ (by decide +kernel)) (by decide) (fun e => absurd rfl e) (fun _ => ?_)
  refine j_aload_n (k4 := 0) (dQ (by decide +kernel)) rfl ?_
  refine j_get (own := 11) (i := 353) (ci := 11) (f := 1) (dQ (by decide +kernel)) hcls (by decide +kernel) hc (n11 1 (by decide)) hv ?_
  refine j_goto (off := 7) (tgt := 30) (dQ (by decide +kernel)) (by decide) ?_
  rcases hvt with ⟨a, hXa, rfl⟩ | ⟨-, rfl⟩
  · have hXa : bk 2 = some a := hXa
    rw [hXn] at hXa
    cases hXa
  refine j_astore_nN (k4 := 2) (dQ (by decide +kernel)) (by decide +kernel) ?_
  show J l g 200 4 31 [some (jad g b 0), some (.int 0), some .null] [] h 0 0 _
  refine j_aload_nN (k4 := 2) (dQ (by decide +kernel)) rfl ?_
  refine j_ifnonnullN (off := 10) (dQ (by decide +kernel)) ?_
  refine j_aload_n (k4 := 0) (dQ (by decide +kernel)) rfl ?_
  refine j_bipush (n := -2) (dQ (by decide +kernel)) ?_
  show J l g 200 4 38 _ (([.int (Int8.ofInt (-2)).toInt32] : List Value).reverse ++ .ref (g.2.2 + (b + 0)) :: []) h (0 + 0) (0 + 0) _
  refine j_cV (own := 11) (i := 41) (y2 := 16) (d2 := 1) (a := b + 0) (As := [.int (Int8.ofInt (-2)).toInt32]) (st := []) (dQ (by decide +kernel)) hcls (by decide +kernel) (by decide) (by decide +kernel) (show 1 = jnp 16 by decide +kernel) (by decide) (by decide) hc (fun r hr => by cases hr; decide +kernel) (lu_440 (ha 440 _ rfl) hO0 hb ⟨by decide, by decide⟩) (fun v2 h2 hq => ?_)
  obtain ⟨bk2, os, hO2, ko, q, hq1, hq2⟩ := hq
  have hos : os = [] := List.eq_nil_of_length_eq_zero ko.1
  subst hos
  have hq3 : q = (0, -6, -1, 0, 0, []) := List.mem_singleton.mp hq1
  subst hq3
  obtain ⟨x, rfl, -, -, hp⟩ := hq2
  have hx := eq_post hp
  have hx0 : x = -2 := i32_eq (by rw [hx]; decide)
  subst hx0
  exact j_ret (v := some (.int (-2))) ⟨by decide +kernel, Or.inl (by decide +kernel)⟩ ⟨rfl, bk2, hO2⟩ rfl
def bkR0 : List aR := Kx_437.2.2.2.2.2.2.2.1 ++ [(6, 0, 0, 0), (0, 0, 7, 7)]
set_option maxRecDepth 16384 in
theorem bkS_0 (ha : ∀ (k : Nat) (K : aK), KTx[k]? = some K → kOK TTs g (EIm n) l K) {bk : aB} {h : jH} {b a : Nat} (hT : HT TTs g bk h) (hD : BD TTs bk) (hE : EIm n bk h) (hb1 : ∀ B, B ≤ 1 → ∃ b, bk B = some b) (hb : bk 0 = some b) (hXa : bk 2 = some a) :
    jCal l g 200 4 [jad g b 0, .int 0] h 0 0 (fun v h' => v = some (.int 0) ∧ ∃ bk', hOK TTs g (EIm n) bkR0 bk h bk' h' ∧ ∀ q ∈ rlE, ∀ i, i < rln q → ∃ x, cv h (a + (q.1 - 1)) (rlz q i) x ∧ cv h' (b + 1 + (q.1 - 1)) (rlz q i) x) := by
  have hcls : jcN 11 = (jyN 200).cls := by decide +kernel
  have n11 : ∀ f, f < 12 → ∀ r, jcl[11]? = some r → f < r.2.2 := fun f hf r hr => by
    cases hr
    have : (12 : Nat) = nfX11 := by decide +kernel
    show f < nfX11
    omega
  have hO0 : hOK TTs g (EIm n) [] bk h bk h := hOK.rf hT hD hE hb1
  obtain ⟨c, hc, fs, rfl, hfl, hfs⟩ := hT 0 b 0 _ hb ty_x0
  have hc : h[b + 0]? = some (.inr (11, fs)) := hc
  obtain ⟨v, hv, hvt⟩ := hfs 1 (3, 0, 0, 2, 0) rfl
  refine jCal_of (show plainName (jyN 200).cls = true by decide +kernel) (show 2 ≤ jmx 200 by decide +kernel) ?_
  show J l g 200 4 0 [some (jad g b 0), some (.int 0), none] [] h 0 0 _
  refine j_iload_n (k4 := 1) (dQ (by decide +kernel)) rfl ?_
  refine j_if_lt (off := 8) (tgt := 9) (dQ (by decide +kernel)) (by decide) (fun e => absurd e (by decide)) (fun _ => ?_)
  refine j_iload_n (k4 := 1) (dQ (by decide +kernel)) rfl ?_
  refine j_iconst (n := 2) (dQ (by decide +kernel)) ?_
  refine j_icmp_lt (off := 9) (tgt := 15) (dQ (by decide +kernel)) (by decide) (fun _ => ?_) (fun e => absurd (by decide) e)
  refine j_iload_n (k4 := 1) (dQ (by decide +kernel)) rfl ?_
  refine j_if_ne (off := 10) (tgt := 26) (dQ (by decide +kernel)) (by decide) (fun e => absurd rfl e) (fun _ => ?_)
  refine j_aload_n (k4 := 0) (dQ (by decide +kernel)) rfl ?_
  refine j_get (own := 11) (i := 353) (ci := 11) (f := 1) (dQ (by decide +kernel)) hcls (by decide +kernel) hc (n11 1 (by decide)) hv ?_
  refine j_goto (off := 7) (tgt := 30) (dQ (by decide +kernel)) (by decide) ?_
  rcases hvt with ⟨a', hXa', rfl⟩ | ⟨hXn, -⟩
  case inr =>
    have hXn : bk 2 = none := hXn
    rw [hXa] at hXn
    cases hXn
  have hXa' : bk 2 = some a' := hXa'
  cases hXa.symm.trans hXa'
  refine j_astore_n (k4 := 2) (dQ (by decide +kernel)) (by decide +kernel) ?_
  show J l g 200 4 31 [some (jad g b 0), some (.int 0), some (jad g a 0)] [] h 0 0 _
  refine j_aload_n (k4 := 2) (dQ (by decide +kernel)) rfl ?_
  refine j_ifnonnull (off := 10) (tgt := 42) (dQ (by decide +kernel)) (by decide) ?_
  obtain ⟨vn, hvn, bn, hbn, rfl⟩ := hfs 0 (2, 0, 0, 0, 1) rfl
  have hbn : bk 0 = some bn := hbn
  cases hb.symm.trans hbn
  obtain ⟨cS, hcS, fS, rfl, -, -⟩ := hT 0 b 1 _ hb ty_x1
  have hcS : h[b + 1]? = some (.inr (7, fS)) := hcS
  refine j_aload_n (k4 := 0) (dQ (by decide +kernel)) rfl ?_
  refine j_get (own := 11) (i := 10) (ci := 11) (f := 0) (dQ (by decide +kernel)) hcls (by decide +kernel) hc (n11 0 (by decide)) hvn ?_
  refine j_aload_n (k4 := 2) (dQ (by decide +kernel)) rfl ?_
  obtain ⟨P, hcal, hP⟩ := cf_02 ha hO0 hb hXa
  show J l g 200 4 47 _ (([jad g a 0] : List Value).reverse ++ .ref (g.2.2 + (b + 1)) :: []) _ (0 + 0) (0 + 0) _
  refine j_cV (own := 11) (i := 359) (y2 := 194) (d2 := 3) (a := b + 1) (As := [jad g a 0]) (st := []) (dQ (by decide +kernel)) hcls (by decide +kernel) (by decide) (by decide +kernel) (show 1 = jnp 194 by decide +kernel) (by decide) (by decide) hcS (fun r hr => by cases hr; decide +kernel) hcal (fun v1 h1 hq => ?_)
  obtain ⟨rfl, bk1, k1, hC⟩ := hP v1 h1 hq
  have q0 := k1.2.2.2.2.1 0 b hb
  obtain ⟨c1, hc1, fs1, rfl, -, -⟩ := k1.1 0 b 0 _ q0 ty_x0
  have hc1 : h1[b + 0]? = some (.inr (11, fs1)) := hc1
  show J l g 200 4 50 _ [] h1 0 0 _
  refine j_aload_n (k4 := 0) (dQ (by decide +kernel)) rfl ?_
  show J l g 200 4 51 _ (([] : List Value).reverse ++ .ref (g.2.2 + (b + 0)) :: []) h1 (0 + 0) (0 + 0) _
  refine j_cV (own := 11) (i := 235) (y2 := 127) (d2 := 1) (a := b + 0) (As := []) (st := []) (dQ (by decide +kernel)) hcls (by decide +kernel) (by decide) (by decide +kernel) (show 0 = jnp 127 by decide +kernel) (by decide) (by decide) hc1 (fun r hr => by cases hr; decide +kernel) (lu_439 (ha 439 _ rfl) k1 q0) (fun v2 h2 hq => ?_)
  obtain ⟨bk2, os2, k2, -, qq, hq1, hq2⟩ := hq
  have hq3 : qq = (9, 0, 0, 0, 0, []) := List.mem_singleton.mp hq1
  subst hq3
  obtain ⟨rfl, -⟩ := hq2
  have k2 : hOK TTs g (EIm n) [(6, 0, 0, 0)] bk1 h1 bk2 h2 := k2
  have p0 := k2.2.2.2.2.1 0 b q0
  obtain ⟨c2, hc2, fs2, rfl, -, -⟩ := k2.1 0 b 0 _ p0 ty_x0
  have hc2 : h2[b + 0]? = some (.inr (11, fs2)) := hc2
  show J l g 200 4 54 _ [] h2 0 0 _
  refine j_aload_n (k4 := 0) (dQ (by decide +kernel)) rfl ?_
  refine j_iconst (n := 0) (dQ (by decide +kernel)) ?_
  show J l g 200 4 56 _ (([.int (Int32.ofInt 0)] : List Value).reverse ++ .ref (g.2.2 + (b + 0)) :: []) h2 (0 + 0) (0 + 0) _
  refine j_cV (own := 11) (i := 48) (y2 := 17) (d2 := 1) (a := b + 0) (As := [.int (Int32.ofInt 0)]) (st := []) (dQ (by decide +kernel)) hcls (by decide +kernel) (by decide) (by decide +kernel) (show 1 = jnp 17 by decide +kernel) (by decide) (by decide) hc2 (fun r hr => by cases hr; decide +kernel) (lu_436 (ha 436 _ rfl) k2 p0 ⟨i32_lo _, i32_hi _⟩) (fun v3 h3 hq => ?_)
  obtain ⟨bk3, os, k3, ko, q, hq1, hq2⟩ := hq
  have hos : os = [] := List.eq_nil_of_length_eq_zero ko.1
  subst hos
  have hq3 : q = (0, -2147483648, 2147483647, 0, 0, []) := List.mem_singleton.mp hq1
  subst hq3
  obtain ⟨x, rfl, -, -, hp⟩ := hq2
  have hx := eq_post hp
  have hx0 : x = 0 := i32_eq (by rw [hx]; rfl)
  subst hx0
  have k3 : hOK TTs g (EIm n) [(0, 0, 7, 7)] bk2 h2 bk3 h3 := k3
  have hW : hOK TTs g (EIm n) bkR0 bk h bk1 h1 := k1.w1 (by decide +kernel)
  refine j_ret (v := some (.int 0)) ⟨by decide +kernel, Or.inl (by decide +kernel)⟩ ⟨rfl, bk3, (hW.tr (by decide +kernel) k2).tr (by decide +kernel) k3, fun q hq i hi => ?_⟩ rfl
  obtain ⟨x, x0, -, x2⟩ := hC q hq i hi
  refine ⟨x, x0, ?_⟩
  rw [rl_sh hq] at x2 ⊢
  exact rlX_off k3 p0 (rlE_at hq).1 (apW_mem (by decide +kernel : apW [(0, 0, 7, 7)] rlF0 = true) (rl_x0 hq)) hi (rlX_off k2 q0 (rlE_at hq).1 (apW_mem (by decide +kernel : apW [(6, 0, 0, 0)] rlF0 = true) (rl_x0 hq)) hi x2)
set_option maxRecDepth 16384 in
theorem bkN_1 (ha : ∀ (k : Nat) (K : aK), KTx[k]? = some K → kOK TTs g (EIm n) l K) {bk : aB} {h : jH} {b : Nat} (hT : HT TTs g bk h) (hD : BD TTs bk) (hE : EIm n bk h) (hb1 : ∀ B, B ≤ 1 → ∃ b, bk B = some b) (hb : bk 0 = some b) (hXn : bk 3 = none) :
    jCal l g 200 4 [jad g b 0, .int 1] h 0 0 (fun v h' => v = some (.int (-2)) ∧ ∃ bk', hOK TTs g (EIm n) [(0, 0, 7, 7)] bk h bk' h') := by
  have hcls : jcN 11 = (jyN 200).cls := by decide +kernel
  have n11 : ∀ f, f < 12 → ∀ r, jcl[11]? = some r → f < r.2.2 := fun f hf r hr => by
    cases hr
    have : (12 : Nat) = nfX11 := by decide +kernel
    show f < nfX11
    omega
  have hO0 : hOK TTs g (EIm n) [] bk h bk h := hOK.rf hT hD hE hb1
  obtain ⟨c, hc, fs, rfl, hfl, hfs⟩ := hT 0 b 0 _ hb ty_x0
  have hc : h[b + 0]? = some (.inr (11, fs)) := hc
  obtain ⟨v, hv, hvt⟩ := hfs 2 (3, 0, 0, 3, 0) rfl
  refine jCal_of (show plainName (jyN 200).cls = true by decide +kernel) (show 2 ≤ jmx 200 by decide +kernel) ?_
  show J l g 200 4 0 [some (jad g b 0), some (.int 1), none] [] h 0 0 _
  refine j_iload_n (k4 := 1) (dQ (by decide +kernel)) rfl ?_
  refine j_if_lt (off := 8) (tgt := 9) (dQ (by decide +kernel)) (by decide) (fun e => absurd e (by decide)) (fun _ => ?_)
  refine j_iload_n (k4 := 1) (dQ (by decide +kernel)) rfl ?_
  refine j_iconst (n := 2) (dQ (by decide +kernel)) ?_
  refine j_icmp_lt (off := 9) (tgt := 15) (dQ (by decide +kernel)) (by decide) (fun _ => ?_) (fun e => absurd (by decide) e)
  refine j_iload_n (k4 := 1) (dQ (by decide +kernel)) rfl ?_
  refine j_if_ne (off := 10) (tgt := 26) (dQ (by decide +kernel)) (by decide) (fun _ => ?_) (fun e => absurd (by decide) e)
  refine j_aload_n (k4 := 0) (dQ (by decide +kernel)) rfl ?_
  refine j_get (own := 11) (i := 356) (ci := 11) (f := 2) (dQ (by decide +kernel)) hcls (by decide +kernel) hc (n11 2 (by decide)) hv ?_
  rcases hvt with ⟨a, hXa, rfl⟩ | ⟨-, rfl⟩
  · have hXa : bk 3 = some a := hXa
    rw [hXn] at hXa
    cases hXa
  refine j_astore_nN (k4 := 2) (dQ (by decide +kernel)) (by decide +kernel) ?_
  show J l g 200 4 31 [some (jad g b 0), some (.int 1), some .null] [] h 0 0 _
  refine j_aload_nN (k4 := 2) (dQ (by decide +kernel)) rfl ?_
  refine j_ifnonnullN (off := 10) (dQ (by decide +kernel)) ?_
  refine j_aload_n (k4 := 0) (dQ (by decide +kernel)) rfl ?_
  refine j_bipush (n := -2) (dQ (by decide +kernel)) ?_
  show J l g 200 4 38 _ (([.int (Int8.ofInt (-2)).toInt32] : List Value).reverse ++ .ref (g.2.2 + (b + 0)) :: []) h (0 + 0) (0 + 0) _
  refine j_cV (own := 11) (i := 41) (y2 := 16) (d2 := 1) (a := b + 0) (As := [.int (Int8.ofInt (-2)).toInt32]) (st := []) (dQ (by decide +kernel)) hcls (by decide +kernel) (by decide) (by decide +kernel) (show 1 = jnp 16 by decide +kernel) (by decide) (by decide) hc (fun r hr => by cases hr; decide +kernel) (lu_440 (ha 440 _ rfl) hO0 hb ⟨by decide, by decide⟩) (fun v2 h2 hq => ?_)
  obtain ⟨bk2, os, hO2, ko, q, hq1, hq2⟩ := hq
  have hos : os = [] := List.eq_nil_of_length_eq_zero ko.1
  subst hos
  have hq3 : q = (0, -6, -1, 0, 0, []) := List.mem_singleton.mp hq1
  subst hq3
  obtain ⟨x, rfl, -, -, hp⟩ := hq2
  have hx := eq_post hp
  have hx0 : x = -2 := i32_eq (by rw [hx]; decide)
  subst hx0
  exact j_ret (v := some (.int (-2))) ⟨by decide +kernel, Or.inl (by decide +kernel)⟩ ⟨rfl, bk2, hO2⟩ rfl
def bkR1 : List aR := Kx_438.2.2.2.2.2.2.2.1 ++ [(6, 0, 0, 0), (0, 0, 7, 7)]
set_option maxRecDepth 16384 in
theorem bkS_1 (ha : ∀ (k : Nat) (K : aK), KTx[k]? = some K → kOK TTs g (EIm n) l K) {bk : aB} {h : jH} {b a : Nat} (hT : HT TTs g bk h) (hD : BD TTs bk) (hE : EIm n bk h) (hb1 : ∀ B, B ≤ 1 → ∃ b, bk B = some b) (hb : bk 0 = some b) (hXa : bk 3 = some a) :
    jCal l g 200 4 [jad g b 0, .int 1] h 0 0 (fun v h' => v = some (.int 0) ∧ ∃ bk', hOK TTs g (EIm n) bkR1 bk h bk' h' ∧ ∀ q ∈ rlE, ∀ i, i < rln q → ∃ x, cv h (a + (q.1 - 1)) (rlz q i) x ∧ cv h' (b + 1 + (q.1 - 1)) (rlz q i) x) := by
  have hcls : jcN 11 = (jyN 200).cls := by decide +kernel
  have n11 : ∀ f, f < 12 → ∀ r, jcl[11]? = some r → f < r.2.2 := fun f hf r hr => by
    cases hr
    have : (12 : Nat) = nfX11 := by decide +kernel
    show f < nfX11
    omega
  have hO0 : hOK TTs g (EIm n) [] bk h bk h := hOK.rf hT hD hE hb1
  obtain ⟨c, hc, fs, rfl, hfl, hfs⟩ := hT 0 b 0 _ hb ty_x0
  have hc : h[b + 0]? = some (.inr (11, fs)) := hc
  obtain ⟨v, hv, hvt⟩ := hfs 2 (3, 0, 0, 3, 0) rfl
  refine jCal_of (show plainName (jyN 200).cls = true by decide +kernel) (show 2 ≤ jmx 200 by decide +kernel) ?_
  show J l g 200 4 0 [some (jad g b 0), some (.int 1), none] [] h 0 0 _
  refine j_iload_n (k4 := 1) (dQ (by decide +kernel)) rfl ?_
  refine j_if_lt (off := 8) (tgt := 9) (dQ (by decide +kernel)) (by decide) (fun e => absurd e (by decide)) (fun _ => ?_)
  refine j_iload_n (k4 := 1) (dQ (by decide +kernel)) rfl ?_
  refine j_iconst (n := 2) (dQ (by decide +kernel)) ?_
  refine j_icmp_lt (off := 9) (tgt := 15) (dQ (by decide +kernel)) (by decide) (fun _ => ?_) (fun e => absurd (by decide) e)
  refine j_iload_n (k4 := 1) (dQ (by decide +kernel)) rfl ?_
  refine j_if_ne (off := 10) (tgt := 26) (dQ (by decide +kernel)) (by decide) (fun _ => ?_) (fun e => absurd (by decide) e)
  refine j_aload_n (k4 := 0) (dQ (by decide +kernel)) rfl ?_
  refine j_get (own := 11) (i := 356) (ci := 11) (f := 2) (dQ (by decide +kernel)) hcls (by decide +kernel) hc (n11 2 (by decide)) hv ?_
  rcases hvt with ⟨a', hXa', rfl⟩ | ⟨hXn, -⟩
  case inr =>
    have hXn : bk 3 = none := hXn
    rw [hXa] at hXn
    cases hXn
  have hXa' : bk 3 = some a' := hXa'
  cases hXa.symm.trans hXa'
  refine j_astore_n (k4 := 2) (dQ (by decide +kernel)) (by decide +kernel) ?_
  show J l g 200 4 31 [some (jad g b 0), some (.int 1), some (jad g a 0)] [] h 0 0 _
  refine j_aload_n (k4 := 2) (dQ (by decide +kernel)) rfl ?_
  refine j_ifnonnull (off := 10) (tgt := 42) (dQ (by decide +kernel)) (by decide) ?_
  obtain ⟨vn, hvn, bn, hbn, rfl⟩ := hfs 0 (2, 0, 0, 0, 1) rfl
  have hbn : bk 0 = some bn := hbn
  cases hb.symm.trans hbn
  obtain ⟨cS, hcS, fS, rfl, -, -⟩ := hT 0 b 1 _ hb ty_x1
  have hcS : h[b + 1]? = some (.inr (7, fS)) := hcS
  refine j_aload_n (k4 := 0) (dQ (by decide +kernel)) rfl ?_
  refine j_get (own := 11) (i := 10) (ci := 11) (f := 0) (dQ (by decide +kernel)) hcls (by decide +kernel) hc (n11 0 (by decide)) hvn ?_
  refine j_aload_n (k4 := 2) (dQ (by decide +kernel)) rfl ?_
  obtain ⟨P, hcal, hP⟩ := cf_03 ha hO0 hb hXa
  show J l g 200 4 47 _ (([jad g a 0] : List Value).reverse ++ .ref (g.2.2 + (b + 1)) :: []) _ (0 + 0) (0 + 0) _
  refine j_cV (own := 11) (i := 359) (y2 := 194) (d2 := 3) (a := b + 1) (As := [jad g a 0]) (st := []) (dQ (by decide +kernel)) hcls (by decide +kernel) (by decide) (by decide +kernel) (show 1 = jnp 194 by decide +kernel) (by decide) (by decide) hcS (fun r hr => by cases hr; decide +kernel) hcal (fun v1 h1 hq => ?_)
  obtain ⟨rfl, bk1, k1, hC⟩ := hP v1 h1 hq
  have q0 := k1.2.2.2.2.1 0 b hb
  obtain ⟨c1, hc1, fs1, rfl, -, -⟩ := k1.1 0 b 0 _ q0 ty_x0
  have hc1 : h1[b + 0]? = some (.inr (11, fs1)) := hc1
  show J l g 200 4 50 _ [] h1 0 0 _
  refine j_aload_n (k4 := 0) (dQ (by decide +kernel)) rfl ?_
  show J l g 200 4 51 _ (([] : List Value).reverse ++ .ref (g.2.2 + (b + 0)) :: []) h1 (0 + 0) (0 + 0) _
  refine j_cV (own := 11) (i := 235) (y2 := 127) (d2 := 1) (a := b + 0) (As := []) (st := []) (dQ (by decide +kernel)) hcls (by decide +kernel) (by decide) (by decide +kernel) (show 0 = jnp 127 by decide +kernel) (by decide) (by decide) hc1 (fun r hr => by cases hr; decide +kernel) (lu_439 (ha 439 _ rfl) k1 q0) (fun v2 h2 hq => ?_)
  obtain ⟨bk2, os2, k2, -, qq, hq1, hq2⟩ := hq
  have hq3 : qq = (9, 0, 0, 0, 0, []) := List.mem_singleton.mp hq1
  subst hq3
  obtain ⟨rfl, -⟩ := hq2
  have k2 : hOK TTs g (EIm n) [(6, 0, 0, 0)] bk1 h1 bk2 h2 := k2
  have p0 := k2.2.2.2.2.1 0 b q0
  obtain ⟨c2, hc2, fs2, rfl, -, -⟩ := k2.1 0 b 0 _ p0 ty_x0
  have hc2 : h2[b + 0]? = some (.inr (11, fs2)) := hc2
  show J l g 200 4 54 _ [] h2 0 0 _
  refine j_aload_n (k4 := 0) (dQ (by decide +kernel)) rfl ?_
  refine j_iconst (n := 0) (dQ (by decide +kernel)) ?_
  show J l g 200 4 56 _ (([.int (Int32.ofInt 0)] : List Value).reverse ++ .ref (g.2.2 + (b + 0)) :: []) h2 (0 + 0) (0 + 0) _
  refine j_cV (own := 11) (i := 48) (y2 := 17) (d2 := 1) (a := b + 0) (As := [.int (Int32.ofInt 0)]) (st := []) (dQ (by decide +kernel)) hcls (by decide +kernel) (by decide) (by decide +kernel) (show 1 = jnp 17 by decide +kernel) (by decide) (by decide) hc2 (fun r hr => by cases hr; decide +kernel) (lu_436 (ha 436 _ rfl) k2 p0 ⟨i32_lo _, i32_hi _⟩) (fun v3 h3 hq => ?_)
  obtain ⟨bk3, os, k3, ko, q, hq1, hq2⟩ := hq
  have hos : os = [] := List.eq_nil_of_length_eq_zero ko.1
  subst hos
  have hq3 : q = (0, -2147483648, 2147483647, 0, 0, []) := List.mem_singleton.mp hq1
  subst hq3
  obtain ⟨x, rfl, -, -, hp⟩ := hq2
  have hx := eq_post hp
  have hx0 : x = 0 := i32_eq (by rw [hx]; rfl)
  subst hx0
  have k3 : hOK TTs g (EIm n) [(0, 0, 7, 7)] bk2 h2 bk3 h3 := k3
  have hW : hOK TTs g (EIm n) bkR1 bk h bk1 h1 := k1.w1 (by decide +kernel)
  refine j_ret (v := some (.int 0)) ⟨by decide +kernel, Or.inl (by decide +kernel)⟩ ⟨rfl, bk3, (hW.tr (by decide +kernel) k2).tr (by decide +kernel) k3, fun q hq i hi => ?_⟩ rfl
  obtain ⟨x, x0, -, x2⟩ := hC q hq i hi
  refine ⟨x, x0, ?_⟩
  rw [rl_sh hq] at x2 ⊢
  exact rlX_off k3 p0 (rlE_at hq).1 (apW_mem (by decide +kernel : apW [(0, 0, 7, 7)] rlF0 = true) (rl_x0 hq)) hi (rlX_off k2 q0 (rlE_at hq).1 (apW_mem (by decide +kernel : apW [(6, 0, 0, 0)] rlF0 = true) (rl_x0 hq)) hi x2)
end XR
