/-! cuts, walks, contracts -/
section WK
variable {TT : List (List aCT)} {g : jG} {EI : aB → jH → Prop} {P : List aR} {bk0 : aB} {h0 : jH} {ev ev' : List Int} {vs : List Int} {bk : aB} {al : List (Option Value)} {st : List Value} {h : jH} {env : List aE} {fc : List aF} {loc : List (Option aV)} {stk : List aV} {ov : List aO} {pr : List Nat} {l : Launch} {d pc kc ks : Nat} {Q : Option Value → jH → Prop} {KT : List aK} {KI : List (List Nat)} {own n : Nat}
/-- from a cut, with the measure μ, the method goes on to its end -/
def CutP (TT : List (List aCT)) (g : jG) (EI : aB → jH → Prop) (bk0 : aB) (h0 : jH) (ev : List Int) (l : Launch) (d : Nat) (Q : Option Value → jH → Prop) (K : aK) (C : aCu) (μ : Int) : Prop :=
  ∀ (vs : List Int) (bk : aB) (al : List (Option Value)) (h : jH), PT TT g EI K.2.2.2.2.2.2.2.1 bk0 h0 ev K.1 vs bk al [] h (spState (kEnv K) C.2.1 C.2.2.1 C.2.2.2.1 C.2.2.2.2.2) → fev vs C.2.2.2.2.1 = some μ → J l g K.1 d C.1 al [] h K.2.2.2.2.2.2.2.2.2.1 K.2.2.2.2.2.2.2.2.2.2 Q
theorem aCut_ok {K : aK} {C : aCu} {m0 : Option aF} (hE : eIv ev (kEnv K)) (hn : ev.length = kN K) (hpre : ∀ (i : Nat) (z : Int), ev[i]? = some z → ev'[i]? = some z) (hc : aCut TT K C m0 kc ks env fc loc stk ov pr = true) (hp : PT TT g EI K.2.2.2.2.2.2.2.1 bk0 h0 ev' K.1 vs bk al st h (env, fc, loc, stk, ov, pr)) (ih : ∀ μ', 0 ≤ μ' → (∀ F μ, m0 = some F → fev ev' F = some μ → μ' < μ) → CutP TT g EI bk0 h0 ev l d Q K C μ') : J l g K.1 d C.1 al st h kc ks Q := by
  cases stk with
  | cons v t => exact absurd (show false = true from hc) (by decide)
  | nil =>
    have hst : st = [] := by
      have := hp.1.2.2.2.2.1
      cases st with
      | nil => rfl
      | cons => exact absurd this id
    subst hst
    rw [aCut] at hc
    cases hs : spIds env fc loc C.2.1 with
    | none => rw [hs] at hc; cases hc
    | some pids =>
      rw [hs] at hc
      dsimp only at hc
      cases hr : clIds TT C.2.2.1 env ov fc with
      | none => rw [hr] at hc; cases hc
      | some r =>
        rw [hr] at hc
        simp only [Bool.and_eq_true] at hc
        obtain ⟨⟨⟨⟨c1, c2⟩, c3⟩, c4⟩, c5⟩ := hc
        obtain ⟨zs, i1, i2, i3⟩ := spIds_ok (g := g) (bk := bk) hp.ee C.2.1 loc al pids hs hp.1.2.2.2.1
        obtain ⟨ws, zc, hP, j1, j2⟩ := clIds_ok _ vs env ov r hr hp
        have hev : idv (vs ++ ws) (List.range (kN K)) ev := by rw [← hn]; exact idv_ev (fun i z hz => hP.2.2.2 i z (hpre i z hz))
        have hid := (hev.cat i1.app).cat j1
        cases hG : fsub r.1 (List.range (kN K) ++ pids ++ r.2.2) C.2.2.2.2.1 with
        | none => rw [hG] at c5; cases c5
        | some G =>
          rw [hG] at c5
          simp only [Bool.and_eq_true] at c5
          obtain ⟨c5, c6⟩ := c5
          obtain ⟨μ', u1, u2⟩ := fsub_ok hP.ee.2.1 hid hG
          obtain ⟨z, z1, z2⟩ := ent_ok hP.ee.1 hP.ee.2.2 c5
          rw [u2] at z1
          have z3 := Option.some.inj z1
          have e1 := Nat.eq_of_beq_eq_true c1
          have e2 := Nat.eq_of_beq_eq_true c2
          rw [e1, e2]
          refine ih μ' (by omega) (fun F μ hF hμ => ?_) (ev ++ zs ++ zc) bk al h ?_ u1
          · subst hF
            dsimp only at c6
            obtain ⟨w, w1, w2⟩ := ent_ok hP.ee.1 hP.ee.2.2 c6
            rw [fadd1 (fadd_ok (fev_mono hP.2.2.2 hμ) u2)] at w1
            have w3 := Option.some.inj w1
            omega
          · refine ⟨⟨(hE.appl i2).appl (out_bd j2), eFm_plain (plain_app (plain_app (plain_app (spEnv_plain _) clEnv_plain) (spEnv_plain _)) clEnv_plain), entA_ok hP.ee hid c4, ?_, trivial, ?_, ?_⟩, hP.2.1, hP.2.2.1, fun i z hz => getE_app (getE_app hz)⟩
            · intro i v hi
              exact i3 ev zc i v (by rw [← hE.1]; exact hi)
            · intro q hq
              obtain ⟨j, c, h1, rfl⟩ := clOv_mem _ _ _ hq
              have hj : j < zc.length := by rw [j2.1]; exact (List.getElem?_eq_some_iff.mp h1).1
              have hx : zc[j]? = some zc[j] := List.getElem?_eq_getElem hj
              obtain ⟨-, b, cc, k1, k2, k3⟩ := j2.2 j c _ h1 hx
              refine ⟨_, b, cc, zc[j], fcon_ok, k1, k2, k3, ?_⟩
              show (ev ++ zs ++ zc)[(kEnv K).length + (spEnv C.2.1).length + j]? = _
              have hl : (kEnv K).length + (spEnv C.2.1).length = (ev ++ zs).length := by rw [hE.1, i2.1, List.length_append]
              rw [hl, getE_right (by omega), show (ev ++ zs).length + j - (ev ++ zs).length = j by omega]
              exact hx
            · intro B hB
              have := List.all_eq_true.mp c3 B hB
              exact hP.1.2.2.2.2.2.2 B (List.contains_iff_mem.mp this)
theorem spId_ok {ev : List Int} {W : List aR} {y : Nat} {S : aS} {q : aSp} {i : Nat} (hp : PT TT g EI W bk0 h0 ev y vs bk al st h S) (hi : spId S q = some i) : ∃ z, vs[i]? = some z := by
  obtain ⟨env, fc, loc, stk, ov, pr⟩ := S
  rw [spId] at hi
  split at hi
  · obtain ⟨z, b, c, x, -, -, -, -, h5⟩ := hp.1.2.2.2.2.2.1 _ (ovFind_mem hi)
    exact ⟨_, h5⟩
  · split at hi
    · rename_i v hv
      cases hb : Nat.ble v.1 1 with
      | false => rw [hb] at hi; cases hi
      | true =>
        rw [hb] at hi
        cases hi
        obtain ⟨w, w1, w2⟩ := hp.1.2.2.2.1 _ _ hv
        have h1 := Nat.le_of_ble_eq_true hb
        rw [vOK] at w2
        match hk : v.1, h1, w2 with
        | 0, _, w2 => exact ⟨_, w2.choose_spec.2⟩
        | 1, _, w2 => exact ⟨_, w2.choose_spec.2⟩
    · cases hi
  · split at hi
    · rename_i v hv
      cases hb : Nat.ble v.1 1 with
      | false => rw [hb] at hi; cases hi
      | true =>
        rw [hb] at hi
        cases hi
        obtain ⟨w, w1, w2⟩ := (sk_at _ _ hp.1.2.2.2.2.1).2 _ _ hv
        have h1 := Nat.le_of_ble_eq_true hb
        rw [vOK] at w2
        match hk : v.1, h1, w2 with
        | 0, _, w2 => exact ⟨_, w2.choose_spec.2⟩
        | 1, _, w2 => exact ⟨_, w2.choose_spec.2⟩
    · cases hi
theorem spl1_ok {ev : List Int} {W : List aR} {y : Nat} {S : aS} {q : aSp} (hp : PT TT g EI W bk0 h0 ev y vs bk al st h S) : ∃ S' ∈ spl1 q S, PT TT g EI W bk0 h0 ev y vs bk al st h S' := by
  rw [spl1]
  cases hi : spId S q with
  | none => exact ⟨S, List.mem_cons_self, hp⟩
  | some i =>
    obtain ⟨z, hz⟩ := spId_ok hp hi
    obtain ⟨env, fc, loc, stk, ov, pr⟩ := S
    have hF : fev vs (fadd 1 (lin env i) (fcon (-q.2.2.2.2.2))) = some (z + -q.2.2.2.2.2) := fadd1 (lin_ok hp.ee.2.1 hz)
    dsimp only
    cases hg : isTg env i with
    | true =>
      simp only [cond_true]
      by_cases hc : z = 0
      · obtain ⟨r, g1, g2⟩ := tAsm_ok (c := .eq) hp.ee hz (show z = 0 from hc)
        refine ⟨(r.1, r.2, loc, stk, ov, pr), List.mem_append_left _ ?_, hp.setE g2⟩
        show _ ∈ brS (tAsm env fc .eq _) _
        rw [g1]
        exact List.mem_cons_self
      · obtain ⟨r, g1, g2⟩ := tAsm_ok (c := .ne) hp.ee hz (show z ≠ 0 from hc)
        refine ⟨(r.1, r.2, loc, stk, ov, pr), List.mem_append_right _ ?_, hp.setE g2⟩
        show _ ∈ brS (tAsm env fc .ne _) _
        rw [g1]
        exact List.mem_cons_self
    | false =>
    simp only [cond_false]
    by_cases hc : z ≤ q.2.2.2.2.2
    · obtain ⟨r, g1, g2⟩ := cAsm_ok (c := .le) hp.ee hF (show z + -q.2.2.2.2.2 ≤ 0 by omega)
      refine ⟨(r.1, r.2, loc, stk, ov, pr), List.mem_append_left _ ?_, hp.setE g2⟩
      show _ ∈ brS (cAsm env fc .le _) _
      rw [g1]
      exact List.mem_cons_self
    · obtain ⟨r, g1, g2⟩ := cAsm_ok (c := .gt) hp.ee hF (show 0 < z + -q.2.2.2.2.2 by omega)
      refine ⟨(r.1, r.2, loc, stk, ov, pr), List.mem_append_right _ ?_, hp.setE g2⟩
      show _ ∈ brS (cAsm env fc .gt _) _
      rw [g1]
      exact List.mem_cons_self
theorem spl_ok {ev : List Int} {W : List aR} {y pc : Nat} : ∀ (sp : List aSp) (S : aS), PT TT g EI W bk0 h0 ev y vs bk al st h S → ∃ S' ∈ spl pc sp S, PT TT g EI W bk0 h0 ev y vs bk al st h S' := by
  intro sp
  induction sp with
  | nil => intro S hp; exact ⟨S, List.mem_cons_self, hp⟩
  | cons q t ih =>
    intro S hp
    rw [spl]
    cases hb : Nat.beq q.1 pc with
    | false => simp only [cond_false]; exact ih S hp
    | true =>
      simp only [cond_true]
      obtain ⟨S1, h1, hp1⟩ := spl1_ok (q := q) hp
      obtain ⟨S2, h2, hp2⟩ := ih S1 hp1
      exact ⟨S2, List.mem_flatMap.mpr ⟨S1, h1, h2⟩, hp2⟩
theorem chk_ok {K : aK} {cs : List aCu} {sp : List aSp} {m0 : Option aF} (hM : mOK TT g EI P KT l K.1 own n) (hE : eIv ev (kEnv K)) (hn : ev.length = kN K) (hpre : ∀ (i : Nat) (z : Int), ev[i]? = some z → ev'[i]? = some z)
    (hcut : ∀ C ∈ cs, ∀ μ', 0 ≤ μ' → (∀ F μ, m0 = some F → fev ev' F = some μ → μ' < μ) → CutP TT g EI bk0 h0 ev l d (kPost TT g EI K bk0 h0 ev) K C μ') :
    ∀ (fuel : Nat) (first : Bool) (pc : Nat) (S : aS) (kc ks : Nat), chk (TT, KT, KI, K.2.2.2.2.2.2.2.1, P, K.1, own, d, n) K cs sp m0 fuel first pc S kc ks = true → Go TT g EI K.2.2.2.2.2.2.2.1 bk0 h0 ev' K.1 l d (kPost TT g EI K bk0 h0 ev) pc S kc ks := by
  intro fuel
  induction fuel with
  | zero => intro first pc S kc ks hc; exact absurd (show false = true from hc) (by decide)
  | succ fuel ih =>
    intro first pc S kc ks hc vs bk al st h hp
    obtain ⟨env, fc, loc, stk, ov, pr⟩ := S
    rw [chk] at hc
    cases hf : (bif first then none else cutAt cs pc) with
    | some C =>
      rw [hf] at hc
      dsimp only at hc
      have hf2 : cutAt cs pc = some C := by
        cases first with
        | true => cases hf
        | false => exact hf
      rw [cutAt] at hf2
      have h1 := List.mem_of_find?_eq_some hf2
      have h2 : C.1 = pc := Nat.eq_of_beq_eq_true (List.find?_some (p := fun C : aCu => Nat.beq C.1 pc) hf2)
      rw [← h2]
      exact aCut_ok hE hn hpre hc hp (hcut C h1)
    | none =>
      rw [hf] at hc
      dsimp only at hc
      cases hd0 : dcF K.1 pc with
      | error e => rw [hd0] at hc; cases hc
      | ok q =>
        rw [hd0] at hc
        have hd := dQ hd0
        dsimp only at hc
        obtain ⟨S', hS', hp'⟩ := spl_ok sp _ hp
        have hc := List.all_eq_true.mp hc S' hS'
        obtain ⟨env', fc', loc', stk', ov', pr'⟩ := S'
        clear hp
        have hp := hp'
        clear hp'
        cases hr : isRet q.1 with
        | true =>
          rw [hr] at hc
          simp only [cond_true] at hc
          exact aRet_ok rfl hn hd hc ⟨hp.1, hp.2.1, hp.2.2.1, fun i z hz => hp.2.2.2 i z (hpre i z hz)⟩
        | false =>
          rw [hr] at hc
          simp only [cond_false] at hc
          split at hc
          · rename_i L hL
            exact aStep_ok hM hd hL hp (fun r hr => ih false r.1 r.2.1 r.2.2.1 r.2.2.2 (List.all_eq_true.mp hc r hr))
          · cases hc
theorem jal_len {y : Nat} {av : List Value} (hl : (lg_sl av).length ≤ jmx y) : (jal y av).length = jmx y := by
  rw [lg_jargs] at hl
  rw [jal, List.length_append, List.length_replicate]
  omega
/-- all cuts at once, whatever the measure -/
theorem cuts_ok {fuel : Nat} {K : aK} {cs : List aCu} {sp : List aSp} (hM : mOK TT g EI P KT l K.1 own n) (hE : eIv ev (kEnv K)) (hn : ev.length = kN K)
    (c5 : cs.all (fun C => Nat.beq C.2.1.length (jmx K.1) && chk (TT, KT, KI, K.2.2.2.2.2.2.2.1, P, K.1, own, K.2.2.2.2.2.2.2.2.1, n) K cs sp (some C.2.2.2.2.1) fuel true C.1 (spState (kEnv K) C.2.1 C.2.2.1 C.2.2.2.1 C.2.2.2.2.2) K.2.2.2.2.2.2.2.2.2.1 K.2.2.2.2.2.2.2.2.2.2) = true) :
    ∀ C ∈ cs, ∀ μ : Int, 0 ≤ μ → CutP TT g EI bk0 h0 ev l K.2.2.2.2.2.2.2.2.1 (kPost TT g EI K bk0 h0 ev) K C μ := by
  have main : ∀ (m : Nat) (C : aCu), C ∈ cs → ∀ μ : Int, 0 ≤ μ → μ < m → CutP TT g EI bk0 h0 ev l K.2.2.2.2.2.2.2.2.1 (kPost TT g EI K bk0 h0 ev) K C μ := by
    intro m
    induction m with
    | zero => intro C hC μ u1 u2; omega
    | succ m ih =>
      intro C hC μ u1 u2 vs bk2 al h2 hp hμ
      have h1 := List.all_eq_true.mp c5 C hC
      simp only [Bool.and_eq_true] at h1
      exact chk_ok (ev' := vs) hM hE hn hp.2.2.2 (fun C' hC' μ' v1 v2 => ih C' hC' μ' v1 (by have := v2 _ μ rfl hμ; omega)) fuel true C.1 _ _ _ h1.2 vs bk2 al [] h2 ⟨hp.1, hp.2.1, hp.2.2.1, fun i z hz => hz⟩
  exact fun C hC μ u => main (μ.toNat + 1) C hC μ u (by omega)
theorem kchk_ok {fuel k own : Nat} {cs : List aCu} {sp : List aSp} {K : aK} (hT : tyCl TT = true) (hT2 : tySg TT = true) (hEI : eiOK TT g EI P) (hlow : ∀ (k' : Nat) (K' : aK), KT[k']? = some K' → k' < k → kOK TT g EI l K') (hK : KT[k]? = some K) (hpl : plainName (jyN K.1).cls = true) (hc : kchk TT KT KI P fuel k own cs sp = true) : kOK TT g EI l K := by
  rw [kchk, hK] at hc
  simp only [Bool.and_eq_true, decide_eq_true_eq] at hc
  obtain ⟨⟨⟨⟨c1, c2⟩, c3⟩, c4⟩, c5⟩ := hc
  have hM : mOK TT g EI P KT l K.1 own k := ⟨hT, hT2, hEI, c1, hlow⟩
  intro bk h av ev hHT hBD hEv hb1 hl hn _ hg
  refine jCal_of hpl hl ?_
  have main : ∀ (m : Nat) (C : aCu), C ∈ cs → ∀ μ : Int, 0 ≤ μ → μ < m → CutP TT g EI bk h ev l K.2.2.2.2.2.2.2.2.1 (kPost TT g EI K bk h ev) K C μ := by
    intro m
    induction m with
    | zero => intro C hC μ u1 u2; omega
    | succ m ih =>
      intro C hC μ u1 u2 vs bk2 al h2 hp hμ
      have h1 := List.all_eq_true.mp c5 C hC
      simp only [Bool.and_eq_true] at h1
      exact chk_ok (ev' := vs) hM hg.1 hn hp.2.2.2 (fun C' hC' μ' v1 v2 => ih C' hC' μ' v1 (by have := v2 _ μ rfl hμ; omega)) fuel true C.1 _ _ _ h1.2 vs bk2 al [] h2 ⟨hp.1, hp.2.1, hp.2.2.1, fun i z hz => hz⟩
  have hcut : ∀ C ∈ cs, ∀ μ', 0 ≤ μ' → (∀ F μ, (none : Option aF) = some F → fev ev F = some μ → μ' < μ) → CutP TT g EI bk h ev l K.2.2.2.2.2.2.2.2.1 (kPost TT g EI K bk h ev) K C μ' := fun C hC μ' v1 _ => main (μ'.toNat + 1) C hC μ' v1 (by omega)
  refine chk_ok (ev' := ev) hM hg.1 hn (fun i z hz => hz) hcut fuel true 0 _ _ _ c4 ev bk (jal K.1 av) [] h ⟨?_, ⟨hHT, hBD, hEv, UN.rf, fun B b hb => hb, hb1⟩, jal_len hl, fun i z hz => hz⟩
  have e : spState [] K.2.1 K.2.2.1 K.2.2.2.1 [] = (kEnv K, K.2.2.2.1, spLoc 0 K.2.1, [], clOv (spEnv K.2.1).length K.2.2.1, []) := by simp [spState, kEnv]
  rw [e]
  exact hg
end WK
