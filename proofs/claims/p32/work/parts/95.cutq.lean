/-! pieces of a method by the checker, between cuts by hand, with any post -/
section CQ
variable {TT : List (List aCT)} {g : jG} {EI : aB → jH → Prop} {P : List aR} {bk0 : aB} {h0 : jH} {ev ev' : List Int} {l : Launch} {d : Nat} {Q : Option Value → jH → Prop} {KT : List aK} {KI : List (List Nat)} {own n : Nat}
theorem chk_okQ {K : aK} {cs : List aCu} {sp : List aSp} {m0 : Option aF} (hM : mOK TT g EI P KT l K.1 own n) (hE : eIv ev (kEnv K)) (hn : ev.length = kN K) (hpre : ∀ (i : Nat) (z : Int), ev[i]? = some z → ev'[i]? = some z) (hQ : ∀ v h', kPost TT g EI K bk0 h0 ev v h' → Q v h')
    (hcut : ∀ C ∈ cs, ∀ μ', 0 ≤ μ' → (∀ F μ, m0 = some F → fev ev' F = some μ → μ' < μ) → CutP TT g EI bk0 h0 ev l d Q K C μ') :
    ∀ (fuel : Nat) (first : Bool) (pc : Nat) (S : aS) (kc ks : Nat), chk (TT, KT, KI, K.2.2.2.2.2.2.2.1, P, K.1, own, d, n) K cs sp m0 fuel first pc S kc ks = true → Go TT g EI K.2.2.2.2.2.2.2.1 bk0 h0 ev' K.1 l d Q pc S kc ks := by
  intro fuel
  induction fuel with
  | zero => intro first pc S kc ks hc; exact absurd (show false = true from hc) (by decide)
  | succ fuel ih =>
    intro first pc S kc ks hc vs bk al st h hp
    obtain ⟨env, fc, loc, stk, ov, pr⟩ := S
    rw [chk] at hc
    cases hf : (bif first then none else cutAt cs pc) with
    | some C =>
      rw [hf] at hc
      dsimp only at hc
      have hf2 : cutAt cs pc = some C := by
        cases first with
        | true => cases hf
        | false => exact hf
      rw [cutAt] at hf2
      have h1 := List.mem_of_find?_eq_some hf2
      have h2 : C.1 = pc := Nat.eq_of_beq_eq_true (List.find?_some (p := fun C : aCu => Nat.beq C.1 pc) hf2)
      rw [← h2]
      exact aCut_ok hE hn hpre hc hp (hcut C h1)
    | none =>
      rw [hf] at hc
      dsimp only at hc
      cases hd0 : dcF K.1 pc with
      | error e => rw [hd0] at hc; cases hc
      | ok q =>
        rw [hd0] at hc
        have hd := dQ hd0
        dsimp only at hc
        obtain ⟨S', hS', hp'⟩ := spl_ok sp _ hp
        have hc := List.all_eq_true.mp hc S' hS'
        obtain ⟨env', fc', loc', stk', ov', pr'⟩ := S'
        clear hp
        have hp := hp'
        clear hp'
        cases hr : isRet q.1 with
        | true =>
          rw [hr] at hc
          simp only [cond_true] at hc
          exact (aRet_ok rfl hn hd hc ⟨hp.1, hp.2.1, hp.2.2.1, fun i z hz => hp.2.2.2 i z (hpre i z hz)⟩).mono hQ
        | false =>
          rw [hr] at hc
          simp only [cond_false] at hc
          split at hc
          · rename_i L hL
            exact aStep_ok hM hd hL hp (fun r hr => ih false r.1 r.2.1 r.2.2.1 r.2.2.2 (List.all_eq_true.mp hc r hr))
          · cases hc
/-- checked cuts cs beside cuts hs by hand -/
theorem cuts_okQ {fuel : Nat} {K : aK} {cs hs : List aCu} {sp : List aSp} (hM : mOK TT g EI P KT l K.1 own n) (hE : eIv ev (kEnv K)) (hn : ev.length = kN K) (hQ : ∀ v h', kPost TT g EI K bk0 h0 ev v h' → Q v h')
    (c5 : cs.all (fun C => Nat.beq C.2.1.length (jmx K.1) && chk (TT, KT, KI, K.2.2.2.2.2.2.2.1, P, K.1, own, K.2.2.2.2.2.2.2.2.1, n) K (cs ++ hs) sp (some C.2.2.2.2.1) fuel true C.1 (spState (kEnv K) C.2.1 C.2.2.1 C.2.2.2.1 C.2.2.2.2.2) K.2.2.2.2.2.2.2.2.2.1 K.2.2.2.2.2.2.2.2.2.2) = true)
    (hh : ∀ C ∈ hs, ∀ μ : Int, 0 ≤ μ → CutP TT g EI bk0 h0 ev l K.2.2.2.2.2.2.2.2.1 Q K C μ) :
    ∀ C ∈ cs ++ hs, ∀ μ : Int, 0 ≤ μ → CutP TT g EI bk0 h0 ev l K.2.2.2.2.2.2.2.2.1 Q K C μ := by
  have main : ∀ (m : Nat) (C : aCu), C ∈ cs ++ hs → ∀ μ : Int, 0 ≤ μ → μ < m → CutP TT g EI bk0 h0 ev l K.2.2.2.2.2.2.2.2.1 Q K C μ := by
    intro m
    induction m with
    | zero => intro C hC μ u1 u2; omega
    | succ m ih =>
      intro C hC μ u1 u2
      rcases List.mem_append.mp hC with hC | hC
      · intro vs bk2 al h2 hp hμ
        have h1 := List.all_eq_true.mp c5 C hC
        simp only [Bool.and_eq_true] at h1
        exact chk_okQ (ev' := vs) hM hE hn hp.2.2.2 hQ (fun C' hC' μ' v1 v2 => ih C' hC' μ' v1 (by have := v2 _ μ rfl hμ; omega)) fuel true C.1 _ _ _ h1.2 vs bk2 al [] h2 ⟨hp.1, hp.2.1, hp.2.2.1, fun i z hz => hz⟩
      · exact hh C hC μ u1
  exact fun C hC μ u => main (μ.toNat + 1) C hC μ u (by omega)
end CQ
section ST
variable {g : jG} {n : Int} {W : List aR} {bk0 bk : aB} {h0 h : jH}
/-- a store into an array -/
theorem hOK.st (hO : hOK TTs g (EIm n) W bk0 h0 bk h) {B b o ty m : Nat} {sg : List aSeg} (hb : bk B = some b) (ht : tyAt TTs B o = some (.inl (ty, m, sg))) {f : Nat → Int32} (hc : h[b + o]? = some (.inl (ty, m, f))) {i : Nat} {v : Int32} (hv : sgOK sg i v.toInt) {lo hi : Int} (hW : subW [(B, o, lo, hi)] W = true) (h1 : lo ≤ i) (h2 : (i : Int) ≤ hi) (hP : apW [(B, o, lo, hi)] Pm = true) :
    hOK TTs g (EIm n) W bk0 h0 bk (h.set (b + o) (.inl (ty, m, upd f i v))) := by
  obtain ⟨a1, a2, a3, a4, a5, a6⟩ := hO
  have hU : UN TTs [(B, o, lo, hi)] bk h (h.set (b + o) (.inl (ty, m, upd f i v))) := UN.set a2 hb (tyAt_lt ht) hc (offW_arr h1 h2)
  have hH : HT TTs g bk (h.set (b + o) (.inl (ty, m, upd f i v))) := by
    refine a1.set a2 hb ht ⟨_, rfl, fun j hj => ?_⟩
    obtain ⟨c', q1, f', q2, q3⟩ := a1 B b o _ hb ht
    cases hc.symm.trans q1
    cases q2
    by_cases hji : j = i
    · subst hji
      rw [show upd f j v j = v from if_pos rfl]
      exact hv
    · rw [show upd f i v j = f j from if_neg hji]
      exact q3 j hj
  exact ⟨hH, a2, EIm_ok bk h _ _ hP hU (List.length_set ..) a1 hH a3, a4.tr a5 (hU.mono hW), a5, a6⟩
/-- a store into a field of an int -/
theorem hOK.sf (hO : hOK TTs g (EIm n) W bk0 h0 bk h) {B b o ci k : Nat} {ts : List aT} (hb : bk B = some b) (ht : tyAt TTs B o = some (.inr (ci, ts))) {fs : List Value} (hc : h[b + o]? = some (.inr (ci, fs))) {v : Int32} {lo hi : Int} {B' o' : Nat} (hk : ts[k]? = some (0, lo, hi, B', o')) (h1 : lo ≤ v.toInt) (h2 : v.toInt ≤ hi) (hW : subW [(B, o, (k : Int), (k : Int))] W = true) (hP : apW [(B, o, (k : Int), (k : Int))] Pm = true) :
    hOK TTs g (EIm n) W bk0 h0 bk (h.set (b + o) (.inr (ci, fs.set k (.int v)))) := by
  obtain ⟨a1, a2, a3, a4, a5, a6⟩ := hO
  have hU : UN TTs [(B, o, (k : Int), (k : Int))] bk h (h.set (b + o) (.inr (ci, fs.set k (.int v)))) := UN.set a2 hb (tyAt_lt ht) hc offW_fs
  have hH : HT TTs g bk (h.set (b + o) (.inr (ci, fs.set k (.int v)))) := by
    obtain ⟨c', q1, f', q2, q3, q4⟩ := a1 B b o _ hb ht
    cases hc.symm.trans q1
    cases q2
    refine a1.set a2 hb ht ⟨_, rfl, by rw [List.length_set]; exact q3, fun j t hj => ?_⟩
    by_cases hjk : k = j
    · subst hjk
      cases hk.symm.trans hj
      obtain ⟨w, q5, -⟩ := q4 k _ hk
      exact ⟨_, List.getElem?_set_self (List.getElem?_eq_some_iff.mp q5).1, v, rfl, h1, h2⟩
    · rw [List.getElem?_set_ne hjk]
      exact q4 j t hj
  exact ⟨hH, a2, EIm_ok bk h _ _ hP hU (List.length_set ..) a1 hH a3, a4.tr a5 (hU.mono hW), a5, a6⟩
theorem hOK.rf (hT : HT TTs g bk h) (hD : BD TTs bk) (hE : EIm n bk h) (hb1 : ∀ B, B ≤ 1 → ∃ b, bk B = some b) : hOK TTs g (EIm n) W bk h bk h := ⟨hT, hD, hE, UN.rf, fun _ _ q => q, hb1⟩
/-- a field that isn't written stays -/
theorem hOK.fld (hO : hOK TTs g (EIm n) W bk0 h0 bk h) {B b o ci k : Nat} {ts : List aT} {fs : List Value} (hb : bk0 B = some b) (ht : tyAt TTs B o = some (.inr (ci, ts))) (hc : h0[b + o]? = some (.inr (ci, fs))) (hW : apW W [(B, o, (k : Int), (k : Int))] = true) :
    ∃ fs', h[b + o]? = some (.inr (ci, fs')) ∧ fs'[k]? = fs[k]? := by
  obtain ⟨c', q1, q2⟩ := hO.2.2.2.1.2 B b o _ hb (tyAt_lt ht) hc
  cases c' with
  | inl a => exact absurd q2 id
  | inr a =>
    obtain ⟨ci', fs'⟩ := a
    obtain ⟨q3, q4, q5⟩ := q2
    have q3 : ci' = ci := q3
    subst q3
    exact ⟨fs', q1, q5 k (ap_not hW List.mem_cons_self (Int.le_refl _) (Int.le_refl _))⟩
/-- places that aren't written stay -/
theorem hOK.arr (hO : hOK TTs g (EIm n) W bk0 h0 bk h) {B b o ty m : Nat} {sg : List aSeg} {f : Nat → Int32} (hb : bk0 B = some b) (ht : tyAt TTs B o = some (.inl (ty, m, sg))) (hc : h0[b + o]? = some (.inl (ty, m, f))) {lo hi : Int} (hW : apW W [(B, o, lo, hi)] = true) :
    ∃ f', h[b + o]? = some (.inl (ty, m, f')) ∧ ∀ i : Nat, lo ≤ i → (i : Int) ≤ hi → f' i = f i := by
  obtain ⟨c', q1, q2⟩ := hO.2.2.2.1.2 B b o _ hb (tyAt_lt ht) hc
  cases c' with
  | inr a => exact absurd q2 id
  | inl a =>
    obtain ⟨ty', m', f'⟩ := a
    obtain ⟨q3, q4, q5⟩ := q2
    have q3 : ty' = ty := q3
    have q4 : m' = m := q4
    subst q3
    subst q4
    exact ⟨f', q1, fun i h1 h2 => q5 i (ap_not hW List.mem_cons_self h1 h2)⟩
end ST
