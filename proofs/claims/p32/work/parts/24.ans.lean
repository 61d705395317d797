/-! behind a call -/
theorem getE_right {α : Type} {a b : List α} {i : Nat} (h : a.length ≤ i) : (a ++ b)[i]? = b[i - a.length]? := List.getElem?_append_right h
def plain (L : List aE) : Prop := ∀ e ∈ L, ∃ lo hi, e = eNew lo hi none
theorem clEnv_plain {cl : List aC} : plain (clEnv cl) := fun e he => by
  obtain ⟨q, -, hq⟩ := List.mem_map.mp he
  exact ⟨_, _, hq.symm⟩
theorem spEnv_plain : ∀ (sp : List (Option aT)), plain (spEnv sp) := by
  intro sp
  induction sp with
  | nil => intro e he; exact absurd he List.not_mem_nil
  | cons a t ih =>
    cases a with
    | none => exact ih
    | some q =>
      intro e he
      rw [spEnv] at he
      cases hk : Nat.ble q.1 1 with
      | false => rw [hk] at he; exact ih e he
      | true =>
        rw [hk] at he
        rcases List.mem_cons.mp he with rfl | he
        · exact ⟨_, _, rfl⟩
        · exact ih e he
theorem eIv.appl {vs zs : List Int} {env L : List aE} (h1 : eIv vs env) (h2 : spBd L zs) : eIv (vs ++ zs) (env ++ L) := by
  refine ⟨by simp [h1.1, h2.1], fun i e z he hz => ?_⟩
  rcases Nat.lt_or_ge i env.length with hl | hl
  · rw [List.getElem?_append_left hl] at he
    rw [List.getElem?_append_left (by rw [← h1.1]; exact hl)] at hz
    exact h1.2 i e z he hz
  · rw [getE_right hl] at he
    rw [getE_right (by rw [← h1.1]; exact hl), ← h1.1] at hz
    exact h2.2 _ e z he hz
theorem eFm.appl {vs zs : List Int} {env L : List aE} (hl : env.length = vs.length) (h1 : eFm vs env) (hp : plain L) : eFm (vs ++ zs) (env ++ L) := by
  intro i e z he hz
  rcases Nat.lt_or_ge i env.length with hlt | hlt
  · rw [List.getElem?_append_left hlt] at he
    rw [List.getElem?_append_left (by rw [← hl]; exact hlt)] at hz
    obtain ⟨g1, g2⟩ := h1 i e z he hz
    exact ⟨fun F hF => fev_app (g1 F hF), g2.app⟩
  · rw [getE_right hlt] at he
    obtain ⟨lo, hi, rfl⟩ := hp e (List.mem_of_getElem? he)
    exact ⟨(fun F q => by cases q), tg0⟩
theorem clOv_mem : ∀ (cl : List aC) (n : Nat) (q : aO), q ∈ clOv n cl → ∃ j c, cl[j]? = some c ∧ q = (c.1, c.2.1, fcon c.2.2.1, n + j) := by
  intro cl
  induction cl with
  | nil => intro n q hq; exact absurd hq List.not_mem_nil
  | cons c t ih =>
    intro n q hq
    rw [clOv] at hq
    rcases List.mem_cons.mp hq with rfl | hq
    · exact ⟨0, c, rfl, rfl⟩
    · obtain ⟨j, c2, h1, h2⟩ := ih (n + 1) q hq
      exact ⟨j + 1, c2, by simpa using h1, by rw [h2, show n + 1 + j = n + (j + 1) by omega]⟩
theorem out_bd {bk : aB} {h : jH} {os : List Int} {outs : List aC} (ho : outOK bk h os outs) : spBd (clEnv outs) os := by
  refine ⟨by simp [clEnv, ho.1], fun j e z he hz => ?_⟩
  rw [clEnv, List.getElem?_map] at he
  cases hq : outs[j]? with
  | none => rw [hq] at he; cases he
  | some q =>
    rw [hq] at he
    cases he
    exact (ho.2 j q z hq hz).1
section AN
variable {TT : List (List aCT)} {g : jG} {EI : aB → jH → Prop} {W P : List aR} {bk0 : aB} {h0 : jH} {ev : List Int} {y : Nat} {vs : List Int} {bk bk' : aB} {al : List (Option Value)} {st : List Value} {h h' : jH} {env : List aE} {fc : List aF} {loc : List (Option aV)} {stk : List aV} {ov : List aO} {pr : List Nat}
theorem PT.after {Wk : List aR} (hp : PT TT g EI W bk0 h0 ev y vs bk al st h (env, fc, loc, stk, ov, pr)) (hh : hOK TT g EI Wk bk h bk' h') (hW : subW Wk W = true) (h4 : stk.all (fun v => Nat.ble v.1 3) = true) : PT TT g EI W bk0 h0 ev y vs bk' al st h' (env, fc, lo4 loc, stk, ovKill TT env Wk ov, pr) := by
  obtain ⟨⟨a1, a2, a3, a4, a5, a6, a7⟩, ⟨b1, b2, b3, b4, b5, b6⟩, hl, hq⟩ := hp
  obtain ⟨c1, c2, c3, c4, c5, c6⟩ := hh
  exact ⟨⟨a1, a2, a3, a4.ext c5, a5.ext c5 h4, ov_un a1 c4 c5 a6, fun B hB => by obtain ⟨b, hb⟩ := a7 B hB; exact ⟨b, c5 B b hb⟩⟩, ⟨c1, c2, c3, b4.tr b5 (c4.mono hW), fun B b hb => c5 B b (b5 B b hb), c6⟩, hl, hq⟩
theorem PT.outs {os : List Int} {outs : List aC} (hp : PT TT g EI W bk0 h0 ev y vs bk al st h (env, fc, loc, stk, ov, pr)) (ho : outOK bk h os outs) : PT TT g EI W bk0 h0 ev y (vs ++ os) bk al st h (env ++ clEnv outs, fc, loc, stk, clOv env.length outs ++ ov, pr) := by
  obtain ⟨⟨a1, a2, a3, a4, a5, a6, a7⟩, hh, hl, hq⟩ := hp
  refine ⟨⟨a1.appl (out_bd ho), a2.appl a1.1 clEnv_plain, a3.app, a4.app, a5.app, fun q hqm => ?_, a7⟩, hh, hl, fun i z hz => getE_app (hq i z hz)⟩
  rcases List.mem_append.mp hqm with hqm | hqm
  · obtain ⟨j, c, h1, rfl⟩ := clOv_mem _ _ _ hqm
    have hj : j < os.length := by rw [ho.1]; exact (List.getElem?_eq_some_iff.mp h1).1
    have hx : os[j]? = some os[j] := List.getElem?_eq_getElem hj
    obtain ⟨-, b, cc, k1, k2, k3⟩ := ho.2 j c _ h1 hx
    refine ⟨_, b, cc, os[j], fcon_ok, k1, k2, k3, ?_⟩
    show (vs ++ os)[env.length + j]? = _
    rw [getE_right (by rw [a1.1]; omega), a1.1, show vs.length + j - vs.length = j by omega]
    exact hx
  · exact a6.app q hqm
theorem PT.facts {ps : List aF} (hp : PT TT g EI W bk0 h0 ev y vs bk al st h (env, fc, loc, stk, ov, pr)) (hf : fcOK vs ps) : PT TT g EI W bk0 h0 ev y vs bk al st h (env, ps ++ fc, loc, stk, ov, pr) :=
  hp.setE ⟨hp.ee.1, hp.ee.2.1, fun F hF => by
    rcases List.mem_append.mp hF with z | z
    · exact hf F z
    · exact hp.ee.2.2 F z⟩
theorem post_fc {zs : List Int} {m : List Nat} {post ps : List aF} (hM : eFm vs env) (hi : idv vs m zs) (hs : fsubA env m post = some ps) (hp : postOK zs post) : fcOK vs ps := by
  obtain ⟨-, -, h3⟩ := fsubA_ok hM hi hs
  intro H hH
  obtain ⟨F, hF, hz⟩ := h3 H hH
  obtain ⟨z, z1, z2⟩ := hp F hF
  exact ⟨z, hz z z1, z2⟩
/-- an answer, in the caller's state -/
theorem aAns_ok {zs os : List Int} {m : List Nat} {post : List aF} {v : Option Value} {q : aQ} {S : aS} (hp : PT TT g EI W bk0 h0 ev y vs bk al st h (env, fc, loc, stk, ov, pr)) (hi : idv vs m (zs ++ os)) (ha : ansOK g bk zs os post v q) (hS : aAns env fc loc stk ov pr m post q = some S) : ∃ vs', PT TT g EI W bk0 h0 ev y vs' bk al (v.toList ++ st) h S := by
  obtain ⟨qk, qlo, qhi, qa, qb, qt⟩ := q
  have hlen : (vs.length : Nat) = env.length := hp.1.1.1.symm
  match qk, ha, hS with
  | 0, ⟨x, hv, hbd, hts, hpo⟩, hS =>
    subst hv
    rw [aAns] at hS
    dsimp only at hS
    cases h1 : fsubA env m qt with
    | none => rw [h1] at hS; cases hS
    | some ts =>
      rw [h1] at hS
      dsimp only at hS
      cases h2 : fsubA (env ++ [(qlo, qhi, none, tgN ts, 0, 0, ts)]) (m ++ [env.length]) post with
      | none => rw [h2] at hS; cases hS
      | some ps =>
        rw [h2] at hS
        have hS2 := Option.some.inj hS
        clear hS
        subst hS2
        obtain ⟨s1, s2, s3⟩ := fsubA_ok hp.ee.2.1 hi h1
        have app : ∀ F w, fev zs F = some w → fev (zs ++ os) F = some w := fun F w hw => fev_app hw
        have he : eVal vs (qlo, qhi, none, tgN ts, 0, 0, ts) x.toInt := by
          refine ⟨hbd, (fun F e => by cases e), fun e1 => ?_, fun e1 => ?_, fun e1 => ?_⟩
          · rcases hts with hts | ⟨t1, t2⟩ | ⟨t1, t2, F, t3, w, t4, t5⟩
            · subst hts
              rw [fsubA] at h1
              cases h1
              exact absurd (show (0 : Nat) = 1 from e1) (by decide)
            · refine Or.inl ⟨t1, fun H hH => ?_⟩
              obtain ⟨F, hF, hz⟩ := s3 H hH
              obtain ⟨w, w1, w2⟩ := t2 F hF
              exact ⟨w, hz w (app F w w1), w2⟩
            · refine Or.inr ⟨t1, fun H hH => ?_, ?_⟩
              · obtain ⟨F2, hF2, hz⟩ := s3 H hH
                obtain ⟨w2, w3⟩ := t2 F2 hF2
                exact ⟨w2, hz w2 (app F2 w2 w3)⟩
              · obtain ⟨H, hH, hz⟩ := s2 F t3
                exact ⟨H, hH, w, hz w (app F w t4), t5⟩
          · cases ts with
            | nil => exact absurd (show (0 : Nat) = 2 from e1) (by decide)
            | cons a t => exact absurd (show (1 : Nat) = 2 from e1) (by decide)
          · cases ts with
            | nil => exact absurd (show (0 : Nat) = 3 from e1) (by decide)
            | cons a t => exact absurd (show (1 : Nat) = 3 from e1) (by decide)
        have hP := hp.push32 (x := x) he
        have hi2 : idv (vs ++ [x.toInt]) (m ++ [env.length]) (zs ++ os ++ [x.toInt]) := idv.cat hi.app (by rw [idv, List.map_cons, List.map_nil, List.map_cons, List.map_nil, ← hlen]; simp)
        exact ⟨_, hP.facts (post_fc hP.ee.2.1 hi2 h2 hpo)⟩
  | 2, ⟨⟨b, hb, hv⟩, hpo⟩, hS =>
    subst hv
    rw [aAns] at hS
    dsimp only at hS
    cases h2 : fsubA env m post with
    | none => rw [h2] at hS; cases hS
    | some ps =>
      rw [h2] at hS
      have hS2 := Option.some.inj hS
      clear hS
      subst hS2
      exact ⟨_, (hp.put (v := (2, qa, qb)) ⟨b, hb, rfl⟩).facts (post_fc hp.ee.2.1 hi h2 hpo)⟩
  | 5, ⟨x, t, hv, t1, t2, t3, hpo⟩, hS =>
    subst hv
    rw [aAns] at hS
    dsimp only at hS
    cases h2 : fsubA (env ++ [eNew 0 qhi none, eNew qlo (qlo + qa * qhi) (some ([(env.length, (qa : Int))], qlo))]) (m ++ [env.length + 1]) post with
    | none => rw [h2] at hS; cases hS
    | some ps =>
      rw [h2] at hS
      have hS2 := Option.some.inj hS
      clear hS
      subst hS2
      dsimp only at t1 t2 t3
      obtain ⟨hP1, hz1⟩ := hp.fresh (e := eNew 0 qhi none) (z := t) (eVal.bd t1 t2)
      have hm : (qa : Int) * t ≤ qa * qhi := Int.mul_le_mul_of_nonneg_left t2 (by omega)
      have hm0 : 0 ≤ (qa : Int) * t := Int.mul_nonneg (by omega) t1
      have hP2 := hP1.push32 (e := eNew qlo (qlo + qa * qhi) (some ([(env.length, (qa : Int))], qlo))) (x := x) (by
        rw [t3]
        refine eVal.fm (by omega) (by omega) ?_
        rw [fev_of (fevl_cons (q := (env.length, (qa : Int))) hz1 (show fevl _ [] = some 0 from rfl))]
        congr 1
        show (qa : Int) * t + 0 + qlo = _
        omega)
      have e1 : env ++ [eNew 0 qhi none] ++ [eNew qlo (qlo + qa * qhi) (some ([(env.length, (qa : Int))], qlo))] = env ++ [eNew 0 qhi none, eNew qlo (qlo + qa * qhi) (some ([(env.length, (qa : Int))], qlo))] := by simp
      have e2 : (env ++ [eNew 0 qhi none]).length = env.length + 1 := by simp
      rw [e1, e2] at hP2
      have hi2 : idv (vs ++ [t] ++ [x.toInt]) (m ++ [env.length + 1]) (zs ++ os ++ [x.toInt]) := idv.cat hi.app.app (by rw [idv, List.map_cons, List.map_nil, List.map_cons, List.map_nil, ← hlen]; simp)
      exact ⟨_, hP2.facts (post_fc hP2.ee.2.1 hi2 h2 hpo)⟩
  | 9, ⟨hv, hpo⟩, hS =>
    subst hv
    rw [aAns] at hS
    dsimp only at hS
    cases h2 : fsubA env m post with
    | none => rw [h2] at hS; cases hS
    | some ps =>
      rw [h2] at hS
      have hS2 := Option.some.inj hS
      clear hS
      subst hS2
      exact ⟨_, hp.facts (post_fc hp.ee.2.1 hi h2 hpo)⟩
  | 1, ha, _ => exact absurd ha id
  | 3, ha, _ => exact absurd ha id
  | 4, ha, _ => exact absurd ha id
  | 6, ha, _ => exact absurd ha id
  | 7, ha, _ => exact absurd ha id
  | 8, ha, _ => exact absurd ha id
  | n + 10, ha, _ => exact absurd ha id
theorem aAnsA_mem {m : List Nat} {post : List aF} : ∀ {qs : List aQ} {L : List aS}, aAnsA env fc loc stk ov pr m post qs = some L → ∀ q ∈ qs, ∃ S ∈ L, aAns env fc loc stk ov pr m post q = some S := by
  intro qs
  induction qs with
  | nil => intro L _ q hq; exact absurd hq List.not_mem_nil
  | cons a t ih =>
    intro L hL q hq
    rw [aAnsA] at hL
    cases h1 : aAns env fc loc stk ov pr m post a with
    | none => rw [h1] at hL; cases hL
    | some S =>
      cases h2 : aAnsA env fc loc stk ov pr m post t with
      | none => rw [h1, h2] at hL; cases hL
      | some L2 =>
        rw [h1, h2] at hL
        cases hL
        rcases List.mem_cons.mp hq with rfl | hq
        · exact ⟨S, List.mem_cons_self, h1⟩
        · obtain ⟨S2, g1, g2⟩ := ih h2 q hq
          exact ⟨S2, List.mem_cons_of_mem _ g1, g2⟩
end AN
