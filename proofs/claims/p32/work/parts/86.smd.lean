/-! solvedMender -/
section SM
variable {l : Launch} {g : jG} {n : Int}
theorem J.room {y d pc : Nat} {al : List (Option Value)} {st : List Value} {h : jH} {kc ks kc' ks' : Nat} {Q : Option Value → jH → Prop} (hJ : J l g y d pc al st h kc ks Q) (h1 : kc ≤ kc') (h2 : ks ≤ ks') : J l g y d pc al st h kc' ks' Q := by
  intro p e R s m args below meth c Z MC MS X K r1 r2 r3 r4 hZ H locs cells slots ls hW hl c1 c2
  exact hJ p e R s m args below meth c Z MC MS X K r1 r2 r3 r4 hZ H locs cells slots ls hW hl (by omega) (by omega)
def smW : List aR := [(0, 0, 11, 11), (0, 34, 3, 3), (0, 36, 0, 143), (6, 0, 0, 11), (6, 1, 0, 15), (6, 2, 0, 15), (6, 3, 0, 4912), (6, 4, 0, 4912), (6, 5, 0, 4912), (6, 6, 0, 271)]
def smK (kc ks : Nat) : aK := (135, [some (2, 0, 0, 0, 0)], [], [], [(2, 0, 0, 6, 0, [])], [], [], smW, 9, kc, ks)
def smC18 : aCu := (18, [some (2, 0, 0, 0, 0)], [], [], ([], 1), [6])
def smC49 : aCu := (49, [some (2, 0, 0, 0, 0)], [], [], ([], 0), [6])
theorem sm_cks : [smC18, smC49].all (fun C => Nat.beq C.2.1.length (jmx 135) && chk (TTs, KTx, KIx, smW, Pm, 135, 11, 9, smdN) (smK 0 0) [smC18, smC49] [] (some C.2.2.2.2.1) 200 true C.1 (spState (kEnv (smK 0 0)) C.2.1 C.2.2.1 C.2.2.2.1 C.2.2.2.2.2) 0 0) = true := by decide +kernel
def slK : aK := (137, [some (2, 0, 0, 6, 0), some (2, 0, 0, 0, 37), some (2, 0, 0, 0, 34), none], [], [], [(9, 0, 0, 0, 0, [])], [], [], [(0, 34, 3, 3), (0, 36, 0, 143), (6, 0, 0, 11), (6, 1, 0, 15), (6, 2, 0, 15), (6, 3, 0, 4912), (6, 4, 0, 4912), (6, 5, 0, 4912), (6, 6, 0, 255)], 6, 0, 0)
theorem sl_cks : (ckD.getD slvN (99, [], [])).2.1.all (fun C => Nat.beq C.2.1.length (jmx 137) && chk (TTs, KTx, KIx, slK.2.2.2.2.2.2.2.1, Pm, 137, 2, 6, slvN) slK (ckD.getD slvN (99, [], [])).2.1 [] (some C.2.2.2.2.1) 3000 true C.1 (spState (kEnv slK) C.2.1 C.2.2.1 C.2.2.2.1 C.2.2.2.2.2) 0 0) = true := by decide +kernel
def slC5 : aCu := (5, [some (2, 0, 0, 6, 0), some (2, 0, 0, 0, 37), some (2, 0, 0, 0, 34), none], [], [], ([], 35), [])
theorem slC5_in : slC5 ∈ (ckD.getD slvN (99, [], [])).2.1 := by decide +kernel
/-- solve on a Mender whose told isn't there yet: its first store, and the rest from its cut -/
theorem solve_run {bk : aB} {h : jH} {b bm : Nat} {fs : List Value} (hlow : ∀ (k : Nat) (K : aK), KTx[k]? = some K → k < slvN → kOK TTs g (EIm n) l K) (hb : bk 0 = some b) (hb6 : bk 6 = some bm) (hc : h[bm]? = some (.inr (2, fs))) (hlen : fs.length = 12)
    (hT : HT TTs g bk (h.set bm (.inr (2, fs.set 11 (jad g b 37))))) (hD : BD TTs bk) (hE : EIm n bk (h.set bm (.inr (2, fs.set 11 (jad g b 37))))) (hb1 : ∀ B, B ≤ 1 → ∃ b, bk B = some b) :
    jCal l g 137 6 [jad g bm 0, jad g b 37, jad g b 34] h 0 0 (kPost TTs g (EIm n) slK bk (h.set bm (.inr (2, fs.set 11 (jad g b 37)))) []) := by
  refine jCal_of (by decide +kernel) (show 3 ≤ jmx 137 by decide +kernel) ?_
  show J l g 137 6 0 [some (jad g bm 0), some (jad g b 37), some (jad g b 34), none] [] h 0 0 _
  have hcls : jcN 2 = (jyN 137).cls := by decide +kernel
  refine j_aload_n (k4 := 0) (by decide +kernel) rfl ?_
  refine j_aload_n (k4 := 1) (by decide +kernel) rfl ?_
  show J l g 137 6 2 _ [.ref (g.2.2 + (b + 37)), .ref (g.2.2 + bm)] h 0 0 _
  refine j_put (own := 2) (i := 43) (ci := 2) (f := 11) (ty := .object "TrainDescriber$Sightings") (by decide +kernel) hcls (by decide +kernel) hc rfl (by decide +kernel) (by omega) (by decide +kernel) (by decide +kernel) rfl rfl ?_
  have hM : mOK TTs g (EIm n) Pm KTx l slK.1 2 slvN := ⟨TTs_cl, TTs_sg, EIm_ok, hcls, hlow⟩
  have hcut := cuts_ok (l := l) (own := 2) (n := slvN) (fuel := 3000) (sp := []) (ev := []) (K := slK) (bk0 := bk) (h0 := h.set bm (.inr (2, fs.set 11 (jad g b 37)))) hM ⟨rfl, fun i e z he _ => by cases he⟩ rfl sl_cks slC5 slC5_in 35 (by decide)
  refine hcut [] bk _ _ ⟨⟨⟨rfl, fun i e z he _ => by cases he⟩, eFm_plain (plain_app (plain_app (plain_app (spEnv_plain _) clEnv_plain) (spEnv_plain _)) clEnv_plain), fun F hF => absurd hF List.not_mem_nil, ?_, trivial, fun q hq => absurd hq List.not_mem_nil, fun B hB => absurd hB List.not_mem_nil⟩, ⟨hT, hD, hE, UN.rf, fun _ _ q => q, hb1⟩, (show (4 : Nat) = jmx 137 by decide +kernel), fun i z hz => hz⟩ rfl
  intro i v hv
  match i, hv with
  | 0, hv => cases hv; exact ⟨_, rfl, bm, hb6, rfl⟩
  | 1, hv => cases hv; exact ⟨_, rfl, b, hb, rfl⟩
  | 2, hv => cases hv; exact ⟨_, rfl, b, hb, rfl⟩
  | 3, hv => cases hv
  | n + 4, hv => cases hv
theorem ini_6s : (match cdfT[2]? with
  | some L => (match cev 500 136 2 8 0 (cloc 136 [(1, 0)]) [] [.inr (2, L)] with
    | some r => (match r.1[0]? with
      | some (Sum.inr o) => decide (o.1 = 2) && decide (o.2.length = 12) && decide (o.2[0]? = some (0, 0))
      | _ => false)
    | none => false)
  | none => false) = true := by decide +kernel
def xTs : List aT := match tyAt TTs 0 0 with
  | some (.inr q) => q.2
  | _ => []
def sTs : List aT := match tyAt TTs 0 1 with
  | some (.inr q) => q.2
  | _ => []
theorem ty_x0 : tyAt TTs 0 0 = some (.inr (11, xTs)) := rfl
theorem ty_x1 : tyAt TTs 0 1 = some (.inr (7, sTs)) := rfl
end SM
