/-! image of the class -/
section IC
variable {l : Launch} {g : jG} {n : Int}
def cfW (K : aK) : List aR := K.2.2.2.2.2.2.2.1
def xmW : List aR := [(0, 0, 1, 1), (0, 0, 2, 2), (0, 0, 7, 7)] ++ cfW Kx_734 ++ cfW Kx_735 ++ cfW Kx_736
def xmK (k : Int) : aK := (193, [some (2, 0, 0, 0, 0), some (0, k, k, 0, 0), none], [], [], [(0, 0, 0, 0, 0, [])], [], [], xmW, 9, 0, 0)
def xmC68 : aCu := (68, [some (2, 0, 0, 0, 0), none, none], [], [], ([], 0), [])
theorem xm_cks_0 : [xmC68].all (fun C => Nat.beq C.2.1.length (jmx 193) && chk (TTs, KTx, KIx, xmW, Pm, 193, 11, 9, 737) (xmK 0) [xmC68] [] (some C.2.2.2.2.1) 200 true C.1 (spState (kEnv (xmK 0)) C.2.1 C.2.2.1 C.2.2.2.1 C.2.2.2.2.2) 0 0) = true := by decide +kernel
theorem xm_cks_1 : [xmC68].all (fun C => Nat.beq C.2.1.length (jmx 193) && chk (TTs, KTx, KIx, xmW, Pm, 193, 11, 9, 737) (xmK 1) [xmC68] [] (some C.2.2.2.2.1) 200 true C.1 (spState (kEnv (xmK 1)) C.2.1 C.2.2.1 C.2.2.2.1 C.2.2.2.2.2) 0 0) = true := by decide +kernel
theorem xm_ev (k : Int) : eIv [k] (kEnv (xmK k)) := by
  refine ⟨rfl, fun i e z he hz => ?_⟩
  match i, he, hz with
  | 0, he, hz =>
    cases he
    cases hz
    exact ⟨Int.le_refl _, Int.le_refl _⟩
  | i + 1, he, _ => cases he
theorem set_id {α : Type} : ∀ (L : List α) (i : Nat) (v : α), L[i]? = some v → L.set i v = L := by
  intro L
  induction L with
  | nil => intro i v hv; cases hv
  | cons a t ih =>
    intro i v hv
    cases i with
    | zero =>
      have e : a = v := Option.some.inj hv
      rw [e]
      rfl
    | succ i =>
      show a :: t.set i v = a :: t
      rw [ih i v hv]
theorem EIm_ren {bk : aB} {h : jH} {X a b : Nat} {c : jC} (hT : HT TTs g bk h) (hD : BD TTs bk) (hE : EIm n bk h) (hb : bk 0 = some b) (hX : X ≠ 1) : EIm n (bkR bk X a) (h.set (b + 0) c) := by
  intro b1 f F K q1 q2 q3 q4
  rw [bkR_ne (Ne.symm hX) (by decide)] at q1
  have same : ∀ o, o < tyLen TTs 1 → (h.set (b + 0) c)[b1 + o]? = h[b1 + o]? := fun o ho => by
    have hne : ¬ b + 0 = b1 + o := fun e => absurd (hD 0 1 b b1 0 o hb q1 (by decide +kernel) ho e).1 (by decide)
    rw [List.getElem?_set_ne hne]
  rw [same 1 (by decide +kernel)] at q2
  rw [same 2 (by decide +kernel)] at q3
  rw [same 3 (by decide +kernel)] at q4
  exact hE b1 f F K q1 q2 q3 q4
theorem EIm_add {bk : aB} {h : jH} {H : List cC} (hT : HT TTs g bk h) (hE : EIm n bk h) : EIm n (bkN bk 7 h.length) (chp g h H) := by
  intro b1 f F K q1 q2 q3 q4
  rw [bkN_ne (by decide)] at q1
  have same : ∀ (o : Nat) (c : jC), h[b1 + o]? = some c → (chp g h H)[b1 + o]? = some c := fun o c hc => by
    rw [chp, List.getElem?_append_left (List.getElem?_eq_some_iff.mp hc).1]
    exact hc
  obtain ⟨f', w1, -⟩ := m_arr hT q1 ty_m1
  obtain ⟨F', w2, -⟩ := m_arr hT q1 ty_m2
  obtain ⟨K', w3, -⟩ := m_arr hT q1 ty_m3
  cases (same 1 _ w1).symm.trans q2
  cases (same 2 _ w2).symm.trans q3
  cases (same 3 _ w3).symm.trans q4
  exact hE b1 f F K q1 w1 w2 w3
theorem ty_s2 : tyAt TTs 2 0 = some (.inr (7, match tyAt TTs 2 0 with | some (.inr q) => q.2 | _ => [])) := rfl
theorem ty_s3 : tyAt TTs 3 0 = some (.inr (7, match tyAt TTs 3 0 with | some (.inr q) => q.2 | _ => [])) := rfl
theorem ty_s7 : tyAt TTs 7 0 = some (.inr (7, match tyAt TTs 7 0 with | some (.inr q) => q.2 | _ => [])) := rfl
set_option maxRecDepth 16384 in
theorem xmC_0 (hlow : ∀ (k : Nat) (K : aK), KTx[k]? = some K → kOK TTs g (EIm n) l K) {bk : aB} {h : jH} {b : Nat} (hT : HT TTs g bk h) (hD : BD TTs bk) (hE : EIm n bk h) (hb1 : ∀ B, B ≤ 1 → ∃ b, bk B = some b) (hb : bk 0 = some b) (h7 : bk 7 = none) :
    jCal l g 193 9 [jad g b 0, .int 0] h 48 4307 (kPost TTs g (EIm n) (xmK 0) bk h [0]) := by
  have hcls : jcN 11 = (jyN 193).cls := by decide +kernel
  have hM : mOK TTs g (EIm n) Pm KTx l (xmK 0).1 11 737 := ⟨TTs_cl, TTs_sg, EIm_ok, hcls, fun k K hK _ => hlow k K hK⟩
  have cks := cuts_ok (l := l) (own := 11) (n := 737) (fuel := 200) (sp := []) (ev := [0]) (K := xmK 0) (bk0 := bk) (h0 := h) hM (xm_ev 0) rfl xm_cks_0
  have fin : ∀ (bk' : aB) (h' : jH) (v : Value), hOK TTs g (EIm n) xmW bk h bk' h' → J l g 193 9 68 [some (jad g b 0), some (.int 0), some v] [] h' 0 0 (kPost TTs g (EIm n) (xmK 0) bk h [0]) := by
    intro bk' h' v hO
    refine cks xmC68 List.mem_cons_self 0 (by decide) [0] bk' _ h' ⟨⟨xm_ev 0, eFm_plain (plain_app (plain_app (plain_app (spEnv_plain _) clEnv_plain) (spEnv_plain _)) clEnv_plain), fun F hF => absurd hF List.not_mem_nil, ?_, trivial, fun q hq => absurd hq List.not_mem_nil, fun B hB => absurd hB List.not_mem_nil⟩, hO, (show (3 : Nat) = jmx 193 by decide +kernel), fun i z hz => hz⟩ rfl
    intro i w hw
    match i, hw with
    | 0, hw => cases hw; exact ⟨_, rfl, b, hO.2.2.2.2.1 0 b hb, rfl⟩
    | 1, hw => cases hw
    | 2, hw => cases hw
    | m + 3, hw => cases hw
  have sto : ∀ (bk' : aB) (h' : jH) (a : Nat) (fs' : List Value), h'[b + 0]? = some (.inr (11, fs')) → fs'.length = 12 → hOK TTs g (EIm n) xmW bk h bk' (h'.set (b + 0) (.inr (11, fs'.set 1 (jad g a 0)))) → J l g 193 9 51 [some (jad g b 0), some (.int 0), some (jad g a 0)] [] h' 0 0 (kPost TTs g (EIm n) (xmK 0) bk h [0]) := by
    intro bk' h' a fs' hc' hl' hO
    refine j_iload_n (k4 := 1) (by decide +kernel) rfl ?_
    refine j_if_ne (off := 11) (tgt := 63) (by decide +kernel) (by decide) (fun e => absurd rfl e) (fun _ => ?_)
    refine j_aload_n (k4 := 0) (by decide +kernel) rfl ?_
    refine j_aload_n (k4 := 2) (by decide +kernel) rfl ?_
    refine j_put (own := 11) (i := 353) (ci := 11) (f := 1) (ty := .object "TrainDescriber$State") (by decide +kernel) hcls (by decide +kernel) hc' rfl (by decide +kernel) (by omega) (by decide +kernel) (by decide +kernel) rfl rfl ?_
    refine j_goto (off := 8) (tgt := 68) (by decide +kernel) (by decide) ?_
    exact fin bk' _ _ hO
  have n11 : ∀ f, f < 12 → ∀ r, jcl[11]? = some r → f < r.2.2 := fun f hf r hr => by
    cases hr
    have : (12 : Nat) = nfX11 := by decide +kernel
    show f < nfX11
    omega
  have xl : xTs.length = 12 := by decide +kernel
  -- from 43 on: the call
  have cal : ∀ (B N : Nat) (K : aK) (bkA : aB) (hA : jH) (a : Nat), KTx[N]? = some K → K = (194, [some (2, 0, 0, B, 0), some (2, 0, 0, 0, 1)], [], [], [(9, 0, 0, 0, 0, [])], [], [], cfW K, 3, 0, 0) → HT TTs g bkA hA → BD TTs bkA → EIm n bkA hA → (∀ B, B ≤ 1 → ∃ b, bkA B = some b) → bkA 0 = some b → bkA B = some a → (∃ ss, hA[a]? = some (.inr (7, ss))) →
      (∀ (bk' : aB) (h' : jH), hOK TTs g (EIm n) (cfW K) bkA hA bk' h' → J l g 193 9 51 [some (jad g b 0), some (.int 0), some (jad g a 0)] [] h' 0 0 (kPost TTs g (EIm n) (xmK 0) bk h [0])) →
      J l g 193 9 43 [some (jad g b 0), some (.int 0), some (jad g a 0)] [] hA 0 0 (kPost TTs g (EIm n) (xmK 0) bk h [0]) := by
    intro B N K bkA hA a hK eK hTA hDA hEA hb1A hbA hBA hca k
    obtain ⟨ss, hss⟩ := hca
    obtain ⟨c, hc, fs, rfl, hfl, hfs⟩ := hTA 0 b 0 _ hbA ty_x0
    obtain ⟨vn, hvn, bn, hbn, rfl⟩ := hfs 0 (2, 0, 0, 0, 1) rfl
    have hbn : bkA 0 = some bn := hbn
    cases hbA.symm.trans hbn
    refine j_aload_n (k4 := 2) (by decide +kernel) rfl ?_
    refine j_aload_n (k4 := 0) (by decide +kernel) rfl ?_
    refine j_get (own := 11) (i := 10) (ci := 11) (f := 0) (by decide +kernel) hcls (by decide +kernel) hc (n11 0 (by decide)) hvn ?_
    have hlo : loOK g [] bkA (spLoc 0 [some (2, 0, 0, B, 0), some (2, 0, 0, 0, 1)]) (jal 194 [jad g a 0, jad g b 1]) := by
      intro i w hw
      match i, hw with
      | 0, hw => cases hw; exact ⟨_, rfl, a, hBA, rfl⟩
      | 1, hw => cases hw; exact ⟨_, rfl, b, hbA, rfl⟩
      | m + 2, hw => cases hw
    have hcal := hlow N K hK bkA hA [jad g a 0, jad g b 1] [] hTA hDA hEA hb1A
    rw [eK] at hcal
    have hcal := hcal (show 2 ≤ jmx 194 by decide +kernel) rfl (fun q hq => by cases hq) ⟨⟨rfl, fun i e z he _ => by cases he⟩, eFm_plain (plain_app (spEnv_plain _) clEnv_plain), fun F hF => absurd hF List.not_mem_nil, hlo, trivial, fun q hq => absurd hq List.not_mem_nil, fun B hB => absurd hB List.not_mem_nil⟩
    show J l g 193 9 48 _ (([jad g b 1] : List Value).reverse ++ .ref (g.2.2 + a) :: []) _ (0 + 0) (0 + 0) _
    refine j_callV (own := 11) (i := 359) (y2 := 194) (d2 := 3) (by decide +kernel) hcls (by decide +kernel) (by decide) (by decide +kernel) (by decide +kernel) (by decide +kernel) (by decide +kernel) (by decide +kernel) (show 1 = jnp 194 by decide +kernel) (by decide) (by decide) hss (fun r hr => by cases hr; decide +kernel) hcal (fun v h' hq => ?_)
    obtain ⟨bk', os, hO, -, q, hq1, hq2⟩ := hq
    have hq3 := List.mem_singleton.mp hq1
    subst hq3
    have hv0 : v = none := hq2.1
    subst hv0
    exact k bk' h' hO
  obtain ⟨c, hc, fs, rfl, hfl, hfs⟩ := hT 0 b 0 _ hb ty_x0
  obtain ⟨v, hv, hvt⟩ := hfs 1 (3, 0, 0, 2, 0) rfl
  refine jCal_of (show plainName (jyN 193).cls = true by decide +kernel) (show 2 ≤ jmx 193 by decide +kernel) ?_
  show J l g 193 9 0 [some (jad g b 0), some (.int 0), none] [] h 48 4307 _
  refine j_iload_n (k4 := 1) (by decide +kernel) rfl ?_
  refine j_if_lt (off := 8) (tgt := 9) (by decide +kernel) (by decide) (fun e => absurd e (by decide)) (fun _ => ?_)
  refine j_iload_n (k4 := 1) (by decide +kernel) rfl ?_
  refine j_iconst (n := 2) (by decide +kernel) ?_
  refine j_icmp_lt (off := 9) (tgt := 15) (by decide +kernel) (by decide) (fun _ => ?_) (fun e => absurd (by decide) e)
  refine j_iload_n (k4 := 1) (by decide +kernel) rfl ?_
  refine j_if_ne (off := 10) (tgt := 26) (by decide +kernel) (by decide) (fun e => absurd rfl e) (fun _ => ?_)
  refine j_aload_n (k4 := 0) (by decide +kernel) rfl ?_
  refine j_get (own := 11) (i := 353) (ci := 11) (f := 1) (by decide +kernel) hcls (by decide +kernel) hc (n11 1 (by decide)) hv ?_
  refine j_goto (off := 7) (tgt := 30) (by decide +kernel) (by decide) ?_
  rcases hvt with ⟨a, hXa, rfl⟩ | ⟨hXn, rfl⟩
  · have hXa : bk 2 = some a := hXa
    refine j_astore_n (k4 := 2) (by decide +kernel) (by decide +kernel) ?_
    show J l g 193 9 31 [some (jad g b 0), some (.int 0), some (jad g a 0)] [] h 48 4307 _
    refine j_aload_n (k4 := 2) (by decide +kernel) rfl ?_
    refine j_ifnonnull (off := 11) (tgt := 43) (by decide +kernel) (by decide) ?_
    refine J.room (kc := 0) (ks := 0) ?_ (by omega) (by omega)
    obtain ⟨cs, hcs, ss, rfl, -, -⟩ := hT 2 a 0 _ hXa ty_s2
    refine cal 2 734 Kx_734 bk h a rfl rfl hT hD hE hb1 hb hXa ⟨ss, hcs⟩ (fun bk' h' hO => ?_)
    have hb' := hO.2.2.2.2.1 0 b hb
    obtain ⟨c', hc', fs', rfl, hfl', hfs'⟩ := hO.1 0 b 0 _ hb' ty_x0
    obtain ⟨w, hw, hwt⟩ := hfs' 1 (3, 0, 0, 2, 0) rfl
    refine sto bk' h' a fs' hc' (by rw [hfl']; exact xl) ?_
    have hwa : w = jad g a 0 := by
      rcases hwt with ⟨a', ha', rfl⟩ | ⟨ha', -⟩
      · have ha' : bk' 2 = some a' := ha'
        cases (hO.2.2.2.2.1 2 a hXa).symm.trans ha'
        rfl
      · have ha' : bk' 2 = none := ha'
        rw [hO.2.2.2.2.1 2 a hXa] at ha'
        cases ha'
    rw [hwa] at hw
    rw [set_id fs' 1 _ hw, set_id h' (b + 0) _ hc']
    exact ⟨hO.1, hO.2.1, hO.2.2.1, hO.2.2.2.1.mono (by decide +kernel), hO.2.2.2.2.1, hO.2.2.2.2.2⟩
  · have hXn : bk 2 = none := hXn
    refine j_astore_nN (k4 := 2) (by decide +kernel) (by decide +kernel) ?_
    show J l g 193 9 31 [some (jad g b 0), some (.int 0), some .null] [] h 48 4307 _
    refine j_aload_nN (k4 := 2) (by decide +kernel) rfl ?_
    refine j_ifnonnullN (off := 11) (by decide +kernel) ?_
    obtain ⟨L, H, hL, hcev, htyp⟩ := iniB_ok ini_7
    have hLl : L.length = 20 := by
      have e := hL
      cases e
      rfl
    refine J.room (kc := 1 + (47 + 0)) (ks := L.length + (4287 + 0)) ?_ (by omega) (by rw [hLl]; omega)
    refine new_run (i := 7) (j := 9) (y2 := 2) (own2 := 7) (fuel := 500) (d2 := 8) (by decide +kernel) (by decide +kernel) (by decide +kernel) hcls (by decide +kernel) hL (Or.inl (by decide +kernel)) (by decide) (by decide +kernel) (by decide +kernel) (by decide +kernel) (by decide +kernel) (by decide +kernel) (by decide +kernel) (by decide +kernel) (by decide +kernel) (by decide) (by decide) hcev ?_
    refine j_astore_n (k4 := 2) (by decide +kernel) (by decide +kernel) ?_
    show J l g 193 9 43 [some (jad g b 0), some (.int 0), some (jad g h.length 0)] [] (chp g h H) 0 0 _
    have no37 : ∀ (B o k : Nat) (q : Nat × List aT) (t : aT), tyAt TTs B o = some (.inr q) → q.2[k]? = some t → ¬ (t.1 = 3 ∧ t.2.2.2.1 = 7) := fun B o k q t h1 h2 e => by
      obtain ⟨e1, -, -⟩ := only3_ok on_7 h1 h2 e.1 e.2
      subst e1
      cases h1
    have hT7 : HT TTs g (bkN bk 7 h.length) (chp g h H) := HT_add hT h7 (show TTs[7]? = some TT_7 from rfl) (by decide +kernel) htyp no37
    obtain ⟨cs, hcs, ss, rfl, -, -⟩ := hT7 7 h.length 0 _ bkN_self ty_s7
    refine cal 7 736 Kx_736 (bkN bk 7 h.length) (chp g h H) h.length rfl rfl hT7 (BD_new hT hD h7) (EIm_add hT hE) (fun B hB => by
      obtain ⟨c, hc⟩ := hb1 B hB
      exact ⟨c, bkN_old h7 hc⟩) (bkN_old h7 hb) bkN_self ⟨ss, hcs⟩ (fun bk' h' hO => ?_)
    have sub : ∀ B c, bk B = some c → bk' B = some c := fun B c hB => hO.2.2.2.2.1 B c (bkN_old h7 hB)
    have hb' := sub 0 b hb
    have h7' : bk' 7 = some h.length := hO.2.2.2.2.1 7 _ bkN_self
    obtain ⟨c', hc', fs', rfl, hfl', hfs'⟩ := hO.1 0 b 0 _ hb' ty_x0
    obtain ⟨w, hw, hwt⟩ := hfs' 1 (3, 0, 0, 2, 0) rfl
    have hcH : (chp g h H)[b + 0]? = some (.inr (11, fs)) := by
      rw [chp, List.getElem?_append_left (List.getElem?_eq_some_iff.mp hc).1]
      exact hc
    have hwn : w = .null := by
      obtain ⟨c2, g1, g2⟩ := hO.2.2.2.1.2 0 b 0 _ (bkN_old h7 hb) (by decide +kernel) hcH
      cases hc'.symm.trans g1
      have g3 := g2.2.2 1 (fun hin => by
        obtain ⟨z, hz, z1, -⟩ := hin
        have : (cfW Kx_736).all (fun z => !Nat.beq z.1 0) = true := by decide +kernel
        have := List.all_eq_true.mp this z hz
        rw [z1] at this
        cases this)
      have g4 : fs'[1]? = fs[1]? := g3
      rw [hw, hv] at g4
      exact Option.some.inj g4
    have hX' : bk' 2 = none := by
      rcases hwt with ⟨a', ha', e⟩ | ⟨ha', -⟩
      · rw [hwn] at e
        cases e
      · exact ha'
    refine sto (bkR bk' 2 h.length) h' h.length fs' hc' (by rw [hfl']; exact xl) ?_
    have U0 : UN TTs xmW bk h (chp g h H) := UN_add hT
    have U1 : UN TTs xmW (bkN bk 7 h.length) (chp g h H) h' := hO.2.2.2.1.mono (by decide +kernel)
    have U2 : UN TTs xmW bk' h' (h'.set (b + 0) (.inr (11, fs'.set 1 (jad g h.length 0)))) := (UN.set (W := [(0, 0, 1, 1)]) hO.2.1 hb' (by decide +kernel) hc' offW_fs).mono (by decide +kernel)
    refine ⟨HT_ren hO.1 hO.2.1 hX' h7' ren_2 on_2 hb' hc' ⟨_, _, ty_x0, rfl, rfl, rfl, rfl⟩, BD_ren hO.2.1 h7' (by decide) ren_2, EIm_ren hO.1 hO.2.1 hO.2.2.1 hb' (by decide), (U0.tr (fun B c hB => bkN_old h7 hB) U1).tr sub U2, fun B c hB => ?_, fun B hB => ?_⟩
    · rw [bkR_ne (fun e => by subst e; rw [hXn] at hB; cases hB) (fun e => by subst e; rw [h7] at hB; cases hB)]
      exact sub B c hB
    · rw [bkR_ne (by omega) (by omega)]
      exact hO.2.2.2.2.2 B hB

set_option maxRecDepth 16384 in
theorem xmC_1 (hlow : ∀ (k : Nat) (K : aK), KTx[k]? = some K → kOK TTs g (EIm n) l K) {bk : aB} {h : jH} {b : Nat} (hT : HT TTs g bk h) (hD : BD TTs bk) (hE : EIm n bk h) (hb1 : ∀ B, B ≤ 1 → ∃ b, bk B = some b) (hb : bk 0 = some b) (h7 : bk 7 = none) :
    jCal l g 193 9 [jad g b 0, .int 1] h 48 4307 (kPost TTs g (EIm n) (xmK 1) bk h [1]) := by
  have hcls : jcN 11 = (jyN 193).cls := by decide +kernel
  have hM : mOK TTs g (EIm n) Pm KTx l (xmK 1).1 11 737 := ⟨TTs_cl, TTs_sg, EIm_ok, hcls, fun k K hK _ => hlow k K hK⟩
  have cks := cuts_ok (l := l) (own := 11) (n := 737) (fuel := 200) (sp := []) (ev := [1]) (K := xmK 1) (bk0 := bk) (h0 := h) hM (xm_ev 1) rfl xm_cks_1
  have fin : ∀ (bk' : aB) (h' : jH) (v : Value), hOK TTs g (EIm n) xmW bk h bk' h' → J l g 193 9 68 [some (jad g b 0), some (.int 1), some v] [] h' 0 0 (kPost TTs g (EIm n) (xmK 1) bk h [1]) := by
    intro bk' h' v hO
    refine cks xmC68 List.mem_cons_self 0 (by decide) [1] bk' _ h' ⟨⟨xm_ev 1, eFm_plain (plain_app (plain_app (plain_app (spEnv_plain _) clEnv_plain) (spEnv_plain _)) clEnv_plain), fun F hF => absurd hF List.not_mem_nil, ?_, trivial, fun q hq => absurd hq List.not_mem_nil, fun B hB => absurd hB List.not_mem_nil⟩, hO, (show (3 : Nat) = jmx 193 by decide +kernel), fun i z hz => hz⟩ rfl
    intro i w hw
    match i, hw with
    | 0, hw => cases hw; exact ⟨_, rfl, b, hO.2.2.2.2.1 0 b hb, rfl⟩
    | 1, hw => cases hw
    | 2, hw => cases hw
    | m + 3, hw => cases hw
  have sto : ∀ (bk' : aB) (h' : jH) (a : Nat) (fs' : List Value), h'[b + 0]? = some (.inr (11, fs')) → fs'.length = 12 → hOK TTs g (EIm n) xmW bk h bk' (h'.set (b + 0) (.inr (11, fs'.set 2 (jad g a 0)))) → J l g 193 9 51 [some (jad g b 0), some (.int 1), some (jad g a 0)] [] h' 0 0 (kPost TTs g (EIm n) (xmK 1) bk h [1]) := by
    intro bk' h' a fs' hc' hl' hO
    refine j_iload_n (k4 := 1) (by decide +kernel) rfl ?_
    refine j_if_ne (off := 11) (tgt := 63) (by decide +kernel) (by decide) (fun _ => ?_) (fun e => absurd (by decide) e)
    refine j_aload_n (k4 := 0) (by decide +kernel) rfl ?_
    refine j_aload_n (k4 := 2) (by decide +kernel) rfl ?_
    refine j_put (own := 11) (i := 356) (ci := 11) (f := 2) (ty := .object "TrainDescriber$State") (by decide +kernel) hcls (by decide +kernel) hc' rfl (by decide +kernel) (by omega) (by decide +kernel) (by decide +kernel) rfl rfl ?_
    exact fin bk' _ _ hO
  have n11 : ∀ f, f < 12 → ∀ r, jcl[11]? = some r → f < r.2.2 := fun f hf r hr => by
    cases hr
    have : (12 : Nat) = nfX11 := by decide +kernel
    show f < nfX11
    omega
  have xl : xTs.length = 12 := by decide +kernel
  -- from 43 on: the call
  have cal : ∀ (B N : Nat) (K : aK) (bkA : aB) (hA : jH) (a : Nat), KTx[N]? = some K → K = (194, [some (2, 0, 0, B, 0), some (2, 0, 0, 0, 1)], [], [], [(9, 0, 0, 0, 0, [])], [], [], cfW K, 3, 0, 0) → HT TTs g bkA hA → BD TTs bkA → EIm n bkA hA → (∀ B, B ≤ 1 → ∃ b, bkA B = some b) → bkA 0 = some b → bkA B = some a → (∃ ss, hA[a]? = some (.inr (7, ss))) →
      (∀ (bk' : aB) (h' : jH), hOK TTs g (EIm n) (cfW K) bkA hA bk' h' → J l g 193 9 51 [some (jad g b 0), some (.int 1), some (jad g a 0)] [] h' 0 0 (kPost TTs g (EIm n) (xmK 1) bk h [1])) →
      J l g 193 9 43 [some (jad g b 0), some (.int 1), some (jad g a 0)] [] hA 0 0 (kPost TTs g (EIm n) (xmK 1) bk h [1]) := by
    intro B N K bkA hA a hK eK hTA hDA hEA hb1A hbA hBA hca k
    obtain ⟨ss, hss⟩ := hca
    obtain ⟨c, hc, fs, rfl, hfl, hfs⟩ := hTA 0 b 0 _ hbA ty_x0
    obtain ⟨vn, hvn, bn, hbn, rfl⟩ := hfs 0 (2, 0, 0, 0, 1) rfl
    have hbn : bkA 0 = some bn := hbn
    cases hbA.symm.trans hbn
    refine j_aload_n (k4 := 2) (by decide +kernel) rfl ?_
    refine j_aload_n (k4 := 0) (by decide +kernel) rfl ?_
    refine j_get (own := 11) (i := 10) (ci := 11) (f := 0) (by decide +kernel) hcls (by decide +kernel) hc (n11 0 (by decide)) hvn ?_
    have hlo : loOK g [] bkA (spLoc 0 [some (2, 0, 0, B, 0), some (2, 0, 0, 0, 1)]) (jal 194 [jad g a 0, jad g b 1]) := by
      intro i w hw
      match i, hw with
      | 0, hw => cases hw; exact ⟨_, rfl, a, hBA, rfl⟩
      | 1, hw => cases hw; exact ⟨_, rfl, b, hbA, rfl⟩
      | m + 2, hw => cases hw
    have hcal := hlow N K hK bkA hA [jad g a 0, jad g b 1] [] hTA hDA hEA hb1A
    rw [eK] at hcal
    have hcal := hcal (show 2 ≤ jmx 194 by decide +kernel) rfl (fun q hq => by cases hq) ⟨⟨rfl, fun i e z he _ => by cases he⟩, eFm_plain (plain_app (spEnv_plain _) clEnv_plain), fun F hF => absurd hF List.not_mem_nil, hlo, trivial, fun q hq => absurd hq List.not_mem_nil, fun B hB => absurd hB List.not_mem_nil⟩
    show J l g 193 9 48 _ (([jad g b 1] : List Value).reverse ++ .ref (g.2.2 + a) :: []) _ (0 + 0) (0 + 0) _
    refine j_callV (own := 11) (i := 359) (y2 := 194) (d2 := 3) (by decide +kernel) hcls (by decide +kernel) (by decide) (by decide +kernel) (by decide +kernel) (by decide +kernel) (by decide +kernel) (by decide +kernel) (show 1 = jnp 194 by decide +kernel) (by decide) (by decide) hss (fun r hr => by cases hr; decide +kernel) hcal (fun v h' hq => ?_)
    obtain ⟨bk', os, hO, -, q, hq1, hq2⟩ := hq
    have hq3 := List.mem_singleton.mp hq1
    subst hq3
    have hv0 : v = none := hq2.1
    subst hv0
    exact k bk' h' hO
  obtain ⟨c, hc, fs, rfl, hfl, hfs⟩ := hT 0 b 0 _ hb ty_x0
  obtain ⟨v, hv, hvt⟩ := hfs 2 (3, 0, 0, 3, 0) rfl
  refine jCal_of (show plainName (jyN 193).cls = true by decide +kernel) (show 2 ≤ jmx 193 by decide +kernel) ?_
  show J l g 193 9 0 [some (jad g b 0), some (.int 1), none] [] h 48 4307 _
  refine j_iload_n (k4 := 1) (by decide +kernel) rfl ?_
  refine j_if_lt (off := 8) (tgt := 9) (by decide +kernel) (by decide) (fun e => absurd e (by decide)) (fun _ => ?_)
  refine j_iload_n (k4 := 1) (by decide +kernel) rfl ?_
  refine j_iconst (n := 2) (by decide +kernel) ?_
  refine j_icmp_lt (off := 9) (tgt := 15) (by decide +kernel) (by decide) (fun _ => ?_) (fun e => absurd (by decide) e)
  refine j_iload_n (k4 := 1) (by decide +kernel) rfl ?_
  refine j_if_ne (off := 10) (tgt := 26) (by decide +kernel) (by decide) (fun _ => ?_) (fun e => absurd (by decide) e)
  refine j_aload_n (k4 := 0) (by decide +kernel) rfl ?_
  refine j_get (own := 11) (i := 356) (ci := 11) (f := 2) (by decide +kernel) hcls (by decide +kernel) hc (n11 2 (by decide)) hv ?_
  rcases hvt with ⟨a, hXa, rfl⟩ | ⟨hXn, rfl⟩
  · have hXa : bk 3 = some a := hXa
    refine j_astore_n (k4 := 2) (by decide +kernel) (by decide +kernel) ?_
    show J l g 193 9 31 [some (jad g b 0), some (.int 1), some (jad g a 0)] [] h 48 4307 _
    refine j_aload_n (k4 := 2) (by decide +kernel) rfl ?_
    refine j_ifnonnull (off := 11) (tgt := 43) (by decide +kernel) (by decide) ?_
    refine J.room (kc := 0) (ks := 0) ?_ (by omega) (by omega)
    obtain ⟨cs, hcs, ss, rfl, -, -⟩ := hT 3 a 0 _ hXa ty_s3
    refine cal 3 735 Kx_735 bk h a rfl rfl hT hD hE hb1 hb hXa ⟨ss, hcs⟩ (fun bk' h' hO => ?_)
    have hb' := hO.2.2.2.2.1 0 b hb
    obtain ⟨c', hc', fs', rfl, hfl', hfs'⟩ := hO.1 0 b 0 _ hb' ty_x0
    obtain ⟨w, hw, hwt⟩ := hfs' 2 (3, 0, 0, 3, 0) rfl
    refine sto bk' h' a fs' hc' (by rw [hfl']; exact xl) ?_
    have hwa : w = jad g a 0 := by
      rcases hwt with ⟨a', ha', rfl⟩ | ⟨ha', -⟩
      · have ha' : bk' 3 = some a' := ha'
        cases (hO.2.2.2.2.1 3 a hXa).symm.trans ha'
        rfl
      · have ha' : bk' 3 = none := ha'
        rw [hO.2.2.2.2.1 3 a hXa] at ha'
        cases ha'
    rw [hwa] at hw
    rw [set_id fs' 2 _ hw, set_id h' (b + 0) _ hc']
    exact ⟨hO.1, hO.2.1, hO.2.2.1, hO.2.2.2.1.mono (by decide +kernel), hO.2.2.2.2.1, hO.2.2.2.2.2⟩
  · have hXn : bk 3 = none := hXn
    refine j_astore_nN (k4 := 2) (by decide +kernel) (by decide +kernel) ?_
    show J l g 193 9 31 [some (jad g b 0), some (.int 1), some .null] [] h 48 4307 _
    refine j_aload_nN (k4 := 2) (by decide +kernel) rfl ?_
    refine j_ifnonnullN (off := 11) (by decide +kernel) ?_
    obtain ⟨L, H, hL, hcev, htyp⟩ := iniB_ok ini_7
    have hLl : L.length = 20 := by
      have e := hL
      cases e
      rfl
    refine J.room (kc := 1 + (47 + 0)) (ks := L.length + (4287 + 0)) ?_ (by omega) (by rw [hLl]; omega)
    refine new_run (i := 7) (j := 9) (y2 := 2) (own2 := 7) (fuel := 500) (d2 := 8) (by decide +kernel) (by decide +kernel) (by decide +kernel) hcls (by decide +kernel) hL (Or.inl (by decide +kernel)) (by decide) (by decide +kernel) (by decide +kernel) (by decide +kernel) (by decide +kernel) (by decide +kernel) (by decide +kernel) (by decide +kernel) (by decide +kernel) (by decide) (by decide) hcev ?_
    refine j_astore_n (k4 := 2) (by decide +kernel) (by decide +kernel) ?_
    show J l g 193 9 43 [some (jad g b 0), some (.int 1), some (jad g h.length 0)] [] (chp g h H) 0 0 _
    have no37 : ∀ (B o k : Nat) (q : Nat × List aT) (t : aT), tyAt TTs B o = some (.inr q) → q.2[k]? = some t → ¬ (t.1 = 3 ∧ t.2.2.2.1 = 7) := fun B o k q t h1 h2 e => by
      obtain ⟨e1, -, -⟩ := only3_ok on_7 h1 h2 e.1 e.2
      subst e1
      cases h1
    have hT7 : HT TTs g (bkN bk 7 h.length) (chp g h H) := HT_add hT h7 (show TTs[7]? = some TT_7 from rfl) (by decide +kernel) htyp no37
    obtain ⟨cs, hcs, ss, rfl, -, -⟩ := hT7 7 h.length 0 _ bkN_self ty_s7
    refine cal 7 736 Kx_736 (bkN bk 7 h.length) (chp g h H) h.length rfl rfl hT7 (BD_new hT hD h7) (EIm_add hT hE) (fun B hB => by
      obtain ⟨c, hc⟩ := hb1 B hB
      exact ⟨c, bkN_old h7 hc⟩) (bkN_old h7 hb) bkN_self ⟨ss, hcs⟩ (fun bk' h' hO => ?_)
    have sub : ∀ B c, bk B = some c → bk' B = some c := fun B c hB => hO.2.2.2.2.1 B c (bkN_old h7 hB)
    have hb' := sub 0 b hb
    have h7' : bk' 7 = some h.length := hO.2.2.2.2.1 7 _ bkN_self
    obtain ⟨c', hc', fs', rfl, hfl', hfs'⟩ := hO.1 0 b 0 _ hb' ty_x0
    obtain ⟨w, hw, hwt⟩ := hfs' 2 (3, 0, 0, 3, 0) rfl
    have hcH : (chp g h H)[b + 0]? = some (.inr (11, fs)) := by
      rw [chp, List.getElem?_append_left (List.getElem?_eq_some_iff.mp hc).1]
      exact hc
    have hwn : w = .null := by
      obtain ⟨c2, g1, g2⟩ := hO.2.2.2.1.2 0 b 0 _ (bkN_old h7 hb) (by decide +kernel) hcH
      cases hc'.symm.trans g1
      have g3 := g2.2.2 2 (fun hin => by
        obtain ⟨z, hz, z1, -⟩ := hin
        have : (cfW Kx_736).all (fun z => !Nat.beq z.1 0) = true := by decide +kernel
        have := List.all_eq_true.mp this z hz
        rw [z1] at this
        cases this)
      have g4 : fs'[2]? = fs[2]? := g3
      rw [hw, hv] at g4
      exact Option.some.inj g4
    have hX' : bk' 3 = none := by
      rcases hwt with ⟨a', ha', e⟩ | ⟨ha', -⟩
      · rw [hwn] at e
        cases e
      · exact ha'
    refine sto (bkR bk' 3 h.length) h' h.length fs' hc' (by rw [hfl']; exact xl) ?_
    have U0 : UN TTs xmW bk h (chp g h H) := UN_add hT
    have U1 : UN TTs xmW (bkN bk 7 h.length) (chp g h H) h' := hO.2.2.2.1.mono (by decide +kernel)
    have U2 : UN TTs xmW bk' h' (h'.set (b + 0) (.inr (11, fs'.set 2 (jad g h.length 0)))) := (UN.set (W := [(0, 0, 2, 2)]) hO.2.1 hb' (by decide +kernel) hc' offW_fs).mono (by decide +kernel)
    refine ⟨HT_ren hO.1 hO.2.1 hX' h7' ren_3 on_3 hb' hc' ⟨_, _, ty_x0, rfl, rfl, rfl, rfl⟩, BD_ren hO.2.1 h7' (by decide) ren_3, EIm_ren hO.1 hO.2.1 hO.2.2.1 hb' (by decide), (U0.tr (fun B c hB => bkN_old h7 hB) U1).tr sub U2, fun B c hB => ?_, fun B hB => ?_⟩
    · rw [bkR_ne (fun e => by subst e; rw [hXn] at hB; cases hB) (fun e => by subst e; rw [h7] at hB; cases hB)]
      exact sub B c hB
    · rw [bkR_ne (by omega) (by omega)]
      exact hO.2.2.2.2.2 B hB
end IC
