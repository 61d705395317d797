/-! calls that write the counters -/
section LO
variable {l : Launch} {g : jG} {n : Int}
theorem lst1 {os : List Int} (h : os.length = 1) : ∃ o, os = [o] := by
  match os, h with
  | [o], _ => exact ⟨o, rfl⟩
theorem lst2 {os : List Int} (h : os.length = 2) : ∃ o p, os = [o, p] := by
  match os, h with
  | [o, p], _ => exact ⟨o, p, rfl⟩
theorem lwP1 {K : aK} {b0 b1 r : Nat} {bk : aB} {h h' : jH} {ev : List Int} {z c : Int} {v : Option Value} (hI : lwI g n b0 b1 bk h) (hq : kPost TTs g (EIm n) K bk h ev v h') (hout : K.2.2.2.2.2.1 = [(1, 1, 1, 0, 1073741824)]) (hpost : K.2.2.2.2.2.2.1 = [([(r, 1), (r + 1, -1)], c)]) (hl : ev.length = r + 1) (hev : ev[r]? = some z) (hz : z ≤ n) (hc : c ≤ 40) (h2 : apW K.2.2.2.2.2.2.2.1 [(1, 1, 5066, 5066)] = true) (h3 : apW K.2.2.2.2.2.2.2.1 rlF = true) (h0 : K.2.2.2.2.1.all (fun q => Nat.beq q.1 0) = true) : lwQ g (n + 40) b0 b1 bk v h' := by
  obtain ⟨bk', os, k1, ko, q, hq1, hq2⟩ := hq
  rw [hout] at ko
  obtain ⟨o, rfl⟩ := lst1 ko.1
  obtain ⟨-, b, cc, e1, e2, e3⟩ := ko.2 0 _ o rfl rfl
  have e1 : bk' 1 = some b := e1
  cases e1.symm.trans (k1.2.2.2.2.1 1 b1 hI.2.2.2.2.1)
  obtain ⟨x, hx, hp⟩ := lw_ans h0 hq1 hq2
  rw [hpost] at hp
  obtain ⟨w, w1, w2⟩ := hp _ List.mem_cons_self
  have y1 : (ev ++ [o] ++ [x.toInt])[r]? = some z := by
    rw [List.append_assoc, List.getElem?_append_left (by omega)]
    exact hev
  have y2 : (ev ++ [o] ++ [x.toInt])[r + 1]? = some o := by
    rw [List.append_assoc, List.getElem?_append_right (by omega), hl, Nat.sub_self]
    rfl
  have y3 := fev_of (F := ([(r, 1), (r + 1, -1)], c)) (fevl_cons (q := (r, 1)) y1 (fevl_cons (q := (r + 1, -1)) y2 (show fevl _ [] = some 0 from rfl)))
  rw [y3] at w1
  have w3 := Option.some.inj w1
  dsimp only at w3
  refine ⟨x, hx, bkF bk', hI.step k1 (by omega) (fun f' hf' => ?_) (lwR_keep hI.1 k1 hI.b01 h3 hI.2.2.2.2.2.2.2), fun b hb => (bkF_ne (by decide)).trans (k1.2.2.2.2.1 6 b hb)⟩
  obtain ⟨f, a1, a2, a3⟩ := hI.row
  obtain ⟨f2, q3, q4⟩ := hOK.arr k1 hI.2.2.2.2.1 ty_m1 a1 h2
  rw [hf'] at q3
  cases q3
  have e2 : h'[b1 + 1]? = some cc := e2
  rw [hf'] at e2
  cases e2
  have e4 : (f' 1).toInt = o := e3.2
  rw [q4 5066 (by decide) (by decide), e4]
  omega
theorem lwP2 {K : aK} {b0 b1 r : Nat} {bk : aB} {h h' : jH} {ev : List Int} {z y c d : Int} {v : Option Value} (hI : lwI g n b0 b1 bk h) (hq : kPost TTs g (EIm n) K bk h ev v h') (hout : K.2.2.2.2.2.1 = [(1, 1, 1, 0, 1073741824), (1, 1, 5066, 0, 1073741824)]) (hpost : K.2.2.2.2.2.2.1 = [([(r, 1), (r + 2, -1)], c), ([(r + 1, 1), (r + 3, -1)], d)]) (hl : ev.length = r + 2) (hev : ev[r]? = some z) (hev2 : ev[r + 1]? = some y) (hz : z ≤ n) (hy : y ≤ n) (hc : c ≤ 40) (hd : d ≤ 40) (h3 : apW K.2.2.2.2.2.2.2.1 rlF = true) (h0 : K.2.2.2.2.1.all (fun q => Nat.beq q.1 0) = true) : lwQ g (n + 40) b0 b1 bk v h' := by
  obtain ⟨bk', os, k1, ko, q, hq1, hq2⟩ := hq
  rw [hout] at ko
  obtain ⟨o, p, rfl⟩ := lst2 ko.1
  obtain ⟨-, b, cc, e1, e2, e3⟩ := ko.2 0 _ o rfl rfl
  obtain ⟨-, b', cd, e5, e6, e7⟩ := ko.2 1 _ p rfl rfl
  have e1 : bk' 1 = some b := e1
  have e5 : bk' 1 = some b' := e5
  cases e1.symm.trans e5
  cases e1.symm.trans (k1.2.2.2.2.1 1 b1 hI.2.2.2.2.1)
  obtain ⟨x, hx, hp⟩ := lw_ans h0 hq1 hq2
  rw [hpost] at hp
  obtain ⟨w, w1, w2⟩ := hp _ List.mem_cons_self
  obtain ⟨u, u1, u2⟩ := hp _ (List.mem_cons_of_mem _ List.mem_cons_self)
  have y1 : (ev ++ [o, p] ++ [x.toInt])[r]? = some z := by
    rw [List.append_assoc, List.getElem?_append_left (by omega)]
    exact hev
  have y4 : (ev ++ [o, p] ++ [x.toInt])[r + 1]? = some y := by
    rw [List.append_assoc, List.getElem?_append_left (by omega)]
    exact hev2
  have y2 : (ev ++ [o, p] ++ [x.toInt])[r + 2]? = some o := by
    rw [List.append_assoc, List.getElem?_append_right (by omega), hl, Nat.sub_self]
    rfl
  have y5 : (ev ++ [o, p] ++ [x.toInt])[r + 3]? = some p := by
    rw [List.append_assoc, List.getElem?_append_right (by omega), hl, show r + 3 - (r + 2) = 1 by omega]
    rfl
  have y3 := fev_of (F := ([(r, 1), (r + 2, -1)], c)) (fevl_cons (q := (r, 1)) y1 (fevl_cons (q := (r + 2, -1)) y2 (show fevl _ [] = some 0 from rfl)))
  have y6 := fev_of (F := ([(r + 1, 1), (r + 3, -1)], d)) (fevl_cons (q := (r + 1, 1)) y4 (fevl_cons (q := (r + 3, -1)) y5 (show fevl _ [] = some 0 from rfl)))
  rw [y3] at w1
  rw [y6] at u1
  have w3 := Option.some.inj w1
  have u3 := Option.some.inj u1
  dsimp only at w3 u3
  refine ⟨x, hx, bkF bk', hI.step k1 (by omega) (fun f' hf' => ?_) (lwR_keep hI.1 k1 hI.b01 h3 hI.2.2.2.2.2.2.2), fun b hb => (bkF_ne (by decide)).trans (k1.2.2.2.2.1 6 b hb)⟩
  have e2 : h'[b1 + 1]? = some cc := e2
  have e6 : h'[b1 + 1]? = some cd := e6
  rw [hf'] at e2 e6
  cases e2
  cases e6
  have e4 : (f' 1).toInt = o := e3.2
  have e8 : (f' 5066).toInt = p := e7.2
  rw [e4, e8]
  omega
end LO
