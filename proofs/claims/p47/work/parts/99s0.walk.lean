/-! the law's cases: the walks -/
section LW
variable {l : Launch} {g : jG} {n : Int}
set_option maxRecDepth 16384 in
theorem lc_0 {b0 b1 : Nat} {bk : aB} {h : jH} (hI : lwI g n b0 b1 bk h) {i : Int32} (hi : 0 ≤ i.toInt ∧ i.toInt + 6 ≤ (jsN g : Int)) (hN : jsN g ≤ 3072) {mc ms kc ks : Nat} {Q : Option Value → jH → Prop} {R : aB → Prop} (hc : cpS l g n b0 b1 h 13 234 [.int (jsX g (i + Int32.ofInt 1).toNatClampNeg), .int (jsX g (i + Int32.ofInt 2).toNatClampNeg)] mc ms false R)
    (kk : ∀ bk2 h2, lwI g (n + 40) b0 b1 bk2 h2 → R bk2 → J l g 315 100 1983 (lwL g b0 b1 i) [] h2 kc ks Q) : J l g 315 100 268 (lwL g b0 b1 i) [] h (mc + kc) (ms + ks) Q := by
  obtain ⟨d1, m1, s1, P1, hd1, hm1, hs1, hx, hP⟩ := hc
  refine J.room (kc := m1 + kc) (ks := s1 + ks) ?_ (by omega) (by omega)
  refine j_aload_n (k4 := 1) (dQ (by decide +kernel)) rfl ?_
  refine j_aload_n (k4 := 0) (dQ (by decide +kernel)) rfl ?_
  refine j_iload_n (k4 := 3) (dQ (by decide +kernel)) rfl ?_
  refine j_iconst (n := 1) (dQ (by decide +kernel)) ?_
  refine j_iadd (dQ (by decide +kernel)) ?_
  refine j_sld (lw_at hi hN (by decide) (by decide)) (dQ (by decide +kernel)) ?_
  refine j_aload_n (k4 := 0) (dQ (by decide +kernel)) rfl ?_
  refine j_iload_n (k4 := 3) (dQ (by decide +kernel)) rfl ?_
  refine j_iconst (n := 2) (dQ (by decide +kernel)) ?_
  refine j_iadd (dQ (by decide +kernel)) ?_
  refine j_sld (lw_at hi hN (by decide) (by decide)) (dQ (by decide +kernel)) ?_
  obtain ⟨fsx, hcx⟩ := lw_x hI
  refine j_cV (own := 13) (i := 13) (y2 := 13) (d2 := d1) (mc := m1) (ms := s1) (kc := kc) (ks := ks) (a := b0 + 0) (As := [.int (jsX g (i + Int32.ofInt 1).toNatClampNeg), .int (jsX g (i + Int32.ofInt 2).toNatClampNeg)]) (st := []) (dQ (by decide +kernel)) lw_cls (by decide +kernel) (by decide) (by decide +kernel) (show 2 = jnp 13 by decide +kernel) (by omega) (by decide) hcx (fun r hr => by cases hr; decide +kernel) hx (fun v h1 hq => ?_)
  obtain ⟨x1, d2, P2, rfl, hd2, hm, ⟨fsm, hcm⟩, hP2⟩ := hP v h1 hq
  refine j_pop (dQ (by decide +kernel)) rfl ?_
  refine j_aload_n (k4 := 2) (dQ (by decide +kernel)) rfl ?_
  refine j_aload_n (k4 := 0) (dQ (by decide +kernel)) rfl ?_
  refine j_iload_n (k4 := 3) (dQ (by decide +kernel)) rfl ?_
  refine j_iconst (n := 1) (dQ (by decide +kernel)) ?_
  refine j_iadd (dQ (by decide +kernel)) ?_
  refine j_sld (lw_at hi hN (by decide) (by decide)) (dQ (by decide +kernel)) ?_
  refine j_aload_n (k4 := 0) (dQ (by decide +kernel)) rfl ?_
  refine j_iload_n (k4 := 3) (dQ (by decide +kernel)) rfl ?_
  refine j_iconst (n := 2) (dQ (by decide +kernel)) ?_
  refine j_iadd (dQ (by decide +kernel)) ?_
  refine j_sld (lw_at hi hN (by decide) (by decide)) (dQ (by decide +kernel)) ?_
  refine J.room (kc := 0 + kc) (ks := 0 + ks) (j_cV (own := 13) (i := 17) (y2 := 234) (d2 := d2) (mc := 0) (ms := 0) (kc := kc) (ks := ks) (a := b1 + 0) (As := [.int (jsX g (i + Int32.ofInt 1).toNatClampNeg), .int (jsX g (i + Int32.ofInt 2).toNatClampNeg)]) (st := []) (by decide +kernel) lw_cls (by decide +kernel) (by decide) (by decide +kernel) (show 2 = jnp 234 by decide +kernel) (by omega) (by decide) hcm (fun r hr => by cases hr; decide +kernel) hm (fun v2 h2 hq2 => ?_)) (by omega) (by omega)
  obtain ⟨x2, rfl, he, bk2, hI2, hR⟩ := hP2 v2 h2 hq2
  refine j_pop (dQ (by decide +kernel)) rfl ?_
  refine j_goto (off := 1685) (tgt := 1983) (dQ (by decide +kernel)) (by decide) ?_
  exact kk bk2 h2 hI2 hR
set_option maxRecDepth 16384 in
theorem lc_1 {b0 b1 : Nat} {bk : aB} {h : jH} (hI : lwI g n b0 b1 bk h) {i : Int32} (hi : 0 ≤ i.toInt ∧ i.toInt + 6 ≤ (jsN g : Int)) (hN : jsN g ≤ 3072) {mc ms kc ks : Nat} {Q : Option Value → jH → Prop} {R : aB → Prop} (hc : cpS l g n b0 b1 h 18 236 [.int (jsX g (i + Int32.ofInt 1).toNatClampNeg), .int (jsX g (i + Int32.ofInt 2).toNatClampNeg)] mc ms false R)
    (kk : ∀ bk2 h2, lwI g (n + 40) b0 b1 bk2 h2 → R bk2 → J l g 315 100 1983 (lwL g b0 b1 i) [] h2 kc ks Q) : J l g 315 100 301 (lwL g b0 b1 i) [] h (mc + kc) (ms + ks) Q := by
  obtain ⟨d1, m1, s1, P1, hd1, hm1, hs1, hx, hP⟩ := hc
  refine J.room (kc := m1 + kc) (ks := s1 + ks) ?_ (by omega) (by omega)
  refine j_aload_n (k4 := 1) (dQ (by decide +kernel)) rfl ?_
  refine j_aload_n (k4 := 0) (dQ (by decide +kernel)) rfl ?_
  refine j_iload_n (k4 := 3) (dQ (by decide +kernel)) rfl ?_
  refine j_iconst (n := 1) (dQ (by decide +kernel)) ?_
  refine j_iadd (dQ (by decide +kernel)) ?_
  refine j_sld (lw_at hi hN (by decide) (by decide)) (dQ (by decide +kernel)) ?_
  refine j_aload_n (k4 := 0) (dQ (by decide +kernel)) rfl ?_
  refine j_iload_n (k4 := 3) (dQ (by decide +kernel)) rfl ?_
  refine j_iconst (n := 2) (dQ (by decide +kernel)) ?_
  refine j_iadd (dQ (by decide +kernel)) ?_
  refine j_sld (lw_at hi hN (by decide) (by decide)) (dQ (by decide +kernel)) ?_
  obtain ⟨fsx, hcx⟩ := lw_x hI
  refine j_cV (own := 13) (i := 18) (y2 := 18) (d2 := d1) (mc := m1) (ms := s1) (kc := kc) (ks := ks) (a := b0 + 0) (As := [.int (jsX g (i + Int32.ofInt 1).toNatClampNeg), .int (jsX g (i + Int32.ofInt 2).toNatClampNeg)]) (st := []) (dQ (by decide +kernel)) lw_cls (by decide +kernel) (by decide) (by decide +kernel) (show 2 = jnp 18 by decide +kernel) (by omega) (by decide) hcx (fun r hr => by cases hr; decide +kernel) hx (fun v h1 hq => ?_)
  obtain ⟨x1, d2, P2, rfl, hd2, hm, ⟨fsm, hcm⟩, hP2⟩ := hP v h1 hq
  refine j_pop (dQ (by decide +kernel)) rfl ?_
  refine j_aload_n (k4 := 2) (dQ (by decide +kernel)) rfl ?_
  refine j_aload_n (k4 := 0) (dQ (by decide +kernel)) rfl ?_
  refine j_iload_n (k4 := 3) (dQ (by decide +kernel)) rfl ?_
  refine j_iconst (n := 1) (dQ (by decide +kernel)) ?_
  refine j_iadd (dQ (by decide +kernel)) ?_
  refine j_sld (lw_at hi hN (by decide) (by decide)) (dQ (by decide +kernel)) ?_
  refine j_aload_n (k4 := 0) (dQ (by decide +kernel)) rfl ?_
  refine j_iload_n (k4 := 3) (dQ (by decide +kernel)) rfl ?_
  refine j_iconst (n := 2) (dQ (by decide +kernel)) ?_
  refine j_iadd (dQ (by decide +kernel)) ?_
  refine j_sld (lw_at hi hN (by decide) (by decide)) (dQ (by decide +kernel)) ?_
  refine J.room (kc := 0 + kc) (ks := 0 + ks) (j_cV (own := 13) (i := 21) (y2 := 236) (d2 := d2) (mc := 0) (ms := 0) (kc := kc) (ks := ks) (a := b1 + 0) (As := [.int (jsX g (i + Int32.ofInt 1).toNatClampNeg), .int (jsX g (i + Int32.ofInt 2).toNatClampNeg)]) (st := []) (by decide +kernel) lw_cls (by decide +kernel) (by decide) (by decide +kernel) (show 2 = jnp 236 by decide +kernel) (by omega) (by decide) hcm (fun r hr => by cases hr; decide +kernel) hm (fun v2 h2 hq2 => ?_)) (by omega) (by omega)
  obtain ⟨x2, rfl, he, bk2, hI2, hR⟩ := hP2 v2 h2 hq2
  refine j_pop (dQ (by decide +kernel)) rfl ?_
  refine j_goto (off := 1652) (tgt := 1983) (dQ (by decide +kernel)) (by decide) ?_
  exact kk bk2 h2 hI2 hR
set_option maxRecDepth 16384 in
theorem lc_2 {b0 b1 : Nat} {bk : aB} {h : jH} (hI : lwI g n b0 b1 bk h) {i : Int32} (hi : 0 ≤ i.toInt ∧ i.toInt + 6 ≤ (jsN g : Int)) (hN : jsN g ≤ 3072) {mc ms kc ks : Nat} {Q : Option Value → jH → Prop} {R : aB → Prop} (hc : cpS l g n b0 b1 h 20 237 [.int (jsX g (i + Int32.ofInt 1).toNatClampNeg), .int (jsX g (i + Int32.ofInt 2).toNatClampNeg), .int (jsX g (i + Int32.ofInt 3).toNatClampNeg)] mc ms false R)
    (kk : ∀ bk2 h2, lwI g (n + 40) b0 b1 bk2 h2 → R bk2 → J l g 315 100 1983 (lwL g b0 b1 i) [] h2 kc ks Q) : J l g 315 100 334 (lwL g b0 b1 i) [] h (mc + kc) (ms + ks) Q := by
  obtain ⟨d1, m1, s1, P1, hd1, hm1, hs1, hx, hP⟩ := hc
  refine J.room (kc := m1 + kc) (ks := s1 + ks) ?_ (by omega) (by omega)
  refine j_aload_n (k4 := 1) (dQ (by decide +kernel)) rfl ?_
  refine j_aload_n (k4 := 0) (dQ (by decide +kernel)) rfl ?_
  refine j_iload_n (k4 := 3) (dQ (by decide +kernel)) rfl ?_
  refine j_iconst (n := 1) (dQ (by decide +kernel)) ?_
  refine j_iadd (dQ (by decide +kernel)) ?_
  refine j_sld (lw_at hi hN (by decide) (by decide)) (dQ (by decide +kernel)) ?_
  refine j_aload_n (k4 := 0) (dQ (by decide +kernel)) rfl ?_
  refine j_iload_n (k4 := 3) (dQ (by decide +kernel)) rfl ?_
  refine j_iconst (n := 2) (dQ (by decide +kernel)) ?_
  refine j_iadd (dQ (by decide +kernel)) ?_
  refine j_sld (lw_at hi hN (by decide) (by decide)) (dQ (by decide +kernel)) ?_
  refine j_aload_n (k4 := 0) (dQ (by decide +kernel)) rfl ?_
  refine j_iload_n (k4 := 3) (dQ (by decide +kernel)) rfl ?_
  refine j_iconst (n := 3) (dQ (by decide +kernel)) ?_
  refine j_iadd (dQ (by decide +kernel)) ?_
  refine j_sld (lw_at hi hN (by decide) (by decide)) (dQ (by decide +kernel)) ?_
  obtain ⟨fsx, hcx⟩ := lw_x hI
  refine j_cV (own := 13) (i := 22) (y2 := 20) (d2 := d1) (mc := m1) (ms := s1) (kc := kc) (ks := ks) (a := b0 + 0) (As := [.int (jsX g (i + Int32.ofInt 1).toNatClampNeg), .int (jsX g (i + Int32.ofInt 2).toNatClampNeg), .int (jsX g (i + Int32.ofInt 3).toNatClampNeg)]) (st := []) (dQ (by decide +kernel)) lw_cls (by decide +kernel) (by decide) (by decide +kernel) (show 3 = jnp 20 by decide +kernel) (by omega) (by decide) hcx (fun r hr => by cases hr; decide +kernel) hx (fun v h1 hq => ?_)
  obtain ⟨x1, d2, P2, rfl, hd2, hm, ⟨fsm, hcm⟩, hP2⟩ := hP v h1 hq
  refine j_pop (dQ (by decide +kernel)) rfl ?_
  refine j_aload_n (k4 := 2) (dQ (by decide +kernel)) rfl ?_
  refine j_aload_n (k4 := 0) (dQ (by decide +kernel)) rfl ?_
  refine j_iload_n (k4 := 3) (dQ (by decide +kernel)) rfl ?_
  refine j_iconst (n := 1) (dQ (by decide +kernel)) ?_
  refine j_iadd (dQ (by decide +kernel)) ?_
  refine j_sld (lw_at hi hN (by decide) (by decide)) (dQ (by decide +kernel)) ?_
  refine j_aload_n (k4 := 0) (dQ (by decide +kernel)) rfl ?_
  refine j_iload_n (k4 := 3) (dQ (by decide +kernel)) rfl ?_
  refine j_iconst (n := 2) (dQ (by decide +kernel)) ?_
  refine j_iadd (dQ (by decide +kernel)) ?_
  refine j_sld (lw_at hi hN (by decide) (by decide)) (dQ (by decide +kernel)) ?_
  refine j_aload_n (k4 := 0) (dQ (by decide +kernel)) rfl ?_
  refine j_iload_n (k4 := 3) (dQ (by decide +kernel)) rfl ?_
  refine j_iconst (n := 3) (dQ (by decide +kernel)) ?_
  refine j_iadd (dQ (by decide +kernel)) ?_
  refine j_sld (lw_at hi hN (by decide) (by decide)) (dQ (by decide +kernel)) ?_
  refine J.room (kc := 0 + kc) (ks := 0 + ks) (j_cV (own := 13) (i := 26) (y2 := 237) (d2 := d2) (mc := 0) (ms := 0) (kc := kc) (ks := ks) (a := b1 + 0) (As := [.int (jsX g (i + Int32.ofInt 1).toNatClampNeg), .int (jsX g (i + Int32.ofInt 2).toNatClampNeg), .int (jsX g (i + Int32.ofInt 3).toNatClampNeg)]) (st := []) (by decide +kernel) lw_cls (by decide +kernel) (by decide) (by decide +kernel) (show 3 = jnp 237 by decide +kernel) (by omega) (by decide) hcm (fun r hr => by cases hr; decide +kernel) hm (fun v2 h2 hq2 => ?_)) (by omega) (by omega)
  obtain ⟨x2, rfl, he, bk2, hI2, hR⟩ := hP2 v2 h2 hq2
  refine j_pop (dQ (by decide +kernel)) rfl ?_
  refine j_goto (off := 1609) (tgt := 1983) (dQ (by decide +kernel)) (by decide) ?_
  exact kk bk2 h2 hI2 hR
set_option maxRecDepth 16384 in
theorem lc_3 {b0 b1 : Nat} {bk : aB} {h : jH} (hI : lwI g n b0 b1 bk h) {i : Int32} (hi : 0 ≤ i.toInt ∧ i.toInt + 6 ≤ (jsN g : Int)) (hN : jsN g ≤ 3072) {mc ms kc ks : Nat} {Q : Option Value → jH → Prop} {R : aB → Prop} (hc : cpS l g n b0 b1 h 33 248 [.int (jsX g (i + Int32.ofInt 1).toNatClampNeg), .int (jsX g (i + Int32.ofInt 2).toNatClampNeg), .int (jsX g (i + Int32.ofInt 3).toNatClampNeg)] mc ms false R)
    (kk : ∀ bk2 h2, lwI g (n + 40) b0 b1 bk2 h2 → R bk2 → J l g 315 100 1983 (lwL g b0 b1 i) [] h2 kc ks Q) : J l g 315 100 377 (lwL g b0 b1 i) [] h (mc + kc) (ms + ks) Q := by
  obtain ⟨d1, m1, s1, P1, hd1, hm1, hs1, hx, hP⟩ := hc
  refine J.room (kc := m1 + kc) (ks := s1 + ks) ?_ (by omega) (by omega)
  refine j_aload_n (k4 := 1) (dQ (by decide +kernel)) rfl ?_
  refine j_aload_n (k4 := 0) (dQ (by decide +kernel)) rfl ?_
  refine j_iload_n (k4 := 3) (dQ (by decide +kernel)) rfl ?_
  refine j_iconst (n := 1) (dQ (by decide +kernel)) ?_
  refine j_iadd (dQ (by decide +kernel)) ?_
  refine j_sld (lw_at hi hN (by decide) (by decide)) (dQ (by decide +kernel)) ?_
  refine j_aload_n (k4 := 0) (dQ (by decide +kernel)) rfl ?_
  refine j_iload_n (k4 := 3) (dQ (by decide +kernel)) rfl ?_
  refine j_iconst (n := 2) (dQ (by decide +kernel)) ?_
  refine j_iadd (dQ (by decide +kernel)) ?_
  refine j_sld (lw_at hi hN (by decide) (by decide)) (dQ (by decide +kernel)) ?_
  refine j_aload_n (k4 := 0) (dQ (by decide +kernel)) rfl ?_
  refine j_iload_n (k4 := 3) (dQ (by decide +kernel)) rfl ?_
  refine j_iconst (n := 3) (dQ (by decide +kernel)) ?_
  refine j_iadd (dQ (by decide +kernel)) ?_
  refine j_sld (lw_at hi hN (by decide) (by decide)) (dQ (by decide +kernel)) ?_
  obtain ⟨fsx, hcx⟩ := lw_x hI
  refine j_cV (own := 13) (i := 27) (y2 := 33) (d2 := d1) (mc := m1) (ms := s1) (kc := kc) (ks := ks) (a := b0 + 0) (As := [.int (jsX g (i + Int32.ofInt 1).toNatClampNeg), .int (jsX g (i + Int32.ofInt 2).toNatClampNeg), .int (jsX g (i + Int32.ofInt 3).toNatClampNeg)]) (st := []) (dQ (by decide +kernel)) lw_cls (by decide +kernel) (by decide) (by decide +kernel) (show 3 = jnp 33 by decide +kernel) (by omega) (by decide) hcx (fun r hr => by cases hr; decide +kernel) hx (fun v h1 hq => ?_)
  obtain ⟨x1, d2, P2, rfl, hd2, hm, ⟨fsm, hcm⟩, hP2⟩ := hP v h1 hq
  refine j_pop (dQ (by decide +kernel)) rfl ?_
  refine j_aload_n (k4 := 2) (dQ (by decide +kernel)) rfl ?_
  refine j_aload_n (k4 := 0) (dQ (by decide +kernel)) rfl ?_
  refine j_iload_n (k4 := 3) (dQ (by decide +kernel)) rfl ?_
  refine j_iconst (n := 1) (dQ (by decide +kernel)) ?_
  refine j_iadd (dQ (by decide +kernel)) ?_
  refine j_sld (lw_at hi hN (by decide) (by decide)) (dQ (by decide +kernel)) ?_
  refine j_aload_n (k4 := 0) (dQ (by decide +kernel)) rfl ?_
  refine j_iload_n (k4 := 3) (dQ (by decide +kernel)) rfl ?_
  refine j_iconst (n := 2) (dQ (by decide +kernel)) ?_
  refine j_iadd (dQ (by decide +kernel)) ?_
  refine j_sld (lw_at hi hN (by decide) (by decide)) (dQ (by decide +kernel)) ?_
  refine j_aload_n (k4 := 0) (dQ (by decide +kernel)) rfl ?_
  refine j_iload_n (k4 := 3) (dQ (by decide +kernel)) rfl ?_
  refine j_iconst (n := 3) (dQ (by decide +kernel)) ?_
  refine j_iadd (dQ (by decide +kernel)) ?_
  refine j_sld (lw_at hi hN (by decide) (by decide)) (dQ (by decide +kernel)) ?_
  refine J.room (kc := 0 + kc) (ks := 0 + ks) (j_cV (own := 13) (i := 30) (y2 := 248) (d2 := d2) (mc := 0) (ms := 0) (kc := kc) (ks := ks) (a := b1 + 0) (As := [.int (jsX g (i + Int32.ofInt 1).toNatClampNeg), .int (jsX g (i + Int32.ofInt 2).toNatClampNeg), .int (jsX g (i + Int32.ofInt 3).toNatClampNeg)]) (st := []) (by decide +kernel) lw_cls (by decide +kernel) (by decide) (by decide +kernel) (show 3 = jnp 248 by decide +kernel) (by omega) (by decide) hcm (fun r hr => by cases hr; decide +kernel) hm (fun v2 h2 hq2 => ?_)) (by omega) (by omega)
  obtain ⟨x2, rfl, he, bk2, hI2, hR⟩ := hP2 v2 h2 hq2
  refine j_pop (dQ (by decide +kernel)) rfl ?_
  refine j_goto (off := 1566) (tgt := 1983) (dQ (by decide +kernel)) (by decide) ?_
  exact kk bk2 h2 hI2 hR
set_option maxRecDepth 16384 in
theorem lc_4 {b0 b1 : Nat} {bk : aB} {h : jH} (hI : lwI g n b0 b1 bk h) {i : Int32} (hi : 0 ≤ i.toInt ∧ i.toInt + 6 ≤ (jsN g : Int)) (hN : jsN g ≤ 3072) {mc ms kc ks : Nat} {Q : Option Value → jH → Prop} {R : aB → Prop} (hc : cpS l g n b0 b1 h 36 251 [.int (jsX g (i + Int32.ofInt 1).toNatClampNeg), .int (jsX g (i + Int32.ofInt 2).toNatClampNeg)] mc ms false R)
    (kk : ∀ bk2 h2, lwI g (n + 40) b0 b1 bk2 h2 → R bk2 → J l g 315 100 1983 (lwL g b0 b1 i) [] h2 kc ks Q) : J l g 315 100 420 (lwL g b0 b1 i) [] h (mc + kc) (ms + ks) Q := by
  obtain ⟨d1, m1, s1, P1, hd1, hm1, hs1, hx, hP⟩ := hc
  refine J.room (kc := m1 + kc) (ks := s1 + ks) ?_ (by omega) (by omega)
  refine j_aload_n (k4 := 1) (dQ (by decide +kernel)) rfl ?_
  refine j_aload_n (k4 := 0) (dQ (by decide +kernel)) rfl ?_
  refine j_iload_n (k4 := 3) (dQ (by decide +kernel)) rfl ?_
  refine j_iconst (n := 1) (dQ (by decide +kernel)) ?_
  refine j_iadd (dQ (by decide +kernel)) ?_
  refine j_sld (lw_at hi hN (by decide) (by decide)) (dQ (by decide +kernel)) ?_
  refine j_aload_n (k4 := 0) (dQ (by decide +kernel)) rfl ?_
  refine j_iload_n (k4 := 3) (dQ (by decide +kernel)) rfl ?_
  refine j_iconst (n := 2) (dQ (by decide +kernel)) ?_
  refine j_iadd (dQ (by decide +kernel)) ?_
  refine j_sld (lw_at hi hN (by decide) (by decide)) (dQ (by decide +kernel)) ?_
  obtain ⟨fsx, hcx⟩ := lw_x hI
  refine j_cV (own := 13) (i := 31) (y2 := 36) (d2 := d1) (mc := m1) (ms := s1) (kc := kc) (ks := ks) (a := b0 + 0) (As := [.int (jsX g (i + Int32.ofInt 1).toNatClampNeg), .int (jsX g (i + Int32.ofInt 2).toNatClampNeg)]) (st := []) (dQ (by decide +kernel)) lw_cls (by decide +kernel) (by decide) (by decide +kernel) (show 2 = jnp 36 by decide +kernel) (by omega) (by decide) hcx (fun r hr => by cases hr; decide +kernel) hx (fun v h1 hq => ?_)
  obtain ⟨x1, d2, P2, rfl, hd2, hm, ⟨fsm, hcm⟩, hP2⟩ := hP v h1 hq
  refine j_pop (dQ (by decide +kernel)) rfl ?_
  refine j_aload_n (k4 := 2) (dQ (by decide +kernel)) rfl ?_
  refine j_aload_n (k4 := 0) (dQ (by decide +kernel)) rfl ?_
  refine j_iload_n (k4 := 3) (dQ (by decide +kernel)) rfl ?_
  refine j_iconst (n := 1) (dQ (by decide +kernel)) ?_
  refine j_iadd (dQ (by decide +kernel)) ?_
  refine j_sld (lw_at hi hN (by decide) (by decide)) (dQ (by decide +kernel)) ?_
  refine j_aload_n (k4 := 0) (dQ (by decide +kernel)) rfl ?_
  refine j_iload_n (k4 := 3) (dQ (by decide +kernel)) rfl ?_
  refine j_iconst (n := 2) (dQ (by decide +kernel)) ?_
  refine j_iadd (dQ (by decide +kernel)) ?_
  refine j_sld (lw_at hi hN (by decide) (by decide)) (dQ (by decide +kernel)) ?_
  refine J.room (kc := 0 + kc) (ks := 0 + ks) (j_cV (own := 13) (i := 34) (y2 := 251) (d2 := d2) (mc := 0) (ms := 0) (kc := kc) (ks := ks) (a := b1 + 0) (As := [.int (jsX g (i + Int32.ofInt 1).toNatClampNeg), .int (jsX g (i + Int32.ofInt 2).toNatClampNeg)]) (st := []) (by decide +kernel) lw_cls (by decide +kernel) (by decide) (by decide +kernel) (show 2 = jnp 251 by decide +kernel) (by omega) (by decide) hcm (fun r hr => by cases hr; decide +kernel) hm (fun v2 h2 hq2 => ?_)) (by omega) (by omega)
  obtain ⟨x2, rfl, he, bk2, hI2, hR⟩ := hP2 v2 h2 hq2
  refine j_pop (dQ (by decide +kernel)) rfl ?_
  refine j_goto (off := 1533) (tgt := 1983) (dQ (by decide +kernel)) (by decide) ?_
  exact kk bk2 h2 hI2 hR
set_option maxRecDepth 16384 in
theorem lc_5 {b0 b1 : Nat} {bk : aB} {h : jH} (hI : lwI g n b0 b1 bk h) {i : Int32} (hi : 0 ≤ i.toInt ∧ i.toInt + 6 ≤ (jsN g : Int)) (hN : jsN g ≤ 3072) {mc ms kc ks : Nat} {Q : Option Value → jH → Prop} {R : aB → Prop} (hc : cpS l g n b0 b1 h 37 252 [.int (jsX g (i + Int32.ofInt 1).toNatClampNeg), .int (jsX g (i + Int32.ofInt 2).toNatClampNeg), .int (jsX g (i + Int32.ofInt 3).toNatClampNeg), .int (jsX g (i + Int32.ofInt 4).toNatClampNeg)] mc ms false R)
    (kk : ∀ bk2 h2, lwI g (n + 40) b0 b1 bk2 h2 → R bk2 → J l g 315 100 1983 (lwL g b0 b1 i) [] h2 kc ks Q) : J l g 315 100 453 (lwL g b0 b1 i) [] h (mc + kc) (ms + ks) Q := by
  obtain ⟨d1, m1, s1, P1, hd1, hm1, hs1, hx, hP⟩ := hc
  refine J.room (kc := m1 + kc) (ks := s1 + ks) ?_ (by omega) (by omega)
  refine j_aload_n (k4 := 1) (dQ (by decide +kernel)) rfl ?_
  refine j_aload_n (k4 := 0) (dQ (by decide +kernel)) rfl ?_
  refine j_iload_n (k4 := 3) (dQ (by decide +kernel)) rfl ?_
  refine j_iconst (n := 1) (dQ (by decide +kernel)) ?_
  refine j_iadd (dQ (by decide +kernel)) ?_
  refine j_sld (lw_at hi hN (by decide) (by decide)) (dQ (by decide +kernel)) ?_
  refine j_aload_n (k4 := 0) (dQ (by decide +kernel)) rfl ?_
  refine j_iload_n (k4 := 3) (dQ (by decide +kernel)) rfl ?_
  refine j_iconst (n := 2) (dQ (by decide +kernel)) ?_
  refine j_iadd (dQ (by decide +kernel)) ?_
  refine j_sld (lw_at hi hN (by decide) (by decide)) (dQ (by decide +kernel)) ?_
  refine j_aload_n (k4 := 0) (dQ (by decide +kernel)) rfl ?_
  refine j_iload_n (k4 := 3) (dQ (by decide +kernel)) rfl ?_
  refine j_iconst (n := 3) (dQ (by decide +kernel)) ?_
  refine j_iadd (dQ (by decide +kernel)) ?_
  refine j_sld (lw_at hi hN (by decide) (by decide)) (dQ (by decide +kernel)) ?_
  refine j_aload_n (k4 := 0) (dQ (by decide +kernel)) rfl ?_
  refine j_iload_n (k4 := 3) (dQ (by decide +kernel)) rfl ?_
  refine j_iconst (n := 4) (dQ (by decide +kernel)) ?_
  refine j_iadd (dQ (by decide +kernel)) ?_
  refine j_sld (lw_at hi hN (by decide) (by decide)) (dQ (by decide +kernel)) ?_
  obtain ⟨fsx, hcx⟩ := lw_x hI
  refine j_cV (own := 13) (i := 35) (y2 := 37) (d2 := d1) (mc := m1) (ms := s1) (kc := kc) (ks := ks) (a := b0 + 0) (As := [.int (jsX g (i + Int32.ofInt 1).toNatClampNeg), .int (jsX g (i + Int32.ofInt 2).toNatClampNeg), .int (jsX g (i + Int32.ofInt 3).toNatClampNeg), .int (jsX g (i + Int32.ofInt 4).toNatClampNeg)]) (st := []) (dQ (by decide +kernel)) lw_cls (by decide +kernel) (by decide) (by decide +kernel) (show 4 = jnp 37 by decide +kernel) (by omega) (by decide) hcx (fun r hr => by cases hr; decide +kernel) hx (fun v h1 hq => ?_)
  obtain ⟨x1, d2, P2, rfl, hd2, hm, ⟨fsm, hcm⟩, hP2⟩ := hP v h1 hq
  refine j_pop (dQ (by decide +kernel)) rfl ?_
  refine j_aload_n (k4 := 2) (dQ (by decide +kernel)) rfl ?_
  refine j_aload_n (k4 := 0) (dQ (by decide +kernel)) rfl ?_
  refine j_iload_n (k4 := 3) (dQ (by decide +kernel)) rfl ?_
  refine j_iconst (n := 1) (dQ (by decide +kernel)) ?_
  refine j_iadd (dQ (by decide +kernel)) ?_
  refine j_sld (lw_at hi hN (by decide) (by decide)) (dQ (by decide +kernel)) ?_
  refine j_aload_n (k4 := 0) (dQ (by decide +kernel)) rfl ?_
  refine j_iload_n (k4 := 3) (dQ (by decide +kernel)) rfl ?_
  refine j_iconst (n := 2) (dQ (by decide +kernel)) ?_
  refine j_iadd (dQ (by decide +kernel)) ?_
  refine j_sld (lw_at hi hN (by decide) (by decide)) (dQ (by decide +kernel)) ?_
  refine j_aload_n (k4 := 0) (dQ (by decide +kernel)) rfl ?_
  refine j_iload_n (k4 := 3) (dQ (by decide +kernel)) rfl ?_
  refine j_iconst (n := 3) (dQ (by decide +kernel)) ?_
  refine j_iadd (dQ (by decide +kernel)) ?_
  refine j_sld (lw_at hi hN (by decide) (by decide)) (dQ (by decide +kernel)) ?_
  refine j_aload_n (k4 := 0) (dQ (by decide +kernel)) rfl ?_
  refine j_iload_n (k4 := 3) (dQ (by decide +kernel)) rfl ?_
  refine j_iconst (n := 4) (dQ (by decide +kernel)) ?_
  refine j_iadd (dQ (by decide +kernel)) ?_
  refine j_sld (lw_at hi hN (by decide) (by decide)) (dQ (by decide +kernel)) ?_
  refine J.room (kc := 0 + kc) (ks := 0 + ks) (j_cV (own := 13) (i := 39) (y2 := 252) (d2 := d2) (mc := 0) (ms := 0) (kc := kc) (ks := ks) (a := b1 + 0) (As := [.int (jsX g (i + Int32.ofInt 1).toNatClampNeg), .int (jsX g (i + Int32.ofInt 2).toNatClampNeg), .int (jsX g (i + Int32.ofInt 3).toNatClampNeg), .int (jsX g (i + Int32.ofInt 4).toNatClampNeg)]) (st := []) (by decide +kernel) lw_cls (by decide +kernel) (by decide) (by decide +kernel) (show 4 = jnp 252 by decide +kernel) (by omega) (by decide) hcm (fun r hr => by cases hr; decide +kernel) hm (fun v2 h2 hq2 => ?_)) (by omega) (by omega)
  obtain ⟨x2, rfl, he, bk2, hI2, hR⟩ := hP2 v2 h2 hq2
  refine j_pop (dQ (by decide +kernel)) rfl ?_
  refine j_goto (off := 1480) (tgt := 1983) (dQ (by decide +kernel)) (by decide) ?_
  exact kk bk2 h2 hI2 hR
set_option maxRecDepth 16384 in
theorem lc_6 {b0 b1 : Nat} {bk : aB} {h : jH} (hI : lwI g n b0 b1 bk h) {i : Int32} (hi : 0 ≤ i.toInt ∧ i.toInt + 6 ≤ (jsN g : Int)) (hN : jsN g ≤ 3072) {mc ms kc ks : Nat} {Q : Option Value → jH → Prop} {R : aB → Prop} (hc : cpS l g n b0 b1 h 38 253 [.int (jsX g (i + Int32.ofInt 1).toNatClampNeg), .int (jsX g (i + Int32.ofInt 2).toNatClampNeg), .int (jsX g (i + Int32.ofInt 3).toNatClampNeg)] mc ms false R)
    (kk : ∀ bk2 h2, lwI g (n + 40) b0 b1 bk2 h2 → R bk2 → J l g 315 100 1983 (lwL g b0 b1 i) [] h2 kc ks Q) : J l g 315 100 506 (lwL g b0 b1 i) [] h (mc + kc) (ms + ks) Q := by
  obtain ⟨d1, m1, s1, P1, hd1, hm1, hs1, hx, hP⟩ := hc
  refine J.room (kc := m1 + kc) (ks := s1 + ks) ?_ (by omega) (by omega)
  refine j_aload_n (k4 := 1) (dQ (by decide +kernel)) rfl ?_
  refine j_aload_n (k4 := 0) (dQ (by decide +kernel)) rfl ?_
  refine j_iload_n (k4 := 3) (dQ (by decide +kernel)) rfl ?_
  refine j_iconst (n := 1) (dQ (by decide +kernel)) ?_
  refine j_iadd (dQ (by decide +kernel)) ?_
  refine j_sld (lw_at hi hN (by decide) (by decide)) (dQ (by decide +kernel)) ?_
  refine j_aload_n (k4 := 0) (dQ (by decide +kernel)) rfl ?_
  refine j_iload_n (k4 := 3) (dQ (by decide +kernel)) rfl ?_
  refine j_iconst (n := 2) (dQ (by decide +kernel)) ?_
  refine j_iadd (dQ (by decide +kernel)) ?_
  refine j_sld (lw_at hi hN (by decide) (by decide)) (dQ (by decide +kernel)) ?_
  refine j_aload_n (k4 := 0) (dQ (by decide +kernel)) rfl ?_
  refine j_iload_n (k4 := 3) (dQ (by decide +kernel)) rfl ?_
  refine j_iconst (n := 3) (dQ (by decide +kernel)) ?_
  refine j_iadd (dQ (by decide +kernel)) ?_
  refine j_sld (lw_at hi hN (by decide) (by decide)) (dQ (by decide +kernel)) ?_
  obtain ⟨fsx, hcx⟩ := lw_x hI
  refine j_cV (own := 13) (i := 40) (y2 := 38) (d2 := d1) (mc := m1) (ms := s1) (kc := kc) (ks := ks) (a := b0 + 0) (As := [.int (jsX g (i + Int32.ofInt 1).toNatClampNeg), .int (jsX g (i + Int32.ofInt 2).toNatClampNeg), .int (jsX g (i + Int32.ofInt 3).toNatClampNeg)]) (st := []) (dQ (by decide +kernel)) lw_cls (by decide +kernel) (by decide) (by decide +kernel) (show 3 = jnp 38 by decide +kernel) (by omega) (by decide) hcx (fun r hr => by cases hr; decide +kernel) hx (fun v h1 hq => ?_)
  obtain ⟨x1, d2, P2, rfl, hd2, hm, ⟨fsm, hcm⟩, hP2⟩ := hP v h1 hq
  refine j_pop (dQ (by decide +kernel)) rfl ?_
  refine j_aload_n (k4 := 2) (dQ (by decide +kernel)) rfl ?_
  refine j_aload_n (k4 := 0) (dQ (by decide +kernel)) rfl ?_
  refine j_iload_n (k4 := 3) (dQ (by decide +kernel)) rfl ?_
  refine j_iconst (n := 1) (dQ (by decide +kernel)) ?_
  refine j_iadd (dQ (by decide +kernel)) ?_
  refine j_sld (lw_at hi hN (by decide) (by decide)) (dQ (by decide +kernel)) ?_
  refine j_aload_n (k4 := 0) (dQ (by decide +kernel)) rfl ?_
  refine j_iload_n (k4 := 3) (dQ (by decide +kernel)) rfl ?_
  refine j_iconst (n := 2) (dQ (by decide +kernel)) ?_
  refine j_iadd (dQ (by decide +kernel)) ?_
  refine j_sld (lw_at hi hN (by decide) (by decide)) (dQ (by decide +kernel)) ?_
  refine j_aload_n (k4 := 0) (dQ (by decide +kernel)) rfl ?_
  refine j_iload_n (k4 := 3) (dQ (by decide +kernel)) rfl ?_
  refine j_iconst (n := 3) (dQ (by decide +kernel)) ?_
  refine j_iadd (dQ (by decide +kernel)) ?_
  refine j_sld (lw_at hi hN (by decide) (by decide)) (dQ (by decide +kernel)) ?_
  refine J.room (kc := 0 + kc) (ks := 0 + ks) (j_cV (own := 13) (i := 43) (y2 := 253) (d2 := d2) (mc := 0) (ms := 0) (kc := kc) (ks := ks) (a := b1 + 0) (As := [.int (jsX g (i + Int32.ofInt 1).toNatClampNeg), .int (jsX g (i + Int32.ofInt 2).toNatClampNeg), .int (jsX g (i + Int32.ofInt 3).toNatClampNeg)]) (st := []) (by decide +kernel) lw_cls (by decide +kernel) (by decide) (by decide +kernel) (show 3 = jnp 253 by decide +kernel) (by omega) (by decide) hcm (fun r hr => by cases hr; decide +kernel) hm (fun v2 h2 hq2 => ?_)) (by omega) (by omega)
  obtain ⟨x2, rfl, he, bk2, hI2, hR⟩ := hP2 v2 h2 hq2
  refine j_pop (dQ (by decide +kernel)) rfl ?_
  refine j_goto (off := 1437) (tgt := 1983) (dQ (by decide +kernel)) (by decide) ?_
  exact kk bk2 h2 hI2 hR
set_option maxRecDepth 16384 in
theorem lc_7 {b0 b1 : Nat} {bk : aB} {h : jH} (hI : lwI g n b0 b1 bk h) {i : Int32} (hi : 0 ≤ i.toInt ∧ i.toInt + 6 ≤ (jsN g : Int)) (hN : jsN g ≤ 3072) {mc ms kc ks : Nat} {Q : Option Value → jH → Prop} {R : aB → Prop} (hc : cpS l g n b0 b1 h 39 254 [.int (jsX g (i + Int32.ofInt 1).toNatClampNeg), .int (jsX g (i + Int32.ofInt 2).toNatClampNeg)] mc ms false R)
    (kk : ∀ bk2 h2, lwI g (n + 40) b0 b1 bk2 h2 → R bk2 → J l g 315 100 1983 (lwL g b0 b1 i) [] h2 kc ks Q) : J l g 315 100 549 (lwL g b0 b1 i) [] h (mc + kc) (ms + ks) Q := by
  obtain ⟨d1, m1, s1, P1, hd1, hm1, hs1, hx, hP⟩ := hc
  refine J.room (kc := m1 + kc) (ks := s1 + ks) ?_ (by omega) (by omega)
  refine j_aload_n (k4 := 1) (dQ (by decide +kernel)) rfl ?_
  refine j_aload_n (k4 := 0) (dQ (by decide +kernel)) rfl ?_
  refine j_iload_n (k4 := 3) (dQ (by decide +kernel)) rfl ?_
  refine j_iconst (n := 1) (dQ (by decide +kernel)) ?_
  refine j_iadd (dQ (by decide +kernel)) ?_
  refine j_sld (lw_at hi hN (by decide) (by decide)) (dQ (by decide +kernel)) ?_
  refine j_aload_n (k4 := 0) (dQ (by decide +kernel)) rfl ?_
  refine j_iload_n (k4 := 3) (dQ (by decide +kernel)) rfl ?_
  refine j_iconst (n := 2) (dQ (by decide +kernel)) ?_
  refine j_iadd (dQ (by decide +kernel)) ?_
  refine j_sld (lw_at hi hN (by decide) (by decide)) (dQ (by decide +kernel)) ?_
  obtain ⟨fsx, hcx⟩ := lw_x hI
  refine j_cV (own := 13) (i := 44) (y2 := 39) (d2 := d1) (mc := m1) (ms := s1) (kc := kc) (ks := ks) (a := b0 + 0) (As := [.int (jsX g (i + Int32.ofInt 1).toNatClampNeg), .int (jsX g (i + Int32.ofInt 2).toNatClampNeg)]) (st := []) (dQ (by decide +kernel)) lw_cls (by decide +kernel) (by decide) (by decide +kernel) (show 2 = jnp 39 by decide +kernel) (by omega) (by decide) hcx (fun r hr => by cases hr; decide +kernel) hx (fun v h1 hq => ?_)
  obtain ⟨x1, d2, P2, rfl, hd2, hm, ⟨fsm, hcm⟩, hP2⟩ := hP v h1 hq
  refine j_pop (dQ (by decide +kernel)) rfl ?_
  refine j_aload_n (k4 := 2) (dQ (by decide +kernel)) rfl ?_
  refine j_aload_n (k4 := 0) (dQ (by decide +kernel)) rfl ?_
  refine j_iload_n (k4 := 3) (dQ (by decide +kernel)) rfl ?_
  refine j_iconst (n := 1) (dQ (by decide +kernel)) ?_
  refine j_iadd (dQ (by decide +kernel)) ?_
  refine j_sld (lw_at hi hN (by decide) (by decide)) (dQ (by decide +kernel)) ?_
  refine j_aload_n (k4 := 0) (dQ (by decide +kernel)) rfl ?_
  refine j_iload_n (k4 := 3) (dQ (by decide +kernel)) rfl ?_
  refine j_iconst (n := 2) (dQ (by decide +kernel)) ?_
  refine j_iadd (dQ (by decide +kernel)) ?_
  refine j_sld (lw_at hi hN (by decide) (by decide)) (dQ (by decide +kernel)) ?_
  refine J.room (kc := 0 + kc) (ks := 0 + ks) (j_cV (own := 13) (i := 47) (y2 := 254) (d2 := d2) (mc := 0) (ms := 0) (kc := kc) (ks := ks) (a := b1 + 0) (As := [.int (jsX g (i + Int32.ofInt 1).toNatClampNeg), .int (jsX g (i + Int32.ofInt 2).toNatClampNeg)]) (st := []) (by decide +kernel) lw_cls (by decide +kernel) (by decide) (by decide +kernel) (show 2 = jnp 254 by decide +kernel) (by omega) (by decide) hcm (fun r hr => by cases hr; decide +kernel) hm (fun v2 h2 hq2 => ?_)) (by omega) (by omega)
  obtain ⟨x2, rfl, he, bk2, hI2, hR⟩ := hP2 v2 h2 hq2
  refine j_pop (dQ (by decide +kernel)) rfl ?_
  refine j_goto (off := 1404) (tgt := 1983) (dQ (by decide +kernel)) (by decide) ?_
  exact kk bk2 h2 hI2 hR
set_option maxRecDepth 16384 in
theorem lc_8 {b0 b1 : Nat} {bk : aB} {h : jH} (hI : lwI g n b0 b1 bk h) {i : Int32} (hi : 0 ≤ i.toInt ∧ i.toInt + 6 ≤ (jsN g : Int)) (hN : jsN g ≤ 3072) {mc ms kc ks : Nat} {Q : Option Value → jH → Prop} {R : aB → Prop} (hc : cpS l g n b0 b1 h 40 255 [.int (jsX g (i + Int32.ofInt 1).toNatClampNeg), .int (jsX g (i + Int32.ofInt 2).toNatClampNeg), .int (jsX g (i + Int32.ofInt 3).toNatClampNeg)] mc ms false R)
    (kk : ∀ bk2 h2, lwI g (n + 40) b0 b1 bk2 h2 → R bk2 → J l g 315 100 1983 (lwL g b0 b1 i) [] h2 kc ks Q) : J l g 315 100 582 (lwL g b0 b1 i) [] h (mc + kc) (ms + ks) Q := by
  obtain ⟨d1, m1, s1, P1, hd1, hm1, hs1, hx, hP⟩ := hc
  refine J.room (kc := m1 + kc) (ks := s1 + ks) ?_ (by omega) (by omega)
  refine j_aload_n (k4 := 1) (dQ (by decide +kernel)) rfl ?_
  refine j_aload_n (k4 := 0) (dQ (by decide +kernel)) rfl ?_
  refine j_iload_n (k4 := 3) (dQ (by decide +kernel)) rfl ?_
  refine j_iconst (n := 1) (dQ (by decide +kernel)) ?_
  refine j_iadd (dQ (by decide +kernel)) ?_
  refine j_sld (lw_at hi hN (by decide) (by decide)) (dQ (by decide +kernel)) ?_
  refine j_aload_n (k4 := 0) (dQ (by decide +kernel)) rfl ?_
  refine j_iload_n (k4 := 3) (dQ (by decide +kernel)) rfl ?_
  refine j_iconst (n := 2) (dQ (by decide +kernel)) ?_
  refine j_iadd (dQ (by decide +kernel)) ?_
  refine j_sld (lw_at hi hN (by decide) (by decide)) (dQ (by decide +kernel)) ?_
  refine j_aload_n (k4 := 0) (dQ (by decide +kernel)) rfl ?_
  refine j_iload_n (k4 := 3) (dQ (by decide +kernel)) rfl ?_
  refine j_iconst (n := 3) (dQ (by decide +kernel)) ?_
  refine j_iadd (dQ (by decide +kernel)) ?_
  refine j_sld (lw_at hi hN (by decide) (by decide)) (dQ (by decide +kernel)) ?_
  obtain ⟨fsx, hcx⟩ := lw_x hI
  refine j_cV (own := 13) (i := 48) (y2 := 40) (d2 := d1) (mc := m1) (ms := s1) (kc := kc) (ks := ks) (a := b0 + 0) (As := [.int (jsX g (i + Int32.ofInt 1).toNatClampNeg), .int (jsX g (i + Int32.ofInt 2).toNatClampNeg), .int (jsX g (i + Int32.ofInt 3).toNatClampNeg)]) (st := []) (dQ (by decide +kernel)) lw_cls (by decide +kernel) (by decide) (by decide +kernel) (show 3 = jnp 40 by decide +kernel) (by omega) (by decide) hcx (fun r hr => by cases hr; decide +kernel) hx (fun v h1 hq => ?_)
  obtain ⟨x1, d2, P2, rfl, hd2, hm, ⟨fsm, hcm⟩, hP2⟩ := hP v h1 hq
  refine j_pop (dQ (by decide +kernel)) rfl ?_
  refine j_aload_n (k4 := 2) (dQ (by decide +kernel)) rfl ?_
  refine j_aload_n (k4 := 0) (dQ (by decide +kernel)) rfl ?_
  refine j_iload_n (k4 := 3) (dQ (by decide +kernel)) rfl ?_
  refine j_iconst (n := 1) (dQ (by decide +kernel)) ?_
  refine j_iadd (dQ (by decide +kernel)) ?_
  refine j_sld (lw_at hi hN (by decide) (by decide)) (dQ (by decide +kernel)) ?_
  refine j_aload_n (k4 := 0) (dQ (by decide +kernel)) rfl ?_
  refine j_iload_n (k4 := 3) (dQ (by decide +kernel)) rfl ?_
  refine j_iconst (n := 2) (dQ (by decide +kernel)) ?_
  refine j_iadd (dQ (by decide +kernel)) ?_
  refine j_sld (lw_at hi hN (by decide) (by decide)) (dQ (by decide +kernel)) ?_
  refine j_aload_n (k4 := 0) (dQ (by decide +kernel)) rfl ?_
  refine j_iload_n (k4 := 3) (dQ (by decide +kernel)) rfl ?_
  refine j_iconst (n := 3) (dQ (by decide +kernel)) ?_
  refine j_iadd (dQ (by decide +kernel)) ?_
  refine j_sld (lw_at hi hN (by decide) (by decide)) (dQ (by decide +kernel)) ?_
  refine J.room (kc := 0 + kc) (ks := 0 + ks) (j_cV (own := 13) (i := 51) (y2 := 255) (d2 := d2) (mc := 0) (ms := 0) (kc := kc) (ks := ks) (a := b1 + 0) (As := [.int (jsX g (i + Int32.ofInt 1).toNatClampNeg), .int (jsX g (i + Int32.ofInt 2).toNatClampNeg), .int (jsX g (i + Int32.ofInt 3).toNatClampNeg)]) (st := []) (by decide +kernel) lw_cls (by decide +kernel) (by decide) (by decide +kernel) (show 3 = jnp 255 by decide +kernel) (by omega) (by decide) hcm (fun r hr => by cases hr; decide +kernel) hm (fun v2 h2 hq2 => ?_)) (by omega) (by omega)
  obtain ⟨x2, rfl, he, bk2, hI2, hR⟩ := hP2 v2 h2 hq2
  refine j_pop (dQ (by decide +kernel)) rfl ?_
  refine j_goto (off := 1361) (tgt := 1983) (dQ (by decide +kernel)) (by decide) ?_
  exact kk bk2 h2 hI2 hR
set_option maxRecDepth 16384 in
theorem lc_9 {b0 b1 : Nat} {bk : aB} {h : jH} (hI : lwI g n b0 b1 bk h) {i : Int32} (hi : 0 ≤ i.toInt ∧ i.toInt + 6 ≤ (jsN g : Int)) (hN : jsN g ≤ 3072) {mc ms kc ks : Nat} {Q : Option Value → jH → Prop} {R : aB → Prop} (hc : cpS l g n b0 b1 h 42 256 [.int (jsX g (i + Int32.ofInt 1).toNatClampNeg), .int (jsX g (i + Int32.ofInt 2).toNatClampNeg)] mc ms false R)
    (kk : ∀ bk2 h2, lwI g (n + 40) b0 b1 bk2 h2 → R bk2 → J l g 315 100 1983 (lwL g b0 b1 i) [] h2 kc ks Q) : J l g 315 100 625 (lwL g b0 b1 i) [] h (mc + kc) (ms + ks) Q := by
  obtain ⟨d1, m1, s1, P1, hd1, hm1, hs1, hx, hP⟩ := hc
  refine J.room (kc := m1 + kc) (ks := s1 + ks) ?_ (by omega) (by omega)
  refine j_aload_n (k4 := 1) (dQ (by decide +kernel)) rfl ?_
  refine j_aload_n (k4 := 0) (dQ (by decide +kernel)) rfl ?_
  refine j_iload_n (k4 := 3) (dQ (by decide +kernel)) rfl ?_
  refine j_iconst (n := 1) (dQ (by decide +kernel)) ?_
  refine j_iadd (dQ (by decide +kernel)) ?_
  refine j_sld (lw_at hi hN (by decide) (by decide)) (dQ (by decide +kernel)) ?_
  refine j_aload_n (k4 := 0) (dQ (by decide +kernel)) rfl ?_
  refine j_iload_n (k4 := 3) (dQ (by decide +kernel)) rfl ?_
  refine j_iconst (n := 2) (dQ (by decide +kernel)) ?_
  refine j_iadd (dQ (by decide +kernel)) ?_
  refine j_sld (lw_at hi hN (by decide) (by decide)) (dQ (by decide +kernel)) ?_
  obtain ⟨fsx, hcx⟩ := lw_x hI
  refine j_cV (own := 13) (i := 52) (y2 := 42) (d2 := d1) (mc := m1) (ms := s1) (kc := kc) (ks := ks) (a := b0 + 0) (As := [.int (jsX g (i + Int32.ofInt 1).toNatClampNeg), .int (jsX g (i + Int32.ofInt 2).toNatClampNeg)]) (st := []) (dQ (by decide +kernel)) lw_cls (by decide +kernel) (by decide) (by decide +kernel) (show 2 = jnp 42 by decide +kernel) (by omega) (by decide) hcx (fun r hr => by cases hr; decide +kernel) hx (fun v h1 hq => ?_)
  obtain ⟨x1, d2, P2, rfl, hd2, hm, ⟨fsm, hcm⟩, hP2⟩ := hP v h1 hq
  refine j_pop (dQ (by decide +kernel)) rfl ?_
  refine j_aload_n (k4 := 2) (dQ (by decide +kernel)) rfl ?_
  refine j_aload_n (k4 := 0) (dQ (by decide +kernel)) rfl ?_
  refine j_iload_n (k4 := 3) (dQ (by decide +kernel)) rfl ?_
  refine j_iconst (n := 1) (dQ (by decide +kernel)) ?_
  refine j_iadd (dQ (by decide +kernel)) ?_
  refine j_sld (lw_at hi hN (by decide) (by decide)) (dQ (by decide +kernel)) ?_
  refine j_aload_n (k4 := 0) (dQ (by decide +kernel)) rfl ?_
  refine j_iload_n (k4 := 3) (dQ (by decide +kernel)) rfl ?_
  refine j_iconst (n := 2) (dQ (by decide +kernel)) ?_
  refine j_iadd (dQ (by decide +kernel)) ?_
  refine j_sld (lw_at hi hN (by decide) (by decide)) (dQ (by decide +kernel)) ?_
  refine J.room (kc := 0 + kc) (ks := 0 + ks) (j_cV (own := 13) (i := 55) (y2 := 256) (d2 := d2) (mc := 0) (ms := 0) (kc := kc) (ks := ks) (a := b1 + 0) (As := [.int (jsX g (i + Int32.ofInt 1).toNatClampNeg), .int (jsX g (i + Int32.ofInt 2).toNatClampNeg)]) (st := []) (by decide +kernel) lw_cls (by decide +kernel) (by decide) (by decide +kernel) (show 2 = jnp 256 by decide +kernel) (by omega) (by decide) hcm (fun r hr => by cases hr; decide +kernel) hm (fun v2 h2 hq2 => ?_)) (by omega) (by omega)
  obtain ⟨x2, rfl, he, bk2, hI2, hR⟩ := hP2 v2 h2 hq2
  refine j_pop (dQ (by decide +kernel)) rfl ?_
  refine j_goto (off := 1328) (tgt := 1983) (dQ (by decide +kernel)) (by decide) ?_
  exact kk bk2 h2 hI2 hR
set_option maxRecDepth 16384 in
theorem lc_10 {b0 b1 : Nat} {bk : aB} {h : jH} (hI : lwI g n b0 b1 bk h) {i : Int32} (hi : 0 ≤ i.toInt ∧ i.toInt + 6 ≤ (jsN g : Int)) (hN : jsN g ≤ 3072) {mc ms kc ks : Nat} {Q : Option Value → jH → Prop} {R : aB → Prop} (hc : cpS l g n b0 b1 h 43 257 [.int (jsX g (i + Int32.ofInt 1).toNatClampNeg), .int (jsX g (i + Int32.ofInt 2).toNatClampNeg)] mc ms false R)
    (kk : ∀ bk2 h2, lwI g (n + 40) b0 b1 bk2 h2 → R bk2 → J l g 315 100 1983 (lwL g b0 b1 i) [] h2 kc ks Q) : J l g 315 100 658 (lwL g b0 b1 i) [] h (mc + kc) (ms + ks) Q := by
  obtain ⟨d1, m1, s1, P1, hd1, hm1, hs1, hx, hP⟩ := hc
  refine J.room (kc := m1 + kc) (ks := s1 + ks) ?_ (by omega) (by omega)
  refine j_aload_n (k4 := 1) (dQ (by decide +kernel)) rfl ?_
  refine j_aload_n (k4 := 0) (dQ (by decide +kernel)) rfl ?_
  refine j_iload_n (k4 := 3) (dQ (by decide +kernel)) rfl ?_
  refine j_iconst (n := 1) (dQ (by decide +kernel)) ?_
  refine j_iadd (dQ (by decide +kernel)) ?_
  refine j_sld (lw_at hi hN (by decide) (by decide)) (dQ (by decide +kernel)) ?_
  refine j_aload_n (k4 := 0) (dQ (by decide +kernel)) rfl ?_
  refine j_iload_n (k4 := 3) (dQ (by decide +kernel)) rfl ?_
  refine j_iconst (n := 2) (dQ (by decide +kernel)) ?_
  refine j_iadd (dQ (by decide +kernel)) ?_
  refine j_sld (lw_at hi hN (by decide) (by decide)) (dQ (by decide +kernel)) ?_
  obtain ⟨fsx, hcx⟩ := lw_x hI
  refine j_cV (own := 13) (i := 56) (y2 := 43) (d2 := d1) (mc := m1) (ms := s1) (kc := kc) (ks := ks) (a := b0 + 0) (As := [.int (jsX g (i + Int32.ofInt 1).toNatClampNeg), .int (jsX g (i + Int32.ofInt 2).toNatClampNeg)]) (st := []) (dQ (by decide +kernel)) lw_cls (by decide +kernel) (by decide) (by decide +kernel) (show 2 = jnp 43 by decide +kernel) (by omega) (by decide) hcx (fun r hr => by cases hr; decide +kernel) hx (fun v h1 hq => ?_)
  obtain ⟨x1, d2, P2, rfl, hd2, hm, ⟨fsm, hcm⟩, hP2⟩ := hP v h1 hq
  refine j_pop (dQ (by decide +kernel)) rfl ?_
  refine j_aload_n (k4 := 2) (dQ (by decide +kernel)) rfl ?_
  refine j_aload_n (k4 := 0) (dQ (by decide +kernel)) rfl ?_
  refine j_iload_n (k4 := 3) (dQ (by decide +kernel)) rfl ?_
  refine j_iconst (n := 1) (dQ (by decide +kernel)) ?_
  refine j_iadd (dQ (by decide +kernel)) ?_
  refine j_sld (lw_at hi hN (by decide) (by decide)) (dQ (by decide +kernel)) ?_
  refine j_aload_n (k4 := 0) (dQ (by decide +kernel)) rfl ?_
  refine j_iload_n (k4 := 3) (dQ (by decide +kernel)) rfl ?_
  refine j_iconst (n := 2) (dQ (by decide +kernel)) ?_
  refine j_iadd (dQ (by decide +kernel)) ?_
  refine j_sld (lw_at hi hN (by decide) (by decide)) (dQ (by decide +kernel)) ?_
  refine J.room (kc := 0 + kc) (ks := 0 + ks) (j_cV (own := 13) (i := 59) (y2 := 257) (d2 := d2) (mc := 0) (ms := 0) (kc := kc) (ks := ks) (a := b1 + 0) (As := [.int (jsX g (i + Int32.ofInt 1).toNatClampNeg), .int (jsX g (i + Int32.ofInt 2).toNatClampNeg)]) (st := []) (by decide +kernel) lw_cls (by decide +kernel) (by decide) (by decide +kernel) (show 2 = jnp 257 by decide +kernel) (by omega) (by decide) hcm (fun r hr => by cases hr; decide +kernel) hm (fun v2 h2 hq2 => ?_)) (by omega) (by omega)
  obtain ⟨x2, rfl, he, bk2, hI2, hR⟩ := hP2 v2 h2 hq2
  refine j_pop (dQ (by decide +kernel)) rfl ?_
  refine j_goto (off := 1295) (tgt := 1983) (dQ (by decide +kernel)) (by decide) ?_
  exact kk bk2 h2 hI2 hR
set_option maxRecDepth 16384 in
theorem lc_11 {b0 b1 : Nat} {bk : aB} {h : jH} (hI : lwI g n b0 b1 bk h) {i : Int32} (hi : 0 ≤ i.toInt ∧ i.toInt + 6 ≤ (jsN g : Int)) (hN : jsN g ≤ 3072) {mc ms kc ks : Nat} {Q : Option Value → jH → Prop} {R : aB → Prop} (hc : cpS l g n b0 b1 h 44 258 [.int (jsX g (i + Int32.ofInt 1).toNatClampNeg)] mc ms false R)
    (kk : ∀ bk2 h2, lwI g (n + 40) b0 b1 bk2 h2 → R bk2 → J l g 315 100 1983 (lwL g b0 b1 i) [] h2 kc ks Q) : J l g 315 100 691 (lwL g b0 b1 i) [] h (mc + kc) (ms + ks) Q := by
  obtain ⟨d1, m1, s1, P1, hd1, hm1, hs1, hx, hP⟩ := hc
  refine J.room (kc := m1 + kc) (ks := s1 + ks) ?_ (by omega) (by omega)
  refine j_aload_n (k4 := 1) (dQ (by decide +kernel)) rfl ?_
  refine j_aload_n (k4 := 0) (dQ (by decide +kernel)) rfl ?_
  refine j_iload_n (k4 := 3) (dQ (by decide +kernel)) rfl ?_
  refine j_iconst (n := 1) (dQ (by decide +kernel)) ?_
  refine j_iadd (dQ (by decide +kernel)) ?_
  refine j_sld (lw_at hi hN (by decide) (by decide)) (dQ (by decide +kernel)) ?_
  obtain ⟨fsx, hcx⟩ := lw_x hI
  refine j_cV (own := 13) (i := 60) (y2 := 44) (d2 := d1) (mc := m1) (ms := s1) (kc := kc) (ks := ks) (a := b0 + 0) (As := [.int (jsX g (i + Int32.ofInt 1).toNatClampNeg)]) (st := []) (dQ (by decide +kernel)) lw_cls (by decide +kernel) (by decide) (by decide +kernel) (show 1 = jnp 44 by decide +kernel) (by omega) (by decide) hcx (fun r hr => by cases hr; decide +kernel) hx (fun v h1 hq => ?_)
  obtain ⟨x1, d2, P2, rfl, hd2, hm, ⟨fsm, hcm⟩, hP2⟩ := hP v h1 hq
  refine j_pop (dQ (by decide +kernel)) rfl ?_
  refine j_aload_n (k4 := 2) (dQ (by decide +kernel)) rfl ?_
  refine j_aload_n (k4 := 0) (dQ (by decide +kernel)) rfl ?_
  refine j_iload_n (k4 := 3) (dQ (by decide +kernel)) rfl ?_
  refine j_iconst (n := 1) (dQ (by decide +kernel)) ?_
  refine j_iadd (dQ (by decide +kernel)) ?_
  refine j_sld (lw_at hi hN (by decide) (by decide)) (dQ (by decide +kernel)) ?_
  refine J.room (kc := 0 + kc) (ks := 0 + ks) (j_cV (own := 13) (i := 64) (y2 := 258) (d2 := d2) (mc := 0) (ms := 0) (kc := kc) (ks := ks) (a := b1 + 0) (As := [.int (jsX g (i + Int32.ofInt 1).toNatClampNeg)]) (st := []) (by decide +kernel) lw_cls (by decide +kernel) (by decide) (by decide +kernel) (show 1 = jnp 258 by decide +kernel) (by omega) (by decide) hcm (fun r hr => by cases hr; decide +kernel) hm (fun v2 h2 hq2 => ?_)) (by omega) (by omega)
  obtain ⟨x2, rfl, he, bk2, hI2, hR⟩ := hP2 v2 h2 hq2
  refine j_pop (dQ (by decide +kernel)) rfl ?_
  refine j_goto (off := 1272) (tgt := 1983) (dQ (by decide +kernel)) (by decide) ?_
  exact kk bk2 h2 hI2 hR
set_option maxRecDepth 16384 in
theorem lc_12 {b0 b1 : Nat} {bk : aB} {h : jH} (hI : lwI g n b0 b1 bk h) {i : Int32} (hi : 0 ≤ i.toInt ∧ i.toInt + 6 ≤ (jsN g : Int)) (hN : jsN g ≤ 3072) {mc ms kc ks : Nat} {Q : Option Value → jH → Prop} {R : aB → Prop} (hc : cpS l g n b0 b1 h 45 259 [.int (jsX g (i + Int32.ofInt 1).toNatClampNeg)] mc ms false R)
    (kk : ∀ bk2 h2, lwI g (n + 40) b0 b1 bk2 h2 → R bk2 → J l g 315 100 1983 (lwL g b0 b1 i) [] h2 kc ks Q) : J l g 315 100 714 (lwL g b0 b1 i) [] h (mc + kc) (ms + ks) Q := by
  obtain ⟨d1, m1, s1, P1, hd1, hm1, hs1, hx, hP⟩ := hc
  refine J.room (kc := m1 + kc) (ks := s1 + ks) ?_ (by omega) (by omega)
  refine j_aload_n (k4 := 1) (dQ (by decide +kernel)) rfl ?_
  refine j_aload_n (k4 := 0) (dQ (by decide +kernel)) rfl ?_
  refine j_iload_n (k4 := 3) (dQ (by decide +kernel)) rfl ?_
  refine j_iconst (n := 1) (dQ (by decide +kernel)) ?_
  refine j_iadd (dQ (by decide +kernel)) ?_
  refine j_sld (lw_at hi hN (by decide) (by decide)) (dQ (by decide +kernel)) ?_
  obtain ⟨fsx, hcx⟩ := lw_x hI
  refine j_cV (own := 13) (i := 65) (y2 := 45) (d2 := d1) (mc := m1) (ms := s1) (kc := kc) (ks := ks) (a := b0 + 0) (As := [.int (jsX g (i + Int32.ofInt 1).toNatClampNeg)]) (st := []) (dQ (by decide +kernel)) lw_cls (by decide +kernel) (by decide) (by decide +kernel) (show 1 = jnp 45 by decide +kernel) (by omega) (by decide) hcx (fun r hr => by cases hr; decide +kernel) hx (fun v h1 hq => ?_)
  obtain ⟨x1, d2, P2, rfl, hd2, hm, ⟨fsm, hcm⟩, hP2⟩ := hP v h1 hq
  refine j_pop (dQ (by decide +kernel)) rfl ?_
  refine j_aload_n (k4 := 2) (dQ (by decide +kernel)) rfl ?_
  refine j_aload_n (k4 := 0) (dQ (by decide +kernel)) rfl ?_
  refine j_iload_n (k4 := 3) (dQ (by decide +kernel)) rfl ?_
  refine j_iconst (n := 1) (dQ (by decide +kernel)) ?_
  refine j_iadd (dQ (by decide +kernel)) ?_
  refine j_sld (lw_at hi hN (by decide) (by decide)) (dQ (by decide +kernel)) ?_
  refine J.room (kc := 0 + kc) (ks := 0 + ks) (j_cV (own := 13) (i := 68) (y2 := 259) (d2 := d2) (mc := 0) (ms := 0) (kc := kc) (ks := ks) (a := b1 + 0) (As := [.int (jsX g (i + Int32.ofInt 1).toNatClampNeg)]) (st := []) (by decide +kernel) lw_cls (by decide +kernel) (by decide) (by decide +kernel) (show 1 = jnp 259 by decide +kernel) (by omega) (by decide) hcm (fun r hr => by cases hr; decide +kernel) hm (fun v2 h2 hq2 => ?_)) (by omega) (by omega)
  obtain ⟨x2, rfl, he, bk2, hI2, hR⟩ := hP2 v2 h2 hq2
  refine j_pop (dQ (by decide +kernel)) rfl ?_
  refine j_goto (off := 1249) (tgt := 1983) (dQ (by decide +kernel)) (by decide) ?_
  exact kk bk2 h2 hI2 hR
set_option maxRecDepth 16384 in
theorem lc_13 {b0 b1 : Nat} {bk : aB} {h : jH} (hI : lwI g n b0 b1 bk h) {i : Int32} (hi : 0 ≤ i.toInt ∧ i.toInt + 6 ≤ (jsN g : Int)) (hN : jsN g ≤ 3072) {mc ms kc ks : Nat} {Q : Option Value → jH → Prop} {R : aB → Prop} (hc : cpS l g n b0 b1 h 46 260 [.int (jsX g (i + Int32.ofInt 1).toNatClampNeg), .int (jsX g (i + Int32.ofInt 2).toNatClampNeg)] mc ms false R)
    (kk : ∀ bk2 h2, lwI g (n + 40) b0 b1 bk2 h2 → R bk2 → J l g 315 100 1983 (lwL g b0 b1 i) [] h2 kc ks Q) : J l g 315 100 737 (lwL g b0 b1 i) [] h (mc + kc) (ms + ks) Q := by
  obtain ⟨d1, m1, s1, P1, hd1, hm1, hs1, hx, hP⟩ := hc
  refine J.room (kc := m1 + kc) (ks := s1 + ks) ?_ (by omega) (by omega)
  refine j_aload_n (k4 := 1) (dQ (by decide +kernel)) rfl ?_
  refine j_aload_n (k4 := 0) (dQ (by decide +kernel)) rfl ?_
  refine j_iload_n (k4 := 3) (dQ (by decide +kernel)) rfl ?_
  refine j_iconst (n := 1) (dQ (by decide +kernel)) ?_
  refine j_iadd (dQ (by decide +kernel)) ?_
  refine j_sld (lw_at hi hN (by decide) (by decide)) (dQ (by decide +kernel)) ?_
  refine j_aload_n (k4 := 0) (dQ (by decide +kernel)) rfl ?_
  refine j_iload_n (k4 := 3) (dQ (by decide +kernel)) rfl ?_
  refine j_iconst (n := 2) (dQ (by decide +kernel)) ?_
  refine j_iadd (dQ (by decide +kernel)) ?_
  refine j_sld (lw_at hi hN (by decide) (by decide)) (dQ (by decide +kernel)) ?_
  obtain ⟨fsx, hcx⟩ := lw_x hI
  refine j_cV (own := 13) (i := 69) (y2 := 46) (d2 := d1) (mc := m1) (ms := s1) (kc := kc) (ks := ks) (a := b0 + 0) (As := [.int (jsX g (i + Int32.ofInt 1).toNatClampNeg), .int (jsX g (i + Int32.ofInt 2).toNatClampNeg)]) (st := []) (dQ (by decide +kernel)) lw_cls (by decide +kernel) (by decide) (by decide +kernel) (show 2 = jnp 46 by decide +kernel) (by omega) (by decide) hcx (fun r hr => by cases hr; decide +kernel) hx (fun v h1 hq => ?_)
  obtain ⟨x1, d2, P2, rfl, hd2, hm, ⟨fsm, hcm⟩, hP2⟩ := hP v h1 hq
  refine j_pop (dQ (by decide +kernel)) rfl ?_
  refine j_aload_n (k4 := 2) (dQ (by decide +kernel)) rfl ?_
  refine j_aload_n (k4 := 0) (dQ (by decide +kernel)) rfl ?_
  refine j_iload_n (k4 := 3) (dQ (by decide +kernel)) rfl ?_
  refine j_iconst (n := 1) (dQ (by decide +kernel)) ?_
  refine j_iadd (dQ (by decide +kernel)) ?_
  refine j_sld (lw_at hi hN (by decide) (by decide)) (dQ (by decide +kernel)) ?_
  refine j_aload_n (k4 := 0) (dQ (by decide +kernel)) rfl ?_
  refine j_iload_n (k4 := 3) (dQ (by decide +kernel)) rfl ?_
  refine j_iconst (n := 2) (dQ (by decide +kernel)) ?_
  refine j_iadd (dQ (by decide +kernel)) ?_
  refine j_sld (lw_at hi hN (by decide) (by decide)) (dQ (by decide +kernel)) ?_
  refine J.room (kc := 0 + kc) (ks := 0 + ks) (j_cV (own := 13) (i := 72) (y2 := 260) (d2 := d2) (mc := 0) (ms := 0) (kc := kc) (ks := ks) (a := b1 + 0) (As := [.int (jsX g (i + Int32.ofInt 1).toNatClampNeg), .int (jsX g (i + Int32.ofInt 2).toNatClampNeg)]) (st := []) (by decide +kernel) lw_cls (by decide +kernel) (by decide) (by decide +kernel) (show 2 = jnp 260 by decide +kernel) (by omega) (by decide) hcm (fun r hr => by cases hr; decide +kernel) hm (fun v2 h2 hq2 => ?_)) (by omega) (by omega)
  obtain ⟨x2, rfl, he, bk2, hI2, hR⟩ := hP2 v2 h2 hq2
  refine j_pop (dQ (by decide +kernel)) rfl ?_
  refine j_goto (off := 1216) (tgt := 1983) (dQ (by decide +kernel)) (by decide) ?_
  exact kk bk2 h2 hI2 hR
set_option maxRecDepth 16384 in
theorem lc_14 {b0 b1 : Nat} {bk : aB} {h : jH} (hI : lwI g n b0 b1 bk h) {i : Int32} (hi : 0 ≤ i.toInt ∧ i.toInt + 6 ≤ (jsN g : Int)) (hN : jsN g ≤ 3072) {mc ms kc ks : Nat} {Q : Option Value → jH → Prop} {R : aB → Prop} (hc : cpS l g n b0 b1 h 50 261 [.int (jsX g (i + Int32.ofInt 1).toNatClampNeg), .int (jsX g (i + Int32.ofInt 2).toNatClampNeg), .int (jsX g (i + Int32.ofInt 3).toNatClampNeg)] mc ms false R)
    (kk : ∀ bk2 h2, lwI g (n + 40) b0 b1 bk2 h2 → R bk2 → J l g 315 100 1983 (lwL g b0 b1 i) [] h2 kc ks Q) : J l g 315 100 770 (lwL g b0 b1 i) [] h (mc + kc) (ms + ks) Q := by
  obtain ⟨d1, m1, s1, P1, hd1, hm1, hs1, hx, hP⟩ := hc
  refine J.room (kc := m1 + kc) (ks := s1 + ks) ?_ (by omega) (by omega)
  refine j_aload_n (k4 := 1) (dQ (by decide +kernel)) rfl ?_
  refine j_aload_n (k4 := 0) (dQ (by decide +kernel)) rfl ?_
  refine j_iload_n (k4 := 3) (dQ (by decide +kernel)) rfl ?_
  refine j_iconst (n := 1) (dQ (by decide +kernel)) ?_
  refine j_iadd (dQ (by decide +kernel)) ?_
  refine j_sld (lw_at hi hN (by decide) (by decide)) (dQ (by decide +kernel)) ?_
  refine j_aload_n (k4 := 0) (dQ (by decide +kernel)) rfl ?_
  refine j_iload_n (k4 := 3) (dQ (by decide +kernel)) rfl ?_
  refine j_iconst (n := 2) (dQ (by decide +kernel)) ?_
  refine j_iadd (dQ (by decide +kernel)) ?_
  refine j_sld (lw_at hi hN (by decide) (by decide)) (dQ (by decide +kernel)) ?_
  refine j_aload_n (k4 := 0) (dQ (by decide +kernel)) rfl ?_
  refine j_iload_n (k4 := 3) (dQ (by decide +kernel)) rfl ?_
  refine j_iconst (n := 3) (dQ (by decide +kernel)) ?_
  refine j_iadd (dQ (by decide +kernel)) ?_
  refine j_sld (lw_at hi hN (by decide) (by decide)) (dQ (by decide +kernel)) ?_
  obtain ⟨fsx, hcx⟩ := lw_x hI
  refine j_cV (own := 13) (i := 73) (y2 := 50) (d2 := d1) (mc := m1) (ms := s1) (kc := kc) (ks := ks) (a := b0 + 0) (As := [.int (jsX g (i + Int32.ofInt 1).toNatClampNeg), .int (jsX g (i + Int32.ofInt 2).toNatClampNeg), .int (jsX g (i + Int32.ofInt 3).toNatClampNeg)]) (st := []) (dQ (by decide +kernel)) lw_cls (by decide +kernel) (by decide) (by decide +kernel) (show 3 = jnp 50 by decide +kernel) (by omega) (by decide) hcx (fun r hr => by cases hr; decide +kernel) hx (fun v h1 hq => ?_)
  obtain ⟨x1, d2, P2, rfl, hd2, hm, ⟨fsm, hcm⟩, hP2⟩ := hP v h1 hq
  refine j_pop (dQ (by decide +kernel)) rfl ?_
  refine j_aload_n (k4 := 2) (dQ (by decide +kernel)) rfl ?_
  refine j_aload_n (k4 := 0) (dQ (by decide +kernel)) rfl ?_
  refine j_iload_n (k4 := 3) (dQ (by decide +kernel)) rfl ?_
  refine j_iconst (n := 1) (dQ (by decide +kernel)) ?_
  refine j_iadd (dQ (by decide +kernel)) ?_
  refine j_sld (lw_at hi hN (by decide) (by decide)) (dQ (by decide +kernel)) ?_
  refine j_aload_n (k4 := 0) (dQ (by decide +kernel)) rfl ?_
  refine j_iload_n (k4 := 3) (dQ (by decide +kernel)) rfl ?_
  refine j_iconst (n := 2) (dQ (by decide +kernel)) ?_
  refine j_iadd (dQ (by decide +kernel)) ?_
  refine j_sld (lw_at hi hN (by decide) (by decide)) (dQ (by decide +kernel)) ?_
  refine j_aload_n (k4 := 0) (dQ (by decide +kernel)) rfl ?_
  refine j_iload_n (k4 := 3) (dQ (by decide +kernel)) rfl ?_
  refine j_iconst (n := 3) (dQ (by decide +kernel)) ?_
  refine j_iadd (dQ (by decide +kernel)) ?_
  refine j_sld (lw_at hi hN (by decide) (by decide)) (dQ (by decide +kernel)) ?_
  refine J.room (kc := 0 + kc) (ks := 0 + ks) (j_cV (own := 13) (i := 76) (y2 := 261) (d2 := d2) (mc := 0) (ms := 0) (kc := kc) (ks := ks) (a := b1 + 0) (As := [.int (jsX g (i + Int32.ofInt 1).toNatClampNeg), .int (jsX g (i + Int32.ofInt 2).toNatClampNeg), .int (jsX g (i + Int32.ofInt 3).toNatClampNeg)]) (st := []) (by decide +kernel) lw_cls (by decide +kernel) (by decide) (by decide +kernel) (show 3 = jnp 261 by decide +kernel) (by omega) (by decide) hcm (fun r hr => by cases hr; decide +kernel) hm (fun v2 h2 hq2 => ?_)) (by omega) (by omega)
  obtain ⟨x2, rfl, he, bk2, hI2, hR⟩ := hP2 v2 h2 hq2
  refine j_pop (dQ (by decide +kernel)) rfl ?_
  refine j_goto (off := 1173) (tgt := 1983) (dQ (by decide +kernel)) (by decide) ?_
  exact kk bk2 h2 hI2 hR
set_option maxRecDepth 16384 in
theorem lc_15 {b0 b1 : Nat} {bk : aB} {h : jH} (hI : lwI g n b0 b1 bk h) {i : Int32} (hi : 0 ≤ i.toInt ∧ i.toInt + 6 ≤ (jsN g : Int)) (hN : jsN g ≤ 3072) {mc ms kc ks : Nat} {Q : Option Value → jH → Prop} {R : aB → Prop} (hc : cpS l g n b0 b1 h 53 208 [.int (jsX g (i + Int32.ofInt 1).toNatClampNeg), .int (jsX g (i + Int32.ofInt 2).toNatClampNeg)] mc ms false R)
    (kk : ∀ bk2 h2, lwI g (n + 40) b0 b1 bk2 h2 → R bk2 → J l g 315 100 1983 (lwL g b0 b1 i) [] h2 kc ks Q) : J l g 315 100 813 (lwL g b0 b1 i) [] h (mc + kc) (ms + ks) Q := by
  obtain ⟨d1, m1, s1, P1, hd1, hm1, hs1, hx, hP⟩ := hc
  refine J.room (kc := m1 + kc) (ks := s1 + ks) ?_ (by omega) (by omega)
  refine j_aload_n (k4 := 1) (dQ (by decide +kernel)) rfl ?_
  refine j_aload_n (k4 := 0) (dQ (by decide +kernel)) rfl ?_
  refine j_iload_n (k4 := 3) (dQ (by decide +kernel)) rfl ?_
  refine j_iconst (n := 1) (dQ (by decide +kernel)) ?_
  refine j_iadd (dQ (by decide +kernel)) ?_
  refine j_sld (lw_at hi hN (by decide) (by decide)) (dQ (by decide +kernel)) ?_
  refine j_aload_n (k4 := 0) (dQ (by decide +kernel)) rfl ?_
  refine j_iload_n (k4 := 3) (dQ (by decide +kernel)) rfl ?_
  refine j_iconst (n := 2) (dQ (by decide +kernel)) ?_
  refine j_iadd (dQ (by decide +kernel)) ?_
  refine j_sld (lw_at hi hN (by decide) (by decide)) (dQ (by decide +kernel)) ?_
  obtain ⟨fsx, hcx⟩ := lw_x hI
  refine j_cV (own := 13) (i := 77) (y2 := 53) (d2 := d1) (mc := m1) (ms := s1) (kc := kc) (ks := ks) (a := b0 + 0) (As := [.int (jsX g (i + Int32.ofInt 1).toNatClampNeg), .int (jsX g (i + Int32.ofInt 2).toNatClampNeg)]) (st := []) (dQ (by decide +kernel)) lw_cls (by decide +kernel) (by decide) (by decide +kernel) (show 2 = jnp 53 by decide +kernel) (by omega) (by decide) hcx (fun r hr => by cases hr; decide +kernel) hx (fun v h1 hq => ?_)
  obtain ⟨x1, d2, P2, rfl, hd2, hm, ⟨fsm, hcm⟩, hP2⟩ := hP v h1 hq
  refine j_pop (dQ (by decide +kernel)) rfl ?_
  refine j_aload_n (k4 := 2) (dQ (by decide +kernel)) rfl ?_
  refine j_aload_n (k4 := 0) (dQ (by decide +kernel)) rfl ?_
  refine j_iload_n (k4 := 3) (dQ (by decide +kernel)) rfl ?_
  refine j_iconst (n := 1) (dQ (by decide +kernel)) ?_
  refine j_iadd (dQ (by decide +kernel)) ?_
  refine j_sld (lw_at hi hN (by decide) (by decide)) (dQ (by decide +kernel)) ?_
  refine j_aload_n (k4 := 0) (dQ (by decide +kernel)) rfl ?_
  refine j_iload_n (k4 := 3) (dQ (by decide +kernel)) rfl ?_
  refine j_iconst (n := 2) (dQ (by decide +kernel)) ?_
  refine j_iadd (dQ (by decide +kernel)) ?_
  refine j_sld (lw_at hi hN (by decide) (by decide)) (dQ (by decide +kernel)) ?_
  refine J.room (kc := 0 + kc) (ks := 0 + ks) (j_cV (own := 13) (i := 80) (y2 := 208) (d2 := d2) (mc := 0) (ms := 0) (kc := kc) (ks := ks) (a := b1 + 0) (As := [.int (jsX g (i + Int32.ofInt 1).toNatClampNeg), .int (jsX g (i + Int32.ofInt 2).toNatClampNeg)]) (st := []) (by decide +kernel) lw_cls (by decide +kernel) (by decide) (by decide +kernel) (show 2 = jnp 208 by decide +kernel) (by omega) (by decide) hcm (fun r hr => by cases hr; decide +kernel) hm (fun v2 h2 hq2 => ?_)) (by omega) (by omega)
  obtain ⟨x2, rfl, he, bk2, hI2, hR⟩ := hP2 v2 h2 hq2
  refine j_pop (dQ (by decide +kernel)) rfl ?_
  refine j_goto (off := 1140) (tgt := 1983) (dQ (by decide +kernel)) (by decide) ?_
  exact kk bk2 h2 hI2 hR
set_option maxRecDepth 16384 in
theorem lc_16 {b0 b1 : Nat} {bk : aB} {h : jH} (hI : lwI g n b0 b1 bk h) {i : Int32} (hi : 0 ≤ i.toInt ∧ i.toInt + 6 ≤ (jsN g : Int)) (hN : jsN g ≤ 3072) {mc ms kc ks : Nat} {Q : Option Value → jH → Prop} {R : aB → Prop} (hc : cpS l g n b0 b1 h 54 211 [.int (jsX g (i + Int32.ofInt 1).toNatClampNeg), .int (jsX g (i + Int32.ofInt 2).toNatClampNeg), .int (jsX g (i + Int32.ofInt 3).toNatClampNeg), .int (jsX g (i + Int32.ofInt 4).toNatClampNeg), .int (jsX g (i + Int32.ofInt 5).toNatClampNeg)] mc ms false R)
    (kk : ∀ bk2 h2, lwI g (n + 40) b0 b1 bk2 h2 → R bk2 → J l g 315 100 1983 (lwL g b0 b1 i) [] h2 kc ks Q) : J l g 315 100 846 (lwL g b0 b1 i) [] h (mc + kc) (ms + ks) Q := by
  obtain ⟨d1, m1, s1, P1, hd1, hm1, hs1, hx, hP⟩ := hc
  refine J.room (kc := m1 + kc) (ks := s1 + ks) ?_ (by omega) (by omega)
  refine j_aload_n (k4 := 1) (dQ (by decide +kernel)) rfl ?_
  refine j_aload_n (k4 := 0) (dQ (by decide +kernel)) rfl ?_
  refine j_iload_n (k4 := 3) (dQ (by decide +kernel)) rfl ?_
  refine j_iconst (n := 1) (dQ (by decide +kernel)) ?_
  refine j_iadd (dQ (by decide +kernel)) ?_
  refine j_sld (lw_at hi hN (by decide) (by decide)) (dQ (by decide +kernel)) ?_
  refine j_aload_n (k4 := 0) (dQ (by decide +kernel)) rfl ?_
  refine j_iload_n (k4 := 3) (dQ (by decide +kernel)) rfl ?_
  refine j_iconst (n := 2) (dQ (by decide +kernel)) ?_
  refine j_iadd (dQ (by decide +kernel)) ?_
  refine j_sld (lw_at hi hN (by decide) (by decide)) (dQ (by decide +kernel)) ?_
  refine j_aload_n (k4 := 0) (dQ (by decide +kernel)) rfl ?_
  refine j_iload_n (k4 := 3) (dQ (by decide +kernel)) rfl ?_
  refine j_iconst (n := 3) (dQ (by decide +kernel)) ?_
  refine j_iadd (dQ (by decide +kernel)) ?_
  refine j_sld (lw_at hi hN (by decide) (by decide)) (dQ (by decide +kernel)) ?_
  refine j_aload_n (k4 := 0) (dQ (by decide +kernel)) rfl ?_
  refine j_iload_n (k4 := 3) (dQ (by decide +kernel)) rfl ?_
  refine j_iconst (n := 4) (dQ (by decide +kernel)) ?_
  refine j_iadd (dQ (by decide +kernel)) ?_
  refine j_sld (lw_at hi hN (by decide) (by decide)) (dQ (by decide +kernel)) ?_
  refine j_aload_n (k4 := 0) (dQ (by decide +kernel)) rfl ?_
  refine j_iload_n (k4 := 3) (dQ (by decide +kernel)) rfl ?_
  refine j_iconst (n := 5) (dQ (by decide +kernel)) ?_
  refine j_iadd (dQ (by decide +kernel)) ?_
  refine j_sld (lw_at hi hN (by decide) (by decide)) (dQ (by decide +kernel)) ?_
  obtain ⟨fsx, hcx⟩ := lw_x hI
  refine j_cV (own := 13) (i := 81) (y2 := 54) (d2 := d1) (mc := m1) (ms := s1) (kc := kc) (ks := ks) (a := b0 + 0) (As := [.int (jsX g (i + Int32.ofInt 1).toNatClampNeg), .int (jsX g (i + Int32.ofInt 2).toNatClampNeg), .int (jsX g (i + Int32.ofInt 3).toNatClampNeg), .int (jsX g (i + Int32.ofInt 4).toNatClampNeg), .int (jsX g (i + Int32.ofInt 5).toNatClampNeg)]) (st := []) (dQ (by decide +kernel)) lw_cls (by decide +kernel) (by decide) (by decide +kernel) (show 5 = jnp 54 by decide +kernel) (by omega) (by decide) hcx (fun r hr => by cases hr; decide +kernel) hx (fun v h1 hq => ?_)
  obtain ⟨x1, d2, P2, rfl, hd2, hm, ⟨fsm, hcm⟩, hP2⟩ := hP v h1 hq
  refine j_pop (dQ (by decide +kernel)) rfl ?_
  refine j_aload_n (k4 := 2) (dQ (by decide +kernel)) rfl ?_
  refine j_aload_n (k4 := 0) (dQ (by decide +kernel)) rfl ?_
  refine j_iload_n (k4 := 3) (dQ (by decide +kernel)) rfl ?_
  refine j_iconst (n := 1) (dQ (by decide +kernel)) ?_
  refine j_iadd (dQ (by decide +kernel)) ?_
  refine j_sld (lw_at hi hN (by decide) (by decide)) (dQ (by decide +kernel)) ?_
  refine j_aload_n (k4 := 0) (dQ (by decide +kernel)) rfl ?_
  refine j_iload_n (k4 := 3) (dQ (by decide +kernel)) rfl ?_
  refine j_iconst (n := 2) (dQ (by decide +kernel)) ?_
  refine j_iadd (dQ (by decide +kernel)) ?_
  refine j_sld (lw_at hi hN (by decide) (by decide)) (dQ (by decide +kernel)) ?_
  refine j_aload_n (k4 := 0) (dQ (by decide +kernel)) rfl ?_
  refine j_iload_n (k4 := 3) (dQ (by decide +kernel)) rfl ?_
  refine j_iconst (n := 3) (dQ (by decide +kernel)) ?_
  refine j_iadd (dQ (by decide +kernel)) ?_
  refine j_sld (lw_at hi hN (by decide) (by decide)) (dQ (by decide +kernel)) ?_
  refine j_aload_n (k4 := 0) (dQ (by decide +kernel)) rfl ?_
  refine j_iload_n (k4 := 3) (dQ (by decide +kernel)) rfl ?_
  refine j_iconst (n := 4) (dQ (by decide +kernel)) ?_
  refine j_iadd (dQ (by decide +kernel)) ?_
  refine j_sld (lw_at hi hN (by decide) (by decide)) (dQ (by decide +kernel)) ?_
  refine j_aload_n (k4 := 0) (dQ (by decide +kernel)) rfl ?_
  refine j_iload_n (k4 := 3) (dQ (by decide +kernel)) rfl ?_
  refine j_iconst (n := 5) (dQ (by decide +kernel)) ?_
  refine j_iadd (dQ (by decide +kernel)) ?_
  refine j_sld (lw_at hi hN (by decide) (by decide)) (dQ (by decide +kernel)) ?_
  refine J.room (kc := 0 + kc) (ks := 0 + ks) (j_cV (own := 13) (i := 85) (y2 := 211) (d2 := d2) (mc := 0) (ms := 0) (kc := kc) (ks := ks) (a := b1 + 0) (As := [.int (jsX g (i + Int32.ofInt 1).toNatClampNeg), .int (jsX g (i + Int32.ofInt 2).toNatClampNeg), .int (jsX g (i + Int32.ofInt 3).toNatClampNeg), .int (jsX g (i + Int32.ofInt 4).toNatClampNeg), .int (jsX g (i + Int32.ofInt 5).toNatClampNeg)]) (st := []) (by decide +kernel) lw_cls (by decide +kernel) (by decide) (by decide +kernel) (show 5 = jnp 211 by decide +kernel) (by omega) (by decide) hcm (fun r hr => by cases hr; decide +kernel) hm (fun v2 h2 hq2 => ?_)) (by omega) (by omega)
  obtain ⟨x2, rfl, he, bk2, hI2, hR⟩ := hP2 v2 h2 hq2
  refine j_pop (dQ (by decide +kernel)) rfl ?_
  refine j_goto (off := 1077) (tgt := 1983) (dQ (by decide +kernel)) (by decide) ?_
  exact kk bk2 h2 hI2 hR
set_option maxRecDepth 16384 in
theorem lc_17 {b0 b1 : Nat} {bk : aB} {h : jH} (hI : lwI g n b0 b1 bk h) {i : Int32} (hi : 0 ≤ i.toInt ∧ i.toInt + 6 ≤ (jsN g : Int)) (hN : jsN g ≤ 3072) {mc ms kc ks : Nat} {Q : Option Value → jH → Prop} {R : aB → Prop} (hc : cpS l g n b0 b1 h 56 213 [.int (jsX g (i + Int32.ofInt 1).toNatClampNeg)] mc ms false R)
    (kk : ∀ bk2 h2, lwI g (n + 40) b0 b1 bk2 h2 → R bk2 → J l g 315 100 1983 (lwL g b0 b1 i) [] h2 kc ks Q) : J l g 315 100 909 (lwL g b0 b1 i) [] h (mc + kc) (ms + ks) Q := by
  obtain ⟨d1, m1, s1, P1, hd1, hm1, hs1, hx, hP⟩ := hc
  refine J.room (kc := m1 + kc) (ks := s1 + ks) ?_ (by omega) (by omega)
  refine j_aload_n (k4 := 1) (dQ (by decide +kernel)) rfl ?_
  refine j_aload_n (k4 := 0) (dQ (by decide +kernel)) rfl ?_
  refine j_iload_n (k4 := 3) (dQ (by decide +kernel)) rfl ?_
  refine j_iconst (n := 1) (dQ (by decide +kernel)) ?_
  refine j_iadd (dQ (by decide +kernel)) ?_
  refine j_sld (lw_at hi hN (by decide) (by decide)) (dQ (by decide +kernel)) ?_
  obtain ⟨fsx, hcx⟩ := lw_x hI
  refine j_cV (own := 13) (i := 86) (y2 := 56) (d2 := d1) (mc := m1) (ms := s1) (kc := kc) (ks := ks) (a := b0 + 0) (As := [.int (jsX g (i + Int32.ofInt 1).toNatClampNeg)]) (st := []) (dQ (by decide +kernel)) lw_cls (by decide +kernel) (by decide) (by decide +kernel) (show 1 = jnp 56 by decide +kernel) (by omega) (by decide) hcx (fun r hr => by cases hr; decide +kernel) hx (fun v h1 hq => ?_)
  obtain ⟨x1, d2, P2, rfl, hd2, hm, ⟨fsm, hcm⟩, hP2⟩ := hP v h1 hq
  refine j_pop (dQ (by decide +kernel)) rfl ?_
  refine j_aload_n (k4 := 2) (dQ (by decide +kernel)) rfl ?_
  refine j_aload_n (k4 := 0) (dQ (by decide +kernel)) rfl ?_
  refine j_iload_n (k4 := 3) (dQ (by decide +kernel)) rfl ?_
  refine j_iconst (n := 1) (dQ (by decide +kernel)) ?_
  refine j_iadd (dQ (by decide +kernel)) ?_
  refine j_sld (lw_at hi hN (by decide) (by decide)) (dQ (by decide +kernel)) ?_
  refine J.room (kc := 0 + kc) (ks := 0 + ks) (j_cV (own := 13) (i := 89) (y2 := 213) (d2 := d2) (mc := 0) (ms := 0) (kc := kc) (ks := ks) (a := b1 + 0) (As := [.int (jsX g (i + Int32.ofInt 1).toNatClampNeg)]) (st := []) (by decide +kernel) lw_cls (by decide +kernel) (by decide) (by decide +kernel) (show 1 = jnp 213 by decide +kernel) (by omega) (by decide) hcm (fun r hr => by cases hr; decide +kernel) hm (fun v2 h2 hq2 => ?_)) (by omega) (by omega)
  obtain ⟨x2, rfl, he, bk2, hI2, hR⟩ := hP2 v2 h2 hq2
  refine j_pop (dQ (by decide +kernel)) rfl ?_
  refine j_goto (off := 1054) (tgt := 1983) (dQ (by decide +kernel)) (by decide) ?_
  exact kk bk2 h2 hI2 hR
set_option maxRecDepth 16384 in
theorem lc_18 {b0 b1 : Nat} {bk : aB} {h : jH} (hI : lwI g n b0 b1 bk h) {i : Int32} (hi : 0 ≤ i.toInt ∧ i.toInt + 6 ≤ (jsN g : Int)) (hN : jsN g ≤ 3072) {mc ms kc ks : Nat} {Q : Option Value → jH → Prop} {R : aB → Prop} (hc : cpS l g n b0 b1 h 57 215 [.int (jsX g (i + Int32.ofInt 1).toNatClampNeg)] mc ms false R)
    (kk : ∀ bk2 h2, lwI g (n + 40) b0 b1 bk2 h2 → R bk2 → J l g 315 100 1983 (lwL g b0 b1 i) [] h2 kc ks Q) : J l g 315 100 932 (lwL g b0 b1 i) [] h (mc + kc) (ms + ks) Q := by
  obtain ⟨d1, m1, s1, P1, hd1, hm1, hs1, hx, hP⟩ := hc
  refine J.room (kc := m1 + kc) (ks := s1 + ks) ?_ (by omega) (by omega)
  refine j_aload_n (k4 := 1) (dQ (by decide +kernel)) rfl ?_
  refine j_aload_n (k4 := 0) (dQ (by decide +kernel)) rfl ?_
  refine j_iload_n (k4 := 3) (dQ (by decide +kernel)) rfl ?_
  refine j_iconst (n := 1) (dQ (by decide +kernel)) ?_
  refine j_iadd (dQ (by decide +kernel)) ?_
  refine j_sld (lw_at hi hN (by decide) (by decide)) (dQ (by decide +kernel)) ?_
  obtain ⟨fsx, hcx⟩ := lw_x hI
  refine j_cV (own := 13) (i := 90) (y2 := 57) (d2 := d1) (mc := m1) (ms := s1) (kc := kc) (ks := ks) (a := b0 + 0) (As := [.int (jsX g (i + Int32.ofInt 1).toNatClampNeg)]) (st := []) (dQ (by decide +kernel)) lw_cls (by decide +kernel) (by decide) (by decide +kernel) (show 1 = jnp 57 by decide +kernel) (by omega) (by decide) hcx (fun r hr => by cases hr; decide +kernel) hx (fun v h1 hq => ?_)
  obtain ⟨x1, d2, P2, rfl, hd2, hm, ⟨fsm, hcm⟩, hP2⟩ := hP v h1 hq
  refine j_pop (dQ (by decide +kernel)) rfl ?_
  refine j_aload_n (k4 := 2) (dQ (by decide +kernel)) rfl ?_
  refine j_aload_n (k4 := 0) (dQ (by decide +kernel)) rfl ?_
  refine j_iload_n (k4 := 3) (dQ (by decide +kernel)) rfl ?_
  refine j_iconst (n := 1) (dQ (by decide +kernel)) ?_
  refine j_iadd (dQ (by decide +kernel)) ?_
  refine j_sld (lw_at hi hN (by decide) (by decide)) (dQ (by decide +kernel)) ?_
  refine J.room (kc := 0 + kc) (ks := 0 + ks) (j_cV (own := 13) (i := 93) (y2 := 215) (d2 := d2) (mc := 0) (ms := 0) (kc := kc) (ks := ks) (a := b1 + 0) (As := [.int (jsX g (i + Int32.ofInt 1).toNatClampNeg)]) (st := []) (by decide +kernel) lw_cls (by decide +kernel) (by decide) (by decide +kernel) (show 1 = jnp 215 by decide +kernel) (by omega) (by decide) hcm (fun r hr => by cases hr; decide +kernel) hm (fun v2 h2 hq2 => ?_)) (by omega) (by omega)
  obtain ⟨x2, rfl, he, bk2, hI2, hR⟩ := hP2 v2 h2 hq2
  refine j_pop (dQ (by decide +kernel)) rfl ?_
  refine j_goto (off := 1031) (tgt := 1983) (dQ (by decide +kernel)) (by decide) ?_
  exact kk bk2 h2 hI2 hR
set_option maxRecDepth 16384 in
theorem lc_19 {b0 b1 : Nat} {bk : aB} {h : jH} (hI : lwI g n b0 b1 bk h) {i : Int32} (hi : 0 ≤ i.toInt ∧ i.toInt + 6 ≤ (jsN g : Int)) (hN : jsN g ≤ 3072) {mc ms kc ks : Nat} {Q : Option Value → jH → Prop} {R : aB → Prop} (hc : cpS l g n b0 b1 h 58 217 [] mc ms false R)
    (kk : ∀ bk2 h2, lwI g (n + 40) b0 b1 bk2 h2 → R bk2 → J l g 315 100 1983 (lwL g b0 b1 i) [] h2 kc ks Q) : J l g 315 100 955 (lwL g b0 b1 i) [] h (mc + kc) (ms + ks) Q := by
  obtain ⟨d1, m1, s1, P1, hd1, hm1, hs1, hx, hP⟩ := hc
  refine J.room (kc := m1 + kc) (ks := s1 + ks) ?_ (by omega) (by omega)
  refine j_aload_n (k4 := 1) (dQ (by decide +kernel)) rfl ?_
  obtain ⟨fsx, hcx⟩ := lw_x hI
  refine j_cV (own := 13) (i := 94) (y2 := 58) (d2 := d1) (mc := m1) (ms := s1) (kc := kc) (ks := ks) (a := b0 + 0) (As := []) (st := []) (dQ (by decide +kernel)) lw_cls (by decide +kernel) (by decide) (by decide +kernel) (show 0 = jnp 58 by decide +kernel) (by omega) (by decide) hcx (fun r hr => by cases hr; decide +kernel) hx (fun v h1 hq => ?_)
  obtain ⟨x1, d2, P2, rfl, hd2, hm, ⟨fsm, hcm⟩, hP2⟩ := hP v h1 hq
  refine j_pop (dQ (by decide +kernel)) rfl ?_
  refine j_aload_n (k4 := 2) (dQ (by decide +kernel)) rfl ?_
  refine J.room (kc := 0 + kc) (ks := 0 + ks) (j_cV (own := 13) (i := 98) (y2 := 217) (d2 := d2) (mc := 0) (ms := 0) (kc := kc) (ks := ks) (a := b1 + 0) (As := []) (st := []) (by decide +kernel) lw_cls (by decide +kernel) (by decide) (by decide +kernel) (show 0 = jnp 217 by decide +kernel) (by omega) (by decide) hcm (fun r hr => by cases hr; decide +kernel) hm (fun v2 h2 hq2 => ?_)) (by omega) (by omega)
  obtain ⟨x2, rfl, he, bk2, hI2, hR⟩ := hP2 v2 h2 hq2
  refine j_pop (dQ (by decide +kernel)) rfl ?_
  refine j_goto (off := 1018) (tgt := 1983) (dQ (by decide +kernel)) (by decide) ?_
  exact kk bk2 h2 hI2 hR
set_option maxRecDepth 16384 in
theorem lc_20 {b0 b1 : Nat} {bk : aB} {h : jH} (hI : lwI g n b0 b1 bk h) {i : Int32} (hi : 0 ≤ i.toInt ∧ i.toInt + 6 ≤ (jsN g : Int)) (hN : jsN g ≤ 3072) {mc ms kc ks : Nat} {Q : Option Value → jH → Prop} {R : aB → Prop} (hc : cpS l g n b0 b1 h 93 214 [] mc ms false R)
    (kk : ∀ bk2 h2, lwI g (n + 40) b0 b1 bk2 h2 → R bk2 → J l g 315 100 1983 (lwL g b0 b1 i) [] h2 kc ks Q) : J l g 315 100 968 (lwL g b0 b1 i) [] h (mc + kc) (ms + ks) Q := by
  obtain ⟨d1, m1, s1, P1, hd1, hm1, hs1, hx, hP⟩ := hc
  refine J.room (kc := m1 + kc) (ks := s1 + ks) ?_ (by omega) (by omega)
  refine j_aload_n (k4 := 1) (dQ (by decide +kernel)) rfl ?_
  obtain ⟨fsx, hcx⟩ := lw_x hI
  refine j_cV (own := 13) (i := 99) (y2 := 93) (d2 := d1) (mc := m1) (ms := s1) (kc := kc) (ks := ks) (a := b0 + 0) (As := []) (st := []) (dQ (by decide +kernel)) lw_cls (by decide +kernel) (by decide) (by decide +kernel) (show 0 = jnp 93 by decide +kernel) (by omega) (by decide) hcx (fun r hr => by cases hr; decide +kernel) hx (fun v h1 hq => ?_)
  obtain ⟨x1, d2, P2, rfl, hd2, hm, ⟨fsm, hcm⟩, hP2⟩ := hP v h1 hq
  refine j_pop (dQ (by decide +kernel)) rfl ?_
  refine j_aload_n (k4 := 2) (dQ (by decide +kernel)) rfl ?_
  refine J.room (kc := 0 + kc) (ks := 0 + ks) (j_cV (own := 13) (i := 102) (y2 := 214) (d2 := d2) (mc := 0) (ms := 0) (kc := kc) (ks := ks) (a := b1 + 0) (As := []) (st := []) (by decide +kernel) lw_cls (by decide +kernel) (by decide) (by decide +kernel) (show 0 = jnp 214 by decide +kernel) (by omega) (by decide) hcm (fun r hr => by cases hr; decide +kernel) hm (fun v2 h2 hq2 => ?_)) (by omega) (by omega)
  obtain ⟨x2, rfl, he, bk2, hI2, hR⟩ := hP2 v2 h2 hq2
  refine j_pop (dQ (by decide +kernel)) rfl ?_
  refine j_goto (off := 1005) (tgt := 1983) (dQ (by decide +kernel)) (by decide) ?_
  exact kk bk2 h2 hI2 hR
set_option maxRecDepth 16384 in
theorem lc_21 {b0 b1 : Nat} {bk : aB} {h : jH} (hI : lwI g n b0 b1 bk h) {i : Int32} (hi : 0 ≤ i.toInt ∧ i.toInt + 6 ≤ (jsN g : Int)) (hN : jsN g ≤ 3072) {mc ms kc ks : Nat} {Q : Option Value → jH → Prop} {R : aB → Prop} (hc : cpS l g n b0 b1 h 94 262 [] mc ms false R)
    (kk : ∀ bk2 h2, lwI g (n + 40) b0 b1 bk2 h2 → R bk2 → J l g 315 100 1983 (lwL g b0 b1 i) [] h2 kc ks Q) : J l g 315 100 981 (lwL g b0 b1 i) [] h (mc + kc) (ms + ks) Q := by
  obtain ⟨d1, m1, s1, P1, hd1, hm1, hs1, hx, hP⟩ := hc
  refine J.room (kc := m1 + kc) (ks := s1 + ks) ?_ (by omega) (by omega)
  refine j_aload_n (k4 := 1) (dQ (by decide +kernel)) rfl ?_
  obtain ⟨fsx, hcx⟩ := lw_x hI
  refine j_cV (own := 13) (i := 103) (y2 := 94) (d2 := d1) (mc := m1) (ms := s1) (kc := kc) (ks := ks) (a := b0 + 0) (As := []) (st := []) (dQ (by decide +kernel)) lw_cls (by decide +kernel) (by decide) (by decide +kernel) (show 0 = jnp 94 by decide +kernel) (by omega) (by decide) hcx (fun r hr => by cases hr; decide +kernel) hx (fun v h1 hq => ?_)
  obtain ⟨x1, d2, P2, rfl, hd2, hm, ⟨fsm, hcm⟩, hP2⟩ := hP v h1 hq
  refine j_pop (dQ (by decide +kernel)) rfl ?_
  refine j_aload_n (k4 := 2) (dQ (by decide +kernel)) rfl ?_
  refine J.room (kc := 0 + kc) (ks := 0 + ks) (j_cV (own := 13) (i := 106) (y2 := 262) (d2 := d2) (mc := 0) (ms := 0) (kc := kc) (ks := ks) (a := b1 + 0) (As := []) (st := []) (by decide +kernel) lw_cls (by decide +kernel) (by decide) (by decide +kernel) (show 0 = jnp 262 by decide +kernel) (by omega) (by decide) hcm (fun r hr => by cases hr; decide +kernel) hm (fun v2 h2 hq2 => ?_)) (by omega) (by omega)
  obtain ⟨x2, rfl, he, bk2, hI2, hR⟩ := hP2 v2 h2 hq2
  refine j_pop (dQ (by decide +kernel)) rfl ?_
  refine j_goto (off := 992) (tgt := 1983) (dQ (by decide +kernel)) (by decide) ?_
  exact kk bk2 h2 hI2 hR
set_option maxRecDepth 16384 in
theorem lc_22 {b0 b1 : Nat} {bk : aB} {h : jH} (hI : lwI g n b0 b1 bk h) {i : Int32} (hi : 0 ≤ i.toInt ∧ i.toInt + 6 ≤ (jsN g : Int)) (hN : jsN g ≤ 3072) {mc ms kc ks : Nat} {Q : Option Value → jH → Prop} {R : aB → Prop} (hc : cpS l g n b0 b1 h 109 275 [.int (jsX g (i + Int32.ofInt 1).toNatClampNeg)] mc ms false R)
    (kk : ∀ bk2 h2, lwI g (n + 40) b0 b1 bk2 h2 → R bk2 → J l g 315 100 1983 (lwL g b0 b1 i) [] h2 kc ks Q) : J l g 315 100 994 (lwL g b0 b1 i) [] h (mc + kc) (ms + ks) Q := by
  obtain ⟨d1, m1, s1, P1, hd1, hm1, hs1, hx, hP⟩ := hc
  refine J.room (kc := m1 + kc) (ks := s1 + ks) ?_ (by omega) (by omega)
  refine j_aload_n (k4 := 1) (dQ (by decide +kernel)) rfl ?_
  refine j_aload_n (k4 := 0) (dQ (by decide +kernel)) rfl ?_
  refine j_iload_n (k4 := 3) (dQ (by decide +kernel)) rfl ?_
  refine j_iconst (n := 1) (dQ (by decide +kernel)) ?_
  refine j_iadd (dQ (by decide +kernel)) ?_
  refine j_sld (lw_at hi hN (by decide) (by decide)) (dQ (by decide +kernel)) ?_
  obtain ⟨fsx, hcx⟩ := lw_x hI
  refine j_cV (own := 13) (i := 107) (y2 := 109) (d2 := d1) (mc := m1) (ms := s1) (kc := kc) (ks := ks) (a := b0 + 0) (As := [.int (jsX g (i + Int32.ofInt 1).toNatClampNeg)]) (st := []) (dQ (by decide +kernel)) lw_cls (by decide +kernel) (by decide) (by decide +kernel) (show 1 = jnp 109 by decide +kernel) (by omega) (by decide) hcx (fun r hr => by cases hr; decide +kernel) hx (fun v h1 hq => ?_)
  obtain ⟨x1, d2, P2, rfl, hd2, hm, ⟨fsm, hcm⟩, hP2⟩ := hP v h1 hq
  refine j_pop (dQ (by decide +kernel)) rfl ?_
  refine j_aload_n (k4 := 2) (dQ (by decide +kernel)) rfl ?_
  refine j_aload_n (k4 := 0) (dQ (by decide +kernel)) rfl ?_
  refine j_iload_n (k4 := 3) (dQ (by decide +kernel)) rfl ?_
  refine j_iconst (n := 1) (dQ (by decide +kernel)) ?_
  refine j_iadd (dQ (by decide +kernel)) ?_
  refine j_sld (lw_at hi hN (by decide) (by decide)) (dQ (by decide +kernel)) ?_
  refine J.room (kc := 0 + kc) (ks := 0 + ks) (j_cV (own := 13) (i := 110) (y2 := 275) (d2 := d2) (mc := 0) (ms := 0) (kc := kc) (ks := ks) (a := b1 + 0) (As := [.int (jsX g (i + Int32.ofInt 1).toNatClampNeg)]) (st := []) (by decide +kernel) lw_cls (by decide +kernel) (by decide) (by decide +kernel) (show 1 = jnp 275 by decide +kernel) (by omega) (by decide) hcm (fun r hr => by cases hr; decide +kernel) hm (fun v2 h2 hq2 => ?_)) (by omega) (by omega)
  obtain ⟨x2, rfl, he, bk2, hI2, hR⟩ := hP2 v2 h2 hq2
  refine j_pop (dQ (by decide +kernel)) rfl ?_
  refine j_goto (off := 969) (tgt := 1983) (dQ (by decide +kernel)) (by decide) ?_
  exact kk bk2 h2 hI2 hR
set_option maxRecDepth 16384 in
theorem lc_23 {b0 b1 : Nat} {bk : aB} {h : jH} (hI : lwI g n b0 b1 bk h) {i : Int32} (hi : 0 ≤ i.toInt ∧ i.toInt + 6 ≤ (jsN g : Int)) (hN : jsN g ≤ 3072) {mc ms kc ks : Nat} {Q : Option Value → jH → Prop} {R : aB → Prop} (hc : cpS l g n b0 b1 h 110 276 [.int (jsX g (i + Int32.ofInt 1).toNatClampNeg)] mc ms false R)
    (kk : ∀ bk2 h2, lwI g (n + 40) b0 b1 bk2 h2 → R bk2 → J l g 315 100 1983 (lwL g b0 b1 i) [] h2 kc ks Q) : J l g 315 100 1017 (lwL g b0 b1 i) [] h (mc + kc) (ms + ks) Q := by
  obtain ⟨d1, m1, s1, P1, hd1, hm1, hs1, hx, hP⟩ := hc
  refine J.room (kc := m1 + kc) (ks := s1 + ks) ?_ (by omega) (by omega)
  refine j_aload_n (k4 := 1) (dQ (by decide +kernel)) rfl ?_
  refine j_aload_n (k4 := 0) (dQ (by decide +kernel)) rfl ?_
  refine j_iload_n (k4 := 3) (dQ (by decide +kernel)) rfl ?_
  refine j_iconst (n := 1) (dQ (by decide +kernel)) ?_
  refine j_iadd (dQ (by decide +kernel)) ?_
  refine j_sld (lw_at hi hN (by decide) (by decide)) (dQ (by decide +kernel)) ?_
  obtain ⟨fsx, hcx⟩ := lw_x hI
  refine j_cV (own := 13) (i := 111) (y2 := 110) (d2 := d1) (mc := m1) (ms := s1) (kc := kc) (ks := ks) (a := b0 + 0) (As := [.int (jsX g (i + Int32.ofInt 1).toNatClampNeg)]) (st := []) (dQ (by decide +kernel)) lw_cls (by decide +kernel) (by decide) (by decide +kernel) (show 1 = jnp 110 by decide +kernel) (by omega) (by decide) hcx (fun r hr => by cases hr; decide +kernel) hx (fun v h1 hq => ?_)
  obtain ⟨x1, d2, P2, rfl, hd2, hm, ⟨fsm, hcm⟩, hP2⟩ := hP v h1 hq
  refine j_pop (dQ (by decide +kernel)) rfl ?_
  refine j_aload_n (k4 := 2) (dQ (by decide +kernel)) rfl ?_
  refine j_aload_n (k4 := 0) (dQ (by decide +kernel)) rfl ?_
  refine j_iload_n (k4 := 3) (dQ (by decide +kernel)) rfl ?_
  refine j_iconst (n := 1) (dQ (by decide +kernel)) ?_
  refine j_iadd (dQ (by decide +kernel)) ?_
  refine j_sld (lw_at hi hN (by decide) (by decide)) (dQ (by decide +kernel)) ?_
  refine J.room (kc := 0 + kc) (ks := 0 + ks) (j_cV (own := 13) (i := 114) (y2 := 276) (d2 := d2) (mc := 0) (ms := 0) (kc := kc) (ks := ks) (a := b1 + 0) (As := [.int (jsX g (i + Int32.ofInt 1).toNatClampNeg)]) (st := []) (by decide +kernel) lw_cls (by decide +kernel) (by decide) (by decide +kernel) (show 1 = jnp 276 by decide +kernel) (by omega) (by decide) hcm (fun r hr => by cases hr; decide +kernel) hm (fun v2 h2 hq2 => ?_)) (by omega) (by omega)
  obtain ⟨x2, rfl, he, bk2, hI2, hR⟩ := hP2 v2 h2 hq2
  refine j_pop (dQ (by decide +kernel)) rfl ?_
  refine j_goto (off := 946) (tgt := 1983) (dQ (by decide +kernel)) (by decide) ?_
  exact kk bk2 h2 hI2 hR
set_option maxRecDepth 16384 in
theorem lc_24 {b0 b1 : Nat} {bk : aB} {h : jH} (hI : lwI g n b0 b1 bk h) {i : Int32} (hi : 0 ≤ i.toInt ∧ i.toInt + 6 ≤ (jsN g : Int)) (hN : jsN g ≤ 3072) {mc ms kc ks : Nat} {Q : Option Value → jH → Prop} {R : aB → Prop} (hc : cpS l g n b0 b1 h 112 277 [.int (jsX g (i + Int32.ofInt 1).toNatClampNeg), .int (jsX g (i + Int32.ofInt 2).toNatClampNeg)] mc ms false R)
    (kk : ∀ bk2 h2, lwI g (n + 40) b0 b1 bk2 h2 → R bk2 → J l g 315 100 1983 (lwL g b0 b1 i) [] h2 kc ks Q) : J l g 315 100 1040 (lwL g b0 b1 i) [] h (mc + kc) (ms + ks) Q := by
  obtain ⟨d1, m1, s1, P1, hd1, hm1, hs1, hx, hP⟩ := hc
  refine J.room (kc := m1 + kc) (ks := s1 + ks) ?_ (by omega) (by omega)
  refine j_aload_n (k4 := 1) (dQ (by decide +kernel)) rfl ?_
  refine j_aload_n (k4 := 0) (dQ (by decide +kernel)) rfl ?_
  refine j_iload_n (k4 := 3) (dQ (by decide +kernel)) rfl ?_
  refine j_iconst (n := 1) (dQ (by decide +kernel)) ?_
  refine j_iadd (dQ (by decide +kernel)) ?_
  refine j_sld (lw_at hi hN (by decide) (by decide)) (dQ (by decide +kernel)) ?_
  refine j_aload_n (k4 := 0) (dQ (by decide +kernel)) rfl ?_
  refine j_iload_n (k4 := 3) (dQ (by decide +kernel)) rfl ?_
  refine j_iconst (n := 2) (dQ (by decide +kernel)) ?_
  refine j_iadd (dQ (by decide +kernel)) ?_
  refine j_sld (lw_at hi hN (by decide) (by decide)) (dQ (by decide +kernel)) ?_
  obtain ⟨fsx, hcx⟩ := lw_x hI
  refine j_cV (own := 13) (i := 115) (y2 := 112) (d2 := d1) (mc := m1) (ms := s1) (kc := kc) (ks := ks) (a := b0 + 0) (As := [.int (jsX g (i + Int32.ofInt 1).toNatClampNeg), .int (jsX g (i + Int32.ofInt 2).toNatClampNeg)]) (st := []) (dQ (by decide +kernel)) lw_cls (by decide +kernel) (by decide) (by decide +kernel) (show 2 = jnp 112 by decide +kernel) (by omega) (by decide) hcx (fun r hr => by cases hr; decide +kernel) hx (fun v h1 hq => ?_)
  obtain ⟨x1, d2, P2, rfl, hd2, hm, ⟨fsm, hcm⟩, hP2⟩ := hP v h1 hq
  refine j_pop (dQ (by decide +kernel)) rfl ?_
  refine j_aload_n (k4 := 2) (dQ (by decide +kernel)) rfl ?_
  refine j_aload_n (k4 := 0) (dQ (by decide +kernel)) rfl ?_
  refine j_iload_n (k4 := 3) (dQ (by decide +kernel)) rfl ?_
  refine j_iconst (n := 1) (dQ (by decide +kernel)) ?_
  refine j_iadd (dQ (by decide +kernel)) ?_
  refine j_sld (lw_at hi hN (by decide) (by decide)) (dQ (by decide +kernel)) ?_
  refine j_aload_n (k4 := 0) (dQ (by decide +kernel)) rfl ?_
  refine j_iload_n (k4 := 3) (dQ (by decide +kernel)) rfl ?_
  refine j_iconst (n := 2) (dQ (by decide +kernel)) ?_
  refine j_iadd (dQ (by decide +kernel)) ?_
  refine j_sld (lw_at hi hN (by decide) (by decide)) (dQ (by decide +kernel)) ?_
  refine J.room (kc := 0 + kc) (ks := 0 + ks) (j_cV (own := 13) (i := 118) (y2 := 277) (d2 := d2) (mc := 0) (ms := 0) (kc := kc) (ks := ks) (a := b1 + 0) (As := [.int (jsX g (i + Int32.ofInt 1).toNatClampNeg), .int (jsX g (i + Int32.ofInt 2).toNatClampNeg)]) (st := []) (by decide +kernel) lw_cls (by decide +kernel) (by decide) (by decide +kernel) (show 2 = jnp 277 by decide +kernel) (by omega) (by decide) hcm (fun r hr => by cases hr; decide +kernel) hm (fun v2 h2 hq2 => ?_)) (by omega) (by omega)
  obtain ⟨x2, rfl, he, bk2, hI2, hR⟩ := hP2 v2 h2 hq2
  refine j_pop (dQ (by decide +kernel)) rfl ?_
  refine j_goto (off := 913) (tgt := 1983) (dQ (by decide +kernel)) (by decide) ?_
  exact kk bk2 h2 hI2 hR
set_option maxRecDepth 16384 in
theorem lc_25 {b0 b1 : Nat} {bk : aB} {h : jH} (hI : lwI g n b0 b1 bk h) {i : Int32} (hi : 0 ≤ i.toInt ∧ i.toInt + 6 ≤ (jsN g : Int)) (hN : jsN g ≤ 3072) {mc ms kc ks : Nat} {Q : Option Value → jH → Prop} {R : aB → Prop} (hc : cpS l g n b0 b1 h 114 270 [.int (jsX g (i + Int32.ofInt 1).toNatClampNeg), .int (jsX g (i + Int32.ofInt 2).toNatClampNeg)] mc ms false R)
    (kk : ∀ bk2 h2, lwI g (n + 40) b0 b1 bk2 h2 → R bk2 → J l g 315 100 1983 (lwL g b0 b1 i) [] h2 kc ks Q) : J l g 315 100 1073 (lwL g b0 b1 i) [] h (mc + kc) (ms + ks) Q := by
  obtain ⟨d1, m1, s1, P1, hd1, hm1, hs1, hx, hP⟩ := hc
  refine J.room (kc := m1 + kc) (ks := s1 + ks) ?_ (by omega) (by omega)
  refine j_aload_n (k4 := 1) (dQ (by decide +kernel)) rfl ?_
  refine j_aload_n (k4 := 0) (dQ (by decide +kernel)) rfl ?_
  refine j_iload_n (k4 := 3) (dQ (by decide +kernel)) rfl ?_
  refine j_iconst (n := 1) (dQ (by decide +kernel)) ?_
  refine j_iadd (dQ (by decide +kernel)) ?_
  refine j_sld (lw_at hi hN (by decide) (by decide)) (dQ (by decide +kernel)) ?_
  refine j_aload_n (k4 := 0) (dQ (by decide +kernel)) rfl ?_
  refine j_iload_n (k4 := 3) (dQ (by decide +kernel)) rfl ?_
  refine j_iconst (n := 2) (dQ (by decide +kernel)) ?_
  refine j_iadd (dQ (by decide +kernel)) ?_
  refine j_sld (lw_at hi hN (by decide) (by decide)) (dQ (by decide +kernel)) ?_
  obtain ⟨fsx, hcx⟩ := lw_x hI
  refine j_cV (own := 13) (i := 119) (y2 := 114) (d2 := d1) (mc := m1) (ms := s1) (kc := kc) (ks := ks) (a := b0 + 0) (As := [.int (jsX g (i + Int32.ofInt 1).toNatClampNeg), .int (jsX g (i + Int32.ofInt 2).toNatClampNeg)]) (st := []) (dQ (by decide +kernel)) lw_cls (by decide +kernel) (by decide) (by decide +kernel) (show 2 = jnp 114 by decide +kernel) (by omega) (by decide) hcx (fun r hr => by cases hr; decide +kernel) hx (fun v h1 hq => ?_)
  obtain ⟨x1, d2, P2, rfl, hd2, hm, ⟨fsm, hcm⟩, hP2⟩ := hP v h1 hq
  refine j_pop (dQ (by decide +kernel)) rfl ?_
  refine j_aload_n (k4 := 2) (dQ (by decide +kernel)) rfl ?_
  refine j_aload_n (k4 := 0) (dQ (by decide +kernel)) rfl ?_
  refine j_iload_n (k4 := 3) (dQ (by decide +kernel)) rfl ?_
  refine j_iconst (n := 1) (dQ (by decide +kernel)) ?_
  refine j_iadd (dQ (by decide +kernel)) ?_
  refine j_sld (lw_at hi hN (by decide) (by decide)) (dQ (by decide +kernel)) ?_
  refine j_aload_n (k4 := 0) (dQ (by decide +kernel)) rfl ?_
  refine j_iload_n (k4 := 3) (dQ (by decide +kernel)) rfl ?_
  refine j_iconst (n := 2) (dQ (by decide +kernel)) ?_
  refine j_iadd (dQ (by decide +kernel)) ?_
  refine j_sld (lw_at hi hN (by decide) (by decide)) (dQ (by decide +kernel)) ?_
  refine J.room (kc := 0 + kc) (ks := 0 + ks) (j_cV (own := 13) (i := 122) (y2 := 270) (d2 := d2) (mc := 0) (ms := 0) (kc := kc) (ks := ks) (a := b1 + 0) (As := [.int (jsX g (i + Int32.ofInt 1).toNatClampNeg), .int (jsX g (i + Int32.ofInt 2).toNatClampNeg)]) (st := []) (by decide +kernel) lw_cls (by decide +kernel) (by decide) (by decide +kernel) (show 2 = jnp 270 by decide +kernel) (by omega) (by decide) hcm (fun r hr => by cases hr; decide +kernel) hm (fun v2 h2 hq2 => ?_)) (by omega) (by omega)
  obtain ⟨x2, rfl, he, bk2, hI2, hR⟩ := hP2 v2 h2 hq2
  refine j_pop (dQ (by decide +kernel)) rfl ?_
  refine j_goto (off := 880) (tgt := 1983) (dQ (by decide +kernel)) (by decide) ?_
  exact kk bk2 h2 hI2 hR
set_option maxRecDepth 16384 in
theorem lc_26 {b0 b1 : Nat} {bk : aB} {h : jH} (hI : lwI g n b0 b1 bk h) {i : Int32} (hi : 0 ≤ i.toInt ∧ i.toInt + 6 ≤ (jsN g : Int)) (hN : jsN g ≤ 3072) {mc ms kc ks : Nat} {Q : Option Value → jH → Prop} {R : aB → Prop} (hc : cpS l g n b0 b1 h 116 271 [.int (jsX g (i + Int32.ofInt 1).toNatClampNeg)] mc ms false R)
    (kk : ∀ bk2 h2, lwI g (n + 40) b0 b1 bk2 h2 → R bk2 → J l g 315 100 1983 (lwL g b0 b1 i) [] h2 kc ks Q) : J l g 315 100 1106 (lwL g b0 b1 i) [] h (mc + kc) (ms + ks) Q := by
  obtain ⟨d1, m1, s1, P1, hd1, hm1, hs1, hx, hP⟩ := hc
  refine J.room (kc := m1 + kc) (ks := s1 + ks) ?_ (by omega) (by omega)
  refine j_aload_n (k4 := 1) (dQ (by decide +kernel)) rfl ?_
  refine j_aload_n (k4 := 0) (dQ (by decide +kernel)) rfl ?_
  refine j_iload_n (k4 := 3) (dQ (by decide +kernel)) rfl ?_
  refine j_iconst (n := 1) (dQ (by decide +kernel)) ?_
  refine j_iadd (dQ (by decide +kernel)) ?_
  refine j_sld (lw_at hi hN (by decide) (by decide)) (dQ (by decide +kernel)) ?_
  obtain ⟨fsx, hcx⟩ := lw_x hI
  refine j_cV (own := 13) (i := 123) (y2 := 116) (d2 := d1) (mc := m1) (ms := s1) (kc := kc) (ks := ks) (a := b0 + 0) (As := [.int (jsX g (i + Int32.ofInt 1).toNatClampNeg)]) (st := []) (dQ (by decide +kernel)) lw_cls (by decide +kernel) (by decide) (by decide +kernel) (show 1 = jnp 116 by decide +kernel) (by omega) (by decide) hcx (fun r hr => by cases hr; decide +kernel) hx (fun v h1 hq => ?_)
  obtain ⟨x1, d2, P2, rfl, hd2, hm, ⟨fsm, hcm⟩, hP2⟩ := hP v h1 hq
  refine j_pop (dQ (by decide +kernel)) rfl ?_
  refine j_aload_n (k4 := 2) (dQ (by decide +kernel)) rfl ?_
  refine j_aload_n (k4 := 0) (dQ (by decide +kernel)) rfl ?_
  refine j_iload_n (k4 := 3) (dQ (by decide +kernel)) rfl ?_
  refine j_iconst (n := 1) (dQ (by decide +kernel)) ?_
  refine j_iadd (dQ (by decide +kernel)) ?_
  refine j_sld (lw_at hi hN (by decide) (by decide)) (dQ (by decide +kernel)) ?_
  refine J.room (kc := 0 + kc) (ks := 0 + ks) (j_cV (own := 13) (i := 126) (y2 := 271) (d2 := d2) (mc := 0) (ms := 0) (kc := kc) (ks := ks) (a := b1 + 0) (As := [.int (jsX g (i + Int32.ofInt 1).toNatClampNeg)]) (st := []) (by decide +kernel) lw_cls (by decide +kernel) (by decide) (by decide +kernel) (show 1 = jnp 271 by decide +kernel) (by omega) (by decide) hcm (fun r hr => by cases hr; decide +kernel) hm (fun v2 h2 hq2 => ?_)) (by omega) (by omega)
  obtain ⟨x2, rfl, he, bk2, hI2, hR⟩ := hP2 v2 h2 hq2
  refine j_pop (dQ (by decide +kernel)) rfl ?_
  refine j_goto (off := 857) (tgt := 1983) (dQ (by decide +kernel)) (by decide) ?_
  exact kk bk2 h2 hI2 hR
set_option maxRecDepth 16384 in
theorem lc_27 {b0 b1 : Nat} {bk : aB} {h : jH} (hI : lwI g n b0 b1 bk h) {i : Int32} (hi : 0 ≤ i.toInt ∧ i.toInt + 6 ≤ (jsN g : Int)) (hN : jsN g ≤ 3072) {mc ms kc ks : Nat} {Q : Option Value → jH → Prop} {R : aB → Prop} (hc : cpS l g n b0 b1 h 119 272 [] mc ms false R)
    (kk : ∀ bk2 h2, lwI g (n + 40) b0 b1 bk2 h2 → R bk2 → J l g 315 100 1983 (lwL g b0 b1 i) [] h2 kc ks Q) : J l g 315 100 1129 (lwL g b0 b1 i) [] h (mc + kc) (ms + ks) Q := by
  obtain ⟨d1, m1, s1, P1, hd1, hm1, hs1, hx, hP⟩ := hc
  refine J.room (kc := m1 + kc) (ks := s1 + ks) ?_ (by omega) (by omega)
  refine j_aload_n (k4 := 1) (dQ (by decide +kernel)) rfl ?_
  obtain ⟨fsx, hcx⟩ := lw_x hI
  refine j_cV (own := 13) (i := 127) (y2 := 119) (d2 := d1) (mc := m1) (ms := s1) (kc := kc) (ks := ks) (a := b0 + 0) (As := []) (st := []) (dQ (by decide +kernel)) lw_cls (by decide +kernel) (by decide) (by decide +kernel) (show 0 = jnp 119 by decide +kernel) (by omega) (by decide) hcx (fun r hr => by cases hr; decide +kernel) hx (fun v h1 hq => ?_)
  obtain ⟨x1, d2, P2, rfl, hd2, hm, ⟨fsm, hcm⟩, hP2⟩ := hP v h1 hq
  refine j_pop (dQ (by decide +kernel)) rfl ?_
  refine j_aload_n (k4 := 2) (dQ (by decide +kernel)) rfl ?_
  refine J.room (kc := 0 + kc) (ks := 0 + ks) (j_cV (own := 13) (i := 130) (y2 := 272) (d2 := d2) (mc := 0) (ms := 0) (kc := kc) (ks := ks) (a := b1 + 0) (As := []) (st := []) (by decide +kernel) lw_cls (by decide +kernel) (by decide) (by decide +kernel) (show 0 = jnp 272 by decide +kernel) (by omega) (by decide) hcm (fun r hr => by cases hr; decide +kernel) hm (fun v2 h2 hq2 => ?_)) (by omega) (by omega)
  obtain ⟨x2, rfl, he, bk2, hI2, hR⟩ := hP2 v2 h2 hq2
  refine j_pop (dQ (by decide +kernel)) rfl ?_
  refine j_goto (off := 844) (tgt := 1983) (dQ (by decide +kernel)) (by decide) ?_
  exact kk bk2 h2 hI2 hR
set_option maxRecDepth 16384 in
theorem lc_28 {b0 b1 : Nat} {bk : aB} {h : jH} (hI : lwI g n b0 b1 bk h) {i : Int32} (hi : 0 ≤ i.toInt ∧ i.toInt + 6 ≤ (jsN g : Int)) (hN : jsN g ≤ 3072) {mc ms kc ks : Nat} {Q : Option Value → jH → Prop} {R : aB → Prop} (hc : cpS l g n b0 b1 h 122 274 [.int (jsX g (i + Int32.ofInt 1).toNatClampNeg)] mc ms false R)
    (kk : ∀ bk2 h2, lwI g (n + 40) b0 b1 bk2 h2 → R bk2 → J l g 315 100 1983 (lwL g b0 b1 i) [] h2 kc ks Q) : J l g 315 100 1142 (lwL g b0 b1 i) [] h (mc + kc) (ms + ks) Q := by
  obtain ⟨d1, m1, s1, P1, hd1, hm1, hs1, hx, hP⟩ := hc
  refine J.room (kc := m1 + kc) (ks := s1 + ks) ?_ (by omega) (by omega)
  refine j_aload_n (k4 := 1) (dQ (by decide +kernel)) rfl ?_
  refine j_aload_n (k4 := 0) (dQ (by decide +kernel)) rfl ?_
  refine j_iload_n (k4 := 3) (dQ (by decide +kernel)) rfl ?_
  refine j_iconst (n := 1) (dQ (by decide +kernel)) ?_
  refine j_iadd (dQ (by decide +kernel)) ?_
  refine j_sld (lw_at hi hN (by decide) (by decide)) (dQ (by decide +kernel)) ?_
  obtain ⟨fsx, hcx⟩ := lw_x hI
  refine j_cV (own := 13) (i := 131) (y2 := 122) (d2 := d1) (mc := m1) (ms := s1) (kc := kc) (ks := ks) (a := b0 + 0) (As := [.int (jsX g (i + Int32.ofInt 1).toNatClampNeg)]) (st := []) (dQ (by decide +kernel)) lw_cls (by decide +kernel) (by decide) (by decide +kernel) (show 1 = jnp 122 by decide +kernel) (by omega) (by decide) hcx (fun r hr => by cases hr; decide +kernel) hx (fun v h1 hq => ?_)
  obtain ⟨x1, d2, P2, rfl, hd2, hm, ⟨fsm, hcm⟩, hP2⟩ := hP v h1 hq
  refine j_pop (dQ (by decide +kernel)) rfl ?_
  refine j_aload_n (k4 := 2) (dQ (by decide +kernel)) rfl ?_
  refine j_aload_n (k4 := 0) (dQ (by decide +kernel)) rfl ?_
  refine j_iload_n (k4 := 3) (dQ (by decide +kernel)) rfl ?_
  refine j_iconst (n := 1) (dQ (by decide +kernel)) ?_
  refine j_iadd (dQ (by decide +kernel)) ?_
  refine j_sld (lw_at hi hN (by decide) (by decide)) (dQ (by decide +kernel)) ?_
  refine J.room (kc := 0 + kc) (ks := 0 + ks) (j_cV (own := 13) (i := 134) (y2 := 274) (d2 := d2) (mc := 0) (ms := 0) (kc := kc) (ks := ks) (a := b1 + 0) (As := [.int (jsX g (i + Int32.ofInt 1).toNatClampNeg)]) (st := []) (by decide +kernel) lw_cls (by decide +kernel) (by decide) (by decide +kernel) (show 1 = jnp 274 by decide +kernel) (by omega) (by decide) hcm (fun r hr => by cases hr; decide +kernel) hm (fun v2 h2 hq2 => ?_)) (by omega) (by omega)
  obtain ⟨x2, rfl, he, bk2, hI2, hR⟩ := hP2 v2 h2 hq2
  refine j_pop (dQ (by decide +kernel)) rfl ?_
  refine j_goto (off := 821) (tgt := 1983) (dQ (by decide +kernel)) (by decide) ?_
  exact kk bk2 h2 hI2 hR
set_option maxRecDepth 16384 in
theorem lc_29 {b0 b1 : Nat} {bk : aB} {h : jH} (hI : lwI g n b0 b1 bk h) {i : Int32} (hi : 0 ≤ i.toInt ∧ i.toInt + 6 ≤ (jsN g : Int)) (hN : jsN g ≤ 3072) {mc ms kc ks : Nat} {Q : Option Value → jH → Prop} {R : aB → Prop} (hc : cpS l g n b0 b1 h 125 278 [.int (jsX g (i + Int32.ofInt 1).toNatClampNeg), .int (jsX g (i + Int32.ofInt 2).toNatClampNeg), .int (jsX g (i + Int32.ofInt 3).toNatClampNeg)] mc ms false R)
    (kk : ∀ bk2 h2, lwI g (n + 40) b0 b1 bk2 h2 → R bk2 → J l g 315 100 1983 (lwL g b0 b1 i) [] h2 kc ks Q) : J l g 315 100 1165 (lwL g b0 b1 i) [] h (mc + kc) (ms + ks) Q := by
  obtain ⟨d1, m1, s1, P1, hd1, hm1, hs1, hx, hP⟩ := hc
  refine J.room (kc := m1 + kc) (ks := s1 + ks) ?_ (by omega) (by omega)
  refine j_aload_n (k4 := 1) (dQ (by decide +kernel)) rfl ?_
  refine j_aload_n (k4 := 0) (dQ (by decide +kernel)) rfl ?_
  refine j_iload_n (k4 := 3) (dQ (by decide +kernel)) rfl ?_
  refine j_iconst (n := 1) (dQ (by decide +kernel)) ?_
  refine j_iadd (dQ (by decide +kernel)) ?_
  refine j_sld (lw_at hi hN (by decide) (by decide)) (dQ (by decide +kernel)) ?_
  refine j_aload_n (k4 := 0) (dQ (by decide +kernel)) rfl ?_
  refine j_iload_n (k4 := 3) (dQ (by decide +kernel)) rfl ?_
  refine j_iconst (n := 2) (dQ (by decide +kernel)) ?_
  refine j_iadd (dQ (by decide +kernel)) ?_
  refine j_sld (lw_at hi hN (by decide) (by decide)) (dQ (by decide +kernel)) ?_
  refine j_aload_n (k4 := 0) (dQ (by decide +kernel)) rfl ?_
  refine j_iload_n (k4 := 3) (dQ (by decide +kernel)) rfl ?_
  refine j_iconst (n := 3) (dQ (by decide +kernel)) ?_
  refine j_iadd (dQ (by decide +kernel)) ?_
  refine j_sld (lw_at hi hN (by decide) (by decide)) (dQ (by decide +kernel)) ?_
  obtain ⟨fsx, hcx⟩ := lw_x hI
  refine j_cV (own := 13) (i := 135) (y2 := 125) (d2 := d1) (mc := m1) (ms := s1) (kc := kc) (ks := ks) (a := b0 + 0) (As := [.int (jsX g (i + Int32.ofInt 1).toNatClampNeg), .int (jsX g (i + Int32.ofInt 2).toNatClampNeg), .int (jsX g (i + Int32.ofInt 3).toNatClampNeg)]) (st := []) (dQ (by decide +kernel)) lw_cls (by decide +kernel) (by decide) (by decide +kernel) (show 3 = jnp 125 by decide +kernel) (by omega) (by decide) hcx (fun r hr => by cases hr; decide +kernel) hx (fun v h1 hq => ?_)
  obtain ⟨x1, d2, P2, rfl, hd2, hm, ⟨fsm, hcm⟩, hP2⟩ := hP v h1 hq
  refine j_pop (dQ (by decide +kernel)) rfl ?_
  refine j_aload_n (k4 := 2) (dQ (by decide +kernel)) rfl ?_
  refine j_aload_n (k4 := 0) (dQ (by decide +kernel)) rfl ?_
  refine j_iload_n (k4 := 3) (dQ (by decide +kernel)) rfl ?_
  refine j_iconst (n := 1) (dQ (by decide +kernel)) ?_
  refine j_iadd (dQ (by decide +kernel)) ?_
  refine j_sld (lw_at hi hN (by decide) (by decide)) (dQ (by decide +kernel)) ?_
  refine j_aload_n (k4 := 0) (dQ (by decide +kernel)) rfl ?_
  refine j_iload_n (k4 := 3) (dQ (by decide +kernel)) rfl ?_
  refine j_iconst (n := 2) (dQ (by decide +kernel)) ?_
  refine j_iadd (dQ (by decide +kernel)) ?_
  refine j_sld (lw_at hi hN (by decide) (by decide)) (dQ (by decide +kernel)) ?_
  refine j_aload_n (k4 := 0) (dQ (by decide +kernel)) rfl ?_
  refine j_iload_n (k4 := 3) (dQ (by decide +kernel)) rfl ?_
  refine j_iconst (n := 3) (dQ (by decide +kernel)) ?_
  refine j_iadd (dQ (by decide +kernel)) ?_
  refine j_sld (lw_at hi hN (by decide) (by decide)) (dQ (by decide +kernel)) ?_
  refine J.room (kc := 0 + kc) (ks := 0 + ks) (j_cV (own := 13) (i := 138) (y2 := 278) (d2 := d2) (mc := 0) (ms := 0) (kc := kc) (ks := ks) (a := b1 + 0) (As := [.int (jsX g (i + Int32.ofInt 1).toNatClampNeg), .int (jsX g (i + Int32.ofInt 2).toNatClampNeg), .int (jsX g (i + Int32.ofInt 3).toNatClampNeg)]) (st := []) (by decide +kernel) lw_cls (by decide +kernel) (by decide) (by decide +kernel) (show 3 = jnp 278 by decide +kernel) (by omega) (by decide) hcm (fun r hr => by cases hr; decide +kernel) hm (fun v2 h2 hq2 => ?_)) (by omega) (by omega)
  obtain ⟨x2, rfl, he, bk2, hI2, hR⟩ := hP2 v2 h2 hq2
  refine j_pop (dQ (by decide +kernel)) rfl ?_
  refine j_goto (off := 778) (tgt := 1983) (dQ (by decide +kernel)) (by decide) ?_
  exact kk bk2 h2 hI2 hR
set_option maxRecDepth 16384 in
theorem lc_30 {b0 b1 : Nat} {bk : aB} {h : jH} (hI : lwI g n b0 b1 bk h) {i : Int32} (hi : 0 ≤ i.toInt ∧ i.toInt + 6 ≤ (jsN g : Int)) (hN : jsN g ≤ 3072) {mc ms kc ks : Nat} {Q : Option Value → jH → Prop} {R : aB → Prop} (hc : cpS l g n b0 b1 h 128 279 [.int (jsX g (i + Int32.ofInt 1).toNatClampNeg)] mc ms false R)
    (kk : ∀ bk2 h2, lwI g (n + 40) b0 b1 bk2 h2 → R bk2 → J l g 315 100 1983 (lwL g b0 b1 i) [] h2 kc ks Q) : J l g 315 100 1208 (lwL g b0 b1 i) [] h (mc + kc) (ms + ks) Q := by
  obtain ⟨d1, m1, s1, P1, hd1, hm1, hs1, hx, hP⟩ := hc
  refine J.room (kc := m1 + kc) (ks := s1 + ks) ?_ (by omega) (by omega)
  refine j_aload_n (k4 := 1) (dQ (by decide +kernel)) rfl ?_
  refine j_aload_n (k4 := 0) (dQ (by decide +kernel)) rfl ?_
  refine j_iload_n (k4 := 3) (dQ (by decide +kernel)) rfl ?_
  refine j_iconst (n := 1) (dQ (by decide +kernel)) ?_
  refine j_iadd (dQ (by decide +kernel)) ?_
  refine j_sld (lw_at hi hN (by decide) (by decide)) (dQ (by decide +kernel)) ?_
  obtain ⟨fsx, hcx⟩ := lw_x hI
  refine j_cV (own := 13) (i := 139) (y2 := 128) (d2 := d1) (mc := m1) (ms := s1) (kc := kc) (ks := ks) (a := b0 + 0) (As := [.int (jsX g (i + Int32.ofInt 1).toNatClampNeg)]) (st := []) (dQ (by decide +kernel)) lw_cls (by decide +kernel) (by decide) (by decide +kernel) (show 1 = jnp 128 by decide +kernel) (by omega) (by decide) hcx (fun r hr => by cases hr; decide +kernel) hx (fun v h1 hq => ?_)
  obtain ⟨x1, d2, P2, rfl, hd2, hm, ⟨fsm, hcm⟩, hP2⟩ := hP v h1 hq
  refine j_pop (dQ (by decide +kernel)) rfl ?_
  refine j_aload_n (k4 := 2) (dQ (by decide +kernel)) rfl ?_
  refine j_aload_n (k4 := 0) (dQ (by decide +kernel)) rfl ?_
  refine j_iload_n (k4 := 3) (dQ (by decide +kernel)) rfl ?_
  refine j_iconst (n := 1) (dQ (by decide +kernel)) ?_
  refine j_iadd (dQ (by decide +kernel)) ?_
  refine j_sld (lw_at hi hN (by decide) (by decide)) (dQ (by decide +kernel)) ?_
  refine J.room (kc := 0 + kc) (ks := 0 + ks) (j_cV (own := 13) (i := 142) (y2 := 279) (d2 := d2) (mc := 0) (ms := 0) (kc := kc) (ks := ks) (a := b1 + 0) (As := [.int (jsX g (i + Int32.ofInt 1).toNatClampNeg)]) (st := []) (by decide +kernel) lw_cls (by decide +kernel) (by decide) (by decide +kernel) (show 1 = jnp 279 by decide +kernel) (by omega) (by decide) hcm (fun r hr => by cases hr; decide +kernel) hm (fun v2 h2 hq2 => ?_)) (by omega) (by omega)
  obtain ⟨x2, rfl, he, bk2, hI2, hR⟩ := hP2 v2 h2 hq2
  refine j_pop (dQ (by decide +kernel)) rfl ?_
  refine j_goto (off := 755) (tgt := 1983) (dQ (by decide +kernel)) (by decide) ?_
  exact kk bk2 h2 hI2 hR
set_option maxRecDepth 16384 in
theorem lc_31 {b0 b1 : Nat} {bk : aB} {h : jH} (hI : lwI g n b0 b1 bk h) {i : Int32} (hi : 0 ≤ i.toInt ∧ i.toInt + 6 ≤ (jsN g : Int)) (hN : jsN g ≤ 3072) {mc ms kc ks : Nat} {Q : Option Value → jH → Prop} {R : aB → Prop} (hc : cpS l g n b0 b1 h 130 280 [.int (jsX g (i + Int32.ofInt 1).toNatClampNeg), .int (jsX g (i + Int32.ofInt 2).toNatClampNeg), .int (jsX g (i + Int32.ofInt 3).toNatClampNeg)] mc ms false R)
    (kk : ∀ bk2 h2, lwI g (n + 40) b0 b1 bk2 h2 → R bk2 → J l g 315 100 1983 (lwL g b0 b1 i) [] h2 kc ks Q) : J l g 315 100 1231 (lwL g b0 b1 i) [] h (mc + kc) (ms + ks) Q := by
  obtain ⟨d1, m1, s1, P1, hd1, hm1, hs1, hx, hP⟩ := hc
  refine J.room (kc := m1 + kc) (ks := s1 + ks) ?_ (by omega) (by omega)
  refine j_aload_n (k4 := 1) (dQ (by decide +kernel)) rfl ?_
  refine j_aload_n (k4 := 0) (dQ (by decide +kernel)) rfl ?_
  refine j_iload_n (k4 := 3) (dQ (by decide +kernel)) rfl ?_
  refine j_iconst (n := 1) (dQ (by decide +kernel)) ?_
  refine j_iadd (dQ (by decide +kernel)) ?_
  refine j_sld (lw_at hi hN (by decide) (by decide)) (dQ (by decide +kernel)) ?_
  refine j_aload_n (k4 := 0) (dQ (by decide +kernel)) rfl ?_
  refine j_iload_n (k4 := 3) (dQ (by decide +kernel)) rfl ?_
  refine j_iconst (n := 2) (dQ (by decide +kernel)) ?_
  refine j_iadd (dQ (by decide +kernel)) ?_
  refine j_sld (lw_at hi hN (by decide) (by decide)) (dQ (by decide +kernel)) ?_
  refine j_aload_n (k4 := 0) (dQ (by decide +kernel)) rfl ?_
  refine j_iload_n (k4 := 3) (dQ (by decide +kernel)) rfl ?_
  refine j_iconst (n := 3) (dQ (by decide +kernel)) ?_
  refine j_iadd (dQ (by decide +kernel)) ?_
  refine j_sld (lw_at hi hN (by decide) (by decide)) (dQ (by decide +kernel)) ?_
  obtain ⟨fsx, hcx⟩ := lw_x hI
  refine j_cV (own := 13) (i := 143) (y2 := 130) (d2 := d1) (mc := m1) (ms := s1) (kc := kc) (ks := ks) (a := b0 + 0) (As := [.int (jsX g (i + Int32.ofInt 1).toNatClampNeg), .int (jsX g (i + Int32.ofInt 2).toNatClampNeg), .int (jsX g (i + Int32.ofInt 3).toNatClampNeg)]) (st := []) (dQ (by decide +kernel)) lw_cls (by decide +kernel) (by decide) (by decide +kernel) (show 3 = jnp 130 by decide +kernel) (by omega) (by decide) hcx (fun r hr => by cases hr; decide +kernel) hx (fun v h1 hq => ?_)
  obtain ⟨x1, d2, P2, rfl, hd2, hm, ⟨fsm, hcm⟩, hP2⟩ := hP v h1 hq
  refine j_pop (dQ (by decide +kernel)) rfl ?_
  refine j_aload_n (k4 := 2) (dQ (by decide +kernel)) rfl ?_
  refine j_aload_n (k4 := 0) (dQ (by decide +kernel)) rfl ?_
  refine j_iload_n (k4 := 3) (dQ (by decide +kernel)) rfl ?_
  refine j_iconst (n := 1) (dQ (by decide +kernel)) ?_
  refine j_iadd (dQ (by decide +kernel)) ?_
  refine j_sld (lw_at hi hN (by decide) (by decide)) (dQ (by decide +kernel)) ?_
  refine j_aload_n (k4 := 0) (dQ (by decide +kernel)) rfl ?_
  refine j_iload_n (k4 := 3) (dQ (by decide +kernel)) rfl ?_
  refine j_iconst (n := 2) (dQ (by decide +kernel)) ?_
  refine j_iadd (dQ (by decide +kernel)) ?_
  refine j_sld (lw_at hi hN (by decide) (by decide)) (dQ (by decide +kernel)) ?_
  refine j_aload_n (k4 := 0) (dQ (by decide +kernel)) rfl ?_
  refine j_iload_n (k4 := 3) (dQ (by decide +kernel)) rfl ?_
  refine j_iconst (n := 3) (dQ (by decide +kernel)) ?_
  refine j_iadd (dQ (by decide +kernel)) ?_
  refine j_sld (lw_at hi hN (by decide) (by decide)) (dQ (by decide +kernel)) ?_
  refine J.room (kc := 0 + kc) (ks := 0 + ks) (j_cV (own := 13) (i := 146) (y2 := 280) (d2 := d2) (mc := 0) (ms := 0) (kc := kc) (ks := ks) (a := b1 + 0) (As := [.int (jsX g (i + Int32.ofInt 1).toNatClampNeg), .int (jsX g (i + Int32.ofInt 2).toNatClampNeg), .int (jsX g (i + Int32.ofInt 3).toNatClampNeg)]) (st := []) (by decide +kernel) lw_cls (by decide +kernel) (by decide) (by decide +kernel) (show 3 = jnp 280 by decide +kernel) (by omega) (by decide) hcm (fun r hr => by cases hr; decide +kernel) hm (fun v2 h2 hq2 => ?_)) (by omega) (by omega)
  obtain ⟨x2, rfl, he, bk2, hI2, hR⟩ := hP2 v2 h2 hq2
  refine j_pop (dQ (by decide +kernel)) rfl ?_
  refine j_goto (off := 712) (tgt := 1983) (dQ (by decide +kernel)) (by decide) ?_
  exact kk bk2 h2 hI2 hR
set_option maxRecDepth 16384 in
theorem lc_32 {b0 b1 : Nat} {bk : aB} {h : jH} (hI : lwI g n b0 b1 bk h) {i : Int32} (hi : 0 ≤ i.toInt ∧ i.toInt + 6 ≤ (jsN g : Int)) (hN : jsN g ≤ 3072) {mc ms kc ks : Nat} {Q : Option Value → jH → Prop} {R : aB → Prop} (hc : cpS l g n b0 b1 h 131 281 [.int (jsX g (i + Int32.ofInt 1).toNatClampNeg), .int (jsX g (i + Int32.ofInt 2).toNatClampNeg), .int (jsX g (i + Int32.ofInt 3).toNatClampNeg)] mc ms false R)
    (kk : ∀ bk2 h2, lwI g (n + 40) b0 b1 bk2 h2 → R bk2 → J l g 315 100 1983 (lwL g b0 b1 i) [] h2 kc ks Q) : J l g 315 100 1274 (lwL g b0 b1 i) [] h (mc + kc) (ms + ks) Q := by
  obtain ⟨d1, m1, s1, P1, hd1, hm1, hs1, hx, hP⟩ := hc
  refine J.room (kc := m1 + kc) (ks := s1 + ks) ?_ (by omega) (by omega)
  refine j_aload_n (k4 := 1) (dQ (by decide +kernel)) rfl ?_
  refine j_aload_n (k4 := 0) (dQ (by decide +kernel)) rfl ?_
  refine j_iload_n (k4 := 3) (dQ (by decide +kernel)) rfl ?_
  refine j_iconst (n := 1) (dQ (by decide +kernel)) ?_
  refine j_iadd (dQ (by decide +kernel)) ?_
  refine j_sld (lw_at hi hN (by decide) (by decide)) (dQ (by decide +kernel)) ?_
  refine j_aload_n (k4 := 0) (dQ (by decide +kernel)) rfl ?_
  refine j_iload_n (k4 := 3) (dQ (by decide +kernel)) rfl ?_
  refine j_iconst (n := 2) (dQ (by decide +kernel)) ?_
  refine j_iadd (dQ (by decide +kernel)) ?_
  refine j_sld (lw_at hi hN (by decide) (by decide)) (dQ (by decide +kernel)) ?_
  refine j_aload_n (k4 := 0) (dQ (by decide +kernel)) rfl ?_
  refine j_iload_n (k4 := 3) (dQ (by decide +kernel)) rfl ?_
  refine j_iconst (n := 3) (dQ (by decide +kernel)) ?_
  refine j_iadd (dQ (by decide +kernel)) ?_
  refine j_sld (lw_at hi hN (by decide) (by decide)) (dQ (by decide +kernel)) ?_
  obtain ⟨fsx, hcx⟩ := lw_x hI
  refine j_cV (own := 13) (i := 147) (y2 := 131) (d2 := d1) (mc := m1) (ms := s1) (kc := kc) (ks := ks) (a := b0 + 0) (As := [.int (jsX g (i + Int32.ofInt 1).toNatClampNeg), .int (jsX g (i + Int32.ofInt 2).toNatClampNeg), .int (jsX g (i + Int32.ofInt 3).toNatClampNeg)]) (st := []) (dQ (by decide +kernel)) lw_cls (by decide +kernel) (by decide) (by decide +kernel) (show 3 = jnp 131 by decide +kernel) (by omega) (by decide) hcx (fun r hr => by cases hr; decide +kernel) hx (fun v h1 hq => ?_)
  obtain ⟨x1, d2, P2, rfl, hd2, hm, ⟨fsm, hcm⟩, hP2⟩ := hP v h1 hq
  refine j_pop (dQ (by decide +kernel)) rfl ?_
  refine j_aload_n (k4 := 2) (dQ (by decide +kernel)) rfl ?_
  refine j_aload_n (k4 := 0) (dQ (by decide +kernel)) rfl ?_
  refine j_iload_n (k4 := 3) (dQ (by decide +kernel)) rfl ?_
  refine j_iconst (n := 1) (dQ (by decide +kernel)) ?_
  refine j_iadd (dQ (by decide +kernel)) ?_
  refine j_sld (lw_at hi hN (by decide) (by decide)) (dQ (by decide +kernel)) ?_
  refine j_aload_n (k4 := 0) (dQ (by decide +kernel)) rfl ?_
  refine j_iload_n (k4 := 3) (dQ (by decide +kernel)) rfl ?_
  refine j_iconst (n := 2) (dQ (by decide +kernel)) ?_
  refine j_iadd (dQ (by decide +kernel)) ?_
  refine j_sld (lw_at hi hN (by decide) (by decide)) (dQ (by decide +kernel)) ?_
  refine j_aload_n (k4 := 0) (dQ (by decide +kernel)) rfl ?_
  refine j_iload_n (k4 := 3) (dQ (by decide +kernel)) rfl ?_
  refine j_iconst (n := 3) (dQ (by decide +kernel)) ?_
  refine j_iadd (dQ (by decide +kernel)) ?_
  refine j_sld (lw_at hi hN (by decide) (by decide)) (dQ (by decide +kernel)) ?_
  refine J.room (kc := 0 + kc) (ks := 0 + ks) (j_cV (own := 13) (i := 150) (y2 := 281) (d2 := d2) (mc := 0) (ms := 0) (kc := kc) (ks := ks) (a := b1 + 0) (As := [.int (jsX g (i + Int32.ofInt 1).toNatClampNeg), .int (jsX g (i + Int32.ofInt 2).toNatClampNeg), .int (jsX g (i + Int32.ofInt 3).toNatClampNeg)]) (st := []) (by decide +kernel) lw_cls (by decide +kernel) (by decide) (by decide +kernel) (show 3 = jnp 281 by decide +kernel) (by omega) (by decide) hcm (fun r hr => by cases hr; decide +kernel) hm (fun v2 h2 hq2 => ?_)) (by omega) (by omega)
  obtain ⟨x2, rfl, he, bk2, hI2, hR⟩ := hP2 v2 h2 hq2
  refine j_pop (dQ (by decide +kernel)) rfl ?_
  refine j_goto (off := 669) (tgt := 1983) (dQ (by decide +kernel)) (by decide) ?_
  exact kk bk2 h2 hI2 hR
set_option maxRecDepth 16384 in
theorem lc_33 {b0 b1 : Nat} {bk : aB} {h : jH} (hI : lwI g n b0 b1 bk h) {i : Int32} (hi : 0 ≤ i.toInt ∧ i.toInt + 6 ≤ (jsN g : Int)) (hN : jsN g ≤ 3072) {mc ms kc ks : Nat} {Q : Option Value → jH → Prop} {R : aB → Prop} (hc : cpS l g n b0 b1 h 134 283 [.int (jsX g (i + Int32.ofInt 1).toNatClampNeg)] mc ms false R)
    (kk : ∀ bk2 h2, lwI g (n + 40) b0 b1 bk2 h2 → R bk2 → J l g 315 100 1983 (lwL g b0 b1 i) [] h2 kc ks Q) : J l g 315 100 1317 (lwL g b0 b1 i) [] h (mc + kc) (ms + ks) Q := by
  obtain ⟨d1, m1, s1, P1, hd1, hm1, hs1, hx, hP⟩ := hc
  refine J.room (kc := m1 + kc) (ks := s1 + ks) ?_ (by omega) (by omega)
  refine j_aload_n (k4 := 1) (dQ (by decide +kernel)) rfl ?_
  refine j_aload_n (k4 := 0) (dQ (by decide +kernel)) rfl ?_
  refine j_iload_n (k4 := 3) (dQ (by decide +kernel)) rfl ?_
  refine j_iconst (n := 1) (dQ (by decide +kernel)) ?_
  refine j_iadd (dQ (by decide +kernel)) ?_
  refine j_sld (lw_at hi hN (by decide) (by decide)) (dQ (by decide +kernel)) ?_
  obtain ⟨fsx, hcx⟩ := lw_x hI
  refine j_cV (own := 13) (i := 151) (y2 := 134) (d2 := d1) (mc := m1) (ms := s1) (kc := kc) (ks := ks) (a := b0 + 0) (As := [.int (jsX g (i + Int32.ofInt 1).toNatClampNeg)]) (st := []) (dQ (by decide +kernel)) lw_cls (by decide +kernel) (by decide) (by decide +kernel) (show 1 = jnp 134 by decide +kernel) (by omega) (by decide) hcx (fun r hr => by cases hr; decide +kernel) hx (fun v h1 hq => ?_)
  obtain ⟨x1, d2, P2, rfl, hd2, hm, ⟨fsm, hcm⟩, hP2⟩ := hP v h1 hq
  refine j_pop (dQ (by decide +kernel)) rfl ?_
  refine j_aload_n (k4 := 2) (dQ (by decide +kernel)) rfl ?_
  refine j_aload_n (k4 := 0) (dQ (by decide +kernel)) rfl ?_
  refine j_iload_n (k4 := 3) (dQ (by decide +kernel)) rfl ?_
  refine j_iconst (n := 1) (dQ (by decide +kernel)) ?_
  refine j_iadd (dQ (by decide +kernel)) ?_
  refine j_sld (lw_at hi hN (by decide) (by decide)) (dQ (by decide +kernel)) ?_
  refine J.room (kc := 0 + kc) (ks := 0 + ks) (j_cV (own := 13) (i := 154) (y2 := 283) (d2 := d2) (mc := 0) (ms := 0) (kc := kc) (ks := ks) (a := b1 + 0) (As := [.int (jsX g (i + Int32.ofInt 1).toNatClampNeg)]) (st := []) (by decide +kernel) lw_cls (by decide +kernel) (by decide) (by decide +kernel) (show 1 = jnp 283 by decide +kernel) (by omega) (by decide) hcm (fun r hr => by cases hr; decide +kernel) hm (fun v2 h2 hq2 => ?_)) (by omega) (by omega)
  obtain ⟨x2, rfl, he, bk2, hI2, hR⟩ := hP2 v2 h2 hq2
  refine j_pop (dQ (by decide +kernel)) rfl ?_
  refine j_goto (off := 646) (tgt := 1983) (dQ (by decide +kernel)) (by decide) ?_
  exact kk bk2 h2 hI2 hR
set_option maxRecDepth 16384 in
theorem lc_34 {b0 b1 : Nat} {bk : aB} {h : jH} (hI : lwI g n b0 b1 bk h) {i : Int32} (hi : 0 ≤ i.toInt ∧ i.toInt + 6 ≤ (jsN g : Int)) (hN : jsN g ≤ 3072) {mc ms kc ks : Nat} {Q : Option Value → jH → Prop} {R : aB → Prop} (hc : cpS l g n b0 b1 h 152 291 [.int (jsX g (i + Int32.ofInt 1).toNatClampNeg), .int (jsX g (i + Int32.ofInt 2).toNatClampNeg)] mc ms false R)
    (kk : ∀ bk2 h2, lwI g (n + 40) b0 b1 bk2 h2 → R bk2 → J l g 315 100 1983 (lwL g b0 b1 i) [] h2 kc ks Q) : J l g 315 100 1340 (lwL g b0 b1 i) [] h (mc + kc) (ms + ks) Q := by
  obtain ⟨d1, m1, s1, P1, hd1, hm1, hs1, hx, hP⟩ := hc
  refine J.room (kc := m1 + kc) (ks := s1 + ks) ?_ (by omega) (by omega)
  refine j_aload_n (k4 := 1) (dQ (by decide +kernel)) rfl ?_
  refine j_aload_n (k4 := 0) (dQ (by decide +kernel)) rfl ?_
  refine j_iload_n (k4 := 3) (dQ (by decide +kernel)) rfl ?_
  refine j_iconst (n := 1) (dQ (by decide +kernel)) ?_
  refine j_iadd (dQ (by decide +kernel)) ?_
  refine j_sld (lw_at hi hN (by decide) (by decide)) (dQ (by decide +kernel)) ?_
  refine j_aload_n (k4 := 0) (dQ (by decide +kernel)) rfl ?_
  refine j_iload_n (k4 := 3) (dQ (by decide +kernel)) rfl ?_
  refine j_iconst (n := 2) (dQ (by decide +kernel)) ?_
  refine j_iadd (dQ (by decide +kernel)) ?_
  refine j_sld (lw_at hi hN (by decide) (by decide)) (dQ (by decide +kernel)) ?_
  obtain ⟨fsx, hcx⟩ := lw_x hI
  refine j_cV (own := 13) (i := 155) (y2 := 152) (d2 := d1) (mc := m1) (ms := s1) (kc := kc) (ks := ks) (a := b0 + 0) (As := [.int (jsX g (i + Int32.ofInt 1).toNatClampNeg), .int (jsX g (i + Int32.ofInt 2).toNatClampNeg)]) (st := []) (dQ (by decide +kernel)) lw_cls (by decide +kernel) (by decide) (by decide +kernel) (show 2 = jnp 152 by decide +kernel) (by omega) (by decide) hcx (fun r hr => by cases hr; decide +kernel) hx (fun v h1 hq => ?_)
  obtain ⟨x1, d2, P2, rfl, hd2, hm, ⟨fsm, hcm⟩, hP2⟩ := hP v h1 hq
  refine j_pop (dQ (by decide +kernel)) rfl ?_
  refine j_aload_n (k4 := 2) (dQ (by decide +kernel)) rfl ?_
  refine j_aload_n (k4 := 0) (dQ (by decide +kernel)) rfl ?_
  refine j_iload_n (k4 := 3) (dQ (by decide +kernel)) rfl ?_
  refine j_iconst (n := 1) (dQ (by decide +kernel)) ?_
  refine j_iadd (dQ (by decide +kernel)) ?_
  refine j_sld (lw_at hi hN (by decide) (by decide)) (dQ (by decide +kernel)) ?_
  refine j_aload_n (k4 := 0) (dQ (by decide +kernel)) rfl ?_
  refine j_iload_n (k4 := 3) (dQ (by decide +kernel)) rfl ?_
  refine j_iconst (n := 2) (dQ (by decide +kernel)) ?_
  refine j_iadd (dQ (by decide +kernel)) ?_
  refine j_sld (lw_at hi hN (by decide) (by decide)) (dQ (by decide +kernel)) ?_
  refine J.room (kc := 0 + kc) (ks := 0 + ks) (j_cV (own := 13) (i := 158) (y2 := 291) (d2 := d2) (mc := 0) (ms := 0) (kc := kc) (ks := ks) (a := b1 + 0) (As := [.int (jsX g (i + Int32.ofInt 1).toNatClampNeg), .int (jsX g (i + Int32.ofInt 2).toNatClampNeg)]) (st := []) (by decide +kernel) lw_cls (by decide +kernel) (by decide) (by decide +kernel) (show 2 = jnp 291 by decide +kernel) (by omega) (by decide) hcm (fun r hr => by cases hr; decide +kernel) hm (fun v2 h2 hq2 => ?_)) (by omega) (by omega)
  obtain ⟨x2, rfl, he, bk2, hI2, hR⟩ := hP2 v2 h2 hq2
  refine j_pop (dQ (by decide +kernel)) rfl ?_
  refine j_goto (off := 613) (tgt := 1983) (dQ (by decide +kernel)) (by decide) ?_
  exact kk bk2 h2 hI2 hR
set_option maxRecDepth 16384 in
theorem lc_35 {b0 b1 : Nat} {bk : aB} {h : jH} (hI : lwI g n b0 b1 bk h) {i : Int32} (hi : 0 ≤ i.toInt ∧ i.toInt + 6 ≤ (jsN g : Int)) (hN : jsN g ≤ 3072) {mc ms kc ks : Nat} {Q : Option Value → jH → Prop} {R : aB → Prop} (hc : cpS l g n b0 b1 h 154 282 [] mc ms false R)
    (kk : ∀ bk2 h2, lwI g (n + 40) b0 b1 bk2 h2 → R bk2 → J l g 315 100 1983 (lwL g b0 b1 i) [] h2 kc ks Q) : J l g 315 100 1373 (lwL g b0 b1 i) [] h (mc + kc) (ms + ks) Q := by
  obtain ⟨d1, m1, s1, P1, hd1, hm1, hs1, hx, hP⟩ := hc
  refine J.room (kc := m1 + kc) (ks := s1 + ks) ?_ (by omega) (by omega)
  refine j_aload_n (k4 := 1) (dQ (by decide +kernel)) rfl ?_
  obtain ⟨fsx, hcx⟩ := lw_x hI
  refine j_cV (own := 13) (i := 159) (y2 := 154) (d2 := d1) (mc := m1) (ms := s1) (kc := kc) (ks := ks) (a := b0 + 0) (As := []) (st := []) (dQ (by decide +kernel)) lw_cls (by decide +kernel) (by decide) (by decide +kernel) (show 0 = jnp 154 by decide +kernel) (by omega) (by decide) hcx (fun r hr => by cases hr; decide +kernel) hx (fun v h1 hq => ?_)
  obtain ⟨x1, d2, P2, rfl, hd2, hm, ⟨fsm, hcm⟩, hP2⟩ := hP v h1 hq
  refine j_pop (dQ (by decide +kernel)) rfl ?_
  refine j_aload_n (k4 := 2) (dQ (by decide +kernel)) rfl ?_
  refine J.room (kc := 0 + kc) (ks := 0 + ks) (j_cV (own := 13) (i := 162) (y2 := 282) (d2 := d2) (mc := 0) (ms := 0) (kc := kc) (ks := ks) (a := b1 + 0) (As := []) (st := []) (by decide +kernel) lw_cls (by decide +kernel) (by decide) (by decide +kernel) (show 0 = jnp 282 by decide +kernel) (by omega) (by decide) hcm (fun r hr => by cases hr; decide +kernel) hm (fun v2 h2 hq2 => ?_)) (by omega) (by omega)
  obtain ⟨x2, rfl, he, bk2, hI2, hR⟩ := hP2 v2 h2 hq2
  refine j_pop (dQ (by decide +kernel)) rfl ?_
  refine j_goto (off := 600) (tgt := 1983) (dQ (by decide +kernel)) (by decide) ?_
  exact kk bk2 h2 hI2 hR
set_option maxRecDepth 16384 in
theorem lc_36 {b0 b1 : Nat} {bk : aB} {h : jH} (hI : lwI g n b0 b1 bk h) {i : Int32} (hi : 0 ≤ i.toInt ∧ i.toInt + 6 ≤ (jsN g : Int)) (hN : jsN g ≤ 3072) {mc ms kc ks : Nat} {Q : Option Value → jH → Prop} {R : aB → Prop} (hc : cpS l g n b0 b1 h 156 292 [.int (jsX g (i + Int32.ofInt 1).toNatClampNeg), .int (jsX g (i + Int32.ofInt 2).toNatClampNeg), .int (jsX g (i + Int32.ofInt 3).toNatClampNeg)] mc ms false R)
    (kk : ∀ bk2 h2, lwI g (n + 40) b0 b1 bk2 h2 → R bk2 → J l g 315 100 1983 (lwL g b0 b1 i) [] h2 kc ks Q) : J l g 315 100 1386 (lwL g b0 b1 i) [] h (mc + kc) (ms + ks) Q := by
  obtain ⟨d1, m1, s1, P1, hd1, hm1, hs1, hx, hP⟩ := hc
  refine J.room (kc := m1 + kc) (ks := s1 + ks) ?_ (by omega) (by omega)
  refine j_aload_n (k4 := 1) (dQ (by decide +kernel)) rfl ?_
  refine j_aload_n (k4 := 0) (dQ (by decide +kernel)) rfl ?_
  refine j_iload_n (k4 := 3) (dQ (by decide +kernel)) rfl ?_
  refine j_iconst (n := 1) (dQ (by decide +kernel)) ?_
  refine j_iadd (dQ (by decide +kernel)) ?_
  refine j_sld (lw_at hi hN (by decide) (by decide)) (dQ (by decide +kernel)) ?_
  refine j_aload_n (k4 := 0) (dQ (by decide +kernel)) rfl ?_
  refine j_iload_n (k4 := 3) (dQ (by decide +kernel)) rfl ?_
  refine j_iconst (n := 2) (dQ (by decide +kernel)) ?_
  refine j_iadd (dQ (by decide +kernel)) ?_
  refine j_sld (lw_at hi hN (by decide) (by decide)) (dQ (by decide +kernel)) ?_
  refine j_aload_n (k4 := 0) (dQ (by decide +kernel)) rfl ?_
  refine j_iload_n (k4 := 3) (dQ (by decide +kernel)) rfl ?_
  refine j_iconst (n := 3) (dQ (by decide +kernel)) ?_
  refine j_iadd (dQ (by decide +kernel)) ?_
  refine j_sld (lw_at hi hN (by decide) (by decide)) (dQ (by decide +kernel)) ?_
  obtain ⟨fsx, hcx⟩ := lw_x hI
  refine j_cV (own := 13) (i := 163) (y2 := 156) (d2 := d1) (mc := m1) (ms := s1) (kc := kc) (ks := ks) (a := b0 + 0) (As := [.int (jsX g (i + Int32.ofInt 1).toNatClampNeg), .int (jsX g (i + Int32.ofInt 2).toNatClampNeg), .int (jsX g (i + Int32.ofInt 3).toNatClampNeg)]) (st := []) (dQ (by decide +kernel)) lw_cls (by decide +kernel) (by decide) (by decide +kernel) (show 3 = jnp 156 by decide +kernel) (by omega) (by decide) hcx (fun r hr => by cases hr; decide +kernel) hx (fun v h1 hq => ?_)
  obtain ⟨x1, d2, P2, rfl, hd2, hm, ⟨fsm, hcm⟩, hP2⟩ := hP v h1 hq
  refine j_pop (dQ (by decide +kernel)) rfl ?_
  refine j_aload_n (k4 := 2) (dQ (by decide +kernel)) rfl ?_
  refine j_aload_n (k4 := 0) (dQ (by decide +kernel)) rfl ?_
  refine j_iload_n (k4 := 3) (dQ (by decide +kernel)) rfl ?_
  refine j_iconst (n := 1) (dQ (by decide +kernel)) ?_
  refine j_iadd (dQ (by decide +kernel)) ?_
  refine j_sld (lw_at hi hN (by decide) (by decide)) (dQ (by decide +kernel)) ?_
  refine j_aload_n (k4 := 0) (dQ (by decide +kernel)) rfl ?_
  refine j_iload_n (k4 := 3) (dQ (by decide +kernel)) rfl ?_
  refine j_iconst (n := 2) (dQ (by decide +kernel)) ?_
  refine j_iadd (dQ (by decide +kernel)) ?_
  refine j_sld (lw_at hi hN (by decide) (by decide)) (dQ (by decide +kernel)) ?_
  refine j_aload_n (k4 := 0) (dQ (by decide +kernel)) rfl ?_
  refine j_iload_n (k4 := 3) (dQ (by decide +kernel)) rfl ?_
  refine j_iconst (n := 3) (dQ (by decide +kernel)) ?_
  refine j_iadd (dQ (by decide +kernel)) ?_
  refine j_sld (lw_at hi hN (by decide) (by decide)) (dQ (by decide +kernel)) ?_
  refine J.room (kc := 0 + kc) (ks := 0 + ks) (j_cV (own := 13) (i := 166) (y2 := 292) (d2 := d2) (mc := 0) (ms := 0) (kc := kc) (ks := ks) (a := b1 + 0) (As := [.int (jsX g (i + Int32.ofInt 1).toNatClampNeg), .int (jsX g (i + Int32.ofInt 2).toNatClampNeg), .int (jsX g (i + Int32.ofInt 3).toNatClampNeg)]) (st := []) (by decide +kernel) lw_cls (by decide +kernel) (by decide) (by decide +kernel) (show 3 = jnp 292 by decide +kernel) (by omega) (by decide) hcm (fun r hr => by cases hr; decide +kernel) hm (fun v2 h2 hq2 => ?_)) (by omega) (by omega)
  obtain ⟨x2, rfl, he, bk2, hI2, hR⟩ := hP2 v2 h2 hq2
  refine j_pop (dQ (by decide +kernel)) rfl ?_
  refine j_goto (off := 557) (tgt := 1983) (dQ (by decide +kernel)) (by decide) ?_
  exact kk bk2 h2 hI2 hR
set_option maxRecDepth 16384 in
theorem lc_37 {b0 b1 : Nat} {bk : aB} {h : jH} (hI : lwI g n b0 b1 bk h) {i : Int32} (hi : 0 ≤ i.toInt ∧ i.toInt + 6 ≤ (jsN g : Int)) (hN : jsN g ≤ 3072) {mc ms kc ks : Nat} {Q : Option Value → jH → Prop} {R : aB → Prop} (hc : cpS l g n b0 b1 h 158 293 [.int (jsX g (i + Int32.ofInt 1).toNatClampNeg)] mc ms false R)
    (kk : ∀ bk2 h2, lwI g (n + 40) b0 b1 bk2 h2 → R bk2 → J l g 315 100 1983 (lwL g b0 b1 i) [] h2 kc ks Q) : J l g 315 100 1429 (lwL g b0 b1 i) [] h (mc + kc) (ms + ks) Q := by
  obtain ⟨d1, m1, s1, P1, hd1, hm1, hs1, hx, hP⟩ := hc
  refine J.room (kc := m1 + kc) (ks := s1 + ks) ?_ (by omega) (by omega)
  refine j_aload_n (k4 := 1) (dQ (by decide +kernel)) rfl ?_
  refine j_aload_n (k4 := 0) (dQ (by decide +kernel)) rfl ?_
  refine j_iload_n (k4 := 3) (dQ (by decide +kernel)) rfl ?_
  refine j_iconst (n := 1) (dQ (by decide +kernel)) ?_
  refine j_iadd (dQ (by decide +kernel)) ?_
  refine j_sld (lw_at hi hN (by decide) (by decide)) (dQ (by decide +kernel)) ?_
  obtain ⟨fsx, hcx⟩ := lw_x hI
  refine j_cV (own := 13) (i := 167) (y2 := 158) (d2 := d1) (mc := m1) (ms := s1) (kc := kc) (ks := ks) (a := b0 + 0) (As := [.int (jsX g (i + Int32.ofInt 1).toNatClampNeg)]) (st := []) (dQ (by decide +kernel)) lw_cls (by decide +kernel) (by decide) (by decide +kernel) (show 1 = jnp 158 by decide +kernel) (by omega) (by decide) hcx (fun r hr => by cases hr; decide +kernel) hx (fun v h1 hq => ?_)
  obtain ⟨x1, d2, P2, rfl, hd2, hm, ⟨fsm, hcm⟩, hP2⟩ := hP v h1 hq
  refine j_pop (dQ (by decide +kernel)) rfl ?_
  refine j_aload_n (k4 := 2) (dQ (by decide +kernel)) rfl ?_
  refine j_aload_n (k4 := 0) (dQ (by decide +kernel)) rfl ?_
  refine j_iload_n (k4 := 3) (dQ (by decide +kernel)) rfl ?_
  refine j_iconst (n := 1) (dQ (by decide +kernel)) ?_
  refine j_iadd (dQ (by decide +kernel)) ?_
  refine j_sld (lw_at hi hN (by decide) (by decide)) (dQ (by decide +kernel)) ?_
  refine J.room (kc := 0 + kc) (ks := 0 + ks) (j_cV (own := 13) (i := 170) (y2 := 293) (d2 := d2) (mc := 0) (ms := 0) (kc := kc) (ks := ks) (a := b1 + 0) (As := [.int (jsX g (i + Int32.ofInt 1).toNatClampNeg)]) (st := []) (by decide +kernel) lw_cls (by decide +kernel) (by decide) (by decide +kernel) (show 1 = jnp 293 by decide +kernel) (by omega) (by decide) hcm (fun r hr => by cases hr; decide +kernel) hm (fun v2 h2 hq2 => ?_)) (by omega) (by omega)
  obtain ⟨x2, rfl, he, bk2, hI2, hR⟩ := hP2 v2 h2 hq2
  refine j_pop (dQ (by decide +kernel)) rfl ?_
  refine j_goto (off := 534) (tgt := 1983) (dQ (by decide +kernel)) (by decide) ?_
  exact kk bk2 h2 hI2 hR
set_option maxRecDepth 16384 in
theorem lc_38 {b0 b1 : Nat} {bk : aB} {h : jH} (hI : lwI g n b0 b1 bk h) {i : Int32} (hi : 0 ≤ i.toInt ∧ i.toInt + 6 ≤ (jsN g : Int)) (hN : jsN g ≤ 3072) {mc ms kc ks : Nat} {Q : Option Value → jH → Prop} {R : aB → Prop} (hc : cpS l g n b0 b1 h 162 295 [.int (jsX g (i + Int32.ofInt 1).toNatClampNeg), .int (jsX g (i + Int32.ofInt 2).toNatClampNeg)] mc ms false R)
    (kk : ∀ bk2 h2, lwI g (n + 40) b0 b1 bk2 h2 → R bk2 → J l g 315 100 1983 (lwL g b0 b1 i) [] h2 kc ks Q) : J l g 315 100 1452 (lwL g b0 b1 i) [] h (mc + kc) (ms + ks) Q := by
  obtain ⟨d1, m1, s1, P1, hd1, hm1, hs1, hx, hP⟩ := hc
  refine J.room (kc := m1 + kc) (ks := s1 + ks) ?_ (by omega) (by omega)
  refine j_aload_n (k4 := 1) (dQ (by decide +kernel)) rfl ?_
  refine j_aload_n (k4 := 0) (dQ (by decide +kernel)) rfl ?_
  refine j_iload_n (k4 := 3) (dQ (by decide +kernel)) rfl ?_
  refine j_iconst (n := 1) (dQ (by decide +kernel)) ?_
  refine j_iadd (dQ (by decide +kernel)) ?_
  refine j_sld (lw_at hi hN (by decide) (by decide)) (dQ (by decide +kernel)) ?_
  refine j_aload_n (k4 := 0) (dQ (by decide +kernel)) rfl ?_
  refine j_iload_n (k4 := 3) (dQ (by decide +kernel)) rfl ?_
  refine j_iconst (n := 2) (dQ (by decide +kernel)) ?_
  refine j_iadd (dQ (by decide +kernel)) ?_
  refine j_sld (lw_at hi hN (by decide) (by decide)) (dQ (by decide +kernel)) ?_
  obtain ⟨fsx, hcx⟩ := lw_x hI
  refine j_cV (own := 13) (i := 171) (y2 := 162) (d2 := d1) (mc := m1) (ms := s1) (kc := kc) (ks := ks) (a := b0 + 0) (As := [.int (jsX g (i + Int32.ofInt 1).toNatClampNeg), .int (jsX g (i + Int32.ofInt 2).toNatClampNeg)]) (st := []) (dQ (by decide +kernel)) lw_cls (by decide +kernel) (by decide) (by decide +kernel) (show 2 = jnp 162 by decide +kernel) (by omega) (by decide) hcx (fun r hr => by cases hr; decide +kernel) hx (fun v h1 hq => ?_)
  obtain ⟨x1, d2, P2, rfl, hd2, hm, ⟨fsm, hcm⟩, hP2⟩ := hP v h1 hq
  refine j_pop (dQ (by decide +kernel)) rfl ?_
  refine j_aload_n (k4 := 2) (dQ (by decide +kernel)) rfl ?_
  refine j_aload_n (k4 := 0) (dQ (by decide +kernel)) rfl ?_
  refine j_iload_n (k4 := 3) (dQ (by decide +kernel)) rfl ?_
  refine j_iconst (n := 1) (dQ (by decide +kernel)) ?_
  refine j_iadd (dQ (by decide +kernel)) ?_
  refine j_sld (lw_at hi hN (by decide) (by decide)) (dQ (by decide +kernel)) ?_
  refine j_aload_n (k4 := 0) (dQ (by decide +kernel)) rfl ?_
  refine j_iload_n (k4 := 3) (dQ (by decide +kernel)) rfl ?_
  refine j_iconst (n := 2) (dQ (by decide +kernel)) ?_
  refine j_iadd (dQ (by decide +kernel)) ?_
  refine j_sld (lw_at hi hN (by decide) (by decide)) (dQ (by decide +kernel)) ?_
  refine J.room (kc := 0 + kc) (ks := 0 + ks) (j_cV (own := 13) (i := 174) (y2 := 295) (d2 := d2) (mc := 0) (ms := 0) (kc := kc) (ks := ks) (a := b1 + 0) (As := [.int (jsX g (i + Int32.ofInt 1).toNatClampNeg), .int (jsX g (i + Int32.ofInt 2).toNatClampNeg)]) (st := []) (by decide +kernel) lw_cls (by decide +kernel) (by decide) (by decide +kernel) (show 2 = jnp 295 by decide +kernel) (by omega) (by decide) hcm (fun r hr => by cases hr; decide +kernel) hm (fun v2 h2 hq2 => ?_)) (by omega) (by omega)
  obtain ⟨x2, rfl, he, bk2, hI2, hR⟩ := hP2 v2 h2 hq2
  refine j_pop (dQ (by decide +kernel)) rfl ?_
  refine j_goto (off := 501) (tgt := 1983) (dQ (by decide +kernel)) (by decide) ?_
  exact kk bk2 h2 hI2 hR
set_option maxRecDepth 16384 in
theorem lc_39 {b0 b1 : Nat} {bk : aB} {h : jH} (hI : lwI g n b0 b1 bk h) {i : Int32} (hi : 0 ≤ i.toInt ∧ i.toInt + 6 ≤ (jsN g : Int)) (hN : jsN g ≤ 3072) {mc ms kc ks : Nat} {Q : Option Value → jH → Prop} {R : aB → Prop} (hc : cpS l g n b0 b1 h 163 296 [.int (jsX g (i + Int32.ofInt 1).toNatClampNeg)] mc ms false R)
    (kk : ∀ bk2 h2, lwI g (n + 40) b0 b1 bk2 h2 → R bk2 → J l g 315 100 1983 (lwL g b0 b1 i) [] h2 kc ks Q) : J l g 315 100 1485 (lwL g b0 b1 i) [] h (mc + kc) (ms + ks) Q := by
  obtain ⟨d1, m1, s1, P1, hd1, hm1, hs1, hx, hP⟩ := hc
  refine J.room (kc := m1 + kc) (ks := s1 + ks) ?_ (by omega) (by omega)
  refine j_aload_n (k4 := 1) (dQ (by decide +kernel)) rfl ?_
  refine j_aload_n (k4 := 0) (dQ (by decide +kernel)) rfl ?_
  refine j_iload_n (k4 := 3) (dQ (by decide +kernel)) rfl ?_
  refine j_iconst (n := 1) (dQ (by decide +kernel)) ?_
  refine j_iadd (dQ (by decide +kernel)) ?_
  refine j_sld (lw_at hi hN (by decide) (by decide)) (dQ (by decide +kernel)) ?_
  obtain ⟨fsx, hcx⟩ := lw_x hI
  refine j_cV (own := 13) (i := 175) (y2 := 163) (d2 := d1) (mc := m1) (ms := s1) (kc := kc) (ks := ks) (a := b0 + 0) (As := [.int (jsX g (i + Int32.ofInt 1).toNatClampNeg)]) (st := []) (dQ (by decide +kernel)) lw_cls (by decide +kernel) (by decide) (by decide +kernel) (show 1 = jnp 163 by decide +kernel) (by omega) (by decide) hcx (fun r hr => by cases hr; decide +kernel) hx (fun v h1 hq => ?_)
  obtain ⟨x1, d2, P2, rfl, hd2, hm, ⟨fsm, hcm⟩, hP2⟩ := hP v h1 hq
  refine j_pop (dQ (by decide +kernel)) rfl ?_
  refine j_aload_n (k4 := 2) (dQ (by decide +kernel)) rfl ?_
  refine j_aload_n (k4 := 0) (dQ (by decide +kernel)) rfl ?_
  refine j_iload_n (k4 := 3) (dQ (by decide +kernel)) rfl ?_
  refine j_iconst (n := 1) (dQ (by decide +kernel)) ?_
  refine j_iadd (dQ (by decide +kernel)) ?_
  refine j_sld (lw_at hi hN (by decide) (by decide)) (dQ (by decide +kernel)) ?_
  refine J.room (kc := 0 + kc) (ks := 0 + ks) (j_cV (own := 13) (i := 178) (y2 := 296) (d2 := d2) (mc := 0) (ms := 0) (kc := kc) (ks := ks) (a := b1 + 0) (As := [.int (jsX g (i + Int32.ofInt 1).toNatClampNeg)]) (st := []) (by decide +kernel) lw_cls (by decide +kernel) (by decide) (by decide +kernel) (show 1 = jnp 296 by decide +kernel) (by omega) (by decide) hcm (fun r hr => by cases hr; decide +kernel) hm (fun v2 h2 hq2 => ?_)) (by omega) (by omega)
  obtain ⟨x2, rfl, he, bk2, hI2, hR⟩ := hP2 v2 h2 hq2
  refine j_pop (dQ (by decide +kernel)) rfl ?_
  refine j_goto (off := 478) (tgt := 1983) (dQ (by decide +kernel)) (by decide) ?_
  exact kk bk2 h2 hI2 hR
set_option maxRecDepth 16384 in
theorem lc_40 {b0 b1 : Nat} {bk : aB} {h : jH} (hI : lwI g n b0 b1 bk h) {i : Int32} (hi : 0 ≤ i.toInt ∧ i.toInt + 6 ≤ (jsN g : Int)) (hN : jsN g ≤ 3072) {mc ms kc ks : Nat} {Q : Option Value → jH → Prop} {R : aB → Prop} (hc : cpS l g n b0 b1 h 166 299 [.int (jsX g (i + Int32.ofInt 1).toNatClampNeg), .int (jsX g (i + Int32.ofInt 2).toNatClampNeg)] mc ms false R)
    (kk : ∀ bk2 h2, lwI g (n + 40) b0 b1 bk2 h2 → R bk2 → J l g 315 100 1983 (lwL g b0 b1 i) [] h2 kc ks Q) : J l g 315 100 1508 (lwL g b0 b1 i) [] h (mc + kc) (ms + ks) Q := by
  obtain ⟨d1, m1, s1, P1, hd1, hm1, hs1, hx, hP⟩ := hc
  refine J.room (kc := m1 + kc) (ks := s1 + ks) ?_ (by omega) (by omega)
  refine j_aload_n (k4 := 1) (dQ (by decide +kernel)) rfl ?_
  refine j_aload_n (k4 := 0) (dQ (by decide +kernel)) rfl ?_
  refine j_iload_n (k4 := 3) (dQ (by decide +kernel)) rfl ?_
  refine j_iconst (n := 1) (dQ (by decide +kernel)) ?_
  refine j_iadd (dQ (by decide +kernel)) ?_
  refine j_sld (lw_at hi hN (by decide) (by decide)) (dQ (by decide +kernel)) ?_
  refine j_aload_n (k4 := 0) (dQ (by decide +kernel)) rfl ?_
  refine j_iload_n (k4 := 3) (dQ (by decide +kernel)) rfl ?_
  refine j_iconst (n := 2) (dQ (by decide +kernel)) ?_
  refine j_iadd (dQ (by decide +kernel)) ?_
  refine j_sld (lw_at hi hN (by decide) (by decide)) (dQ (by decide +kernel)) ?_
  obtain ⟨fsx, hcx⟩ := lw_x hI
  refine j_cV (own := 13) (i := 179) (y2 := 166) (d2 := d1) (mc := m1) (ms := s1) (kc := kc) (ks := ks) (a := b0 + 0) (As := [.int (jsX g (i + Int32.ofInt 1).toNatClampNeg), .int (jsX g (i + Int32.ofInt 2).toNatClampNeg)]) (st := []) (dQ (by decide +kernel)) lw_cls (by decide +kernel) (by decide) (by decide +kernel) (show 2 = jnp 166 by decide +kernel) (by omega) (by decide) hcx (fun r hr => by cases hr; decide +kernel) hx (fun v h1 hq => ?_)
  obtain ⟨x1, d2, P2, rfl, hd2, hm, ⟨fsm, hcm⟩, hP2⟩ := hP v h1 hq
  refine j_pop (dQ (by decide +kernel)) rfl ?_
  refine j_aload_n (k4 := 2) (dQ (by decide +kernel)) rfl ?_
  refine j_aload_n (k4 := 0) (dQ (by decide +kernel)) rfl ?_
  refine j_iload_n (k4 := 3) (dQ (by decide +kernel)) rfl ?_
  refine j_iconst (n := 1) (dQ (by decide +kernel)) ?_
  refine j_iadd (dQ (by decide +kernel)) ?_
  refine j_sld (lw_at hi hN (by decide) (by decide)) (dQ (by decide +kernel)) ?_
  refine j_aload_n (k4 := 0) (dQ (by decide +kernel)) rfl ?_
  refine j_iload_n (k4 := 3) (dQ (by decide +kernel)) rfl ?_
  refine j_iconst (n := 2) (dQ (by decide +kernel)) ?_
  refine j_iadd (dQ (by decide +kernel)) ?_
  refine j_sld (lw_at hi hN (by decide) (by decide)) (dQ (by decide +kernel)) ?_
  refine J.room (kc := 0 + kc) (ks := 0 + ks) (j_cV (own := 13) (i := 182) (y2 := 299) (d2 := d2) (mc := 0) (ms := 0) (kc := kc) (ks := ks) (a := b1 + 0) (As := [.int (jsX g (i + Int32.ofInt 1).toNatClampNeg), .int (jsX g (i + Int32.ofInt 2).toNatClampNeg)]) (st := []) (by decide +kernel) lw_cls (by decide +kernel) (by decide) (by decide +kernel) (show 2 = jnp 299 by decide +kernel) (by omega) (by decide) hcm (fun r hr => by cases hr; decide +kernel) hm (fun v2 h2 hq2 => ?_)) (by omega) (by omega)
  obtain ⟨x2, rfl, he, bk2, hI2, hR⟩ := hP2 v2 h2 hq2
  refine j_pop (dQ (by decide +kernel)) rfl ?_
  refine j_goto (off := 445) (tgt := 1983) (dQ (by decide +kernel)) (by decide) ?_
  exact kk bk2 h2 hI2 hR
set_option maxRecDepth 16384 in
theorem lc_41 {b0 b1 : Nat} {bk : aB} {h : jH} (hI : lwI g n b0 b1 bk h) {i : Int32} (hi : 0 ≤ i.toInt ∧ i.toInt + 6 ≤ (jsN g : Int)) (hN : jsN g ≤ 3072) {mc ms kc ks : Nat} {Q : Option Value → jH → Prop} {R : aB → Prop} (hc : cpS l g n b0 b1 h 168 300 [.int (jsX g (i + Int32.ofInt 1).toNatClampNeg), .int (jsX g (i + Int32.ofInt 2).toNatClampNeg)] mc ms false R)
    (kk : ∀ bk2 h2, lwI g (n + 40) b0 b1 bk2 h2 → R bk2 → J l g 315 100 1983 (lwL g b0 b1 i) [] h2 kc ks Q) : J l g 315 100 1541 (lwL g b0 b1 i) [] h (mc + kc) (ms + ks) Q := by
  obtain ⟨d1, m1, s1, P1, hd1, hm1, hs1, hx, hP⟩ := hc
  refine J.room (kc := m1 + kc) (ks := s1 + ks) ?_ (by omega) (by omega)
  refine j_aload_n (k4 := 1) (dQ (by decide +kernel)) rfl ?_
  refine j_aload_n (k4 := 0) (dQ (by decide +kernel)) rfl ?_
  refine j_iload_n (k4 := 3) (dQ (by decide +kernel)) rfl ?_
  refine j_iconst (n := 1) (dQ (by decide +kernel)) ?_
  refine j_iadd (dQ (by decide +kernel)) ?_
  refine j_sld (lw_at hi hN (by decide) (by decide)) (dQ (by decide +kernel)) ?_
  refine j_aload_n (k4 := 0) (dQ (by decide +kernel)) rfl ?_
  refine j_iload_n (k4 := 3) (dQ (by decide +kernel)) rfl ?_
  refine j_iconst (n := 2) (dQ (by decide +kernel)) ?_
  refine j_iadd (dQ (by decide +kernel)) ?_
  refine j_sld (lw_at hi hN (by decide) (by decide)) (dQ (by decide +kernel)) ?_
  obtain ⟨fsx, hcx⟩ := lw_x hI
  refine j_cV (own := 13) (i := 183) (y2 := 168) (d2 := d1) (mc := m1) (ms := s1) (kc := kc) (ks := ks) (a := b0 + 0) (As := [.int (jsX g (i + Int32.ofInt 1).toNatClampNeg), .int (jsX g (i + Int32.ofInt 2).toNatClampNeg)]) (st := []) (dQ (by decide +kernel)) lw_cls (by decide +kernel) (by decide) (by decide +kernel) (show 2 = jnp 168 by decide +kernel) (by omega) (by decide) hcx (fun r hr => by cases hr; decide +kernel) hx (fun v h1 hq => ?_)
  obtain ⟨x1, d2, P2, rfl, hd2, hm, ⟨fsm, hcm⟩, hP2⟩ := hP v h1 hq
  refine j_pop (dQ (by decide +kernel)) rfl ?_
  refine j_aload_n (k4 := 2) (dQ (by decide +kernel)) rfl ?_
  refine j_aload_n (k4 := 0) (dQ (by decide +kernel)) rfl ?_
  refine j_iload_n (k4 := 3) (dQ (by decide +kernel)) rfl ?_
  refine j_iconst (n := 1) (dQ (by decide +kernel)) ?_
  refine j_iadd (dQ (by decide +kernel)) ?_
  refine j_sld (lw_at hi hN (by decide) (by decide)) (dQ (by decide +kernel)) ?_
  refine j_aload_n (k4 := 0) (dQ (by decide +kernel)) rfl ?_
  refine j_iload_n (k4 := 3) (dQ (by decide +kernel)) rfl ?_
  refine j_iconst (n := 2) (dQ (by decide +kernel)) ?_
  refine j_iadd (dQ (by decide +kernel)) ?_
  refine j_sld (lw_at hi hN (by decide) (by decide)) (dQ (by decide +kernel)) ?_
  refine J.room (kc := 0 + kc) (ks := 0 + ks) (j_cV (own := 13) (i := 186) (y2 := 300) (d2 := d2) (mc := 0) (ms := 0) (kc := kc) (ks := ks) (a := b1 + 0) (As := [.int (jsX g (i + Int32.ofInt 1).toNatClampNeg), .int (jsX g (i + Int32.ofInt 2).toNatClampNeg)]) (st := []) (by decide +kernel) lw_cls (by decide +kernel) (by decide) (by decide +kernel) (show 2 = jnp 300 by decide +kernel) (by omega) (by decide) hcm (fun r hr => by cases hr; decide +kernel) hm (fun v2 h2 hq2 => ?_)) (by omega) (by omega)
  obtain ⟨x2, rfl, he, bk2, hI2, hR⟩ := hP2 v2 h2 hq2
  refine j_pop (dQ (by decide +kernel)) rfl ?_
  refine j_goto (off := 412) (tgt := 1983) (dQ (by decide +kernel)) (by decide) ?_
  exact kk bk2 h2 hI2 hR
set_option maxRecDepth 16384 in
theorem lc_42 {b0 b1 : Nat} {bk : aB} {h : jH} (hI : lwI g n b0 b1 bk h) {i : Int32} (hi : 0 ≤ i.toInt ∧ i.toInt + 6 ≤ (jsN g : Int)) (hN : jsN g ≤ 3072) {mc ms kc ks : Nat} {Q : Option Value → jH → Prop} {R : aB → Prop} (hc : cpS l g n b0 b1 h 170 301 [.int (jsX g (i + Int32.ofInt 1).toNatClampNeg), .int (jsX g (i + Int32.ofInt 2).toNatClampNeg)] mc ms false R)
    (kk : ∀ bk2 h2, lwI g (n + 40) b0 b1 bk2 h2 → R bk2 → J l g 315 100 1983 (lwL g b0 b1 i) [] h2 kc ks Q) : J l g 315 100 1574 (lwL g b0 b1 i) [] h (mc + kc) (ms + ks) Q := by
  obtain ⟨d1, m1, s1, P1, hd1, hm1, hs1, hx, hP⟩ := hc
  refine J.room (kc := m1 + kc) (ks := s1 + ks) ?_ (by omega) (by omega)
  refine j_aload_n (k4 := 1) (dQ (by decide +kernel)) rfl ?_
  refine j_aload_n (k4 := 0) (dQ (by decide +kernel)) rfl ?_
  refine j_iload_n (k4 := 3) (dQ (by decide +kernel)) rfl ?_
  refine j_iconst (n := 1) (dQ (by decide +kernel)) ?_
  refine j_iadd (dQ (by decide +kernel)) ?_
  refine j_sld (lw_at hi hN (by decide) (by decide)) (dQ (by decide +kernel)) ?_
  refine j_aload_n (k4 := 0) (dQ (by decide +kernel)) rfl ?_
  refine j_iload_n (k4 := 3) (dQ (by decide +kernel)) rfl ?_
  refine j_iconst (n := 2) (dQ (by decide +kernel)) ?_
  refine j_iadd (dQ (by decide +kernel)) ?_
  refine j_sld (lw_at hi hN (by decide) (by decide)) (dQ (by decide +kernel)) ?_
  obtain ⟨fsx, hcx⟩ := lw_x hI
  refine j_cV (own := 13) (i := 187) (y2 := 170) (d2 := d1) (mc := m1) (ms := s1) (kc := kc) (ks := ks) (a := b0 + 0) (As := [.int (jsX g (i + Int32.ofInt 1).toNatClampNeg), .int (jsX g (i + Int32.ofInt 2).toNatClampNeg)]) (st := []) (dQ (by decide +kernel)) lw_cls (by decide +kernel) (by decide) (by decide +kernel) (show 2 = jnp 170 by decide +kernel) (by omega) (by decide) hcx (fun r hr => by cases hr; decide +kernel) hx (fun v h1 hq => ?_)
  obtain ⟨x1, d2, P2, rfl, hd2, hm, ⟨fsm, hcm⟩, hP2⟩ := hP v h1 hq
  refine j_pop (dQ (by decide +kernel)) rfl ?_
  refine j_aload_n (k4 := 2) (dQ (by decide +kernel)) rfl ?_
  refine j_aload_n (k4 := 0) (dQ (by decide +kernel)) rfl ?_
  refine j_iload_n (k4 := 3) (dQ (by decide +kernel)) rfl ?_
  refine j_iconst (n := 1) (dQ (by decide +kernel)) ?_
  refine j_iadd (dQ (by decide +kernel)) ?_
  refine j_sld (lw_at hi hN (by decide) (by decide)) (dQ (by decide +kernel)) ?_
  refine j_aload_n (k4 := 0) (dQ (by decide +kernel)) rfl ?_
  refine j_iload_n (k4 := 3) (dQ (by decide +kernel)) rfl ?_
  refine j_iconst (n := 2) (dQ (by decide +kernel)) ?_
  refine j_iadd (dQ (by decide +kernel)) ?_
  refine j_sld (lw_at hi hN (by decide) (by decide)) (dQ (by decide +kernel)) ?_
  refine J.room (kc := 0 + kc) (ks := 0 + ks) (j_cV (own := 13) (i := 190) (y2 := 301) (d2 := d2) (mc := 0) (ms := 0) (kc := kc) (ks := ks) (a := b1 + 0) (As := [.int (jsX g (i + Int32.ofInt 1).toNatClampNeg), .int (jsX g (i + Int32.ofInt 2).toNatClampNeg)]) (st := []) (by decide +kernel) lw_cls (by decide +kernel) (by decide) (by decide +kernel) (show 2 = jnp 301 by decide +kernel) (by omega) (by decide) hcm (fun r hr => by cases hr; decide +kernel) hm (fun v2 h2 hq2 => ?_)) (by omega) (by omega)
  obtain ⟨x2, rfl, he, bk2, hI2, hR⟩ := hP2 v2 h2 hq2
  refine j_pop (dQ (by decide +kernel)) rfl ?_
  refine j_goto (off := 379) (tgt := 1983) (dQ (by decide +kernel)) (by decide) ?_
  exact kk bk2 h2 hI2 hR
set_option maxRecDepth 16384 in
theorem lc_43 {b0 b1 : Nat} {bk : aB} {h : jH} (hI : lwI g n b0 b1 bk h) {i : Int32} (hi : 0 ≤ i.toInt ∧ i.toInt + 6 ≤ (jsN g : Int)) (hN : jsN g ≤ 3072) {mc ms kc ks : Nat} {Q : Option Value → jH → Prop} {R : aB → Prop} (hc : cpS l g n b0 b1 h 174 303 [.int (jsX g (i + Int32.ofInt 1).toNatClampNeg), .int (jsX g (i + Int32.ofInt 2).toNatClampNeg), .int (jsX g (i + Int32.ofInt 3).toNatClampNeg)] mc ms false R)
    (kk : ∀ bk2 h2, lwI g (n + 40) b0 b1 bk2 h2 → R bk2 → J l g 315 100 1983 (lwL g b0 b1 i) [] h2 kc ks Q) : J l g 315 100 1607 (lwL g b0 b1 i) [] h (mc + kc) (ms + ks) Q := by
  obtain ⟨d1, m1, s1, P1, hd1, hm1, hs1, hx, hP⟩ := hc
  refine J.room (kc := m1 + kc) (ks := s1 + ks) ?_ (by omega) (by omega)
  refine j_aload_n (k4 := 1) (dQ (by decide +kernel)) rfl ?_
  refine j_aload_n (k4 := 0) (dQ (by decide +kernel)) rfl ?_
  refine j_iload_n (k4 := 3) (dQ (by decide +kernel)) rfl ?_
  refine j_iconst (n := 1) (dQ (by decide +kernel)) ?_
  refine j_iadd (dQ (by decide +kernel)) ?_
  refine j_sld (lw_at hi hN (by decide) (by decide)) (dQ (by decide +kernel)) ?_
  refine j_aload_n (k4 := 0) (dQ (by decide +kernel)) rfl ?_
  refine j_iload_n (k4 := 3) (dQ (by decide +kernel)) rfl ?_
  refine j_iconst (n := 2) (dQ (by decide +kernel)) ?_
  refine j_iadd (dQ (by decide +kernel)) ?_
  refine j_sld (lw_at hi hN (by decide) (by decide)) (dQ (by decide +kernel)) ?_
  refine j_aload_n (k4 := 0) (dQ (by decide +kernel)) rfl ?_
  refine j_iload_n (k4 := 3) (dQ (by decide +kernel)) rfl ?_
  refine j_iconst (n := 3) (dQ (by decide +kernel)) ?_
  refine j_iadd (dQ (by decide +kernel)) ?_
  refine j_sld (lw_at hi hN (by decide) (by decide)) (dQ (by decide +kernel)) ?_
  obtain ⟨fsx, hcx⟩ := lw_x hI
  refine j_cV (own := 13) (i := 191) (y2 := 174) (d2 := d1) (mc := m1) (ms := s1) (kc := kc) (ks := ks) (a := b0 + 0) (As := [.int (jsX g (i + Int32.ofInt 1).toNatClampNeg), .int (jsX g (i + Int32.ofInt 2).toNatClampNeg), .int (jsX g (i + Int32.ofInt 3).toNatClampNeg)]) (st := []) (dQ (by decide +kernel)) lw_cls (by decide +kernel) (by decide) (by decide +kernel) (show 3 = jnp 174 by decide +kernel) (by omega) (by decide) hcx (fun r hr => by cases hr; decide +kernel) hx (fun v h1 hq => ?_)
  obtain ⟨x1, d2, P2, rfl, hd2, hm, ⟨fsm, hcm⟩, hP2⟩ := hP v h1 hq
  refine j_pop (dQ (by decide +kernel)) rfl ?_
  refine j_aload_n (k4 := 2) (dQ (by decide +kernel)) rfl ?_
  refine j_aload_n (k4 := 0) (dQ (by decide +kernel)) rfl ?_
  refine j_iload_n (k4 := 3) (dQ (by decide +kernel)) rfl ?_
  refine j_iconst (n := 1) (dQ (by decide +kernel)) ?_
  refine j_iadd (dQ (by decide +kernel)) ?_
  refine j_sld (lw_at hi hN (by decide) (by decide)) (dQ (by decide +kernel)) ?_
  refine j_aload_n (k4 := 0) (dQ (by decide +kernel)) rfl ?_
  refine j_iload_n (k4 := 3) (dQ (by decide +kernel)) rfl ?_
  refine j_iconst (n := 2) (dQ (by decide +kernel)) ?_
  refine j_iadd (dQ (by decide +kernel)) ?_
  refine j_sld (lw_at hi hN (by decide) (by decide)) (dQ (by decide +kernel)) ?_
  refine j_aload_n (k4 := 0) (dQ (by decide +kernel)) rfl ?_
  refine j_iload_n (k4 := 3) (dQ (by decide +kernel)) rfl ?_
  refine j_iconst (n := 3) (dQ (by decide +kernel)) ?_
  refine j_iadd (dQ (by decide +kernel)) ?_
  refine j_sld (lw_at hi hN (by decide) (by decide)) (dQ (by decide +kernel)) ?_
  refine J.room (kc := 0 + kc) (ks := 0 + ks) (j_cV (own := 13) (i := 194) (y2 := 303) (d2 := d2) (mc := 0) (ms := 0) (kc := kc) (ks := ks) (a := b1 + 0) (As := [.int (jsX g (i + Int32.ofInt 1).toNatClampNeg), .int (jsX g (i + Int32.ofInt 2).toNatClampNeg), .int (jsX g (i + Int32.ofInt 3).toNatClampNeg)]) (st := []) (by decide +kernel) lw_cls (by decide +kernel) (by decide) (by decide +kernel) (show 3 = jnp 303 by decide +kernel) (by omega) (by decide) hcm (fun r hr => by cases hr; decide +kernel) hm (fun v2 h2 hq2 => ?_)) (by omega) (by omega)
  obtain ⟨x2, rfl, he, bk2, hI2, hR⟩ := hP2 v2 h2 hq2
  refine j_pop (dQ (by decide +kernel)) rfl ?_
  refine j_goto (off := 336) (tgt := 1983) (dQ (by decide +kernel)) (by decide) ?_
  exact kk bk2 h2 hI2 hR
set_option maxRecDepth 16384 in
theorem lc_44 {b0 b1 : Nat} {bk : aB} {h : jH} (hI : lwI g n b0 b1 bk h) {i : Int32} (hi : 0 ≤ i.toInt ∧ i.toInt + 6 ≤ (jsN g : Int)) (hN : jsN g ≤ 3072) {mc ms kc ks : Nat} {Q : Option Value → jH → Prop} {R : aB → Prop} (hc : cpS l g n b0 b1 h 178 306 [.int (jsX g (i + Int32.ofInt 1).toNatClampNeg), .int (jsX g (i + Int32.ofInt 2).toNatClampNeg)] mc ms false R)
    (kk : ∀ bk2 h2, lwI g (n + 40) b0 b1 bk2 h2 → R bk2 → J l g 315 100 1983 (lwL g b0 b1 i) [] h2 kc ks Q) : J l g 315 100 1650 (lwL g b0 b1 i) [] h (mc + kc) (ms + ks) Q := by
  obtain ⟨d1, m1, s1, P1, hd1, hm1, hs1, hx, hP⟩ := hc
  refine J.room (kc := m1 + kc) (ks := s1 + ks) ?_ (by omega) (by omega)
  refine j_aload_n (k4 := 1) (dQ (by decide +kernel)) rfl ?_
  refine j_aload_n (k4 := 0) (dQ (by decide +kernel)) rfl ?_
  refine j_iload_n (k4 := 3) (dQ (by decide +kernel)) rfl ?_
  refine j_iconst (n := 1) (dQ (by decide +kernel)) ?_
  refine j_iadd (dQ (by decide +kernel)) ?_
  refine j_sld (lw_at hi hN (by decide) (by decide)) (dQ (by decide +kernel)) ?_
  refine j_aload_n (k4 := 0) (dQ (by decide +kernel)) rfl ?_
  refine j_iload_n (k4 := 3) (dQ (by decide +kernel)) rfl ?_
  refine j_iconst (n := 2) (dQ (by decide +kernel)) ?_
  refine j_iadd (dQ (by decide +kernel)) ?_
  refine j_sld (lw_at hi hN (by decide) (by decide)) (dQ (by decide +kernel)) ?_
  obtain ⟨fsx, hcx⟩ := lw_x hI
  refine j_cV (own := 13) (i := 195) (y2 := 178) (d2 := d1) (mc := m1) (ms := s1) (kc := kc) (ks := ks) (a := b0 + 0) (As := [.int (jsX g (i + Int32.ofInt 1).toNatClampNeg), .int (jsX g (i + Int32.ofInt 2).toNatClampNeg)]) (st := []) (dQ (by decide +kernel)) lw_cls (by decide +kernel) (by decide) (by decide +kernel) (show 2 = jnp 178 by decide +kernel) (by omega) (by decide) hcx (fun r hr => by cases hr; decide +kernel) hx (fun v h1 hq => ?_)
  obtain ⟨x1, d2, P2, rfl, hd2, hm, ⟨fsm, hcm⟩, hP2⟩ := hP v h1 hq
  refine j_pop (dQ (by decide +kernel)) rfl ?_
  refine j_aload_n (k4 := 2) (dQ (by decide +kernel)) rfl ?_
  refine j_aload_n (k4 := 0) (dQ (by decide +kernel)) rfl ?_
  refine j_iload_n (k4 := 3) (dQ (by decide +kernel)) rfl ?_
  refine j_iconst (n := 1) (dQ (by decide +kernel)) ?_
  refine j_iadd (dQ (by decide +kernel)) ?_
  refine j_sld (lw_at hi hN (by decide) (by decide)) (dQ (by decide +kernel)) ?_
  refine j_aload_n (k4 := 0) (dQ (by decide +kernel)) rfl ?_
  refine j_iload_n (k4 := 3) (dQ (by decide +kernel)) rfl ?_
  refine j_iconst (n := 2) (dQ (by decide +kernel)) ?_
  refine j_iadd (dQ (by decide +kernel)) ?_
  refine j_sld (lw_at hi hN (by decide) (by decide)) (dQ (by decide +kernel)) ?_
  refine J.room (kc := 0 + kc) (ks := 0 + ks) (j_cV (own := 13) (i := 198) (y2 := 306) (d2 := d2) (mc := 0) (ms := 0) (kc := kc) (ks := ks) (a := b1 + 0) (As := [.int (jsX g (i + Int32.ofInt 1).toNatClampNeg), .int (jsX g (i + Int32.ofInt 2).toNatClampNeg)]) (st := []) (by decide +kernel) lw_cls (by decide +kernel) (by decide) (by decide +kernel) (show 2 = jnp 306 by decide +kernel) (by omega) (by decide) hcm (fun r hr => by cases hr; decide +kernel) hm (fun v2 h2 hq2 => ?_)) (by omega) (by omega)
  obtain ⟨x2, rfl, he, bk2, hI2, hR⟩ := hP2 v2 h2 hq2
  refine j_pop (dQ (by decide +kernel)) rfl ?_
  refine j_goto (off := 303) (tgt := 1983) (dQ (by decide +kernel)) (by decide) ?_
  exact kk bk2 h2 hI2 hR
set_option maxRecDepth 16384 in
theorem lc_45 {b0 b1 : Nat} {bk : aB} {h : jH} (hI : lwI g n b0 b1 bk h) {i : Int32} (hi : 0 ≤ i.toInt ∧ i.toInt + 6 ≤ (jsN g : Int)) (hN : jsN g ≤ 3072) {mc ms kc ks : Nat} {Q : Option Value → jH → Prop} {R : aB → Prop} (hc : cpS l g n b0 b1 h 180 307 [.int (jsX g (i + Int32.ofInt 1).toNatClampNeg), .int (jsX g (i + Int32.ofInt 2).toNatClampNeg), .int (jsX g (i + Int32.ofInt 3).toNatClampNeg)] mc ms true R)
    (kk : ∀ bk2 h2, lwI g (n + 40) b0 b1 bk2 h2 → R bk2 → J l g 315 100 1983 (lwL g b0 b1 i) [] h2 kc ks Q) : J l g 315 100 1683 (lwL g b0 b1 i) [] h (mc + kc) (ms + ks) Q := by
  obtain ⟨d1, m1, s1, P1, hd1, hm1, hs1, hx, hP⟩ := hc
  refine J.room (kc := m1 + kc) (ks := s1 + ks) ?_ (by omega) (by omega)
  refine j_aload_n (k4 := 1) (dQ (by decide +kernel)) rfl ?_
  refine j_aload_n (k4 := 0) (dQ (by decide +kernel)) rfl ?_
  refine j_iload_n (k4 := 3) (dQ (by decide +kernel)) rfl ?_
  refine j_iconst (n := 1) (dQ (by decide +kernel)) ?_
  refine j_iadd (dQ (by decide +kernel)) ?_
  refine j_sld (lw_at hi hN (by decide) (by decide)) (dQ (by decide +kernel)) ?_
  refine j_aload_n (k4 := 0) (dQ (by decide +kernel)) rfl ?_
  refine j_iload_n (k4 := 3) (dQ (by decide +kernel)) rfl ?_
  refine j_iconst (n := 2) (dQ (by decide +kernel)) ?_
  refine j_iadd (dQ (by decide +kernel)) ?_
  refine j_sld (lw_at hi hN (by decide) (by decide)) (dQ (by decide +kernel)) ?_
  refine j_aload_n (k4 := 0) (dQ (by decide +kernel)) rfl ?_
  refine j_iload_n (k4 := 3) (dQ (by decide +kernel)) rfl ?_
  refine j_iconst (n := 3) (dQ (by decide +kernel)) ?_
  refine j_iadd (dQ (by decide +kernel)) ?_
  refine j_sld (lw_at hi hN (by decide) (by decide)) (dQ (by decide +kernel)) ?_
  obtain ⟨fsx, hcx⟩ := lw_x hI
  refine j_cV (own := 13) (i := 199) (y2 := 180) (d2 := d1) (mc := m1) (ms := s1) (kc := kc) (ks := ks) (a := b0 + 0) (As := [.int (jsX g (i + Int32.ofInt 1).toNatClampNeg), .int (jsX g (i + Int32.ofInt 2).toNatClampNeg), .int (jsX g (i + Int32.ofInt 3).toNatClampNeg)]) (st := []) (dQ (by decide +kernel)) lw_cls (by decide +kernel) (by decide) (by decide +kernel) (show 3 = jnp 180 by decide +kernel) (by omega) (by decide) hcx (fun r hr => by cases hr; decide +kernel) hx (fun v h1 hq => ?_)
  obtain ⟨x1, d2, P2, rfl, hd2, hm, ⟨fsm, hcm⟩, hP2⟩ := hP v h1 hq
  refine j_aload_n (k4 := 2) (dQ (by decide +kernel)) rfl ?_
  refine j_aload_n (k4 := 0) (dQ (by decide +kernel)) rfl ?_
  refine j_iload_n (k4 := 3) (dQ (by decide +kernel)) rfl ?_
  refine j_iconst (n := 1) (dQ (by decide +kernel)) ?_
  refine j_iadd (dQ (by decide +kernel)) ?_
  refine j_sld (lw_at hi hN (by decide) (by decide)) (dQ (by decide +kernel)) ?_
  refine j_aload_n (k4 := 0) (dQ (by decide +kernel)) rfl ?_
  refine j_iload_n (k4 := 3) (dQ (by decide +kernel)) rfl ?_
  refine j_iconst (n := 2) (dQ (by decide +kernel)) ?_
  refine j_iadd (dQ (by decide +kernel)) ?_
  refine j_sld (lw_at hi hN (by decide) (by decide)) (dQ (by decide +kernel)) ?_
  refine j_aload_n (k4 := 0) (dQ (by decide +kernel)) rfl ?_
  refine j_iload_n (k4 := 3) (dQ (by decide +kernel)) rfl ?_
  refine j_iconst (n := 3) (dQ (by decide +kernel)) ?_
  refine j_iadd (dQ (by decide +kernel)) ?_
  refine j_sld (lw_at hi hN (by decide) (by decide)) (dQ (by decide +kernel)) ?_
  refine J.room (kc := 0 + kc) (ks := 0 + ks) (j_cV (own := 13) (i := 202) (y2 := 307) (d2 := d2) (mc := 0) (ms := 0) (kc := kc) (ks := ks) (a := b1 + 0) (As := [.int (jsX g (i + Int32.ofInt 1).toNatClampNeg), .int (jsX g (i + Int32.ofInt 2).toNatClampNeg), .int (jsX g (i + Int32.ofInt 3).toNatClampNeg)]) (st := [.int x1]) (by decide +kernel) lw_cls (by decide +kernel) (by decide) (by decide +kernel) (show 3 = jnp 307 by decide +kernel) (by omega) (show 1 + 0 ≤ 8 by decide) hcm (fun r hr => by cases hr; decide +kernel) hm (fun v2 h2 hq2 => ?_)) (by omega) (by omega)
  obtain ⟨x2, rfl, he, bk2, hI2, hR⟩ := hP2 v2 h2 hq2
  have e := he rfl
  subst e
  refine j_icmp_eq (off := 262) (tgt := 1983) (dQ (by decide +kernel)) (by decide) (fun _ => ?_) (fun hne => absurd rfl hne)
  exact kk bk2 h2 hI2 hR
set_option maxRecDepth 16384 in
theorem lc_46 {b0 b1 : Nat} {bk : aB} {h : jH} (hI : lwI g n b0 b1 bk h) {i : Int32} (hi : 0 ≤ i.toInt ∧ i.toInt + 6 ≤ (jsN g : Int)) (hN : jsN g ≤ 3072) {mc ms kc ks : Nat} {Q : Option Value → jH → Prop} {R : aB → Prop} (hc : cpS l g n b0 b1 h 182 308 [.int (jsX g (i + Int32.ofInt 1).toNatClampNeg), .int (jsX g (i + Int32.ofInt 2).toNatClampNeg), .int (jsX g (i + Int32.ofInt 3).toNatClampNeg), .int (jsX g (i + Int32.ofInt 4).toNatClampNeg)] mc ms false R)
    (kk : ∀ bk2 h2, lwI g (n + 40) b0 b1 bk2 h2 → R bk2 → J l g 315 100 1983 (lwL g b0 b1 i) [] h2 kc ks Q) : J l g 315 100 1726 (lwL g b0 b1 i) [] h (mc + kc) (ms + ks) Q := by
  obtain ⟨d1, m1, s1, P1, hd1, hm1, hs1, hx, hP⟩ := hc
  refine J.room (kc := m1 + kc) (ks := s1 + ks) ?_ (by omega) (by omega)
  refine j_aload_n (k4 := 1) (dQ (by decide +kernel)) rfl ?_
  refine j_aload_n (k4 := 0) (dQ (by decide +kernel)) rfl ?_
  refine j_iload_n (k4 := 3) (dQ (by decide +kernel)) rfl ?_
  refine j_iconst (n := 1) (dQ (by decide +kernel)) ?_
  refine j_iadd (dQ (by decide +kernel)) ?_
  refine j_sld (lw_at hi hN (by decide) (by decide)) (dQ (by decide +kernel)) ?_
  refine j_aload_n (k4 := 0) (dQ (by decide +kernel)) rfl ?_
  refine j_iload_n (k4 := 3) (dQ (by decide +kernel)) rfl ?_
  refine j_iconst (n := 2) (dQ (by decide +kernel)) ?_
  refine j_iadd (dQ (by decide +kernel)) ?_
  refine j_sld (lw_at hi hN (by decide) (by decide)) (dQ (by decide +kernel)) ?_
  refine j_aload_n (k4 := 0) (dQ (by decide +kernel)) rfl ?_
  refine j_iload_n (k4 := 3) (dQ (by decide +kernel)) rfl ?_
  refine j_iconst (n := 3) (dQ (by decide +kernel)) ?_
  refine j_iadd (dQ (by decide +kernel)) ?_
  refine j_sld (lw_at hi hN (by decide) (by decide)) (dQ (by decide +kernel)) ?_
  refine j_aload_n (k4 := 0) (dQ (by decide +kernel)) rfl ?_
  refine j_iload_n (k4 := 3) (dQ (by decide +kernel)) rfl ?_
  refine j_iconst (n := 4) (dQ (by decide +kernel)) ?_
  refine j_iadd (dQ (by decide +kernel)) ?_
  refine j_sld (lw_at hi hN (by decide) (by decide)) (dQ (by decide +kernel)) ?_
  obtain ⟨fsx, hcx⟩ := lw_x hI
  refine j_cV (own := 13) (i := 203) (y2 := 182) (d2 := d1) (mc := m1) (ms := s1) (kc := kc) (ks := ks) (a := b0 + 0) (As := [.int (jsX g (i + Int32.ofInt 1).toNatClampNeg), .int (jsX g (i + Int32.ofInt 2).toNatClampNeg), .int (jsX g (i + Int32.ofInt 3).toNatClampNeg), .int (jsX g (i + Int32.ofInt 4).toNatClampNeg)]) (st := []) (dQ (by decide +kernel)) lw_cls (by decide +kernel) (by decide) (by decide +kernel) (show 4 = jnp 182 by decide +kernel) (by omega) (by decide) hcx (fun r hr => by cases hr; decide +kernel) hx (fun v h1 hq => ?_)
  obtain ⟨x1, d2, P2, rfl, hd2, hm, ⟨fsm, hcm⟩, hP2⟩ := hP v h1 hq
  refine j_pop (dQ (by decide +kernel)) rfl ?_
  refine j_aload_n (k4 := 2) (dQ (by decide +kernel)) rfl ?_
  refine j_aload_n (k4 := 0) (dQ (by decide +kernel)) rfl ?_
  refine j_iload_n (k4 := 3) (dQ (by decide +kernel)) rfl ?_
  refine j_iconst (n := 1) (dQ (by decide +kernel)) ?_
  refine j_iadd (dQ (by decide +kernel)) ?_
  refine j_sld (lw_at hi hN (by decide) (by decide)) (dQ (by decide +kernel)) ?_
  refine j_aload_n (k4 := 0) (dQ (by decide +kernel)) rfl ?_
  refine j_iload_n (k4 := 3) (dQ (by decide +kernel)) rfl ?_
  refine j_iconst (n := 2) (dQ (by decide +kernel)) ?_
  refine j_iadd (dQ (by decide +kernel)) ?_
  refine j_sld (lw_at hi hN (by decide) (by decide)) (dQ (by decide +kernel)) ?_
  refine j_aload_n (k4 := 0) (dQ (by decide +kernel)) rfl ?_
  refine j_iload_n (k4 := 3) (dQ (by decide +kernel)) rfl ?_
  refine j_iconst (n := 3) (dQ (by decide +kernel)) ?_
  refine j_iadd (dQ (by decide +kernel)) ?_
  refine j_sld (lw_at hi hN (by decide) (by decide)) (dQ (by decide +kernel)) ?_
  refine j_aload_n (k4 := 0) (dQ (by decide +kernel)) rfl ?_
  refine j_iload_n (k4 := 3) (dQ (by decide +kernel)) rfl ?_
  refine j_iconst (n := 4) (dQ (by decide +kernel)) ?_
  refine j_iadd (dQ (by decide +kernel)) ?_
  refine j_sld (lw_at hi hN (by decide) (by decide)) (dQ (by decide +kernel)) ?_
  refine J.room (kc := 0 + kc) (ks := 0 + ks) (j_cV (own := 13) (i := 206) (y2 := 308) (d2 := d2) (mc := 0) (ms := 0) (kc := kc) (ks := ks) (a := b1 + 0) (As := [.int (jsX g (i + Int32.ofInt 1).toNatClampNeg), .int (jsX g (i + Int32.ofInt 2).toNatClampNeg), .int (jsX g (i + Int32.ofInt 3).toNatClampNeg), .int (jsX g (i + Int32.ofInt 4).toNatClampNeg)]) (st := []) (by decide +kernel) lw_cls (by decide +kernel) (by decide) (by decide +kernel) (show 4 = jnp 308 by decide +kernel) (by omega) (by decide) hcm (fun r hr => by cases hr; decide +kernel) hm (fun v2 h2 hq2 => ?_)) (by omega) (by omega)
  obtain ⟨x2, rfl, he, bk2, hI2, hR⟩ := hP2 v2 h2 hq2
  refine j_pop (dQ (by decide +kernel)) rfl ?_
  refine j_goto (off := 207) (tgt := 1983) (dQ (by decide +kernel)) (by decide) ?_
  exact kk bk2 h2 hI2 hR
set_option maxRecDepth 16384 in
theorem lc_47 {b0 b1 : Nat} {bk : aB} {h : jH} (hI : lwI g n b0 b1 bk h) {i : Int32} (hi : 0 ≤ i.toInt ∧ i.toInt + 6 ≤ (jsN g : Int)) (hN : jsN g ≤ 3072) {mc ms kc ks : Nat} {Q : Option Value → jH → Prop} {R : aB → Prop} (hc : cpS l g n b0 b1 h 183 309 [.int (jsX g (i + Int32.ofInt 1).toNatClampNeg), .int (jsX g (i + Int32.ofInt 2).toNatClampNeg)] mc ms false R)
    (kk : ∀ bk2 h2, lwI g (n + 40) b0 b1 bk2 h2 → R bk2 → J l g 315 100 1983 (lwL g b0 b1 i) [] h2 kc ks Q) : J l g 315 100 1779 (lwL g b0 b1 i) [] h (mc + kc) (ms + ks) Q := by
  obtain ⟨d1, m1, s1, P1, hd1, hm1, hs1, hx, hP⟩ := hc
  refine J.room (kc := m1 + kc) (ks := s1 + ks) ?_ (by omega) (by omega)
  refine j_aload_n (k4 := 1) (dQ (by decide +kernel)) rfl ?_
  refine j_aload_n (k4 := 0) (dQ (by decide +kernel)) rfl ?_
  refine j_iload_n (k4 := 3) (dQ (by decide +kernel)) rfl ?_
  refine j_iconst (n := 1) (dQ (by decide +kernel)) ?_
  refine j_iadd (dQ (by decide +kernel)) ?_
  refine j_sld (lw_at hi hN (by decide) (by decide)) (dQ (by decide +kernel)) ?_
  refine j_aload_n (k4 := 0) (dQ (by decide +kernel)) rfl ?_
  refine j_iload_n (k4 := 3) (dQ (by decide +kernel)) rfl ?_
  refine j_iconst (n := 2) (dQ (by decide +kernel)) ?_
  refine j_iadd (dQ (by decide +kernel)) ?_
  refine j_sld (lw_at hi hN (by decide) (by decide)) (dQ (by decide +kernel)) ?_
  obtain ⟨fsx, hcx⟩ := lw_x hI
  refine j_cV (own := 13) (i := 207) (y2 := 183) (d2 := d1) (mc := m1) (ms := s1) (kc := kc) (ks := ks) (a := b0 + 0) (As := [.int (jsX g (i + Int32.ofInt 1).toNatClampNeg), .int (jsX g (i + Int32.ofInt 2).toNatClampNeg)]) (st := []) (dQ (by decide +kernel)) lw_cls (by decide +kernel) (by decide) (by decide +kernel) (show 2 = jnp 183 by decide +kernel) (by omega) (by decide) hcx (fun r hr => by cases hr; decide +kernel) hx (fun v h1 hq => ?_)
  obtain ⟨x1, d2, P2, rfl, hd2, hm, ⟨fsm, hcm⟩, hP2⟩ := hP v h1 hq
  refine j_pop (dQ (by decide +kernel)) rfl ?_
  refine j_aload_n (k4 := 2) (dQ (by decide +kernel)) rfl ?_
  refine j_aload_n (k4 := 0) (dQ (by decide +kernel)) rfl ?_
  refine j_iload_n (k4 := 3) (dQ (by decide +kernel)) rfl ?_
  refine j_iconst (n := 1) (dQ (by decide +kernel)) ?_
  refine j_iadd (dQ (by decide +kernel)) ?_
  refine j_sld (lw_at hi hN (by decide) (by decide)) (dQ (by decide +kernel)) ?_
  refine j_aload_n (k4 := 0) (dQ (by decide +kernel)) rfl ?_
  refine j_iload_n (k4 := 3) (dQ (by decide +kernel)) rfl ?_
  refine j_iconst (n := 2) (dQ (by decide +kernel)) ?_
  refine j_iadd (dQ (by decide +kernel)) ?_
  refine j_sld (lw_at hi hN (by decide) (by decide)) (dQ (by decide +kernel)) ?_
  refine J.room (kc := 0 + kc) (ks := 0 + ks) (j_cV (own := 13) (i := 210) (y2 := 309) (d2 := d2) (mc := 0) (ms := 0) (kc := kc) (ks := ks) (a := b1 + 0) (As := [.int (jsX g (i + Int32.ofInt 1).toNatClampNeg), .int (jsX g (i + Int32.ofInt 2).toNatClampNeg)]) (st := []) (by decide +kernel) lw_cls (by decide +kernel) (by decide) (by decide +kernel) (show 2 = jnp 309 by decide +kernel) (by omega) (by decide) hcm (fun r hr => by cases hr; decide +kernel) hm (fun v2 h2 hq2 => ?_)) (by omega) (by omega)
  obtain ⟨x2, rfl, he, bk2, hI2, hR⟩ := hP2 v2 h2 hq2
  refine j_pop (dQ (by decide +kernel)) rfl ?_
  refine j_goto (off := 174) (tgt := 1983) (dQ (by decide +kernel)) (by decide) ?_
  exact kk bk2 h2 hI2 hR
set_option maxRecDepth 16384 in
theorem lc_48 {b0 b1 : Nat} {bk : aB} {h : jH} (hI : lwI g n b0 b1 bk h) {i : Int32} (hi : 0 ≤ i.toInt ∧ i.toInt + 6 ≤ (jsN g : Int)) (hN : jsN g ≤ 3072) {mc ms kc ks : Nat} {Q : Option Value → jH → Prop} {R : aB → Prop} (hc : cpS l g n b0 b1 h 184 310 [.int (jsX g (i + Int32.ofInt 1).toNatClampNeg)] mc ms false R)
    (kk : ∀ bk2 h2, lwI g (n + 40) b0 b1 bk2 h2 → R bk2 → J l g 315 100 1983 (lwL g b0 b1 i) [] h2 kc ks Q) : J l g 315 100 1812 (lwL g b0 b1 i) [] h (mc + kc) (ms + ks) Q := by
  obtain ⟨d1, m1, s1, P1, hd1, hm1, hs1, hx, hP⟩ := hc
  refine J.room (kc := m1 + kc) (ks := s1 + ks) ?_ (by omega) (by omega)
  refine j_aload_n (k4 := 1) (dQ (by decide +kernel)) rfl ?_
  refine j_aload_n (k4 := 0) (dQ (by decide +kernel)) rfl ?_
  refine j_iload_n (k4 := 3) (dQ (by decide +kernel)) rfl ?_
  refine j_iconst (n := 1) (dQ (by decide +kernel)) ?_
  refine j_iadd (dQ (by decide +kernel)) ?_
  refine j_sld (lw_at hi hN (by decide) (by decide)) (dQ (by decide +kernel)) ?_
  obtain ⟨fsx, hcx⟩ := lw_x hI
  refine j_cV (own := 13) (i := 211) (y2 := 184) (d2 := d1) (mc := m1) (ms := s1) (kc := kc) (ks := ks) (a := b0 + 0) (As := [.int (jsX g (i + Int32.ofInt 1).toNatClampNeg)]) (st := []) (dQ (by decide +kernel)) lw_cls (by decide +kernel) (by decide) (by decide +kernel) (show 1 = jnp 184 by decide +kernel) (by omega) (by decide) hcx (fun r hr => by cases hr; decide +kernel) hx (fun v h1 hq => ?_)
  obtain ⟨x1, d2, P2, rfl, hd2, hm, ⟨fsm, hcm⟩, hP2⟩ := hP v h1 hq
  refine j_pop (dQ (by decide +kernel)) rfl ?_
  refine j_aload_n (k4 := 2) (dQ (by decide +kernel)) rfl ?_
  refine j_aload_n (k4 := 0) (dQ (by decide +kernel)) rfl ?_
  refine j_iload_n (k4 := 3) (dQ (by decide +kernel)) rfl ?_
  refine j_iconst (n := 1) (dQ (by decide +kernel)) ?_
  refine j_iadd (dQ (by decide +kernel)) ?_
  refine j_sld (lw_at hi hN (by decide) (by decide)) (dQ (by decide +kernel)) ?_
  refine J.room (kc := 0 + kc) (ks := 0 + ks) (j_cV (own := 13) (i := 214) (y2 := 310) (d2 := d2) (mc := 0) (ms := 0) (kc := kc) (ks := ks) (a := b1 + 0) (As := [.int (jsX g (i + Int32.ofInt 1).toNatClampNeg)]) (st := []) (by decide +kernel) lw_cls (by decide +kernel) (by decide) (by decide +kernel) (show 1 = jnp 310 by decide +kernel) (by omega) (by decide) hcm (fun r hr => by cases hr; decide +kernel) hm (fun v2 h2 hq2 => ?_)) (by omega) (by omega)
  obtain ⟨x2, rfl, he, bk2, hI2, hR⟩ := hP2 v2 h2 hq2
  refine j_pop (dQ (by decide +kernel)) rfl ?_
  refine j_goto (off := 151) (tgt := 1983) (dQ (by decide +kernel)) (by decide) ?_
  exact kk bk2 h2 hI2 hR
set_option maxRecDepth 16384 in
theorem lc_49 {b0 b1 : Nat} {bk : aB} {h : jH} (hI : lwI g n b0 b1 bk h) {i : Int32} (hi : 0 ≤ i.toInt ∧ i.toInt + 6 ≤ (jsN g : Int)) (hN : jsN g ≤ 3072) {mc ms kc ks : Nat} {Q : Option Value → jH → Prop} {R : aB → Prop} (hc : cpS l g n b0 b1 h 187 311 [.int (jsX g (i + Int32.ofInt 1).toNatClampNeg), .int (jsX g (i + Int32.ofInt 2).toNatClampNeg), .int (jsX g (i + Int32.ofInt 3).toNatClampNeg)] mc ms false R)
    (kk : ∀ bk2 h2, lwI g (n + 40) b0 b1 bk2 h2 → R bk2 → J l g 315 100 1983 (lwL g b0 b1 i) [] h2 kc ks Q) : J l g 315 100 1835 (lwL g b0 b1 i) [] h (mc + kc) (ms + ks) Q := by
  obtain ⟨d1, m1, s1, P1, hd1, hm1, hs1, hx, hP⟩ := hc
  refine J.room (kc := m1 + kc) (ks := s1 + ks) ?_ (by omega) (by omega)
  refine j_aload_n (k4 := 1) (dQ (by decide +kernel)) rfl ?_
  refine j_aload_n (k4 := 0) (dQ (by decide +kernel)) rfl ?_
  refine j_iload_n (k4 := 3) (dQ (by decide +kernel)) rfl ?_
  refine j_iconst (n := 1) (dQ (by decide +kernel)) ?_
  refine j_iadd (dQ (by decide +kernel)) ?_
  refine j_sld (lw_at hi hN (by decide) (by decide)) (dQ (by decide +kernel)) ?_
  refine j_aload_n (k4 := 0) (dQ (by decide +kernel)) rfl ?_
  refine j_iload_n (k4 := 3) (dQ (by decide +kernel)) rfl ?_
  refine j_iconst (n := 2) (dQ (by decide +kernel)) ?_
  refine j_iadd (dQ (by decide +kernel)) ?_
  refine j_sld (lw_at hi hN (by decide) (by decide)) (dQ (by decide +kernel)) ?_
  refine j_aload_n (k4 := 0) (dQ (by decide +kernel)) rfl ?_
  refine j_iload_n (k4 := 3) (dQ (by decide +kernel)) rfl ?_
  refine j_iconst (n := 3) (dQ (by decide +kernel)) ?_
  refine j_iadd (dQ (by decide +kernel)) ?_
  refine j_sld (lw_at hi hN (by decide) (by decide)) (dQ (by decide +kernel)) ?_
  obtain ⟨fsx, hcx⟩ := lw_x hI
  refine j_cV (own := 13) (i := 215) (y2 := 187) (d2 := d1) (mc := m1) (ms := s1) (kc := kc) (ks := ks) (a := b0 + 0) (As := [.int (jsX g (i + Int32.ofInt 1).toNatClampNeg), .int (jsX g (i + Int32.ofInt 2).toNatClampNeg), .int (jsX g (i + Int32.ofInt 3).toNatClampNeg)]) (st := []) (dQ (by decide +kernel)) lw_cls (by decide +kernel) (by decide) (by decide +kernel) (show 3 = jnp 187 by decide +kernel) (by omega) (by decide) hcx (fun r hr => by cases hr; decide +kernel) hx (fun v h1 hq => ?_)
  obtain ⟨x1, d2, P2, rfl, hd2, hm, ⟨fsm, hcm⟩, hP2⟩ := hP v h1 hq
  refine j_pop (dQ (by decide +kernel)) rfl ?_
  refine j_aload_n (k4 := 2) (dQ (by decide +kernel)) rfl ?_
  refine j_aload_n (k4 := 0) (dQ (by decide +kernel)) rfl ?_
  refine j_iload_n (k4 := 3) (dQ (by decide +kernel)) rfl ?_
  refine j_iconst (n := 1) (dQ (by decide +kernel)) ?_
  refine j_iadd (dQ (by decide +kernel)) ?_
  refine j_sld (lw_at hi hN (by decide) (by decide)) (dQ (by decide +kernel)) ?_
  refine j_aload_n (k4 := 0) (dQ (by decide +kernel)) rfl ?_
  refine j_iload_n (k4 := 3) (dQ (by decide +kernel)) rfl ?_
  refine j_iconst (n := 2) (dQ (by decide +kernel)) ?_
  refine j_iadd (dQ (by decide +kernel)) ?_
  refine j_sld (lw_at hi hN (by decide) (by decide)) (dQ (by decide +kernel)) ?_
  refine j_aload_n (k4 := 0) (dQ (by decide +kernel)) rfl ?_
  refine j_iload_n (k4 := 3) (dQ (by decide +kernel)) rfl ?_
  refine j_iconst (n := 3) (dQ (by decide +kernel)) ?_
  refine j_iadd (dQ (by decide +kernel)) ?_
  refine j_sld (lw_at hi hN (by decide) (by decide)) (dQ (by decide +kernel)) ?_
  refine J.room (kc := 0 + kc) (ks := 0 + ks) (j_cV (own := 13) (i := 218) (y2 := 311) (d2 := d2) (mc := 0) (ms := 0) (kc := kc) (ks := ks) (a := b1 + 0) (As := [.int (jsX g (i + Int32.ofInt 1).toNatClampNeg), .int (jsX g (i + Int32.ofInt 2).toNatClampNeg), .int (jsX g (i + Int32.ofInt 3).toNatClampNeg)]) (st := []) (by decide +kernel) lw_cls (by decide +kernel) (by decide) (by decide +kernel) (show 3 = jnp 311 by decide +kernel) (by omega) (by decide) hcm (fun r hr => by cases hr; decide +kernel) hm (fun v2 h2 hq2 => ?_)) (by omega) (by omega)
  obtain ⟨x2, rfl, he, bk2, hI2, hR⟩ := hP2 v2 h2 hq2
  refine j_pop (dQ (by decide +kernel)) rfl ?_
  refine j_goto (off := 108) (tgt := 1983) (dQ (by decide +kernel)) (by decide) ?_
  exact kk bk2 h2 hI2 hR
set_option maxRecDepth 16384 in
theorem lc_50 {b0 b1 : Nat} {bk : aB} {h : jH} (hI : lwI g n b0 b1 bk h) {i : Int32} (hi : 0 ≤ i.toInt ∧ i.toInt + 6 ≤ (jsN g : Int)) (hN : jsN g ≤ 3072) {mc ms kc ks : Nat} {Q : Option Value → jH → Prop} {R : aB → Prop} (hc : cpS l g n b0 b1 h 189 312 [.int (jsX g (i + Int32.ofInt 1).toNatClampNeg)] mc ms false R)
    (kk : ∀ bk2 h2, lwI g (n + 40) b0 b1 bk2 h2 → R bk2 → J l g 315 100 1983 (lwL g b0 b1 i) [] h2 kc ks Q) : J l g 315 100 1878 (lwL g b0 b1 i) [] h (mc + kc) (ms + ks) Q := by
  obtain ⟨d1, m1, s1, P1, hd1, hm1, hs1, hx, hP⟩ := hc
  refine J.room (kc := m1 + kc) (ks := s1 + ks) ?_ (by omega) (by omega)
  refine j_aload_n (k4 := 1) (dQ (by decide +kernel)) rfl ?_
  refine j_aload_n (k4 := 0) (dQ (by decide +kernel)) rfl ?_
  refine j_iload_n (k4 := 3) (dQ (by decide +kernel)) rfl ?_
  refine j_iconst (n := 1) (dQ (by decide +kernel)) ?_
  refine j_iadd (dQ (by decide +kernel)) ?_
  refine j_sld (lw_at hi hN (by decide) (by decide)) (dQ (by decide +kernel)) ?_
  obtain ⟨fsx, hcx⟩ := lw_x hI
  refine j_cV (own := 13) (i := 219) (y2 := 189) (d2 := d1) (mc := m1) (ms := s1) (kc := kc) (ks := ks) (a := b0 + 0) (As := [.int (jsX g (i + Int32.ofInt 1).toNatClampNeg)]) (st := []) (dQ (by decide +kernel)) lw_cls (by decide +kernel) (by decide) (by decide +kernel) (show 1 = jnp 189 by decide +kernel) (by omega) (by decide) hcx (fun r hr => by cases hr; decide +kernel) hx (fun v h1 hq => ?_)
  obtain ⟨x1, d2, P2, rfl, hd2, hm, ⟨fsm, hcm⟩, hP2⟩ := hP v h1 hq
  refine j_pop (dQ (by decide +kernel)) rfl ?_
  refine j_aload_n (k4 := 2) (dQ (by decide +kernel)) rfl ?_
  refine j_aload_n (k4 := 0) (dQ (by decide +kernel)) rfl ?_
  refine j_iload_n (k4 := 3) (dQ (by decide +kernel)) rfl ?_
  refine j_iconst (n := 1) (dQ (by decide +kernel)) ?_
  refine j_iadd (dQ (by decide +kernel)) ?_
  refine j_sld (lw_at hi hN (by decide) (by decide)) (dQ (by decide +kernel)) ?_
  refine J.room (kc := 0 + kc) (ks := 0 + ks) (j_cV (own := 13) (i := 222) (y2 := 312) (d2 := d2) (mc := 0) (ms := 0) (kc := kc) (ks := ks) (a := b1 + 0) (As := [.int (jsX g (i + Int32.ofInt 1).toNatClampNeg)]) (st := []) (by decide +kernel) lw_cls (by decide +kernel) (by decide) (by decide +kernel) (show 1 = jnp 312 by decide +kernel) (by omega) (by decide) hcm (fun r hr => by cases hr; decide +kernel) hm (fun v2 h2 hq2 => ?_)) (by omega) (by omega)
  obtain ⟨x2, rfl, he, bk2, hI2, hR⟩ := hP2 v2 h2 hq2
  refine j_pop (dQ (by decide +kernel)) rfl ?_
  refine j_goto (off := 85) (tgt := 1983) (dQ (by decide +kernel)) (by decide) ?_
  exact kk bk2 h2 hI2 hR
set_option maxRecDepth 16384 in
theorem lc_51 {b0 b1 : Nat} {bk : aB} {h : jH} (hI : lwI g n b0 b1 bk h) {i : Int32} (hi : 0 ≤ i.toInt ∧ i.toInt + 6 ≤ (jsN g : Int)) (hN : jsN g ≤ 3072) {mc ms kc ks : Nat} {Q : Option Value → jH → Prop} {R : aB → Prop} (hc : cpS l g n b0 b1 h 193 204 [.int (jsX g (i + Int32.ofInt 1).toNatClampNeg)] mc ms false R)
    (kk : ∀ bk2 h2, lwI g (n + 40) b0 b1 bk2 h2 → R bk2 → J l g 315 100 1983 (lwL g b0 b1 i) [] h2 kc ks Q) : J l g 315 100 1901 (lwL g b0 b1 i) [] h (mc + kc) (ms + ks) Q := by
  obtain ⟨d1, m1, s1, P1, hd1, hm1, hs1, hx, hP⟩ := hc
  refine J.room (kc := m1 + kc) (ks := s1 + ks) ?_ (by omega) (by omega)
  refine j_aload_n (k4 := 1) (dQ (by decide +kernel)) rfl ?_
  refine j_aload_n (k4 := 0) (dQ (by decide +kernel)) rfl ?_
  refine j_iload_n (k4 := 3) (dQ (by decide +kernel)) rfl ?_
  refine j_iconst (n := 1) (dQ (by decide +kernel)) ?_
  refine j_iadd (dQ (by decide +kernel)) ?_
  refine j_sld (lw_at hi hN (by decide) (by decide)) (dQ (by decide +kernel)) ?_
  obtain ⟨fsx, hcx⟩ := lw_x hI
  refine j_cV (own := 13) (i := 223) (y2 := 193) (d2 := d1) (mc := m1) (ms := s1) (kc := kc) (ks := ks) (a := b0 + 0) (As := [.int (jsX g (i + Int32.ofInt 1).toNatClampNeg)]) (st := []) (dQ (by decide +kernel)) lw_cls (by decide +kernel) (by decide) (by decide +kernel) (show 1 = jnp 193 by decide +kernel) (by omega) (by decide) hcx (fun r hr => by cases hr; decide +kernel) hx (fun v h1 hq => ?_)
  obtain ⟨x1, d2, P2, rfl, hd2, hm, ⟨fsm, hcm⟩, hP2⟩ := hP v h1 hq
  refine j_pop (dQ (by decide +kernel)) rfl ?_
  refine j_aload_n (k4 := 2) (dQ (by decide +kernel)) rfl ?_
  refine j_aload_n (k4 := 0) (dQ (by decide +kernel)) rfl ?_
  refine j_iload_n (k4 := 3) (dQ (by decide +kernel)) rfl ?_
  refine j_iconst (n := 1) (dQ (by decide +kernel)) ?_
  refine j_iadd (dQ (by decide +kernel)) ?_
  refine j_sld (lw_at hi hN (by decide) (by decide)) (dQ (by decide +kernel)) ?_
  refine J.room (kc := 0 + kc) (ks := 0 + ks) (j_cV (own := 13) (i := 226) (y2 := 204) (d2 := d2) (mc := 0) (ms := 0) (kc := kc) (ks := ks) (a := b1 + 0) (As := [.int (jsX g (i + Int32.ofInt 1).toNatClampNeg)]) (st := []) (by decide +kernel) lw_cls (by decide +kernel) (by decide) (by decide +kernel) (show 1 = jnp 204 by decide +kernel) (by omega) (by decide) hcm (fun r hr => by cases hr; decide +kernel) hm (fun v2 h2 hq2 => ?_)) (by omega) (by omega)
  obtain ⟨x2, rfl, he, bk2, hI2, hR⟩ := hP2 v2 h2 hq2
  refine j_pop (dQ (by decide +kernel)) rfl ?_
  refine j_goto (off := 62) (tgt := 1983) (dQ (by decide +kernel)) (by decide) ?_
  exact kk bk2 h2 hI2 hR
set_option maxRecDepth 16384 in
theorem lc_52 {b0 b1 : Nat} {bk : aB} {h : jH} (hI : lwI g n b0 b1 bk h) {i : Int32} (hi : 0 ≤ i.toInt ∧ i.toInt + 6 ≤ (jsN g : Int)) (hN : jsN g ≤ 3072) {mc ms kc ks : Nat} {Q : Option Value → jH → Prop} {R : aB → Prop} (hc : cpS l g n b0 b1 h 200 207 [.int (jsX g (i + Int32.ofInt 1).toNatClampNeg)] mc ms false R)
    (kk : ∀ bk2 h2, lwI g (n + 40) b0 b1 bk2 h2 → R bk2 → J l g 315 100 1983 (lwL g b0 b1 i) [] h2 kc ks Q) : J l g 315 100 1924 (lwL g b0 b1 i) [] h (mc + kc) (ms + ks) Q := by
  obtain ⟨d1, m1, s1, P1, hd1, hm1, hs1, hx, hP⟩ := hc
  refine J.room (kc := m1 + kc) (ks := s1 + ks) ?_ (by omega) (by omega)
  refine j_aload_n (k4 := 1) (dQ (by decide +kernel)) rfl ?_
  refine j_aload_n (k4 := 0) (dQ (by decide +kernel)) rfl ?_
  refine j_iload_n (k4 := 3) (dQ (by decide +kernel)) rfl ?_
  refine j_iconst (n := 1) (dQ (by decide +kernel)) ?_
  refine j_iadd (dQ (by decide +kernel)) ?_
  refine j_sld (lw_at hi hN (by decide) (by decide)) (dQ (by decide +kernel)) ?_
  obtain ⟨fsx, hcx⟩ := lw_x hI
  refine j_cV (own := 13) (i := 227) (y2 := 200) (d2 := d1) (mc := m1) (ms := s1) (kc := kc) (ks := ks) (a := b0 + 0) (As := [.int (jsX g (i + Int32.ofInt 1).toNatClampNeg)]) (st := []) (dQ (by decide +kernel)) lw_cls (by decide +kernel) (by decide) (by decide +kernel) (show 1 = jnp 200 by decide +kernel) (by omega) (by decide) hcx (fun r hr => by cases hr; decide +kernel) hx (fun v h1 hq => ?_)
  obtain ⟨x1, d2, P2, rfl, hd2, hm, ⟨fsm, hcm⟩, hP2⟩ := hP v h1 hq
  refine j_pop (dQ (by decide +kernel)) rfl ?_
  refine j_aload_n (k4 := 2) (dQ (by decide +kernel)) rfl ?_
  refine j_aload_n (k4 := 0) (dQ (by decide +kernel)) rfl ?_
  refine j_iload_n (k4 := 3) (dQ (by decide +kernel)) rfl ?_
  refine j_iconst (n := 1) (dQ (by decide +kernel)) ?_
  refine j_iadd (dQ (by decide +kernel)) ?_
  refine j_sld (lw_at hi hN (by decide) (by decide)) (dQ (by decide +kernel)) ?_
  refine J.room (kc := 0 + kc) (ks := 0 + ks) (j_cV (own := 13) (i := 230) (y2 := 207) (d2 := d2) (mc := 0) (ms := 0) (kc := kc) (ks := ks) (a := b1 + 0) (As := [.int (jsX g (i + Int32.ofInt 1).toNatClampNeg)]) (st := []) (by decide +kernel) lw_cls (by decide +kernel) (by decide) (by decide +kernel) (show 1 = jnp 207 by decide +kernel) (by omega) (by decide) hcm (fun r hr => by cases hr; decide +kernel) hm (fun v2 h2 hq2 => ?_)) (by omega) (by omega)
  obtain ⟨x2, rfl, he, bk2, hI2, hR⟩ := hP2 v2 h2 hq2
  refine j_pop (dQ (by decide +kernel)) rfl ?_
  refine j_goto (off := 39) (tgt := 1983) (dQ (by decide +kernel)) (by decide) ?_
  exact kk bk2 h2 hI2 hR
set_option maxRecDepth 16384 in
theorem lc_53 {b0 b1 : Nat} {bk : aB} {h : jH} (hI : lwI g n b0 b1 bk h) {i : Int32} (hi : 0 ≤ i.toInt ∧ i.toInt + 6 ≤ (jsN g : Int)) (hN : jsN g ≤ 3072) {mc ms kc ks : Nat} {Q : Option Value → jH → Prop} {R : aB → Prop} (hc : cpS l g n b0 b1 h 201 313 [.int (jsX g (i + Int32.ofInt 1).toNatClampNeg)] mc ms false R)
    (kk : ∀ bk2 h2, lwI g (n + 40) b0 b1 bk2 h2 → R bk2 → J l g 315 100 1983 (lwL g b0 b1 i) [] h2 kc ks Q) : J l g 315 100 1947 (lwL g b0 b1 i) [] h (mc + kc) (ms + ks) Q := by
  obtain ⟨d1, m1, s1, P1, hd1, hm1, hs1, hx, hP⟩ := hc
  refine J.room (kc := m1 + kc) (ks := s1 + ks) ?_ (by omega) (by omega)
  refine j_aload_n (k4 := 1) (dQ (by decide +kernel)) rfl ?_
  refine j_aload_n (k4 := 0) (dQ (by decide +kernel)) rfl ?_
  refine j_iload_n (k4 := 3) (dQ (by decide +kernel)) rfl ?_
  refine j_iconst (n := 1) (dQ (by decide +kernel)) ?_
  refine j_iadd (dQ (by decide +kernel)) ?_
  refine j_sld (lw_at hi hN (by decide) (by decide)) (dQ (by decide +kernel)) ?_
  obtain ⟨fsx, hcx⟩ := lw_x hI
  refine j_cV (own := 13) (i := 231) (y2 := 201) (d2 := d1) (mc := m1) (ms := s1) (kc := kc) (ks := ks) (a := b0 + 0) (As := [.int (jsX g (i + Int32.ofInt 1).toNatClampNeg)]) (st := []) (dQ (by decide +kernel)) lw_cls (by decide +kernel) (by decide) (by decide +kernel) (show 1 = jnp 201 by decide +kernel) (by omega) (by decide) hcx (fun r hr => by cases hr; decide +kernel) hx (fun v h1 hq => ?_)
  obtain ⟨x1, d2, P2, rfl, hd2, hm, ⟨fsm, hcm⟩, hP2⟩ := hP v h1 hq
  refine j_pop (dQ (by decide +kernel)) rfl ?_
  refine j_aload_n (k4 := 2) (dQ (by decide +kernel)) rfl ?_
  refine j_aload_n (k4 := 0) (dQ (by decide +kernel)) rfl ?_
  refine j_iload_n (k4 := 3) (dQ (by decide +kernel)) rfl ?_
  refine j_iconst (n := 1) (dQ (by decide +kernel)) ?_
  refine j_iadd (dQ (by decide +kernel)) ?_
  refine j_sld (lw_at hi hN (by decide) (by decide)) (dQ (by decide +kernel)) ?_
  refine J.room (kc := 0 + kc) (ks := 0 + ks) (j_cV (own := 13) (i := 234) (y2 := 313) (d2 := d2) (mc := 0) (ms := 0) (kc := kc) (ks := ks) (a := b1 + 0) (As := [.int (jsX g (i + Int32.ofInt 1).toNatClampNeg)]) (st := []) (by decide +kernel) lw_cls (by decide +kernel) (by decide) (by decide +kernel) (show 1 = jnp 313 by decide +kernel) (by omega) (by decide) hcm (fun r hr => by cases hr; decide +kernel) hm (fun v2 h2 hq2 => ?_)) (by omega) (by omega)
  obtain ⟨x2, rfl, he, bk2, hI2, hR⟩ := hP2 v2 h2 hq2
  refine j_pop (dQ (by decide +kernel)) rfl ?_
  refine j_goto (off := 16) (tgt := 1983) (dQ (by decide +kernel)) (by decide) ?_
  exact kk bk2 h2 hI2 hR
set_option maxRecDepth 16384 in
theorem lc_54 {b0 b1 : Nat} {bk : aB} {h : jH} (hI : lwI g n b0 b1 bk h) {i : Int32} (hi : 0 ≤ i.toInt ∧ i.toInt + 6 ≤ (jsN g : Int)) (hN : jsN g ≤ 3072) {mc ms kc ks : Nat} {Q : Option Value → jH → Prop} {R : aB → Prop} (hc : cpS l g n b0 b1 h 202 314 [] mc ms false R)
    (kk : ∀ bk2 h2, lwI g (n + 40) b0 b1 bk2 h2 → R bk2 → J l g 315 100 1983 (lwL g b0 b1 i) [] h2 kc ks Q) : J l g 315 100 1970 (lwL g b0 b1 i) [] h (mc + kc) (ms + ks) Q := by
  obtain ⟨d1, m1, s1, P1, hd1, hm1, hs1, hx, hP⟩ := hc
  refine J.room (kc := m1 + kc) (ks := s1 + ks) ?_ (by omega) (by omega)
  refine j_aload_n (k4 := 1) (dQ (by decide +kernel)) rfl ?_
  obtain ⟨fsx, hcx⟩ := lw_x hI
  refine j_cV (own := 13) (i := 235) (y2 := 202) (d2 := d1) (mc := m1) (ms := s1) (kc := kc) (ks := ks) (a := b0 + 0) (As := []) (st := []) (dQ (by decide +kernel)) lw_cls (by decide +kernel) (by decide) (by decide +kernel) (show 0 = jnp 202 by decide +kernel) (by omega) (by decide) hcx (fun r hr => by cases hr; decide +kernel) hx (fun v h1 hq => ?_)
  obtain ⟨x1, d2, P2, rfl, hd2, hm, ⟨fsm, hcm⟩, hP2⟩ := hP v h1 hq
  refine j_pop (dQ (by decide +kernel)) rfl ?_
  refine j_aload_n (k4 := 2) (dQ (by decide +kernel)) rfl ?_
  refine J.room (kc := 0 + kc) (ks := 0 + ks) (j_cV (own := 13) (i := 238) (y2 := 314) (d2 := d2) (mc := 0) (ms := 0) (kc := kc) (ks := ks) (a := b1 + 0) (As := []) (st := []) (by decide +kernel) lw_cls (by decide +kernel) (by decide) (by decide +kernel) (show 0 = jnp 314 by decide +kernel) (by omega) (by decide) hcm (fun r hr => by cases hr; decide +kernel) hm (fun v2 h2 hq2 => ?_)) (by omega) (by omega)
  obtain ⟨x2, rfl, he, bk2, hI2, hR⟩ := hP2 v2 h2 hq2
  refine j_pop (dQ (by decide +kernel)) rfl ?_
  refine j_goto (off := 3) (tgt := 1983) (dQ (by decide +kernel)) (by decide) ?_
  exact kk bk2 h2 hI2 hR
end LW
