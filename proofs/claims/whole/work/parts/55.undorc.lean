theorem RS.copy2 {f g : Nat → Nat → Int32} {c p : Nat} {a : Nat → Int32} {p0 p1 p2 : Nat} (h : RS f p a p0 p1 p2) (hc : CopyS f g c p (tn (a (p1 + 2))) (min (tn (a (p1 + 1))) 20)) : RS g c a p0 p1 p2 := by
  obtain ⟨-, c0, c1, c2, c3, c4, c6, cr, cp⟩ := hc
  refine ⟨c0.trans h.wind, c1.trans h.frost, c2.trans h.hour, c3.trans h.x, c4.trans h.nr, fun k hk => (cr k hk).trans (h.row k hk), c6.trans h.sun, fun i j hi hj => (cp (4 * i + j) (by omega)).trans (h.pag i j hi hj)⟩
theorem RC.undo {f f1 g : Nat → Nat → Int32} {a : Nat → Int32} (r : RC f 0 a) (h : WF a) {e s : Nat} (hs : tn (a 4) = s + 1) (he : e < 30) (h1 : f 15 1 = nI e) (hsp : ∀ i, i < tn (a 4) → RS f (17 + 3 * ((e + i) % 30)) a (188 + 30 * i) (191 + 30 * i) (194 + 30 * i))
    (h15 : f1 15 = upd (f 15) 0 (nI s)) (hf1 : ∀ c, c ≠ 15 → f1 c = f c) (hc : CopyS f1 g 12 (17 + 3 * ((e + s) % 30)) (tn (a (191 + 30 * s + 2))) (min (tn (a (191 + 30 * s + 1))) 20)) : RC g 0 (uf a s) := by
  have hn := (h.ns.is (by omega)).2.2
  have lo : ∀ i, i ≠ 4 → (i < 8 ∨ i = 11 ∨ (15 ≤ i ∧ i < 164) ∨ 188 ≤ i) → uf a s i = a i := fun i h1 h2 => uf_n h1 h2
  have hi : ∀ i, 1088 ≤ i → uf a s i = a i := fun i h1 => uf_n (by omega) (by omega)
  have b0 := (h.nb.is (by omega)).2.2
  have b1 := (h.nw.is (by omega)).2.2
  have b5 := (h.nl.is (by omega)).2.2
  have bt : ∀ t, t < 2 → tn (a (6 + t)) ≤ 12 := fun t ht => ((h.tl t ht).is (by omega)).2.2
  have k4 : tn (uf a s 4) = s := by rw [uf_4]; exact tn_nI (by omega)
  have l0 := lo 0 (by omega) (by omega)
  have l1 := lo 1 (by omega) (by omega)
  have l2 := lo 2 (by omega) (by omega)
  have l3 := lo 3 (by omega) (by omega)
  have l5 := lo 5 (by omega) (by omega)
  have l11 := lo 11 (by omega) (by omega)
  have sl : (e + s) % 30 < 30 := Nat.mod_lt _ (by omega)
  have fr : ∀ c, c < 12 ∨ 16 ≤ c → g c = f c := fun c h1 => by rw [hc.1 c (by omega) (by omega) (by omega), hf1 c (by omega)]
  have g15 : g 15 = upd (f 15) 0 (nI s) := by rw [hc.1 15 (by omega) (by omega) (by omega), h15]
  refine ⟨?_, ?_, ?_, ?_, ?_, ?_, ?_, ?_, ?_, ?_, ?_, ?_, ?_, ?_, ?_, ?_, ?_, ?_, ?_, ?_, ?_, ?_, ?_⟩
  · rw [fr _ (by omega), l0]; exact r.nb
  · rw [fr _ (by omega), l1]; exact r.nw
  · rw [fr _ (by omega), l0]; intro b hb; rw [lo _ (by omega) (by omega)]; exact r.loud b hb
  · rw [fr _ (by omega), l0]; intro b hb; rw [lo _ (by omega) (by omega)]; exact r.pitch b hb
  · rw [fr _ (by omega), l0]; intro b hb; rw [lo _ (by omega) (by omega)]; exact r.men b hb
  · rw [fr _ (by omega), l1]; intro b hb; rw [lo _ (by omega) (by omega)]; exact r.kind b hb
  · rw [fr _ (by omega), l1]; intro b hb; rw [lo _ (by omega) (by omega)]; exact r.means b hb
  · rw [fr _ (by omega), l1]; intro b hb; rw [lo _ (by omega) (by omega)]; exact r.len b hb
  · rw [fr _ (by omega), l1]; intro q k hq hk; rw [lo _ (by omega) (by omega)]; exact r.str q k hq hk
  · rw [fr _ (by omega), l1]; intro b hb; rw [lo _ (by omega) (by omega)]; exact r.wei b hb
  · rw [fr _ (by omega), l1]; intro b hb; rw [lo _ (by omega) (by omega)]; exact r.has b hb
  · rw [fr _ (by omega), l5]; exact r.nl
  · rw [fr _ (by omega), l5]; intro b hb; rw [lo _ (by omega) (by omega)]; exact r.li0 b hb
  · rw [fr _ (by omega), l5]; intro b hb; rw [lo _ (by omega) (by omega)]; exact r.li1 b hb
  · rw [fr _ (by omega)]; intro t ht; rw [lo _ (by omega) (by omega)]; exact r.tl t ht
  · rw [fr _ (by omega)]; intro t k ht hk
    rw [lo _ (by omega) (by omega)] at hk
    have := bt t ht
    rw [lo _ (by omega) (by omega)]; exact r.tow t k ht hk
  · rw [fr _ (by omega), l11]; exact r.hd
  · rw [fr _ (by omega), l2]; exact r.nt
  · rw [fr _ (by omega), l3]; exact r.ru
  · have x0 : RS f1 (17 + 3 * ((e + s) % 30)) a (188 + 30 * s) (191 + 30 * s) (194 + 30 * s) := (hsp s (by omega)).fr (hf1 _ (by omega)) (hf1 _ (by omega)) (hf1 _ (by omega))
    have x : RS g 12 a (188 + 30 * s) (191 + 30 * s) (194 + 30 * s) := RS.copy2 x0 hc
    exact x.tr ((h.sp s (by omega)).nr.is (by omega)).2.2 (fun r hr => uf_0 hr) (fun r hr => uf_1 hr) (fun r hr => uf_2 hr) hi
  · show g 15 0 = uf a s 4
    rw [uf_4, g15, upd_s]
  · intro i hi3
    show bd (g (17 + 3 * i) 4) 0 24 ∧ bd (g (17 + 3 * i) 6) 0 20
    rw [fr _ (by omega)]
    exact r.al i hi3
  · show ∃ e', e' < 30 ∧ g 15 1 = nI e' ∧ ∀ i, i < tn (uf a s 4) → RS g (17 + 3 * ((e' + i) % 30)) (uf a s) (188 + 30 * i) (191 + 30 * i) (194 + 30 * i)
    refine ⟨e, he, by rw [g15, upd_n _ _ (by omega), h1], fun i hi2 => ?_⟩
    rw [k4] at hi2
    have x : RS g (17 + 3 * ((e + i) % 30)) a (188 + 30 * i) (191 + 30 * i) (194 + 30 * i) := (hsp i (by omega)).fr (fr _ (by omega)) (fr _ (by omega)) (fr _ (by omega))
    exact x.tr ((h.sp i (by omega)).nr.is (by omega)).2.2 (fun r hr => lo _ (by omega) (by omega)) (fun r hr => lo _ (by omega) (by omega)) (fun r hr => lo _ (by omega) (by omega)) hi
theorem case_undo (G : GP) (d : Nat) {TX : (Nat → Nat → Int32) → Prop} (hT : TXok TX) {n : Nat} (m : Mem) (h : Inv TX n m.1) : Evi G (d + 3) mX11_undo [.ref (ga G 0)] m (Same G TX n (d + 3) mX12_undo []) := by
  have hR := h.2.2.1
  have hw := h.2.2.2.2.2.2.2.1
  obtain ⟨e1, -, e3⟩ := h.1.ns.is (by omega)
  obtain ⟨e, he, h1, hsp⟩ := hR.sp
  have h1 : m.1 15 1 = nI e := h1
  have n0 : m.1 15 0 = nI (tn (m.1 274 4)) := (show m.1 15 0 = m.1 274 4 from hR.ns).trans e1
  refine vX11_undo G d m _ (vX6_takeBack G d m _ ⟨fun q => ?_, fun q => ?_⟩)
  · obtain ⟨s, hs⟩ : ∃ s, tn (m.1 274 4) = s + 1 := by
      refine ⟨tn (m.1 274 4) - 1, ?_⟩
      rcases Nat.eq_zero_or_pos (tn (m.1 274 4)) with z | z
      · exact absurd (n0.trans (congrArg nI z)) q
      · omega
    rintro m1 em1
    have s0 : m.1 15 0 - 1 = nI s := by
      rw [n0, hs]
      exact sub_nI (a := s + 1) (b := 1) (by omega)
    rw [s0] at em1
    have c15 : m1.1 15 = upd (m.1 15) 0 (nI s) := by rw [em1, wI_s]
    have cf : ∀ c, c ≠ 15 → m1.1 c = m.1 c := fun c hc => by rw [em1, wI_n _ _ _ hc]
    have g0 : m1.1 15 0 = nI s := by rw [c15, upd_s]
    have g1 : m1.1 15 1 = nI e := by rw [c15, upd_n _ _ (by omega), h1]
    have r1 : (nI e + nI s) - (nI e + nI s) / 30 * 30 = nI ((e + s) % 30) := by
      rw [nI_add]
      exact rem_nI (a := e + s) (b := 30) (by omega) (by omega) (by omega)
    have hlt : (e + s) % 30 < 30 := Nat.mod_lt _ (by omega)
    rw [g0, g1, r1, tn_nI (by omega)]
    refine ⟨in_nI hlt (by omega), ?_⟩
    rintro t rfl
    have rs := hsp s (by omega)
    have ws := h.1.sp s (by omega)
    have q4 := ws.nr.is (by omega)
    refine qX5_copyFrom G d 12 (17 + 3 * ((e + s) % 30)) se_now (se_all16 _ hlt) (by omega) m1 _ (tn (m.1 274 (191 + 30 * s + 2))) (min (tn (m.1 274 (191 + 30 * s + 1))) 20) ?_ q4.2.2 ?_ (by omega) (fun m2 hm2 => ?_)
    · rw [cf _ (by omega)]
      exact rs.nr.trans q4.1
    · rw [cf _ (by omega)]
      exact rs.sun
    · have f274 : m2.1 274 = m.1 274 := by rw [hm2.1 274 (by omega) (by omega) (by omega), cf 274 (by omega)]
      have g2 : m2.1 15 0 = nI s := by rw [hm2.1 15 (by omega) (by omega) (by omega), g0]
      rw [g2]
      refine qX12_undo G (d + 3) m2 _ (by rw [f274]; exact h.1.ns) (fun z => ?_) (fun s' hs' => ?_)
      · rw [f274] at z
        omega
      · rw [f274] at hs' ⊢
        have : s' = s := by omega
        subst this
        have sb := ws.wr.is (by omega)
        refine ⟨rfl, h.step hT (fun c hc => ?_) ?_ ?_ ?_ ?_⟩
        · rw [wA_n _ _ (by omega), hm2.1 c (by omega) (by omega) (by omega), cf c (by omega)]
        · rw [wA_s]
          exact h.1.undo hs
        · rw [wA_s]
          have hrc : RC m2.1 0 (uf (m.1 274) s') := hR.undo h.1 hs he h1 hsp c15 cf hm2
          exact hrc.fr (fun c h1 h2 _ _ => wA_n _ _ (by omega))
        · rw [wA_s, uf_n (by omega) (by omega)]
        · rw [wA_s]
          have o := uf_1 (a := m.1 274) (s := s') (r := 1) (by omega)
          rw [show 12 + 1 = 13 by rfl] at o
          rw [o]
          have o2 := (h.1.w2 s' (by omega)).1
          rw [show 192 + 30 * s' = 191 + 30 * s' + 1 by omega] at o2
          omega
  · have z : tn (m.1 274 4) = 0 := by
      rw [n0] at q
      have q : nI (tn (m.1 274 4)) = nI 0 := q
      rw [eq_nI (by omega) (by omega)] at q
      exact q
    exact qX12_undo G (d + 3) m _ h.1.ns (fun _ => ⟨rfl, h.idle⟩) (fun s hs => by omega)
