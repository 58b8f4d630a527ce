theorem RS.copy {f g : Nat → Nat → Int32} {c : Nat} {a : Nat → Int32} {p0 p1 p2 : Nat} (h : RS f 12 a p0 p1 p2) (hc : CopyS f g c 12 (tn (a (p1 + 2))) (min (tn (a (p1 + 1))) 20)) : RS g c a p0 p1 p2 := by
  obtain ⟨-, c0, c1, c2, c3, c4, c6, cr, cp⟩ := hc
  refine ⟨c0.trans h.wind, c1.trans h.frost, c2.trans h.hour, c3.trans h.x, c4.trans h.nr, fun k hk => (cr k hk).trans (h.row k hk), c6.trans h.sun, fun i j hi hj => (cp (4 * i + j) (by omega)).trans (h.pag i j hi hj)⟩
/-- the class's world behind keep, beside the model's kept row: g is f but for a Season's slot and the counts of Steps -/
theorem RC.keep {f f1 g : Nat → Nat → Int32} {a : Nat → Int32} (r : RC f 0 a) (h : WF a) {e : Nat} (he : e < 30) (h1 : f 15 1 = nI e) (hsp : ∀ i, i < tn (a 4) → RS f (17 + 3 * ((e + i) % 30)) a (188 + 30 * i) (191 + 30 * i) (194 + 30 * i))
    (hc : CopyS f f1 (17 + 3 * ((e + tn (a 4)) % 30)) 12 (tn (a 14)) (min (tn (a 13)) 20)) (hg : ∀ c, c ≠ 15 → g c = f1 c) (h15 : g 15 = if tn (a 4) < 30 then upd (f1 15) 0 (nI (tn (a 4) + 1)) else upd (f1 15) 1 (nI ((e + 1) % 30))) : RC g 0 (keepF a) := by
  have hn := (h.ns.is (by omega)).2.2
  obtain ⟨k30, kks⟩ := ks_lt hn
  have lo : ∀ i, i < 188 → i ≠ 4 → keepF a i = a i := fun i h1 h2 => keepF_lo hn (by omega) h2
  have hi : ∀ i, 1088 ≤ i → keepF a i = a i := fun i h1 => keepF_lo hn (by omega) (by omega)
  have b0 := (h.nb.is (by omega)).2.2
  have b1 := (h.nw.is (by omega)).2.2
  have b5 := (h.nl.is (by omega)).2.2
  have bt : ∀ t, t < 2 → tn (a (6 + t)) ≤ 12 := fun t ht => ((h.tl t ht).is (by omega)).2.2
  have k4 : tn (keepF a 4) = ks a + 1 := by rw [keepF_4]; exact tn_nI (by omega)
  have l0 := lo 0 (by omega) (by omega)
  have l1 := lo 1 (by omega) (by omega)
  have l2 := lo 2 (by omega) (by omega)
  have l3 := lo 3 (by omega) (by omega)
  have l5 := lo 5 (by omega) (by omega)
  have l11 := lo 11 (by omega) (by omega)
  have sl : (e + tn (a 4)) % 30 < 30 := Nat.mod_lt _ (by omega)
  have fr : ∀ c, c < 15 ∨ 107 ≤ c → g c = f c := fun c h1 => by rw [hg c (by omega), hc.1 c (by omega) (by omega) (by omega)]
  have o15 : f1 15 = f 15 := hc.1 15 (by omega) (by omega) (by omega)
  have ns0 : f 15 0 = a 4 := r.ns
  have a4 : a 4 = nI (tn (a 4)) := (h.ns.is (by omega)).1
  refine ⟨?_, ?_, ?_, ?_, ?_, ?_, ?_, ?_, ?_, ?_, ?_, ?_, ?_, ?_, ?_, ?_, ?_, ?_, ?_, ?_, ?_, ?_, ?_⟩
  · rw [fr _ (by omega), l0]; exact r.nb
  · rw [fr _ (by omega), l1]; exact r.nw
  · rw [fr _ (by omega), l0]; intro b hb; rw [lo _ (by omega) (by omega)]; exact r.loud b hb
  · rw [fr _ (by omega), l0]; intro b hb; rw [lo _ (by omega) (by omega)]; exact r.pitch b hb
  · rw [fr _ (by omega), l0]; intro b hb; rw [lo _ (by omega) (by omega)]; exact r.men b hb
  · rw [fr _ (by omega), l1]; intro b hb; rw [lo _ (by omega) (by omega)]; exact r.kind b hb
  · rw [fr _ (by omega), l1]; intro b hb; rw [lo _ (by omega) (by omega)]; exact r.means b hb
  · rw [fr _ (by omega), l1]; intro b hb; rw [lo _ (by omega) (by omega)]; exact r.len b hb
  · rw [fr _ (by omega), l1]; intro q k hq hk; rw [lo _ (by omega) (by omega)]; exact r.str q k hq hk
  · rw [fr _ (by omega), l1]; intro b hb; rw [lo _ (by omega) (by omega)]; exact r.wei b hb
  · rw [fr _ (by omega), l1]; intro b hb; rw [lo _ (by omega) (by omega)]; exact r.has b hb
  · rw [fr _ (by omega), l5]; exact r.nl
  · rw [fr _ (by omega), l5]; intro b hb; rw [lo _ (by omega) (by omega)]; exact r.li0 b hb
  · rw [fr _ (by omega), l5]; intro b hb; rw [lo _ (by omega) (by omega)]; exact r.li1 b hb
  · rw [fr _ (by omega)]; intro t ht; rw [lo _ (by omega) (by omega)]; exact r.tl t ht
  · rw [fr _ (by omega)]; intro t k ht hk
    rw [lo _ (by omega) (by omega)] at hk
    have := bt t ht
    rw [lo _ (by omega) (by omega)]; exact r.tow t k ht hk
  · rw [fr _ (by omega), l11]; exact r.hd
  · rw [fr _ (by omega), l2]; exact r.nt
  · rw [fr _ (by omega), l3]; exact r.ru
  · have x : RS g 12 a 8 12 164 := r.now.fr (fr _ (by omega)) (fr _ (by omega)) (fr _ (by omega))
    exact x.tr (h.now.nr.is (by omega)).2.2 (fun r hr => lo _ (by omega) (by omega)) (fun r hr => lo _ (by omega) (by omega)) (fun r hr => lo _ (by omega) (by omega)) hi
  · show g 15 0 = keepF a 4
    rw [keepF_4, h15]
    by_cases hlt : tn (a 4) < 30
    · rw [if_pos hlt, upd_s]
      exact congrArg nI (by unfold ks; rw [if_neg (by omega)])
    · rw [if_neg hlt, upd_n _ _ (by omega), o15, ns0, a4]
      exact congrArg nI (by unfold ks; rw [if_pos (by omega)]; omega)
  · intro i hi3
    show bd (g (17 + 3 * i) 4) 0 24 ∧ bd (g (17 + 3 * i) 6) 0 20
    rw [hg _ (by omega)]
    by_cases q : i = (e + tn (a 4)) % 30
    · rw [q, hc.2.2.2.2.2.1, hc.2.2.2.2.2.2.1]
      have x1 : f 12 4 = a 14 := r.now.nr
      have x2 : f 12 6 = nI (min (tn (a 13)) 20) := r.now.sun
      rw [x1, x2]
      exact ⟨h.now.nr, ⟨_, by omega, by omega, rfl⟩⟩
    · rw [hc.1 _ (by omega) (by omega) (by omega)]
      exact r.al i hi3
  · have nowc : RS f1 (17 + 3 * ((e + tn (a 4)) % 30)) a 8 12 164 := RS.copy r.now hc
    have newc : ∀ c, c = 17 + 3 * ((e + tn (a 4)) % 30) → RS g c (keepF a) (188 + 30 * ks a) (191 + 30 * ks a) (194 + 30 * ks a) := by
      rintro c rfl
      have x : RS g (17 + 3 * ((e + tn (a 4)) % 30)) a 8 12 164 := nowc.fr (hg _ (by omega)) (hg _ (by omega)) (hg _ (by omega))
      exact x.tr (h.now.nr.is (by omega)).2.2 (fun r hr => keepF_n0 hr) (fun r hr => keepF_n1 hr) (fun r hr => keepF_n2 hr) hi
    have oldc : ∀ i c, i < ks a → c = 17 + 3 * ((e + (i + kh a)) % 30) → RS g c (keepF a) (188 + 30 * i) (191 + 30 * i) (194 + 30 * i) := by
      rintro i c hlt rfl
      have ne : (e + (i + kh a)) % 30 ≠ (e + tn (a 4)) % 30 := by
        have : kh a ≤ 1 := by unfold kh; by_cases q : tn (a 4) = 30; · rw [if_pos q]; omega
                              · rw [if_neg q]; omega
        have kz : kh a = 1 → tn (a 4) = 30 := by unfold kh; by_cases q : tn (a 4) = 30; · exact fun _ => q
                                                 · rw [if_neg q]; intro z; omega
        omega
      have x : RS g (17 + 3 * ((e + (i + kh a)) % 30)) a (188 + 30 * (i + kh a)) (191 + 30 * (i + kh a)) (194 + 30 * (i + kh a)) := (hsp (i + kh a) (by omega)).fr (by rw [hg _ (by omega), hc.1 _ (by omega) (by omega) (by omega)]) (by rw [hg _ (by omega), hc.1 _ (by omega) (by omega) (by omega)]) (by rw [hg _ (by omega), hc.1 _ (by omega) (by omega) (by omega)])
      refine x.tr ((h.sp (i + kh a) (by omega)).nr.is (by omega)).2.2 (fun r hr => keepF_old hn hlt (by omega)) (fun r hr => ?_) (fun r hr => ?_) hi
      · have := keepF_old hn hlt (r := 3 + r) (by omega)
        rw [show 188 + 30 * i + (3 + r) = 191 + 30 * i + r by omega, show 188 + 30 * (i + kh a) + (3 + r) = 191 + 30 * (i + kh a) + r by omega] at this
        exact this
      · have := keepF_old hn hlt (r := 6 + r) (by omega)
        rw [show 188 + 30 * i + (6 + r) = 194 + 30 * i + r by omega, show 188 + 30 * (i + kh a) + (6 + r) = 194 + 30 * (i + kh a) + r by omega] at this
        exact this
    show ∃ e', e' < 30 ∧ g 15 1 = nI e' ∧ ∀ i, i < tn (keepF a 4) → RS g (17 + 3 * ((e' + i) % 30)) (keepF a) (188 + 30 * i) (191 + 30 * i) (194 + 30 * i)
    by_cases hlt : tn (a 4) < 30
    · have k0 : kh a = 0 := if_neg (by omega)
      refine ⟨e, he, ?_, fun i hi2 => ?_⟩
      · rw [h15, if_pos hlt, upd_n _ _ (by omega), o15, h1]
      · rw [k4] at hi2
        rcases Nat.lt_or_ge i (ks a) with hl | hl
        · exact oldc i _ hl (by rw [k0, Nat.add_zero])
        · have : i = ks a := by omega
          subst this
          exact newc _ (by rw [show tn (a 4) = ks a by omega])
    · have k0 : kh a = 1 := if_pos (by omega)
      refine ⟨(e + 1) % 30, Nat.mod_lt _ (by omega), ?_, fun i hi2 => ?_⟩
      · rw [h15, if_neg hlt, upd_s]
      · rw [k4] at hi2
        rcases Nat.lt_or_ge i (ks a) with hl | hl
        · exact oldc i _ hl (by rw [k0]; omega)
        · have : i = ks a := by omega
          subst this
          exact newc _ (by omega)
