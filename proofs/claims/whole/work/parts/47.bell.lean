theorem WFs.mono {a : Nat → Int32} {nb nb' p0 p1 p2 : Nat} (h : WFs a nb p0 p1 p2) (hn : nb ≤ nb') : WFs a nb' p0 p1 p2 := by
  refine ⟨h.wind, h.frost, h.hour, h.x, h.wr, h.nr, fun k hk => ?_⟩
  obtain ⟨v, e, o⟩ := h.row k hk
  exact ⟨v, e, by omega⟩
theorem WF.bell1 {a : Nat → Int32} {k : Nat} {x y z : Int32} (h : WF a) (hk : tn (a 0) = k) (hk6 : k < 6) (hx : bd x 1 9) (hy : bd y 0 9) (hz : bd z 1 9) : WF (upd (upd (upd (upd a (16 + 3 * k) x) (17 + 3 * k) y) (18 + 3 * k) z) 0 (nI (k + 1))) := by
  have b0 := (h.nb.is (by omega)).2.2
  have b1 := (h.nw.is (by omega)).2.2
  have b2 := (h.nt.is (by omega)).2.2
  have b4 := (h.ns.is (by omega)).2.2
  have b5 := (h.nl.is (by omega)).2.2
  have b6 : tn (a 6) ≤ 12 := ((h.tl 0 (by omega)).is (by omega)).2.2
  have b7 : tn (a 7) ≤ 12 := ((h.tl 1 (by omega)).is (by omega)).2.2
  have bt : ∀ t, t < 2 → tn (a (6 + t)) ≤ 12 := fun t ht => ((h.tl t ht).is (by omega)).2.2
  have hk1 : tn (nI (k + 1)) = k + 1 := tn_nI (by omega)
  unfold WF WFs
  simp +contextual (disch := omega) only [upd_n, upd_s]
  refine ⟨⟨k + 1, by omega, by omega, rfl⟩, h.nw, h.nt, h.ru, h.ns, h.nl, h.tl, h.hd, ?_, ?_, ?_, h.kind, h.means, h.len, ?_, h.non, h.wei, h.has, h.li0, h.li1, ?_, (h.now.mono (by omega) : WFs a (tn (nI (k + 1))) 8 12 164), fun i hi => ((h.sp i hi).mono (by omega) : WFs a (tn (nI (k + 1))) (188 + 30 * i) (191 + 30 * i) (194 + 30 * i)), h.w1, h.w2⟩
  · intro q hq
    rw [hk1] at hq
    by_cases e : q = k
    · subst e
      simp (disch := omega) only [upd_n, upd_s]
      exact hx
    · simp (disch := omega) only [upd_n]
      exact h.loud q (by omega)
  · intro q hq
    rw [hk1] at hq
    by_cases e : q = k
    · subst e
      simp (disch := omega) only [upd_n, upd_s]
      exact hy
    · simp (disch := omega) only [upd_n]
      exact h.pitch q (by omega)
  · intro q hq
    rw [hk1] at hq
    by_cases e : q = k
    · subst e
      simp (disch := omega) only [upd_n, upd_s]
      exact hz
    · simp (disch := omega) only [upd_n]
      exact h.men q (by omega)
  · intro q i hq hi
    have := ((h.len q hq).is (by omega)).2.2
    obtain ⟨b, hb, e⟩ := h.str q i hq hi
    exact ⟨b, by omega, e⟩
  · intro t i ht hi
    obtain ⟨b, hb, e⟩ := h.tow t i ht (by simpa (disch := omega) only [upd_n] using hi)
    exact ⟨b, by omega, e⟩
theorem RC.bell1 {f g : Nat → Nat → Int32} {a : Nat → Int32} {k : Nat} {x y z : Int32} (r : RC f 0 a) (h : WF a) (hk : tn (a 0) = k) (hk6 : k < 6) (h1 : g 2 = upd (f 2) 0 (nI (k + 1))) (h2 : g 3 = upd (f 3) k x) (h3 : g 4 = upd (f 4) k y) (h4 : g 5 = upd (f 5) k z) (hg : ∀ c, 1 ≤ c → c ≤ 113 → c ≠ 2 → c ≠ 3 → c ≠ 4 → c ≠ 5 → g c = f c) : RC g 0 (upd (upd (upd (upd a (16 + 3 * k) x) (17 + 3 * k) y) (18 + 3 * k) z) 0 (nI (k + 1))) := by
  have b0 := (h.nb.is (by omega)).2.2
  have b1 := (h.nw.is (by omega)).2.2
  have b2 := (h.nt.is (by omega)).2.2
  have b4 := (h.ns.is (by omega)).2.2
  have b5 := (h.nl.is (by omega)).2.2
  have b6 : tn (a 6) ≤ 12 := ((h.tl 0 (by omega)).is (by omega)).2.2
  have b7 : tn (a 7) ≤ 12 := ((h.tl 1 (by omega)).is (by omega)).2.2
  have bt : ∀ t, t < 2 → tn (a (6 + t)) ≤ 12 := fun t ht => ((h.tl t ht).is (by omega)).2.2
  have hk1 : tn (nI (k + 1)) = k + 1 := tn_nI (by omega)
  unfold RC RS
  simp +contextual (disch := omega) only [upd_n, upd_s, hg, h1, h2, h3, h4, Nat.add_zero]
  refine ⟨True.intro, r.nw, ?_, ?_, ?_, r.kind, r.means, r.len, r.str, r.wei, r.has, r.nl, r.li0, r.li1, r.tl, r.tow, r.hd, r.nt, r.ru, r.now, r.ns, r.al, r.sp⟩
  · intro q hq
    rw [hk1] at hq
    by_cases e : q = k
    · subst e
      simp (disch := omega) only [upd_n, upd_s]
    · simp (disch := omega) only [upd_n]
      exact r.loud q (by omega)
  · intro q hq
    rw [hk1] at hq
    by_cases e : q = k
    · subst e
      simp (disch := omega) only [upd_n, upd_s]
    · simp (disch := omega) only [upd_n]
      exact r.pitch q (by omega)
  · intro q hq
    rw [hk1] at hq
    by_cases e : q = k
    · subst e
      simp (disch := omega) only [upd_n, upd_s]
    · simp (disch := omega) only [upd_n]
      exact r.men q (by omega)
theorem case_bell (G : GP) (d : Nat) {TX : (Nat → Nat → Int32) → Prop} (hT : TXok TX) {n : Nat} (a0 a1 a2 : Int32) (m : Mem) (h : Inv TX n m.1) : Evi G (d + 2) mX11_bell [.ref (ga G 0), .int a0, .int a1, .int a2] m (Same G TX n (d + 1) mX12_bell [.int a0, .int a1, .int a2]) := by
  have hR := h.2.2.1
  obtain ⟨e1, -, e3⟩ := h.1.nb.is (by omega)
  have e2 : m.1 2 0 = m.1 274 0 := hR.nb
  have hw := h.2.2.2.2.2.2.2.1
  generalize hk : tn (m.1 274 0) = k at *
  have hk8 : m.1 2 0 = nI k := e2.trans e1
  have i0 : (16 : Int32) + ((3 : Int32) * nI k) = nI (16 + 3 * k) := by
    simp only [lit, pk_mul, nI_add]
  have i1 : nI (16 + 3 * k) + 1 = nI (17 + 3 * k) := (nI_1 _).trans (congrArg nI (by omega))
  have i2 : nI (16 + 3 * k) + 2 = nI (18 + 3 * k) := (nI_add _ 2).trans (congrArg nI (by omega))
  refine vX11_bell G (d) a0 a1 a2 m _ ?_
  refine vX2_addBell G d a0 a1 a2 m _ ⟨fun q => ?_, fun q => ⟨fun q1 => ⟨fun q2 => ⟨fun q3 => ?_, fun q3 => ?_⟩, fun q2 => ?_⟩, fun q1 => ?_⟩⟩
  · rw [hk8] at q
    have q : nI 6 ≤ nI k := q
    rw [le_nI (by omega) (by omega)] at q
    have k6 : m.1 274 0 = 6 := by rw [e1, show k = 6 by omega]; rfl
    exact vX12_bell G d a0 a1 a2 m _ ⟨fun _ => ⟨fun _ => ⟨fun _ => ⟨fun q5 => absurd k6 q5, fun _ => ⟨rfl, h.idle⟩⟩, fun _ => ⟨rfl, h.idle⟩⟩, fun _ => ⟨rfl, h.idle⟩⟩, fun _ => ⟨rfl, h.idle⟩⟩
  · rw [hk8] at q
    have q : ¬ nI 6 ≤ nI k := q
    rw [le_nI (by omega) (by omega)] at q
    have k6 : k < 6 := by omega
    rw [hk8, tn_nI (by omega)]
    refine ⟨in_nI k6 (by omega), ?_⟩
    rintro _ rfl
    rw [wI_n _ _ _ (by omega), hk8, tn_nI (by omega)]
    refine ⟨in_nI k6 (by omega), ?_⟩
    rintro _ rfl
    rw [wI_n _ _ _ (by omega), wI_n _ _ _ (by omega), hk8, tn_nI (by omega)]
    refine ⟨in_nI k6 (by omega), ?_⟩
    rintro _ rfl
    rw [wI_n _ _ _ (by omega), wI_n _ _ _ (by omega), wI_n _ _ _ (by omega), hk8, nI_1]
    rintro _ rfl
    rw [wI_s, upd_s]
    refine vX12_bell G d a0 a1 a2 _ _ ⟨fun _ => ⟨fun _ => ⟨fun _ => ⟨fun q5 => ?_, fun q5 => ?_⟩, fun q5 => absurd q3 q5⟩, fun q5 => absurd q2 q5⟩, fun q5 => absurd q1 q5⟩
    · simp (disch := omega) only [wI_s, wI_n, e1, i0]
      rintro _ rfl
      rw [tn_nI (by omega), i1, i2, tn_nI (by omega), tn_nI (by omega)]
      refine ⟨in_nI (by omega) (by omega), ?_⟩
      rintro _ rfl
      refine ⟨in_nI (by omega) (by omega), ?_⟩
      rintro _ rfl
      refine ⟨in_nI (by omega) (by omega), ?_⟩
      rintro _ rfl
      simp (disch := omega) only [wI_s, wI_n, upd_n, e1, nI_1]
      rintro _ rfl
      refine ⟨?_, h.upd hT (by omega) (fun c h1 h2 => ?_) rfl rfl ?_ ?_ rfl rfl ?_ ?_ ?_⟩
      · simp (disch := omega) only [wI_s, upd_s]
      · simp (disch := omega) only [wI_n]
      · simp (disch := omega) only [wI_s, wI_n]
        exact h.1.bell1 hk k6 (bd_of q1.1 q1.2 (by omega) (by omega)) (bd_of q2.1 q2.2 (by omega) (by omega)) (bd_of q3.1 q3.2 (by omega) (by omega))
      · simp (disch := omega) only [wI_s, wI_n]
        exact hR.bell1 h.1 hk k6 (by simp (disch := omega) only [wI_s, wI_n]) (by simp (disch := omega) only [wI_s, wI_n]) (by simp (disch := omega) only [wI_s, wI_n]) (by simp (disch := omega) only [wI_s, wI_n]) (fun c h1 h2 h3 h4 h5 h6 => by simp (disch := omega) only [wI_n])
      · simp (disch := omega) only [wI_s, wI_n, upd_n]
      · simp (disch := omega) only [wI_s, wI_n, upd_n]
      · simp (disch := omega) only [wI_s, wI_n, upd_n]
        omega
    · exfalso
      simp (disch := omega) only [wI_s, wI_n, e1] at q5
      have q5 : nI k = nI 6 := q5
      rw [eq_nI (by omega) (by omega)] at q5
      omega
  · exact vX12_bell G d a0 a1 a2 m _ ⟨fun _ => ⟨fun _ => ⟨fun q5 => absurd q5 q3, fun _ => ⟨rfl, h.idle⟩⟩, fun _ => ⟨rfl, h.idle⟩⟩, fun _ => ⟨rfl, h.idle⟩⟩
  · exact vX12_bell G d a0 a1 a2 m _ ⟨fun _ => ⟨fun q5 => absurd q5 q2, fun _ => ⟨rfl, h.idle⟩⟩, fun _ => ⟨rfl, h.idle⟩⟩
  · exact vX12_bell G d a0 a1 a2 m _ ⟨fun q5 => absurd q5 q1, fun _ => ⟨rfl, h.idle⟩⟩
