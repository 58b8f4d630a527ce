theorem WF.line0 {a : Nat → Int32}  (h : WF a)  : WF (upd a 5 0) := by
  have b0 := (h.nb.is (by omega)).2.2
  have b1 := (h.nw.is (by omega)).2.2
  have b2 := (h.nt.is (by omega)).2.2
  have b4 := (h.ns.is (by omega)).2.2
  have b5 := (h.nl.is (by omega)).2.2
  have b6 : tn (a 6) ≤ 12 := ((h.tl 0 (by omega)).is (by omega)).2.2
  have b7 : tn (a 7) ≤ 12 := ((h.tl 1 (by omega)).is (by omega)).2.2
  have bt : ∀ t, t < 2 → tn (a (6 + t)) ≤ 12 := fun t ht => ((h.tl t ht).is (by omega)).2.2
  unfold WF WFs
  simp +contextual (disch := omega) only [upd_n, upd_s]
  refine ⟨h.nb, h.nw, h.nt, h.ru, h.ns, ⟨0, by omega, by omega, rfl⟩, h.tl, h.hd, h.loud, h.pitch, h.men, h.kind, h.means, h.len, h.str, h.non, h.wei, h.has, fun k hk => absurd hk (Nat.not_lt_zero k), fun k hk => absurd hk (Nat.not_lt_zero k), h.tow, h.now, h.sp, h.w1, h.w2⟩
theorem RC.line0 {f g : Nat → Nat → Int32} {a : Nat → Int32}  (r : RC f 0 a) (h : WF a) (h1 : g 107 = upd (f 107) 2 0) (hg : ∀ c, 1 ≤ c → c ≤ 113 → c ≠ 107 → g c = f c) : RC g 0 (upd a 5 0) := by
  have b0 := (h.nb.is (by omega)).2.2
  have b1 := (h.nw.is (by omega)).2.2
  have b2 := (h.nt.is (by omega)).2.2
  have b4 := (h.ns.is (by omega)).2.2
  have b5 := (h.nl.is (by omega)).2.2
  have b6 : tn (a 6) ≤ 12 := ((h.tl 0 (by omega)).is (by omega)).2.2
  have b7 : tn (a 7) ≤ 12 := ((h.tl 1 (by omega)).is (by omega)).2.2
  have bt : ∀ t, t < 2 → tn (a (6 + t)) ≤ 12 := fun t ht => ((h.tl t ht).is (by omega)).2.2
  unfold RC RS
  simp +contextual (disch := omega) only [upd_n, upd_s, hg, h1, Nat.add_zero]
  refine ⟨r.nb, r.nw, r.loud, r.pitch, r.men, r.kind, r.means, r.len, r.str, r.wei, r.has, True.intro, fun k hk => absurd hk (Nat.not_lt_zero k), fun k hk => absurd hk (Nat.not_lt_zero k), r.tl, r.tow, r.hd, r.nt, r.ru, r.now, r.ns, r.al, r.sp⟩
theorem WF.line1 {a : Nat → Int32} {k v1 u1 : Nat} {v u : Int32} (h : WF a) (hk : tn (a 5) = k) (hk8 : k < 8) (hv1 : v1 < tn (a 1)) (hv : v = nI v1) (hu1 : u1 < tn (a 1)) (hu : u = nI u1) : WF (upd (upd (upd a (124 + 2 * k) v) (125 + 2 * k) u) 5 (nI (k + 1))) := by
  have b0 := (h.nb.is (by omega)).2.2
  have b1 := (h.nw.is (by omega)).2.2
  have b2 := (h.nt.is (by omega)).2.2
  have b4 := (h.ns.is (by omega)).2.2
  have b5 := (h.nl.is (by omega)).2.2
  have b6 : tn (a 6) ≤ 12 := ((h.tl 0 (by omega)).is (by omega)).2.2
  have b7 : tn (a 7) ≤ 12 := ((h.tl 1 (by omega)).is (by omega)).2.2
  have bt : ∀ t, t < 2 → tn (a (6 + t)) ≤ 12 := fun t ht => ((h.tl t ht).is (by omega)).2.2
  unfold WF WFs
  simp +contextual (disch := omega) only [upd_n, upd_s]
  refine ⟨h.nb, h.nw, h.nt, h.ru, h.ns, ⟨k + 1, by omega, by omega, rfl⟩, h.tl, h.hd, h.loud, h.pitch, h.men, h.kind, h.means, h.len, ?_, h.non, h.wei, h.has, ?_, ?_, h.tow, h.now, h.sp, h.w1, h.w2⟩
  · intro q z hq hz
    have := ((h.len q hq).is (by omega)).2.2
    simp (disch := omega) only [upd_n]
    exact h.str q z hq hz
  · intro q hq
    have hq : q < k + 1 := (tn_nI (n := k + 1) (by omega)) ▸ hq
    by_cases e : q = k
    · subst e
      simp (disch := omega) only [upd_n, upd_s]
      exact ⟨v1, hv1, hv⟩
    · simp (disch := omega) only [upd_n]
      exact h.li0 q (by omega)
  · intro q hq
    have hq : q < k + 1 := (tn_nI (n := k + 1) (by omega)) ▸ hq
    by_cases e : q = k
    · subst e
      simp (disch := omega) only [upd_n, upd_s]
      exact ⟨u1, hu1, hu⟩
    · simp (disch := omega) only [upd_n]
      exact h.li1 q (by omega)
theorem RC.line1 {f g : Nat → Nat → Int32} {a : Nat → Int32} {k : Nat} {v u : Int32} (r : RC f 0 a) (h : WF a) (hk : tn (a 5) = k) (hk8 : k < 8) (h1 : g 107 = upd (f 107) 2 (nI (k + 1))) (h2 : g 110 = upd (f 110) k v) (h3 : g 111 = upd (f 111) k u) (hg : ∀ c, 1 ≤ c → c ≤ 113 → c ≠ 107 → c ≠ 110 → c ≠ 111 → g c = f c) : RC g 0 (upd (upd (upd a (124 + 2 * k) v) (125 + 2 * k) u) 5 (nI (k + 1))) := by
  have b0 := (h.nb.is (by omega)).2.2
  have b1 := (h.nw.is (by omega)).2.2
  have b2 := (h.nt.is (by omega)).2.2
  have b4 := (h.ns.is (by omega)).2.2
  have b5 := (h.nl.is (by omega)).2.2
  have b6 : tn (a 6) ≤ 12 := ((h.tl 0 (by omega)).is (by omega)).2.2
  have b7 : tn (a 7) ≤ 12 := ((h.tl 1 (by omega)).is (by omega)).2.2
  have bt : ∀ t, t < 2 → tn (a (6 + t)) ≤ 12 := fun t ht => ((h.tl t ht).is (by omega)).2.2
  unfold RC RS
  simp +contextual (disch := omega) only [upd_n, upd_s, hg, h1, h2, h3, Nat.add_zero]
  refine ⟨r.nb, r.nw, r.loud, r.pitch, r.men, r.kind, r.means, r.len, r.str, r.wei, r.has, True.intro, ?_, ?_, r.tl, r.tow, r.hd, r.nt, r.ru, r.now, r.ns, r.al, r.sp⟩
  · intro q hq
    have hq : q < k + 1 := (tn_nI (n := k + 1) (by omega)) ▸ hq
    by_cases e : q = k
    · subst e
      simp (disch := omega) only [upd_n, upd_s]
    · simp (disch := omega) only [upd_n]
      exact r.li0 q (by omega)
  · intro q hq
    have hq : q < k + 1 := (tn_nI (n := k + 1) (by omega)) ▸ hq
    by_cases e : q = k
    · subst e
      simp (disch := omega) only [upd_n, upd_s]
    · simp (disch := omega) only [upd_n]
      exact r.li1 q (by omega)
theorem case_line (G : GP) (d : Nat) {TX : (Nat → Nat → Int32) → Prop} (hT : TXok TX) {n : Nat} (a0 a1 : Int32) (m : Mem) (h : Inv TX n m.1) : Evi G (d + 2) mX11_line [.ref (ga G 0), .int a0, .int a1] m (Same G TX n (d + 2) mX12_line [.int a0, .int a1]) := by
  have hR := h.2.2.1
  obtain ⟨e1, -, e3⟩ := h.1.nw.is (by omega)
  have e2 : m.1 2 4 = m.1 274 1 := hR.nw
  obtain ⟨l1, -, l3⟩ := h.1.nl.is (by omega)
  have l2 : m.1 107 2 = m.1 274 5 := hR.nl
  have hq : ∀ x : Int32, (0 ≤ x ∧ x ≤ m.1 274 1 - 1) ↔ (0 ≤ x ∧ x < m.1 2 4) := fun x => by rw [e2, e1, oneM_nI (by omega), one_nI (by omega)]
  have hw := h.2.2.2.2.2.2.2.1
  refine vX11_line G (d + 1) a0 a1 m _ ⟨fun q => ⟨fun q2 => ⟨fun q3 => ?_, fun q3 => ?_⟩, fun q2 => ?_⟩, fun q => ?_⟩
  · have q2' := q2
    have q3' := q3
    rw [e2, e1, one_nI (by omega)] at q2 q3
    obtain ⟨v, hv, rfl⟩ := q2
    obtain ⟨u, hu, rfl⟩ := q3
    generalize hk : tn (m.1 274 5) = k at *
    have hk8 : m.1 107 2 = nI k := l2.trans l1
    refine vX9_addLine G (d + 1) _ _ m _ ⟨fun q4 => ?_, fun q4 => ?_⟩
    · rw [hk8] at q4 ⊢
      have q4 : nI k < nI 8 := q4
      rw [lt_nI (by omega) (by omega)] at q4
      refine ⟨in_nI q4 (by omega), ?_⟩
      rintro _ rfl
      rw [wI_n _ _ _ (by omega), hk8, tn_nI (by omega)]
      refine ⟨in_nI q4 (by omega), ?_⟩
      rintro _ rfl
      rw [wI_n _ _ _ (by omega), wI_n _ _ _ (by omega), hk8, nI_1]
      rintro _ rfl
      have m5 : m.1 274 5 = nI k := l1
      have i0 : (124 : Int32) + ((2 : Int32) * nI k) = nI (124 + 2 * k) := by
        simp only [lit, pk_mul, nI_add]
      have i1 : nI (124 + 2 * k) + 1 = nI (125 + 2 * k) := (nI_1 _).trans (congrArg nI (by omega))
      refine vX12_line G d _ _ _ _ ⟨fun _ => ⟨fun _ => ⟨fun _ => ⟨fun q5 => ?_, fun q5 => ?_⟩, fun q5 => absurd ?_ q5⟩, fun q5 => absurd ?_ q5⟩, fun q5 => absurd q5 q⟩
      · rw [wI_n _ _ _ (by omega), wI_n _ _ _ (by omega), wI_n _ _ _ (by omega), m5, i0, tn_nI (by omega)]
        refine ⟨in_nI (by omega) (by omega), ?_⟩
        rintro _ rfl
        rw [wI_s, upd_n _ _ (by omega), wI_n _ _ _ (by omega), wI_n _ _ _ (by omega), wI_n _ _ _ (by omega), m5, i0, i1, tn_nI (by omega)]
        refine ⟨in_nI (by omega) (by omega), ?_⟩
        rintro _ rfl
        rw [wI_s, wI_s, upd_n _ _ (by omega), upd_n _ _ (by omega), wI_n _ _ _ (by omega), wI_n _ _ _ (by omega), wI_n _ _ _ (by omega), m5, nI_1]
        rintro _ rfl
        refine ⟨?_, h.upd hT (by omega) (fun c h1 h2 => ?_) rfl rfl ?_ ?_ rfl rfl rfl ?_ ?_⟩
        · rw [wI_s, wI_s, upd_s, upd_s]
        · simp (disch := omega) only [wI_n]
        · simp (disch := omega) only [wI_s, wI_n]
          exact h.1.line1 hk q4 hv rfl hu rfl
        · simp (disch := omega) only [wI_s, wI_n]
          exact hR.line1 h.1 hk q4 (by simp (disch := omega) only [wI_s, wI_n]) (by simp (disch := omega) only [wI_s, wI_n]) (by simp (disch := omega) only [wI_s, wI_n]) (fun c h1 h2 h3 h4 h5 => by simp (disch := omega) only [wI_n])
        · simp (disch := omega) only [wI_s, wI_n, upd_n]
        · simp (disch := omega) only [wI_s, wI_n, upd_n]
          omega
      · exfalso
        rw [wI_n _ _ _ (by omega), wI_n _ _ _ (by omega), wI_n _ _ _ (by omega), m5] at q5
        have q5 : nI k = nI 8 := q5
        rw [eq_nI (by omega) (by omega)] at q5
        omega
      · exact (hq _).mpr q3'
      · exact (hq _).mpr q2'
    · rw [hk8] at q4
      have q4 : ¬ nI k < nI 8 := q4
      rw [lt_nI (by omega) (by omega)] at q4
      have k8 : k = 8 := by omega
      refine vX12_line G d _ _ m _ ⟨fun _ => ⟨fun _ => ⟨fun _ => ⟨fun q5 => absurd (l1.trans (by rw [k8]; rfl)) q5, fun q5 => ⟨rfl, h.idle⟩⟩, fun q5 => absurd ((hq _).mpr q3') q5⟩, fun q5 => absurd ((hq _).mpr q2') q5⟩, fun q5 => absurd q5 q⟩
  · exact vX12_line G d a0 a1 m _ ⟨fun _ => ⟨fun _ => ⟨fun q5 => absurd ((hq _).mp q5) q3, fun _ => ⟨rfl, h.idle⟩⟩, fun q5 => absurd ((hq _).mpr q2) q5⟩, fun q5 => absurd q5 q⟩
  · exact vX12_line G d a0 a1 m _ ⟨fun _ => ⟨fun q5 => absurd ((hq _).mp q5) q2, fun _ => ⟨rfl, h.idle⟩⟩, fun q5 => absurd q5 q⟩
  · rintro _ rfl
    refine vX12_line G d a0 a1 _ _ ⟨fun q5 => absurd q q5, fun _ => ?_⟩
    rintro _ rfl
    refine ⟨rfl, h.upd hT (by omega) (fun c h1 h2 => ?_) rfl rfl ?_ ?_ rfl rfl rfl rfl ?_⟩
    · rw [wI_n _ _ _ (by omega), wI_n _ _ _ (by omega)]
    · exact h.1.line0
    · exact hR.line0 h.1 rfl (fun c h1 h2 h3 => by rw [wI_n _ _ _ (by omega), wI_n _ _ _ (by omega)])
    · show tn (m.1 274 13) ≤ _
      omega
