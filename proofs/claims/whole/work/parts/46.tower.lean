theorem WF.tower0 {a : Nat → Int32} {t : Nat} (h : WF a) (ht : t < 2) : WF (upd a (6 + t) 0) := by
  have b0 := (h.nb.is (by omega)).2.2
  have b1 := (h.nw.is (by omega)).2.2
  have b2 := (h.nt.is (by omega)).2.2
  have b4 := (h.ns.is (by omega)).2.2
  have b5 := (h.nl.is (by omega)).2.2
  have b6 : tn (a 6) ≤ 12 := ((h.tl 0 (by omega)).is (by omega)).2.2
  have b7 : tn (a 7) ≤ 12 := ((h.tl 1 (by omega)).is (by omega)).2.2
  have bt : ∀ t, t < 2 → tn (a (6 + t)) ≤ 12 := fun t ht => ((h.tl t ht).is (by omega)).2.2
  unfold WF WFs
  simp +contextual (disch := omega) only [upd_n, upd_s]
  refine ⟨h.nb, h.nw, h.nt, h.ru, h.ns, h.nl, ?_, h.hd, h.loud, h.pitch, h.men, h.kind, h.means, h.len, h.str, h.non, h.wei, h.has, h.li0, h.li1, ?_, h.now, h.sp, h.w1, h.w2⟩
  · intro q hq
    by_cases e : q = t
    · subst e
      simp only [upd_s]
      exact ⟨0, by omega, by omega, rfl⟩
    · simp (disch := omega) only [upd_n]
      exact h.tl q hq
  · intro q z hq hz
    by_cases e : q = t
    · subst e
      simp only [upd_s] at hz
      exact absurd hz (Nat.not_lt_zero z)
    · simp (disch := omega) only [upd_n] at hz ⊢
      exact h.tow q z hq hz
theorem RC.tower0 {f g : Nat → Nat → Int32} {a : Nat → Int32} {t : Nat} (r : RC f 0 a) (h : WF a) (ht : t < 2) (h1 : g 112 = upd (f 112) t 0) (hg : ∀ c, 1 ≤ c → c ≤ 113 → c ≠ 112 → g c = f c) : RC g 0 (upd a (6 + t) 0) := by
  have b0 := (h.nb.is (by omega)).2.2
  have b1 := (h.nw.is (by omega)).2.2
  have b2 := (h.nt.is (by omega)).2.2
  have b4 := (h.ns.is (by omega)).2.2
  have b5 := (h.nl.is (by omega)).2.2
  have b6 : tn (a 6) ≤ 12 := ((h.tl 0 (by omega)).is (by omega)).2.2
  have b7 : tn (a 7) ≤ 12 := ((h.tl 1 (by omega)).is (by omega)).2.2
  have bt : ∀ t, t < 2 → tn (a (6 + t)) ≤ 12 := fun t ht => ((h.tl t ht).is (by omega)).2.2
  unfold RC RS
  simp +contextual (disch := omega) only [upd_n, upd_s, hg, h1, Nat.add_zero]
  refine ⟨r.nb, r.nw, r.loud, r.pitch, r.men, r.kind, r.means, r.len, r.str, r.wei, r.has, r.nl, r.li0, r.li1, ?_, ?_, r.hd, r.nt, r.ru, r.now, r.ns, r.al, r.sp⟩
  · intro q hq
    by_cases e : q = t
    · subst e
      simp only [upd_s]
    · simp (disch := omega) only [upd_n]
      exact r.tl q hq
  · intro q z hq hz
    by_cases e : q = t
    · subst e
      simp only [upd_s] at hz
      exact absurd hz (Nat.not_lt_zero z)
    · simp (disch := omega) only [upd_n] at hz ⊢
      exact r.tow q z hq hz
theorem WF.tower1 {a : Nat → Int32} {t k b : Nat} {v : Int32} (h : WF a) (ht : t < 2) (hk : tn (a (6 + t)) = k) (hk12 : k < 12) (hb : b < tn (a 0)) (hv : v = nI b) : WF (upd (upd a (140 + 12 * t + k) v) (6 + t) (nI (k + 1))) := by
  have b0 := (h.nb.is (by omega)).2.2
  have b1 := (h.nw.is (by omega)).2.2
  have b2 := (h.nt.is (by omega)).2.2
  have b4 := (h.ns.is (by omega)).2.2
  have b5 := (h.nl.is (by omega)).2.2
  have b6 : tn (a 6) ≤ 12 := ((h.tl 0 (by omega)).is (by omega)).2.2
  have b7 : tn (a 7) ≤ 12 := ((h.tl 1 (by omega)).is (by omega)).2.2
  have bt : ∀ t, t < 2 → tn (a (6 + t)) ≤ 12 := fun t ht => ((h.tl t ht).is (by omega)).2.2
  unfold WF WFs
  simp +contextual (disch := omega) only [upd_n, upd_s]
  refine ⟨h.nb, h.nw, h.nt, h.ru, h.ns, h.nl, ?_, h.hd, h.loud, h.pitch, h.men, h.kind, h.means, h.len, ?_, h.non, h.wei, h.has, h.li0, h.li1, ?_, h.now, h.sp, h.w1, h.w2⟩
  · intro q hq
    by_cases e : q = t
    · subst e
      simp only [upd_s]
      exact ⟨k + 1, by omega, by omega, rfl⟩
    · simp (disch := omega) only [upd_n]
      exact h.tl q hq
  · intro q z hq hz
    have := ((h.len q hq).is (by omega)).2.2
    simp (disch := omega) only [upd_n]
    exact h.str q z hq hz
  · intro q z hq hz
    have hbt := bt q hq
    by_cases e : q = t
    · subst e
      simp only [upd_s] at hz
      have hz : z < k + 1 := (tn_nI (n := k + 1) (by omega)) ▸ hz
      by_cases e2 : z = k
      · subst e2
        simp (disch := omega) only [upd_n, upd_s]
        exact ⟨b, hb, hv⟩
      · simp (disch := omega) only [upd_n]
        exact h.tow q z hq (by omega)
    · simp (disch := omega) only [upd_n] at hz
      simp (disch := omega) only [upd_n]
      exact h.tow q z hq hz
theorem RC.tower1 {f g : Nat → Nat → Int32} {a : Nat → Int32} {t k : Nat} {v : Int32} (r : RC f 0 a) (h : WF a) (ht : t < 2) (hk : tn (a (6 + t)) = k) (hk12 : k < 12) (h1 : g 112 = upd (f 112) t (nI (k + 1))) (h2 : g 113 = upd (f 113) (12 * t + k) v) (hg : ∀ c, 1 ≤ c → c ≤ 113 → c ≠ 112 → c ≠ 113 → g c = f c) : RC g 0 (upd (upd a (140 + 12 * t + k) v) (6 + t) (nI (k + 1))) := by
  have b0 := (h.nb.is (by omega)).2.2
  have b1 := (h.nw.is (by omega)).2.2
  have b2 := (h.nt.is (by omega)).2.2
  have b4 := (h.ns.is (by omega)).2.2
  have b5 := (h.nl.is (by omega)).2.2
  have b6 : tn (a 6) ≤ 12 := ((h.tl 0 (by omega)).is (by omega)).2.2
  have b7 : tn (a 7) ≤ 12 := ((h.tl 1 (by omega)).is (by omega)).2.2
  have bt : ∀ t, t < 2 → tn (a (6 + t)) ≤ 12 := fun t ht => ((h.tl t ht).is (by omega)).2.2
  unfold RC RS
  simp +contextual (disch := omega) only [upd_n, upd_s, hg, h1, h2, Nat.add_zero]
  refine ⟨r.nb, r.nw, r.loud, r.pitch, r.men, r.kind, r.means, r.len, r.str, r.wei, r.has, r.nl, r.li0, r.li1, ?_, ?_, r.hd, r.nt, r.ru, r.now, r.ns, r.al, r.sp⟩
  · intro q hq
    by_cases e : q = t
    · subst e
      simp only [upd_s]
    · simp (disch := omega) only [upd_n]
      exact r.tl q hq
  · intro q z hq hz
    have hbt := bt q hq
    by_cases e : q = t
    · subst e
      simp only [upd_s] at hz
      have hz : z < k + 1 := (tn_nI (n := k + 1) (by omega)) ▸ hz
      by_cases e2 : z = k
      · subst e2
        simp (disch := omega) only [upd_n, upd_s]
      · simp (disch := omega) only [upd_n]
        exact r.tow q z hq (by omega)
    · simp (disch := omega) only [upd_n] at hz
      simp (disch := omega) only [upd_n]
      exact r.tow q z hq hz
theorem case_tower (G : GP) (d : Nat) {TX : (Nat → Nat → Int32) → Prop} (hT : TXok TX) {n : Nat} (a0 a1 : Int32) (m : Mem) (h : Inv TX n m.1) : Evi G (d + 2) mX11_tower [.ref (ga G 0), .int a0, .int a1] m (Same G TX n (d + 2) mX12_tower [.int a0, .int a1]) := by
  have hR := h.2.2.1
  obtain ⟨e1, -, e3⟩ := h.1.nb.is (by omega)
  have e2 : m.1 2 0 = m.1 274 0 := hR.nb
  have hq : ∀ x : Int32, (0 ≤ x ∧ x ≤ m.1 274 0 - 1) ↔ (0 ≤ x ∧ x < m.1 2 0) := fun x => by rw [e2, e1, oneM_nI (by omega), one_nI (by omega)]
  have hw := h.2.2.2.2.2.2.2.1
  refine vX11_tower G (d + 1) a0 a1 m _ ⟨fun q => ⟨fun q2 => ⟨fun q3 => ?_, fun q3 => ?_⟩, fun q2 => ?_⟩, fun q => ?_⟩
  · have q' := q
    obtain ⟨t, ht1, rfl⟩ := (oneC_nI (n := 1) (by omega)).mp q
    have ht : t < 2 := by omega
    have q3' := q3
    rw [e2, e1, one_nI (by omega)] at q3
    obtain ⟨u, hu, rfl⟩ := q3
    obtain ⟨l1, -, l3⟩ := (h.1.tl t ht).is (by omega)
    have l2 : m.1 112 t = m.1 274 (6 + t) := hR.tl t ht
    generalize hk : tn (m.1 274 (6 + t)) = k at *
    have hk8 : m.1 112 t = nI k := l2.trans l1
    have j0 : nI t * 12 + nI k = nI (12 * t + k) := by
      simp only [lit, pk_mul, nI_add]
      exact congrArg nI (by omega)
    have i0 : (6 : Int32) + nI t = nI (6 + t) := nI_add 6 t
    have i1 : ((140 : Int32) + ((12 : Int32) * nI t)) + nI k = nI (140 + 12 * t + k) := by
      simp only [lit, pk_mul, nI_add]
    refine vX9_addToTower G (d + 1) _ _ m _ ?_
    rw [tn_nI (by omega), hk8, j0, tn_nI (by omega)]
    refine ⟨in_nI ht (by omega), fun q4 => ?_, fun q4 => ?_⟩
    · have q4 : nI k < nI 12 := q4
      rw [lt_nI (by omega) (by omega)] at q4
      refine ⟨in_nI ht (by omega), in_nI (by omega) (by omega), ?_⟩
      rintro _ rfl
      refine ⟨in_nI ht (by omega), in_nI ht (by omega), ?_⟩
      rw [wI_n _ _ _ (by omega), hk8, nI_1]
      rintro _ rfl
      refine ⟨in_nI ht (by omega), ?_⟩
      rw [wI_s, upd_s]
      refine vX12_tower G d _ _ _ _ ⟨fun _ => ⟨fun _ => ⟨fun _ => ?_, fun q5 => absurd ((hq _).mpr q3') q5⟩, fun q5 => absurd q5 q2⟩, fun q5 => absurd q' q5⟩
      rw [i0, tn_nI (by omega), wI_n _ _ _ (by omega), wI_n _ _ _ (by omega), l1, i1, tn_nI (by omega)]
      refine ⟨in_nI (by omega) (by omega), fun q5 => ⟨in_nI (by omega) (by omega), in_nI (by omega) (by omega), ?_⟩, fun q5 => ?_⟩
      · rintro _ rfl
        refine ⟨in_nI (by omega) (by omega), in_nI (by omega) (by omega), ?_⟩
        rw [wI_s, upd_n _ _ (by omega), wI_n _ _ _ (by omega), wI_n _ _ _ (by omega), l1, nI_1]
        rintro _ rfl
        refine ⟨in_nI (by omega) (by omega), ?_, h.upd hT (by omega) (fun c h1 h2 => ?_) rfl rfl ?_ ?_ rfl rfl rfl ?_ ?_⟩
        · rw [wI_s, upd_s]
        · simp (disch := omega) only [wI_n]
        · simp (disch := omega) only [wI_s, wI_n]
          exact h.1.tower1 ht hk q4 hu rfl
        · simp (disch := omega) only [wI_s, wI_n]
          exact hR.tower1 h.1 ht hk q4 (by simp (disch := omega) only [wI_s, wI_n]) (by simp (disch := omega) only [wI_s, wI_n]) (fun c h1 h2 h3 h4 => by simp (disch := omega) only [wI_n])
        · simp (disch := omega) only [wI_s, wI_n, upd_n]
        · simp (disch := omega) only [wI_s, wI_n, upd_n]
          omega
      · exfalso
        have q5 : nI k = nI 12 := q5
        rw [eq_nI (by omega) (by omega)] at q5
        omega
    · have q4 : ¬ nI k < nI 12 := q4
      rw [lt_nI (by omega) (by omega)] at q4
      have k8 : k = 12 := by omega
      refine vX12_tower G d _ _ m _ ⟨fun _ => ⟨fun _ => ⟨fun _ => ?_, fun q5 => absurd ((hq _).mpr q3') q5⟩, fun q5 => absurd q5 q2⟩, fun q5 => absurd q' q5⟩
      rw [i0, tn_nI (by omega), l1, i1, tn_nI (by omega)]
      exact ⟨in_nI (by omega) (by omega), fun q5 => absurd (by rw [k8]; rfl) q5, fun q5 => ⟨rfl, h.idle⟩⟩
  · exact vX12_tower G d a0 a1 m _ ⟨fun _ => ⟨fun _ => ⟨fun q5 => absurd ((hq _).mp q5) q3, fun _ => ⟨rfl, h.idle⟩⟩, fun q5 => absurd q5 q2⟩, fun q5 => absurd q q5⟩
  · have q' := q
    obtain ⟨t, ht1, rfl⟩ := (oneC_nI (n := 1) (by omega)).mp q
    have ht : t < 2 := by omega
    have i0 : (6 : Int32) + nI t = nI (6 + t) := nI_add 6 t
    refine ⟨in_nI ht (by omega), ?_⟩
    rintro _ rfl
    refine vX12_tower G d _ a1 _ _ ⟨fun _ => ⟨fun q5 => absurd q2 q5, fun _ => ?_⟩, fun q5 => absurd q' q5⟩
    rw [i0, tn_nI (by omega), tn_nI (by omega)]
    refine ⟨in_nI (by omega) (by omega), ?_⟩
    rintro _ rfl
    refine ⟨rfl, h.upd hT (by omega) (fun c h1 h2 => ?_) rfl rfl ?_ ?_ rfl rfl rfl ?_ ?_⟩
    · simp (disch := omega) only [wI_n]
    · simp (disch := omega) only [wI_s, wI_n]
      exact h.1.tower0 ht
    · simp (disch := omega) only [wI_s, wI_n]
      exact hR.tower0 h.1 ht (by simp (disch := omega) only [wI_s, wI_n]) (fun c h1 h2 h3 => by simp (disch := omega) only [wI_n])
    · simp (disch := omega) only [wI_s, wI_n, upd_n]
    · simp (disch := omega) only [wI_s, wI_n, upd_n]
      omega
  · exact vX12_tower G d a0 a1 m _ ⟨fun q5 => absurd q5 q, fun _ => ⟨rfl, h.idle⟩⟩
