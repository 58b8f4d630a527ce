theorem WF.weight {a : Nat → Int32} {w : Nat} {v : Int32} (h : WF a) (hw : w < tn (a 1)) (hv : bd v 0 99) : WF (upd a (41 + 9 * w) v) := by
  have b0 := (h.nb.is (by omega)).2.2
  have b1 := (h.nw.is (by omega)).2.2
  have b2 := (h.nt.is (by omega)).2.2
  have b4 := (h.ns.is (by omega)).2.2
  have b5 := (h.nl.is (by omega)).2.2
  have b6 : tn (a 6) ≤ 12 := ((h.tl 0 (by omega)).is (by omega)).2.2
  have b7 : tn (a 7) ≤ 12 := ((h.tl 1 (by omega)).is (by omega)).2.2
  have bt : ∀ t, t < 2 → tn (a (6 + t)) ≤ 12 := fun t ht => ((h.tl t ht).is (by omega)).2.2
  unfold WF WFs
  simp +contextual (disch := omega) only [upd_n, upd_s]
  refine ⟨h.nb, h.nw, h.nt, h.ru, h.ns, h.nl, h.tl, h.hd, h.loud, h.pitch, h.men, h.kind, h.means, h.len, fun q k hq hk => (by have := ((h.len q hq).is (by omega)).2.2; rw [upd_n _ _ (by omega)]; exact h.str q k hq hk), h.non, fun q hq => if e : q = w then (by subst e; rw [upd_s]; exact hv) else (by rw [upd_n _ _ (by omega)]; exact h.wei q hq), h.has, h.li0, h.li1, h.tow, h.now, h.sp, h.w1, h.w2⟩
theorem RC.weight {f g : Nat → Nat → Int32} {a : Nat → Int32} {w : Nat} {v : Int32} (r : RC f 0 a) (h : WF a) (hw : w < tn (a 1)) (h1 : g 108 = upd (f 108) w v) (hg : ∀ c, 1 ≤ c → c ≤ 113 → c ≠ 108 → g c = f c) : RC g 0 (upd a (41 + 9 * w) v) := by
  have b0 := (h.nb.is (by omega)).2.2
  have b1 := (h.nw.is (by omega)).2.2
  have b2 := (h.nt.is (by omega)).2.2
  have b4 := (h.ns.is (by omega)).2.2
  have b5 := (h.nl.is (by omega)).2.2
  have b6 : tn (a 6) ≤ 12 := ((h.tl 0 (by omega)).is (by omega)).2.2
  have b7 : tn (a 7) ≤ 12 := ((h.tl 1 (by omega)).is (by omega)).2.2
  have bt : ∀ t, t < 2 → tn (a (6 + t)) ≤ 12 := fun t ht => ((h.tl t ht).is (by omega)).2.2
  unfold RC RS
  simp +contextual (disch := omega) only [upd_n, upd_s, hg, h1, Nat.add_zero]
  refine ⟨r.nb, r.nw, r.loud, r.pitch, r.men, r.kind, r.means, r.len, r.str, fun q hq => if e : q = w then (by subst e; rw [upd_s, upd_s]) else (by rw [upd_n _ _ e, upd_n _ _ (by omega)]; exact r.wei q hq), r.has, r.nl, r.li0, r.li1, r.tl, r.tow, r.hd, r.nt, r.ru, r.now, r.ns, r.al, r.sp⟩
theorem WF.hears {a : Nat → Int32} {w : Nat} {v : Int32} (h : WF a) (hw : w < tn (a 1)) {u : Nat} (hu : u < tn (a 1)) (hv : v = nI u) : WF (upd a (42 + 9 * w) v) := by
  have b0 := (h.nb.is (by omega)).2.2
  have b1 := (h.nw.is (by omega)).2.2
  have b2 := (h.nt.is (by omega)).2.2
  have b4 := (h.ns.is (by omega)).2.2
  have b5 := (h.nl.is (by omega)).2.2
  have b6 : tn (a 6) ≤ 12 := ((h.tl 0 (by omega)).is (by omega)).2.2
  have b7 : tn (a 7) ≤ 12 := ((h.tl 1 (by omega)).is (by omega)).2.2
  have bt : ∀ t, t < 2 → tn (a (6 + t)) ≤ 12 := fun t ht => ((h.tl t ht).is (by omega)).2.2
  unfold WF WFs
  simp +contextual (disch := omega) only [upd_n, upd_s]
  refine ⟨h.nb, h.nw, h.nt, h.ru, h.ns, h.nl, h.tl, h.hd, h.loud, h.pitch, h.men, h.kind, h.means, h.len, fun q k hq hk => (by have := ((h.len q hq).is (by omega)).2.2; rw [upd_n _ _ (by omega)]; exact h.str q k hq hk), h.non, h.wei, fun q hq => if e : q = w then (by subst e; rw [upd_s]; exact ⟨u, hu, hv⟩) else (by rw [upd_n _ _ (by omega)]; exact h.has q hq), h.li0, h.li1, h.tow, h.now, h.sp, h.w1, h.w2⟩
theorem RC.hears {f g : Nat → Nat → Int32} {a : Nat → Int32} {w : Nat} {v : Int32} (r : RC f 0 a) (h : WF a) (hw : w < tn (a 1)) (h1 : g 109 = upd (f 109) w v) (hg : ∀ c, 1 ≤ c → c ≤ 113 → c ≠ 109 → g c = f c) : RC g 0 (upd a (42 + 9 * w) v) := by
  have b0 := (h.nb.is (by omega)).2.2
  have b1 := (h.nw.is (by omega)).2.2
  have b2 := (h.nt.is (by omega)).2.2
  have b4 := (h.ns.is (by omega)).2.2
  have b5 := (h.nl.is (by omega)).2.2
  have b6 : tn (a 6) ≤ 12 := ((h.tl 0 (by omega)).is (by omega)).2.2
  have b7 : tn (a 7) ≤ 12 := ((h.tl 1 (by omega)).is (by omega)).2.2
  have bt : ∀ t, t < 2 → tn (a (6 + t)) ≤ 12 := fun t ht => ((h.tl t ht).is (by omega)).2.2
  unfold RC RS
  simp +contextual (disch := omega) only [upd_n, upd_s, hg, h1, Nat.add_zero]
  refine ⟨r.nb, r.nw, r.loud, r.pitch, r.men, r.kind, r.means, r.len, r.str, r.wei, fun q hq => if e : q = w then (by subst e; rw [upd_s, upd_s]) else (by rw [upd_n _ _ e, upd_n _ _ (by omega)]; exact r.has q hq), r.nl, r.li0, r.li1, r.tl, r.tow, r.hd, r.nt, r.ru, r.now, r.ns, r.al, r.sp⟩
theorem case_weight (G : GP) (d : Nat) {TX : (Nat → Nat → Int32) → Prop} (hT : TXok TX) {n : Nat} (a0 a1 : Int32) (m : Mem) (h : Inv TX n m.1) : Evi G (d + 1) mX11_weight [.ref (ga G 0), .int a0, .int a1] m (Same G TX n (d + 2) mX12_weight [.int a0, .int a1]) := by
  have hR := h.2.2.1
  obtain ⟨e1, -, e3⟩ := h.1.nw.is (by omega)
  have e2 : m.1 2 4 = m.1 274 1 := hR.nw
  refine vX11_weight G d a0 a1 m _ ⟨fun q => ⟨fun q2 => ?_, fun q2 => ?_⟩, fun q => ?_⟩
  · have q' := q
    rw [e2, e1, one_nI (by omega)] at q
    obtain ⟨k, hk, rfl⟩ := q
    refine ⟨in_nI (by omega) (by omega), ?_⟩
    rintro _ rfl
    have he : ((34 : Int32) + ((9 : Int32) * nI k)) + 7 = nI (41 + 9 * k) := by
      simp only [lit, pk_mul, nI_add]
      exact congrArg nI (by omega)
    refine vX12_weight G d _ a1 _ _ ⟨fun _ => ⟨fun _ => ⟨by rw [he]; exact in_nI (by omega) (by omega), ?_⟩, fun q3 => absurd q2 q3⟩, fun q3 => absurd ?_ q3⟩
    · rintro _ rfl
      rw [he, tn_nI (by omega), tn_nI (by omega)]
      refine ⟨rfl, h.upd hT (by omega) (fun c h1 h2 => ?_) rfl rfl ?_ ?_ rfl rfl rfl ?_ ?_⟩
      · rw [wI_n _ _ _ (by omega), wI_n _ _ _ (by omega)]
      · rw [wI_s, wI_n _ _ _ (by omega)]
        exact h.1.weight hk (bd_of q2.1 q2.2 (by omega) (by omega))
      · rw [wI_s, wI_n _ _ _ (by omega)]
        exact hR.weight h.1 hk (by rw [wI_n _ _ _ (by omega), wI_s]) (fun c h1 h2 h3 => by rw [wI_n _ _ _ (by omega), wI_n _ _ _ (by omega)])
      · rw [wI_s, wI_n _ _ _ (by omega), upd_n _ _ (by omega)]
      · rw [wI_s, wI_n _ _ _ (by omega), upd_n _ _ (by omega)]
        have := h.2.2.2.2.2.2.2.1
        omega
    · rw [wI_n _ _ _ (by omega), e1, oneM_nI (by omega)]
      exact ⟨k, hk, rfl⟩
  · refine vX12_weight G d a0 a1 m _ ⟨fun _ => ⟨fun q3 => absurd q3 q2, fun _ => ⟨rfl, h.idle⟩⟩, fun _ => ⟨rfl, h.idle⟩⟩
  · refine vX12_weight G d a0 a1 m _ ⟨fun q3 => absurd ?_ q, fun _ => ⟨rfl, h.idle⟩⟩
    rw [e1, oneM_nI (by omega)] at q3
    rw [e2, e1, one_nI (by omega)]
    exact q3
theorem case_hears (G : GP) (d : Nat) {TX : (Nat → Nat → Int32) → Prop} (hT : TXok TX) {n : Nat} (a0 a1 : Int32) (m : Mem) (h : Inv TX n m.1) : Evi G (d + 1) mX11_hears [.ref (ga G 0), .int a0, .int a1] m (Same G TX n (d + 2) mX12_hears [.int a0, .int a1]) := by
  have hR := h.2.2.1
  obtain ⟨e1, -, e3⟩ := h.1.nw.is (by omega)
  have e2 : m.1 2 4 = m.1 274 1 := hR.nw
  have hq : ∀ x : Int32, (0 ≤ x ∧ x ≤ m.1 274 1 - 1) ↔ (0 ≤ x ∧ x < m.1 2 4) := fun x => by rw [e2, e1, oneM_nI (by omega), one_nI (by omega)]
  refine vX11_hears G d a0 a1 m _ ⟨fun q => ⟨fun q2 => ?_, fun q2 => ?_⟩, fun q => ?_⟩
  · have q' := q
    have q2' := q2
    rw [e2, e1, one_nI (by omega)] at q q2
    obtain ⟨k, hk, rfl⟩ := q
    obtain ⟨u, hu, rfl⟩ := q2
    refine ⟨in_nI (by omega) (by omega), ?_⟩
    rintro _ rfl
    have he : ((34 : Int32) + ((9 : Int32) * nI k)) + 8 = nI (42 + 9 * k) := by
      simp only [lit, pk_mul, nI_add]
      exact congrArg nI (by omega)
    refine vX12_hears G d _ _ _ _ ⟨fun _ => ⟨fun _ => ⟨by rw [he]; exact in_nI (by omega) (by omega), ?_⟩, fun q3 => absurd ?_ q3⟩, fun q3 => absurd ?_ q3⟩
    · rintro _ rfl
      rw [he, tn_nI (by omega), tn_nI (by omega)]
      refine ⟨rfl, h.upd hT (by omega) (fun c h1 h2 => ?_) rfl rfl ?_ ?_ rfl rfl rfl ?_ ?_⟩
      · rw [wI_n _ _ _ (by omega), wI_n _ _ _ (by omega)]
      · rw [wI_s, wI_n _ _ _ (by omega)]
        exact h.1.hears hk hu rfl
      · rw [wI_s, wI_n _ _ _ (by omega)]
        exact hR.hears h.1 hk (by rw [wI_n _ _ _ (by omega), wI_s]) (fun c h1 h2 h3 => by rw [wI_n _ _ _ (by omega), wI_n _ _ _ (by omega)])
      · rw [wI_s, wI_n _ _ _ (by omega), upd_n _ _ (by omega)]
      · rw [wI_s, wI_n _ _ _ (by omega), upd_n _ _ (by omega)]
        have := h.2.2.2.2.2.2.2.1
        omega
    · rw [wI_n _ _ _ (by omega)]
      exact (hq _).mpr q2'
    · rw [wI_n _ _ _ (by omega)]
      exact (hq _).mpr q'
  · exact vX12_hears G d a0 a1 m _ ⟨fun _ => ⟨fun q3 => absurd ((hq _).mp q3) q2, fun _ => ⟨rfl, h.idle⟩⟩, fun _ => ⟨rfl, h.idle⟩⟩
  · exact vX12_hears G d a0 a1 m _ ⟨fun q3 => absurd ((hq _).mp q3) q, fun _ => ⟨rfl, h.idle⟩⟩
theorem case_end (G : GP) (d : Nat) {TX : (Nat → Nat → Int32) → Prop} (hT : TXok TX) {n : Nat} (a0 : Int32) (m : Mem) (h : Inv TX n m.1) : Evi G (d + 1) mX11_end [.ref (ga G 0), .int a0] m (Same G TX n (d + 1) mX12_end [.int a0]) := by
  have hP := h.2.2.2.2.1
  obtain ⟨e1, -, e3⟩ := hP.bd.is (by omega)
  have e2 : m.1 228 0 = m.1 273 5 := hP.len
  refine vX11_end G d a0 m _ ⟨fun q => ?_, fun q => ?_⟩
  · rintro _ rfl
    have q' := q
    rw [e2, e1, oneC_nI (by omega)] at q
    obtain ⟨k, hk, rfl⟩ := q
    refine vX12_end G d _ _ _ ⟨fun _ => ?_, fun q3 => absurd (by rw [wI_n _ _ _ (by omega), ← e2]; exact q') q3⟩
    rintro _ rfl
    refine ⟨rfl, ?_⟩
    obtain ⟨a1, a2, a3, a4, a5, a6, a7, a8, a9⟩ := h
    refine ⟨a1, a2, a3.fr (fun c h1 h2 _ _ => by rw [wI_n _ _ _ (by omega), wI_n _ _ _ (by omega)]), a4.fr (fun c h1 h2 _ _ => by rw [wI_n _ _ _ (by omega), wI_n _ _ _ (by omega)]), ?_, ?_, hT m.1 _ ⟨?_, rfl, rfl, rfl, rfl, rfl⟩ a7, ?_, ?_⟩
    · refine ⟨rfl, ⟨k, by omega, by omega, rfl⟩, fun j hj => hP.byt j ?_⟩
      have hj : j < tn (nI k) := hj
      have : tn (nI k) = k := tn_nI (by omega)
      omega
    · exact a6
    · rintro c (⟨h1, h2⟩ | rfl | rfl | rfl | rfl)
      · rw [wI_n _ _ _ (by omega), wI_n _ _ _ (by omega)]
      · rfl
      · rfl
      · rfl
      · rfl
    · show tn (m.1 274 13) ≤ _
      omega
    · show tn (m.1 275 13) ≤ _
      omega
  · exact vX12_end G d a0 m _ ⟨fun q3 => absurd (by rw [e2]; exact q3) q, fun _ => ⟨rfl, h.idle⟩⟩
