/-- only the running Season and the STEPS changed -/
def FrS (f g : Nat → Nat → Int32) : Prop := ∀ c, c < 12 ∨ 107 ≤ c → g c = f c
theorem FrS.rf (f : Nat → Nat → Int32) : FrS f f := fun _ _ => rfl
theorem FrS.tr {f g h : Nat → Nat → Int32} (a : FrS f g) (b : FrS g h) : FrS f h := fun c hc => (b c hc).trans (a c hc)
/-- the class's keepStep, beside the model's row -/
theorem kC_keep (G : GP) (d : Nat) (m : Mem) (a : Nat → Int32) (K : Mem → Prop) (r : RC m.1 0 a) (h : WF a) (hK : ∀ m' : Mem, RC m'.1 0 (keepF a) → FrS m.1 m'.1 → K m') : Evv G (d + 3) mX10_keepStep [.ref (ga G 1)] m K := by
  obtain ⟨e, he, h1, hsp⟩ := r.sp
  have n0 := h.ns.is (by omega)
  have n1 := h.now.nr.is (by omega)
  have hs : m.1 15 0 = nI (tn (a 4)) := (show m.1 15 0 = a 4 from r.ns).trans n0.1
  have hnr : m.1 12 4 = nI (tn (a 14)) := (show m.1 12 4 = a 14 from r.now.nr).trans n1.1
  have sl : (e + tn (a 4)) % 30 < 30 := Nat.mod_lt _ (by omega)
  refine qX10_keepStep G d m K (tn (a 4)) e (tn (a 14)) (min (tn (a 13)) 20) hs n0.2.2 h1 he hnr n1.2.2 r.now.sun (by omega) (fun m1 m' hc hm => ?_)
  have hg : ∀ c, c ≠ 15 → m'.1 c = m1.1 c := fun c hc15 => by
    rw [hm]
    by_cases q : tn (a 4) < 30
    · rw [if_pos q, wI_n _ _ _ hc15]
    · rw [if_neg q, wI_n _ _ _ hc15]
  have h15 : m'.1 15 = if tn (a 4) < 30 then upd (m1.1 15) 0 (nI (tn (a 4) + 1)) else upd (m1.1 15) 1 (nI ((e + 1) % 30)) := by
    rw [hm]
    by_cases q : tn (a 4) < 30
    · rw [if_pos q, if_pos q, wI_s]
    · rw [if_neg q, if_neg q, wI_s]
  refine hK m' (r.keep h he h1 hsp hc hg h15) (fun c hcc => ?_)
  rw [hg c (by omega), hc.1 c (by omega) (by omega) (by omega)]
theorem WF.wind1 {a : Nat → Int32} {v : Int32} (h : WF a) (hv : bd v 0 9) : WF (upd a 8 v) := by
  have b0 := (h.nb.is (by omega)).2.2
  have b1 := (h.nw.is (by omega)).2.2
  have b2 := (h.nt.is (by omega)).2.2
  have b4 := (h.ns.is (by omega)).2.2
  have b5 := (h.nl.is (by omega)).2.2
  have b6 : tn (a 6) ≤ 12 := ((h.tl 0 (by omega)).is (by omega)).2.2
  have b7 : tn (a 7) ≤ 12 := ((h.tl 1 (by omega)).is (by omega)).2.2
  have bt : ∀ t, t < 2 → tn (a (6 + t)) ≤ 12 := fun t ht => ((h.tl t ht).is (by omega)).2.2
  unfold WF WFs
  simp +contextual (disch := omega) only [upd_n, upd_s]
  refine ⟨h.nb, h.nw, h.nt, h.ru, h.ns, h.nl, h.tl, h.hd, h.loud, h.pitch, h.men, h.kind, h.means, h.len, h.str, h.non, h.wei, h.has, h.li0, h.li1, h.tow, ⟨hv, h.now.frost, h.now.hour, h.now.x, h.now.wr, h.now.nr, h.now.row⟩, h.sp, h.w1, h.w2⟩
theorem RC.wind1 {f g : Nat → Nat → Int32} {a : Nat → Int32} {v : Int32} (r : RC f 0 a) (h : WF a) (h1 : g 12 = upd (f 12) 0 v) (hg : ∀ c, 1 ≤ c → c ≤ 113 → c ≠ 12 → g c = f c) : RC g 0 (upd a 8 v) := by
  have b0 := (h.nb.is (by omega)).2.2
  have b1 := (h.nw.is (by omega)).2.2
  have b2 := (h.nt.is (by omega)).2.2
  have b4 := (h.ns.is (by omega)).2.2
  have b5 := (h.nl.is (by omega)).2.2
  have b6 : tn (a 6) ≤ 12 := ((h.tl 0 (by omega)).is (by omega)).2.2
  have b7 : tn (a 7) ≤ 12 := ((h.tl 1 (by omega)).is (by omega)).2.2
  have bt : ∀ t, t < 2 → tn (a (6 + t)) ≤ 12 := fun t ht => ((h.tl t ht).is (by omega)).2.2
  unfold RC RS
  simp +contextual (disch := omega) only [upd_n, upd_s, hg, h1, Nat.add_zero]
  refine ⟨r.nb, r.nw, r.loud, r.pitch, r.men, r.kind, r.means, r.len, r.str, r.wei, r.has, r.nl, r.li0, r.li1, r.tl, r.tow, r.hd, r.nt, r.ru, ⟨True.intro, r.now.frost, r.now.hour, r.now.x, r.now.nr, r.now.row, r.now.sun, r.now.pag⟩, r.ns, r.al, r.sp⟩
theorem WF.frost1 {a : Nat → Int32} {v : Int32} (h : WF a) (hv : bd v 0 9) : WF (upd a 9 v) := by
  have b0 := (h.nb.is (by omega)).2.2
  have b1 := (h.nw.is (by omega)).2.2
  have b2 := (h.nt.is (by omega)).2.2
  have b4 := (h.ns.is (by omega)).2.2
  have b5 := (h.nl.is (by omega)).2.2
  have b6 : tn (a 6) ≤ 12 := ((h.tl 0 (by omega)).is (by omega)).2.2
  have b7 : tn (a 7) ≤ 12 := ((h.tl 1 (by omega)).is (by omega)).2.2
  have bt : ∀ t, t < 2 → tn (a (6 + t)) ≤ 12 := fun t ht => ((h.tl t ht).is (by omega)).2.2
  unfold WF WFs
  simp +contextual (disch := omega) only [upd_n, upd_s]
  refine ⟨h.nb, h.nw, h.nt, h.ru, h.ns, h.nl, h.tl, h.hd, h.loud, h.pitch, h.men, h.kind, h.means, h.len, h.str, h.non, h.wei, h.has, h.li0, h.li1, h.tow, ⟨h.now.wind, hv, h.now.hour, h.now.x, h.now.wr, h.now.nr, h.now.row⟩, h.sp, h.w1, h.w2⟩
theorem RC.frost1 {f g : Nat → Nat → Int32} {a : Nat → Int32} {v : Int32} (r : RC f 0 a) (h : WF a) (h1 : g 12 = upd (f 12) 1 v) (hg : ∀ c, 1 ≤ c → c ≤ 113 → c ≠ 12 → g c = f c) : RC g 0 (upd a 9 v) := by
  have b0 := (h.nb.is (by omega)).2.2
  have b1 := (h.nw.is (by omega)).2.2
  have b2 := (h.nt.is (by omega)).2.2
  have b4 := (h.ns.is (by omega)).2.2
  have b5 := (h.nl.is (by omega)).2.2
  have b6 : tn (a 6) ≤ 12 := ((h.tl 0 (by omega)).is (by omega)).2.2
  have b7 : tn (a 7) ≤ 12 := ((h.tl 1 (by omega)).is (by omega)).2.2
  have bt : ∀ t, t < 2 → tn (a (6 + t)) ≤ 12 := fun t ht => ((h.tl t ht).is (by omega)).2.2
  unfold RC RS
  simp +contextual (disch := omega) only [upd_n, upd_s, hg, h1, Nat.add_zero]
  refine ⟨r.nb, r.nw, r.loud, r.pitch, r.men, r.kind, r.means, r.len, r.str, r.wei, r.has, r.nl, r.li0, r.li1, r.tl, r.tow, r.hd, r.nt, r.ru, ⟨r.now.wind, True.intro, r.now.hour, r.now.x, r.now.nr, r.now.row, r.now.sun, r.now.pag⟩, r.ns, r.al, r.sp⟩
theorem Inv.step {TX : (Nat → Nat → Int32) → Prop} (hT : TXok TX) {n : Nat} {f g : Nat → Nat → Int32} (h : Inv TX n f) (hF : ∀ c, c < 12 ∨ (107 ≤ c ∧ c ≠ 274) → g c = f c) (hW : WF (g 274)) (hR : RC g 0 (g 274)) (h2 : g 274 2 = f 274 2) (hw : tn (g 274 13) ≤ 40 * (n + 1)) : Inv TX (n + 1) g :=
  h.upd hT (by omega) (fun c h1 h2 => hF c (by omega)) (hF 8 (by omega)) (hF 9 (by omega)) hW hR (by rw [hF 1 (by omega)]) (by rw [hF 1 (by omega)]) (by rw [hF 2 (by omega)]) h2 hw
theorem case_set (G : GP) (d : Nat) {TX : (Nat → Nat → Int32) → Prop} (hT : TXok TX) {n : Nat} (a0 a1 : Int32) (m : Mem) (h : Inv TX n m.1) : Evi G (d + 4) mX11_set [.ref (ga G 0), .int a0, .int a1] m (Same G TX n (d + 4) mX12_set [.int a0, .int a1]) := by
  have hR := h.2.2.1
  have hw := h.2.2.2.2.2.2.2.1
  have n0 := h.1.ns
  have e0 : m.1 12 0 = m.1 274 8 := hR.now.wind
  have e1 : m.1 12 1 = m.1 274 9 := hR.now.frost
  have nb := (n0.is (by omega)).2.2
  refine vX11_set G d a0 a1 m _ ⟨fun q => ?_, fun q => ?_⟩
  · rintro _ rfl
    rw [e0]
    refine ⟨fun q1 => ⟨fun q2 => ?_, fun q2 => ?_⟩, fun q1 => ?_⟩
    · refine kC_keep G d m (m.1 274) _ hR h.1 (fun m2 r2 f2 => ⟨fun _ => ?_, fun q3 => absurd q q3⟩)
      rintro _ rfl
      have f274 : m2.1 274 = m.1 274 := f2 274 (by omega)
      refine vX12_set G (d + 3) a0 a1 _ _ ⟨fun _ => ⟨fun _ => ⟨fun _ => ?_, fun q3 => absurd ?_ q2⟩, fun q3 => absurd q1 q3⟩, fun q3 => absurd q q3⟩
      · refine qX12_keep G (d + 3) _ _ (by rw [wI_n _ _ _ (by omega), f274]; exact n0) ?_
        rintro _ rfl
        rw [wI_n _ _ _ (by omega), f274, wI_wA]
        refine ⟨rfl, h.step hT (fun c hc => ?_) ?_ ?_ ?_ ?_⟩
        · rw [wA_n _ _ (by omega), wI_n _ _ _ (by omega), f2 c (by omega)]
        · rw [wA_s]
          exact h.1.keep.wind1 (bd_of q1.1 q1.2 (by omega) (by omega))
        · rw [wA_s]
          exact r2.wind1 h.1.keep (by rw [wA_n _ _ (by omega), wI_s]) (fun c h1 h2 h3 => by rw [wA_n _ _ (by omega), wI_n _ _ _ (by omega)])
        · rw [wA_s, upd_n _ _ (by omega), keepF_lo nb (by omega) (by omega)]
        · rw [wA_s, upd_n _ _ (by omega), keepF_lo nb (by omega) (by omega)]
          omega
      · rw [wI_n _ _ _ (by omega), f274] at q3
        exact q3
    · exact vX12_set G (d + 3) a0 a1 m _ ⟨fun _ => ⟨fun _ => ⟨fun q3 => absurd q2 q3, fun _ => ⟨rfl, h.idle⟩⟩, fun q3 => absurd q1 q3⟩, fun q3 => absurd q q3⟩
    · exact vX12_set G (d + 3) a0 a1 m _ ⟨fun _ => ⟨fun q3 => absurd q3 q1, fun _ => ⟨rfl, h.idle⟩⟩, fun q3 => absurd q q3⟩
  · rintro _ rfl
    rw [e1]
    refine ⟨fun q1 => ⟨fun q2 => ?_, fun q2 => ?_⟩, fun q1 => ?_⟩
    · refine kC_keep G d m (m.1 274) _ hR h.1 (fun m2 r2 f2 => ⟨fun q3 => absurd q3 q, fun _ => ?_⟩)
      rintro _ rfl
      have f274 : m2.1 274 = m.1 274 := f2 274 (by omega)
      refine vX12_set G (d + 3) a0 a1 _ _ ⟨fun q3 => absurd q3 q, fun _ => ⟨fun _ => ⟨fun _ => ?_, fun q3 => absurd ?_ q2⟩, fun q3 => absurd q1 q3⟩⟩
      · refine qX12_keep G (d + 3) _ _ (by rw [wI_n _ _ _ (by omega), f274]; exact n0) ?_
        rintro _ rfl
        rw [wI_n _ _ _ (by omega), f274, wI_wA]
        refine ⟨rfl, h.step hT (fun c hc => ?_) ?_ ?_ ?_ ?_⟩
        · rw [wA_n _ _ (by omega), wI_n _ _ _ (by omega), f2 c (by omega)]
        · rw [wA_s]
          exact h.1.keep.frost1 (bd_of q1.1 q1.2 (by omega) (by omega))
        · rw [wA_s]
          exact r2.frost1 h.1.keep (by rw [wA_n _ _ (by omega), wI_s]) (fun c h1 h2 h3 => by rw [wA_n _ _ (by omega), wI_n _ _ _ (by omega)])
        · rw [wA_s, upd_n _ _ (by omega), keepF_lo nb (by omega) (by omega)]
        · rw [wA_s, upd_n _ _ (by omega), keepF_lo nb (by omega) (by omega)]
          omega
      · rw [wI_n _ _ _ (by omega), f274] at q3
        exact q3
    · exact vX12_set G (d + 3) a0 a1 m _ ⟨fun q3 => absurd q3 q, fun _ => ⟨fun _ => ⟨fun q3 => absurd q2 q3, fun _ => ⟨rfl, h.idle⟩⟩, fun q3 => absurd q1 q3⟩⟩
    · exact vX12_set G (d + 3) a0 a1 m _ ⟨fun q3 => absurd q3 q, fun _ => ⟨fun q3 => absurd q3 q1, fun _ => ⟨rfl, h.idle⟩⟩⟩
