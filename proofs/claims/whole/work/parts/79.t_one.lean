/-! one text more -/
theorem WF.txt1 {a : Nat → Int32} {t : Nat} (h : WF a) (ht : t < 4) (e : a 2 = nI t) : WF (upd a 2 (nI (t + 1))) := by
  have b0 := (h.nb.is (by omega)).2.2
  have b1 := (h.nw.is (by omega)).2.2
  have b2 := (h.nt.is (by omega)).2.2
  have b4 := (h.ns.is (by omega)).2.2
  have b5 := (h.nl.is (by omega)).2.2
  have b6 : tn (a 6) ≤ 12 := ((h.tl 0 (by omega)).is (by omega)).2.2
  have b7 : tn (a 7) ≤ 12 := ((h.tl 1 (by omega)).is (by omega)).2.2
  have bt : ∀ t, t < 2 → tn (a (6 + t)) ≤ 12 := fun t ht => ((h.tl t ht).is (by omega)).2.2
  have hr : a 3 = -1 ∨ ∃ u, u < tn (nI (t + 1)) ∧ a 3 = nI u := by
    rcases h.2.2.2.1 with z | ⟨u, h1, h2⟩
    · exact Or.inl z
    · refine Or.inr ⟨u, ?_, h2⟩
      rw [e, show tn (nI t) = t from tn_nI (by omega)] at h1
      rw [show tn (nI (t + 1)) = t + 1 from tn_nI (by omega)]
      omega
  unfold WF WFs
  simp +contextual (disch := omega) only [upd_n, upd_s]
  refine ⟨h.nb, h.nw, ⟨t + 1, by omega, by omega, rfl⟩, hr, h.ns, h.nl, h.tl, h.hd, h.loud, h.pitch, h.men, h.kind, h.means, h.len, h.str, h.non, h.wei, h.has, h.li0, h.li1, h.tow, h.now, h.sp, h.w1, h.w2⟩
theorem RC.txt1 {f g : Nat → Nat → Int32} {a : Nat → Int32} {v : Int32} (r : RC f 0 a) (h : WF a) (h1 : g 1 = upd (f 1) 5 v) (hg : ∀ c, 1 ≤ c → c ≤ 113 → c ≠ 1 → g c = f c) : RC g 0 (upd a 2 v) := by
  have b0 := (h.nb.is (by omega)).2.2
  have b1 := (h.nw.is (by omega)).2.2
  have b2 := (h.nt.is (by omega)).2.2
  have b4 := (h.ns.is (by omega)).2.2
  have b5 := (h.nl.is (by omega)).2.2
  have b6 : tn (a 6) ≤ 12 := ((h.tl 0 (by omega)).is (by omega)).2.2
  have b7 : tn (a 7) ≤ 12 := ((h.tl 1 (by omega)).is (by omega)).2.2
  have bt : ∀ t, t < 2 → tn (a (6 + t)) ≤ 12 := fun t ht => ((h.tl t ht).is (by omega)).2.2
  unfold RC RS
  simp +contextual (disch := omega) only [upd_n, upd_s, hg, h1, Nat.add_zero]
  refine ⟨r.nb, r.nw, r.loud, r.pitch, r.men, r.kind, r.means, r.len, r.str, r.wei, r.has, r.nl, r.li0, r.li1, r.tl, r.tow, r.hd, True.intro, r.ru, r.now, r.ns, r.al, r.sp⟩
