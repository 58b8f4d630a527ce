/-! A SUNDAY ENDS -/
/-- rows that agree but for the book, the written and the rung -/
def AgB (a a' : Nat → Int32) : Prop := ∀ i, i < 1088 → i ≠ 13 → i ≠ 14 → a' i = a i
theorem WF.agr {a a' : Nat → Int32} (h : WF a) (ha : AgB a a') (h13 : bd (a' 13) 0 30000) (h14 : bd (a' 14) 0 24) (hrow : ∀ k, k < tn (a' 14) → k < tn (a 14)) (hw2 : ∀ i, i + 1 = tn (a 4) → tn (a (192 + 30 * i)) ≤ tn (a' 13) ∧ tn (a' 13) ≤ tn (a (192 + 30 * i)) + 40) : WF a' := by
  have b0 := h.nb6
  have b1 := h.nw10
  have b4 := (h.ns.is (by omega)).2.2
  have b5 := (h.nl.is (by omega)).2.2
  have bt : ∀ t, t < 2 → tn (a (6 + t)) ≤ 12 := fun t ht => ((h.tl t ht).is (by omega)).2.2
  have e0 : a' 0 = a 0 := ha 0 (by omega) (by omega) (by omega)
  have e1 : a' 1 = a 1 := ha 1 (by omega) (by omega) (by omega)
  have e2 : a' 2 = a 2 := ha 2 (by omega) (by omega) (by omega)
  have e3 : a' 3 = a 3 := ha 3 (by omega) (by omega) (by omega)
  have e4 : a' 4 = a 4 := ha 4 (by omega) (by omega) (by omega)
  have e5 : a' 5 = a 5 := ha 5 (by omega) (by omega) (by omega)
  unfold WF
  rw [e0, e1, e2, e3, e4, e5]
  refine ⟨h.nb, h.nw, h.nt, h.ru, h.ns, h.nl, fun t ht => ?_, ?_, fun b hb => ?_, fun b hb => ?_, fun b hb => ?_, fun w hw => ?_, fun w hw => ?_, fun w hw => ?_, fun w k hw hk => ?_, fun w k hw hk hk4 => ?_, fun w hw => ?_, fun w hw => ?_, fun k hk => ?_, fun k hk => ?_, fun t k ht hk => ?_, ?_, fun i hi => ?_, fun i hi => ?_, fun i hi => ?_⟩
  · rw [ha _ (by omega) (by omega) (by omega)]; exact h.tl t ht
  · rw [ha _ (by omega) (by omega) (by omega)]; exact h.hd
  · rw [ha _ (by omega) (by omega) (by omega)]; exact h.loud b hb
  · rw [ha _ (by omega) (by omega) (by omega)]; exact h.pitch b hb
  · rw [ha _ (by omega) (by omega) (by omega)]; exact h.men b hb
  · rw [ha _ (by omega) (by omega) (by omega)]; exact h.kind w hw
  · rw [ha _ (by omega) (by omega) (by omega)]; exact h.means w hw
  · rw [ha _ (by omega) (by omega) (by omega)]; exact h.len w hw
  · rw [ha _ (by omega) (by omega) (by omega)] at hk
    have := ((h.len w hw).is (by omega)).2.2
    rw [ha _ (by omega) (by omega) (by omega)]; exact h.str w k hw hk
  · rw [ha _ (by omega) (by omega) (by omega)] at hk
    rw [ha _ (by omega) (by omega) (by omega)]; exact h.non w k hw hk hk4
  · rw [ha _ (by omega) (by omega) (by omega)]; exact h.wei w hw
  · rw [ha _ (by omega) (by omega) (by omega)]; exact h.has w hw
  · rw [ha _ (by omega) (by omega) (by omega)]; exact h.li0 k hk
  · rw [ha _ (by omega) (by omega) (by omega)]; exact h.li1 k hk
  · rw [ha _ (by omega) (by omega) (by omega)] at hk
    have := bt t ht
    rw [ha _ (by omega) (by omega) (by omega)]; exact h.tow t k ht hk
  · have n14 := (h.now.nr.is (by omega)).2.2
    refine ⟨?_, ?_, ?_, ?_, h13, h14, fun k hk => ?_⟩
    · rw [ha _ (by omega) (by omega) (by omega)]; exact h.now.wind
    · rw [ha _ (by omega) (by omega) (by omega)]; exact h.now.frost
    · rw [ha _ (by omega) (by omega) (by omega)]; exact h.now.hour
    · rw [ha _ (by omega) (by omega) (by omega)]; exact h.now.x
    · have hk := hrow k hk
      have n14 : tn (a 14) ≤ 24 := n14
      rw [ha _ (by omega) (by omega) (by omega)]; exact h.now.row k hk
  · obtain ⟨z1, z2, z3, z4, z5, z6, z7⟩ := h.sp i hi
    refine ⟨?_, ?_, ?_, ?_, ?_, ?_, fun k hk => ?_⟩
    · rw [ha _ (by omega) (by omega) (by omega)]; exact z1
    · rw [ha _ (by omega) (by omega) (by omega)]; exact z2
    · rw [ha _ (by omega) (by omega) (by omega)]; exact z3
    · rw [ha _ (by omega) (by omega) (by omega)]; exact z4
    · rw [ha _ (by omega) (by omega) (by omega)]; exact z5
    · rw [ha _ (by omega) (by omega) (by omega)]; exact z6
    · rw [ha _ (by omega) (by omega) (by omega)] at hk
      have := (z6.is (by omega)).2.2
      rw [ha _ (by omega) (by omega) (by omega)]; exact z7 k hk
  · rw [ha _ (by omega) (by omega) (by omega), ha _ (by omega) (by omega) (by omega)]; exact h.w1 i hi
  · rw [ha _ (by omega) (by omega) (by omega)]; exact hw2 i hi
theorem RC.agr {f g : Nat → Nat → Int32} {a a' : Nat → Int32} (r : RC f 0 a) (h : WF a) (ha : AgB a a') (hg : ∀ c, 1 ≤ c → c ≤ 113 → c ≠ 12 → c ≠ 13 → c ≠ 14 → g c = f c) (hnow : RS g 12 a' 8 12 164) (hsp : ∀ i c, i < tn (a 4) → 17 ≤ c → c ≤ 104 → RS f c a (188 + 30 * i) (191 + 30 * i) (194 + 30 * i) → RS g c a' (188 + 30 * i) (191 + 30 * i) (194 + 30 * i)) : RC g 0 a' := by
  have b0 := h.nb6
  have b1 := h.nw10
  have b4 := (h.ns.is (by omega)).2.2
  have b5 := (h.nl.is (by omega)).2.2
  have bt : ∀ t, t < 2 → tn (a (6 + t)) ≤ 12 := fun t ht => ((h.tl t ht).is (by omega)).2.2
  have e0 : a' 0 = a 0 := ha 0 (by omega) (by omega) (by omega)
  have e1 : a' 1 = a 1 := ha 1 (by omega) (by omega) (by omega)
  have e2 : a' 2 = a 2 := ha 2 (by omega) (by omega) (by omega)
  have e3 : a' 3 = a 3 := ha 3 (by omega) (by omega) (by omega)
  have e4 : a' 4 = a 4 := ha 4 (by omega) (by omega) (by omega)
  have e5 : a' 5 = a 5 := ha 5 (by omega) (by omega) (by omega)
  have G : ∀ c, 1 ≤ c → c ≤ 113 → c ≠ 12 → c ≠ 13 → c ≠ 14 → g (c + 0) = f (c + 0) := fun c h1 h2 h3 h4 h5 => hg c h1 h2 h3 h4 h5
  unfold RC
  rw [e0, e1, e2, e3, e4, e5]
  refine ⟨?_, ?_, fun b hb => ?_, fun b hb => ?_, fun b hb => ?_, fun w hw => ?_, fun w hw => ?_, fun w hw => ?_, fun w k hw hk => ?_, fun w hw => ?_, fun w hw => ?_, ?_, fun k hk => ?_, fun k hk => ?_, fun t ht => ?_, fun t k ht hk => ?_, ?_, ?_, ?_, hnow, ?_, fun i hi => ?_, ?_⟩
  · rw [G 2 (by omega) (by omega) (by omega) (by omega) (by omega)]; exact r.nb
  · rw [G 2 (by omega) (by omega) (by omega) (by omega) (by omega)]; exact r.nw
  · rw [G 3 (by omega) (by omega) (by omega) (by omega) (by omega), ha _ (by omega) (by omega) (by omega)]; exact r.loud b hb
  · rw [G 4 (by omega) (by omega) (by omega) (by omega) (by omega), ha _ (by omega) (by omega) (by omega)]; exact r.pitch b hb
  · rw [G 5 (by omega) (by omega) (by omega) (by omega) (by omega), ha _ (by omega) (by omega) (by omega)]; exact r.men b hb
  · rw [G 8 (by omega) (by omega) (by omega) (by omega) (by omega), ha _ (by omega) (by omega) (by omega)]; exact r.kind w hw
  · rw [G 9 (by omega) (by omega) (by omega) (by omega) (by omega), ha _ (by omega) (by omega) (by omega)]; exact r.means w hw
  · rw [G 7 (by omega) (by omega) (by omega) (by omega) (by omega), ha _ (by omega) (by omega) (by omega)]; exact r.len w hw
  · rw [G 6 (by omega) (by omega) (by omega) (by omega) (by omega), ha _ (by omega) (by omega) (by omega)]; exact r.str w k hw hk
  · rw [G 108 (by omega) (by omega) (by omega) (by omega) (by omega), ha _ (by omega) (by omega) (by omega)]; exact r.wei w hw
  · rw [G 109 (by omega) (by omega) (by omega) (by omega) (by omega), ha _ (by omega) (by omega) (by omega)]; exact r.has w hw
  · rw [G 107 (by omega) (by omega) (by omega) (by omega) (by omega)]; exact r.nl
  · rw [G 110 (by omega) (by omega) (by omega) (by omega) (by omega), ha _ (by omega) (by omega) (by omega)]; exact r.li0 k hk
  · rw [G 111 (by omega) (by omega) (by omega) (by omega) (by omega), ha _ (by omega) (by omega) (by omega)]; exact r.li1 k hk
  · rw [G 112 (by omega) (by omega) (by omega) (by omega) (by omega), ha _ (by omega) (by omega) (by omega)]; exact r.tl t ht
  · rw [ha _ (by omega) (by omega) (by omega)] at hk
    have := bt t ht
    rw [G 113 (by omega) (by omega) (by omega) (by omega) (by omega), ha _ (by omega) (by omega) (by omega)]; exact r.tow t k ht hk
  · rw [G 1 (by omega) (by omega) (by omega) (by omega) (by omega), ha _ (by omega) (by omega) (by omega)]; exact r.hd
  · rw [G 1 (by omega) (by omega) (by omega) (by omega) (by omega)]; exact r.nt
  · rw [G 1 (by omega) (by omega) (by omega) (by omega) (by omega)]; exact r.ru
  · rw [G 15 (by omega) (by omega) (by omega) (by omega) (by omega)]; exact r.ns
  · rw [hg _ (by omega) (by omega) (by omega) (by omega) (by omega)]; exact r.al i hi
  · obtain ⟨e, he, h1, h2⟩ := r.sp
    refine ⟨e, he, ?_, fun i hi => hsp i _ hi (by omega) (by omega) (h2 i hi)⟩
    rw [G 15 (by omega) (by omega) (by omega) (by omega) (by omega)]; exact h1
/-- how far the steps' books lie back -/
theorem WF.gap {a : Nat → Int32} (h : WF a) (hw : ∀ i, i + 1 = tn (a 4) → tn (a 13) + 1 ≤ tn (a (192 + 30 * i)) + 40) : ∀ (j i : Nat), i + j + 1 = tn (a 4) → tn (a (192 + 30 * i)) ≤ tn (a 13) ∧ tn (a 13) + 1 ≤ tn (a (192 + 30 * i)) + 40 * (j + 1)
  | 0, i, e => ⟨(h.w2 i e).1, by have := hw i e; omega⟩
  | j + 1, i, e => by
    have h1 := WF.gap h hw j (i + 1) (by omega)
    have h2 := h.w1 i (by omega)
    rw [show 192 + 30 * (i + 1) = 222 + 30 * i by omega] at h1
    omega
def sunX (a : Nat → Int32) : Nat := 1088 + 4 * (tn (a 13) % 1220)
def sunF (a : Nat → Int32) (v : Int32) : Nat → Int32 := upd (upd (upd (upd (upd (upd a (sunX a) (a 10)) (sunX a + 1) (a 14)) (sunX a + 2) (nI (hN a))) (sunX a + 3) v) 13 (nI (tn (a 13) + 1))) 14 0
theorem sunF_ag (a : Nat → Int32) (v : Int32) : AgB a (sunF a v) := by
  intro i h1 h2 h3
  unfold sunF sunX
  simp (disch := omega) only [upd_n]
theorem sunF_13 (a : Nat → Int32) (v : Int32) : sunF a v 13 = nI (tn (a 13) + 1) := by
  unfold sunF
  simp (disch := omega) only [upd_n, upd_s]
theorem sunF_14 (a : Nat → Int32) (v : Int32) : sunF a v 14 = 0 := by
  unfold sunF
  exact upd_s _ _ _
theorem sunF_bk (a : Nat → Int32) (v : Int32) : sunF a v (sunX a) = a 10 ∧ sunF a v (sunX a + 1) = a 14 ∧ sunF a v (sunX a + 2) = nI (hN a) ∧ sunF a v (sunX a + 3) = v := by
  have : 1088 ≤ sunX a := by unfold sunX; omega
  unfold sunF
  refine ⟨?_, ?_, ?_, ?_⟩ <;> simp (disch := omega) only [upd_n, upd_s]
theorem sunF_o (a : Nat → Int32) (v : Int32) {y j : Nat} (hy : y % 1220 ≠ tn (a 13) % 1220) (hj : j < 4) : sunF a v (1088 + 4 * (y % 1220) + j) = a (1088 + 4 * (y % 1220) + j) := by
  unfold sunF sunX
  simp (disch := omega) only [upd_n]
theorem WF.sun {a : Nat → Int32} (h : WF a) (v : Int32) (hb : tn (a 13) < 30000) (hw : ∀ i, i + 1 = tn (a 4) → tn (a 13) + 1 ≤ tn (a (192 + 30 * i)) + 40) : WF (sunF a v) := by
  have e13 : tn (sunF a v 13) = tn (a 13) + 1 := by rw [sunF_13]; exact tn_nI (by omega)
  refine h.agr (sunF_ag a v) ?_ ?_ (fun k hk => ?_) (fun i hi => ?_)
  · rw [sunF_13]; exact ⟨_, by omega, by omega, rfl⟩
  · rw [sunF_14]; exact ⟨0, by omega, by omega, rfl⟩
  · rw [sunF_14, show tn (0 : Int32) = 0 by decide] at hk
    omega
  · rw [e13]
    have := hw i hi
    have := (h.w2 i hi).1
    omega
theorem RC.sun {f g : Nat → Nat → Int32} {a : Nat → Int32} (r : RC f 0 a) (h : WF a) (v : Int32) (hw : ∀ i, i + 1 = tn (a 4) → tn (a 13) + 1 ≤ tn (a (192 + 30 * i)) + 40) (hb : tn (a 13) < 30000) (hg : ∀ c, 1 ≤ c → c ≤ 113 → c ≠ 12 → c ≠ 13 → c ≠ 14 → g c = f c)
    (h12 : g 12 = upd (upd (f 12) 6 (nI (min (tn (a 13) + 1) 20))) 4 0) (hp1 : ∀ i j, i + 1 < min (tn (a 13) + 1) 20 → j < 4 → g 14 (4 * i + j) = f 14 (4 * (if tn (a 13) < 20 then i else i + 1) + j)) (hp2 : ∀ j, j < 4 → g 14 (4 * (min (tn (a 13) + 1) 20 - 1) + j) = sunF a v (sunX a + j)) : RC g 0 (sunF a v) := by
  have e13 : tn (sunF a v (12 + 1)) = tn (a 13) + 1 := by rw [show 12 + 1 = 13 from rfl, sunF_13]; exact tn_nI (by omega)
  have e14 : tn (sunF a v (12 + 2)) = 0 := by rw [show 12 + 2 = 14 from rfl, sunF_14]; decide
  have ag := sunF_ag a v
  refine r.agr h ag hg ⟨?_, ?_, ?_, ?_, ?_, fun k hk => ?_, ?_, fun i j hi hj => ?_⟩ (fun i c hi h1 h2 hR => ?_)
  · rw [h12, upd_n _ _ (by omega), upd_n _ _ (by omega), ag _ (by omega) (by omega) (by omega)]; exact r.now.wind
  · rw [h12, upd_n _ _ (by omega), upd_n _ _ (by omega), ag _ (by omega) (by omega) (by omega)]; exact r.now.frost
  · rw [h12, upd_n _ _ (by omega), upd_n _ _ (by omega), ag _ (by omega) (by omega) (by omega)]; exact r.now.hour
  · rw [h12, upd_n _ _ (by omega), upd_n _ _ (by omega), ag _ (by omega) (by omega) (by omega)]; exact r.now.x
  · rw [h12, upd_s, show 12 + 2 = 14 from rfl, sunF_14]
  · rw [e14] at hk
    omega
  · rw [h12, upd_n _ _ (by omega), upd_s, e13]
  · rw [e13] at hi ⊢
    by_cases e : i + 1 = min (tn (a 13) + 1) 20
    · have e2 : i = min (tn (a 13) + 1) 20 - 1 := by omega
      have e3 : tn (a 13) + 1 - min (tn (a 13) + 1) 20 + i = tn (a 13) := by omega
      rw [e3]
      have := hp2 j hj
      rw [← e2] at this
      exact this
    · have q : i + 1 < min (tn (a 13) + 1) 20 := by omega
      rw [show 12 + 2 = 14 from rfl, hp1 i j q hj, sunF_o a v (by omega) hj]
      by_cases z : tn (a 13) < 20
      · rw [if_pos z]
        have := r.now.pag i j (by show i < min (tn (a 13)) 20; omega) hj
        rw [show tn (a (12 + 1)) = tn (a 13) from rfl] at this
        rw [show tn (a 13) + 1 - min (tn (a 13) + 1) 20 + i = tn (a 13) - min (tn (a 13)) 20 + i by omega]
        exact this
      · rw [if_neg z]
        have := r.now.pag (i + 1) j (by show i + 1 < min (tn (a 13)) 20; omega) hj
        rw [show tn (a (12 + 1)) = tn (a 13) from rfl] at this
        rw [show tn (a 13) + 1 - min (tn (a 13) + 1) 20 + i = tn (a 13) - min (tn (a 13)) 20 + (i + 1) by omega]
        exact this
  · have b4 := (h.ns.is (by omega)).2.2
    obtain ⟨g1, g2⟩ := h.gap hw (tn (a 4) - i - 1) i (by omega)
    obtain ⟨z1, z2, z3, z4, z5, z6, z7⟩ := h.sp i hi
    have n6 := (z6.is (by omega)).2.2
    obtain ⟨y1, y2, y3, y4, y5, y6, y7, y8⟩ := hR
    have ew : tn (sunF a v (191 + 30 * i + 1)) = tn (a (192 + 30 * i)) := by rw [ag _ (by omega) (by omega) (by omega), show 191 + 30 * i + 1 = 192 + 30 * i by omega]
    have ew2 : tn (a (191 + 30 * i + 1)) = tn (a (192 + 30 * i)) := by rw [show 191 + 30 * i + 1 = 192 + 30 * i by omega]
    refine ⟨?_, ?_, ?_, ?_, ?_, fun k hk => ?_, ?_, fun i' j hi' hj => ?_⟩
    · rw [hg _ (by omega) (by omega) (by omega) (by omega) (by omega), ag _ (by omega) (by omega) (by omega)]; exact y1
    · rw [hg _ (by omega) (by omega) (by omega) (by omega) (by omega), ag _ (by omega) (by omega) (by omega)]; exact y2
    · rw [hg _ (by omega) (by omega) (by omega) (by omega) (by omega), ag _ (by omega) (by omega) (by omega)]; exact y3
    · rw [hg _ (by omega) (by omega) (by omega) (by omega) (by omega), ag _ (by omega) (by omega) (by omega)]; exact y4
    · rw [hg _ (by omega) (by omega) (by omega) (by omega) (by omega), ag _ (by omega) (by omega) (by omega)]; exact y5
    · rw [ag _ (by omega) (by omega) (by omega)] at hk
      rw [hg _ (by omega) (by omega) (by omega) (by omega) (by omega), ag _ (by omega) (by omega) (by omega)]; exact y6 k hk
    · rw [hg _ (by omega) (by omega) (by omega) (by omega) (by omega), ew]
      rw [ew2] at y7
      exact y7
    · rw [ew] at hi' ⊢
      rw [ew2] at y8
      rw [hg _ (by omega) (by omega) (by omega) (by omega) (by omega), sunF_o a v (by omega) hj]
      exact y8 i' j hi' hj
