/-! words: what a row says of them -/
def lenW (a : Nat → Int32) (w : Nat) : Nat := tn (a (36 + 9 * w))
def strW (a : Nat → Int32) (w k : Nat) : Nat := tn (a (37 + 9 * w + k))
def menB (a : Nat → Int32) (b : Nat) : Nat := tn (a (18 + 3 * b))
theorem WF.lenW {a : Nat → Int32} (h : WF a) {w : Nat} (hw : w < tn (a 1)) : a (36 + 9 * w) = nI (lenW a w) ∧ 1 ≤ lenW a w ∧ lenW a w ≤ 4 := (h.len w hw).is (by omega)
theorem WF.strW {a : Nat → Int32} (h : WF a) {w k : Nat} (hw : w < tn (a 1)) (hk : k < CBellTongueLaw_law_r7037_54981f.lenW a w) : a (37 + 9 * w + k) = nI (strW a w k) ∧ strW a w k < tn (a 0) := by
  obtain ⟨b, h1, h2⟩ := h.str w k hw hk
  have := (h.nb.is (by omega)).2.2
  have e : CBellTongueLaw_law_r7037_54981f.strW a w k = b := by unfold CBellTongueLaw_law_r7037_54981f.strW; rw [h2]; exact tn_nI (by omega)
  rw [e]
  exact ⟨h2, h1⟩
theorem WF.menB {a : Nat → Int32} (h : WF a) {b : Nat} (hb : b < tn (a 0)) : a (18 + 3 * b) = nI (menB a b) ∧ 1 ≤ menB a b ∧ menB a b ≤ 9 := (h.men b hb).is (by omega)
theorem WF.nb6 {a : Nat → Int32} (h : WF a) : tn (a 0) ≤ 6 := (h.nb.is (by omega)).2.2
theorem WF.nw10 {a : Nat → Int32} (h : WF a) : tn (a 1) ≤ 10 := (h.nw.is (by omega)).2.2
theorem WF.nbE {a : Nat → Int32} (h : WF a) : a 0 = nI (tn (a 0)) := (h.nb.is (by omega)).1
theorem WF.nwE {a : Nat → Int32} (h : WF a) : a 1 = nI (tn (a 1)) := (h.nw.is (by omega)).1
theorem ix_w (w c : Nat) : ((34 : Int32) + (9 : Int32) * nI w) + nI c = nI (34 + 9 * w + c) := by simp only [lit, pk_mul, nI_add]
theorem ix_ws (w k : Nat) : ((34 : Int32) + (9 : Int32) * nI w) + ((3 : Int32) + nI k) = nI (37 + 9 * w + k) := by
  simp only [lit, pk_mul, nI_add]
  exact congrArg nI (by omega)
theorem ix_w2 (w : Nat) : ((34 : Int32) + (9 : Int32) * nI w) + 2 = nI (36 + 9 * w) := (ix_w w 2).trans (congrArg nI (by omega))
theorem ix_w7 (w : Nat) : ((34 : Int32) + (9 : Int32) * nI w) + 7 = nI (41 + 9 * w) := (ix_w w 7).trans (congrArg nI (by omega))
theorem ix_w8 (w : Nat) : ((34 : Int32) + (9 : Int32) * nI w) + 8 = nI (42 + 9 * w) := (ix_w w 8).trans (congrArg nI (by omega))
theorem ix_b (b : Nat) : ((16 : Int32) + (3 : Int32) * nI b) = nI (16 + 3 * b) := by simp only [lit, pk_mul, nI_add]
theorem ix_b1 (b : Nat) : ((16 : Int32) + (3 : Int32) * nI b) + 1 = nI (17 + 3 * b) := by
  simp only [lit, pk_mul, nI_add]
  exact congrArg nI (by omega)
theorem ix_b2 (b : Nat) : ((16 : Int32) + (3 : Int32) * nI b) + 2 = nI (18 + 3 * b) := by
  simp only [lit, pk_mul, nI_add]
  exact congrArg nI (by omega)
theorem ix_c (w k : Nat) : (nI w * 4) + nI k = nI (4 * w + k) := by
  rw [show nI w * 4 = nI (4 * w) from (pk_mul w 4).trans (congrArg nI (by omega)), nI_add]
/-- a word's stroke, in the class -/
theorem strC_is {m : Mem} {a : Nat → Int32} (r : RC m.1 0 a) (h : WF a) {w k : Nat} (hw : w < tn (a 1)) (hk : k < 4) : ((0 ≤ nI w ∧ nI w < m.1 2 4) ∧ (0 ≤ nI k ∧ nI k ≤ 3) → vp_in (nI w * 4 + nI k) 40) ∧ strC m (nI w) (nI k) = a (37 + 9 * w + k) := by
  have h10 := h.nw10
  have e2 : m.1 2 4 = nI (tn (a 1)) := r.nw.trans h.nwE
  refine ⟨fun _ => by rw [ix_c]; exact in_nI (by omega) (by omega), ?_⟩
  unfold strC
  rw [if_pos ⟨by rw [e2]; exact (one_nI (by omega)).mpr ⟨w, hw, rfl⟩, (oneC_nI (n := 3) (by omega)).mpr ⟨k, by omega, rfl⟩⟩, ix_c, tn_nI (by omega)]
  exact r.str w k hw hk
def needV (a : Nat → Int32) (w : Nat) : Nat := fold (fun k s => max s (menB a (strW a w k))) 0 (lenW a w) 0
theorem kC_menFor (G : GP) (d : Nat) (w : Nat) (m : Mem) (a : Nat → Int32) (K : Int32 → Mem → Prop) (r : RC m.1 0 a) (h : WF a) (hw : w < tn (a 1)) (hK : needV a w ≤ 9 → K (nI (needV a w)) m) : Evi G (d + 1) mX2_menFor [.ref (ga G 2), .int (nI w)] m K := by
  have h10 := h.nw10
  have h6 := h.nb6
  obtain ⟨l1, l2, l3⟩ := h.lenW hw
  have cl : m.1 7 w = nI (lenW a w) := (r.len w hw).trans l1
  have e0 : m.1 2 0 = nI (tn (a 0)) := r.nb.trans h.nbE
  refine vX2_menFor G d (nI w) m K ?_
  refine loopI (P := fun i (s : Nat) => ∀ u, Gw G (d + 1) mX2_menFor 4 [.ref (ga G 2), .int (nI w), .int (nI s), .int (nI i), u] [] m (Qi K)) (fun _ s => s ≤ 9) (fun k s => max s (menB a (strW a w k))) (lenW a w) ?_ (lenW a w) 0 0 (by omega) (by omega) (fun hs u => ?_) uu
  · intro i s hi hs
    obtain ⟨s1, s2⟩ := h.strW hw hi
    obtain ⟨b1, b2, b3⟩ := h.menB s2
    refine ⟨by omega, fun hP u => vX2_menFor_4 G d (nI w) (nI s) (nI i) u m K ⟨in_nI (by omega) (by omega), fun q => ?_, fun _ => ⟨by rw [ix_c]; exact in_nI (by omega) (by omega), ?_⟩⟩⟩
    · rw [tn_nI (by omega), cl, le_nI (by omega) (by omega)] at q
      omega
    · rintro _ rfl
      rw [ix_c, tn_nI (by omega), show m.1 6 (4 * w + i) = nI (strW a w i) from (r.str w i hw (by omega)).trans s1]
      refine ⟨fun _ => ⟨in_nI (by omega) (by omega), ?_⟩, fun q => absurd (by rw [e0]; exact (one_nI (by omega)).mpr ⟨_, s2, rfl⟩) q⟩
      rintro _ rfl _ rfl
      rw [tn_nI (by omega), show m.1 5 (strW a w i) = nI (menB a (strW a w i)) from (r.men _ s2).trans b1, imax_nI (by omega) (by omega), nI_1]
      exact hP _
  · refine vX2_menFor_4 G d (nI w) _ _ u m K ⟨in_nI (by omega) (by omega), fun _ => hK hs, fun q => absurd ?_ q⟩
    rw [tn_nI (by omega), cl]
    exact Int32.le_refl _
theorem qX12_needed (G : GP) (d : Nat) (w : Nat) (m : Mem) (K : Int32 → Mem → Prop) (h : WF (m.1 274)) (hw : w < tn (m.1 274 1)) (hK : needV (m.1 274) w ≤ 9 → K (nI (needV (m.1 274) w)) m) : Evi G (d + 2) mX12_needed [.ref (ga G 273), .int (nI w)] m K := by
  generalize ha : m.1 274 = a at *
  have h10 := h.nw10
  have h6 := h.nb6
  obtain ⟨l1, l2, l3⟩ := h.lenW hw
  refine vX12_needed G d (nI w) m K ?_
  refine loopI (P := fun i (s : Nat) => Gw G (d + 2) mX12_needed 4 [.ref (ga G 273), .int (nI w), .int (nI s), .int (nI i)] [] m (Qi K)) (fun _ s => s ≤ 9) (fun k s => max s (menB a (strW a w k))) (lenW a w) ?_ (lenW a w) 0 0 (by omega) (by omega) (fun hs => ?_)
  · intro i s hi hs
    obtain ⟨s1, s2⟩ := h.strW hw hi
    obtain ⟨b1, b2, b3⟩ := h.menB s2
    have v1 : vp_in (((34 : Int32) + (9 : Int32) * nI w) + ((3 : Int32) + nI i)) 5968 := by rw [ix_ws]; exact in_nI (by omega) (by omega)
    have v2 : m.1 274 (((34 : Int32) + (9 : Int32) * nI w) + ((3 : Int32) + nI i)).toNatClampNeg = nI (strW a w i) := by rw [ix_ws, tn_nI (by omega), ha]; exact s1
    have v3 : vp_in (((16 : Int32) + (3 : Int32) * (m.1 274 (((34 : Int32) + (9 : Int32) * nI w) + ((3 : Int32) + nI i)).toNatClampNeg)) + 2) 5968 := by rw [v2, ix_b2]; exact in_nI (by omega) (by omega)
    have v4 : m.1 274 (((16 : Int32) + (3 : Int32) * (m.1 274 (((34 : Int32) + (9 : Int32) * nI w) + ((3 : Int32) + nI i)).toNatClampNeg)) + 2).toNatClampNeg = nI (menB a (strW a w i)) := by rw [v2, ix_b2, tn_nI (by omega), ha]; exact b1
    refine ⟨by omega, fun hP => vX12_needed_4 G d (nI w) (nI s) (nI i) m K ⟨by rw [ix_w2]; exact in_nI (by omega) (by omega), fun q => ?_, fun _ => ⟨v1, v3, fun q => ?_, fun q => ⟨v1, v3, ?_⟩⟩⟩⟩
    · rw [ix_w2, tn_nI (by omega), ha, l1, le_nI (by omega) (by omega)] at q
      omega
    · rw [v4, le_nI (by omega) (by omega)] at q
      rintro _ rfl
      rw [nI_1]
      rw [Nat.max_eq_left q] at hP
      exact hP
    · rw [v4, le_nI (by omega) (by omega)] at q
      rw [v4]
      rintro _ rfl _ rfl
      rw [nI_1]
      rw [Nat.max_eq_right (by omega)] at hP
      exact hP
  · refine vX12_needed_4 G d (nI w) _ _ m K ⟨by rw [ix_w2]; exact in_nI (by omega) (by omega), fun _ => hK hs, fun q => absurd ?_ q⟩
    rw [ix_w2, tn_nI (by omega), ha, l1]
    exact Int32.le_refl _
theorem case_ofWord (G : GP) (d : Nat) {TX : (Nat → Nat → Int32) → Prop} {n : Nat} (a0 a1 : Int32) (m : Mem) (h : Inv TX n m.1) : Evi G (d + 3) mX11_ofWord [.ref (ga G 0), .int a0, .int a1] m (Same G TX n (d + 3) mX12_ofWord [.int a0, .int a1]) := by
  have r := h.2.2.1
  have hW := h.1
  have h10 := hW.nw10
  have e2 : m.1 2 4 = nI (tn (m.1 274 1)) := r.nw.trans hW.nwE
  refine vX11_ofWord G (d + 1) a0 a1 m _ ⟨fun hw => ?_, fun hw => ?_⟩
  · have hw' := hw
    rw [e2, one_nI (by omega)] at hw
    obtain ⟨w, hw, rfl⟩ := hw
    have hwm : 0 ≤ nI w ∧ nI w ≤ m.1 274 1 - 1 := by rw [hW.nwE, oneM_nI (by omega)]; exact ⟨w, hw, rfl⟩
    have low : ∀ k, k < 3 → ∀ x, x = m.1 274 (34 + 9 * w + k) → Same G TX n (d + 3) mX12_ofWord [.int (nI w), .int (nI k)] x m := by
      intro k hk x hx
      refine vX12_ofWord G d (nI w) (nI k) m _ ⟨fun _ => ⟨fun _ => ⟨fun q => ?_, fun _ => ?_⟩, fun q => absurd ((oneC_nI (n := 7) (by omega)).mpr ⟨k, by omega, rfl⟩) q⟩, fun q => absurd hwm q⟩
      · have q := (le_nI (a := 3) (by omega) (by omega)).mp q
        omega
      · rw [ix_w, tn_nI (by omega)]
        exact ⟨in_nI (by omega) (by omega), hx, h.idle⟩
    refine ⟨fun q => ⟨in_nI (by omega) (by omega), ?_⟩, fun q => ⟨in_nI (by omega) (by omega), ?_⟩, fun q => ⟨in_nI (by omega) (by omega), ?_⟩, fun q => ?_, fun q => ⟨fun q2 => ?_, fun q2 => ?_⟩⟩
    · rw [q, tn_nI (by omega)]; exact low 0 (by omega) _ (r.kind w hw)
    · rw [q, tn_nI (by omega)]; exact low 1 (by omega) _ ((r.means w hw).trans (congrArg _ (by omega)))
    · rw [q, tn_nI (by omega)]; exact low 2 (by omega) _ ((r.len w hw).trans (congrArg _ (by omega)))
    · rw [q]
      refine kC_menFor G (d + 1) w m (m.1 274) _ r hW hw (fun _ => ?_)
      refine vX12_ofWord G d (nI w) 3 m _ ⟨fun _ => ⟨fun _ => ⟨fun _ => ⟨fun q => absurd rfl q, fun _ => ?_⟩, fun q => absurd (by decide) q⟩, fun q => absurd (by decide) q⟩, fun q => absurd hwm q⟩
      exact qX12_needed G d w m _ hW hw (fun _ => ⟨rfl, h.idle⟩)
    · obtain ⟨k, h1, h2, rfl⟩ := bd_of (lo := 4) (hi := 7) q2.1 q2.2 (by omega) (by omega)
      have ek : nI k - 4 = nI (k - 4) := sub_nI (a := k) (b := 4) h1
      rw [ek]
      obtain ⟨s1, s2⟩ := strC_is r hW hw (k := k - 4) (by omega)
      refine ⟨s1, ?_⟩
      rw [s2]
      refine vX12_ofWord G d (nI w) (nI k) m _ ⟨fun _ => ⟨fun _ => ⟨fun _ => ⟨fun _ => ?_, fun q3 => absurd q3 q.2.2.2⟩, fun q3 => absurd ((le_nI (a := 3) (by omega) (by omega)).mpr (by omega)) q3⟩, fun q3 => absurd ((oneC_nI (n := 7) (by omega)).mpr ⟨k, by omega, rfl⟩) q3⟩, fun q => absurd hwm q⟩
      rw [ek, ix_ws, tn_nI (by omega)]
      exact ⟨in_nI (by omega) (by omega), rfl, h.idle⟩
    · refine vX12_ofWord G d (nI w) a1 m _ ⟨fun _ => ⟨fun q3 => ?_, fun _ => ⟨rfl, h.idle⟩⟩, fun q => absurd hwm q⟩
      exfalso
      obtain ⟨k, hk, rfl⟩ := (oneC_nI (n := 7) (by omega)).mp q3
      by_cases h4 : 4 ≤ k
      · exact q2 ⟨(le_nI (a := 4) (by omega) (by omega)).mpr h4, (le_nI (b := 7) (by omega) (by omega)).mpr hk⟩
      · have : k = 0 ∨ k = 1 ∨ k = 2 ∨ k = 3 := by omega
        rcases this with rfl | rfl | rfl | rfl
        · exact q.1 rfl
        · exact q.2.1 rfl
        · exact q.2.2.1 rfl
        · exact q.2.2.2 rfl
  · refine vX12_ofWord G d a0 a1 m _ ⟨fun q => absurd ?_ hw, fun _ => ⟨rfl, h.idle⟩⟩
    rw [hW.nwE, oneM_nI (by omega)] at q
    rw [e2, one_nI (by omega)]
    exact q
theorem shown_is {m : Mem} (h : WF (m.1 274)) : shownV m = nI (min (tn (m.1 274 13)) 20) := by
  obtain ⟨e1, -, e3⟩ := h.now.wr.is (by omega)
  have e1 : m.1 274 13 = nI (tn (m.1 274 13)) := e1
  have e3 : tn (m.1 274 13) ≤ 30000 := e3
  unfold shownV
  by_cases q : 20 ≤ tn (m.1 274 13)
  · rw [if_pos (by rw [e1]; exact (le_nI (a := 20) (by omega) (by omega)).mpr q), Nat.min_eq_right q]; rfl
  · rw [if_neg (by rw [e1]; exact fun q2 => q ((le_nI (a := 20) (by omega) (by omega)).mp q2)), Nat.min_eq_left (by omega)]
    exact e1
theorem case_book (G : GP) (d : Nat) {TX : (Nat → Nat → Int32) → Prop} {n : Nat} (a0 a1 : Int32) (m : Mem) (h : Inv TX n m.1) : Evi G (d + 1) mX11_book [.ref (ga G 0), .int a0, .int a1] m (Same G TX n (d + 1) mX12_book [.int a0, .int a1]) := by
  have r := h.2.2.1
  have hW := h.1
  have e1 : m.1 274 13 = nI (tn (m.1 274 13)) := (hW.now.wr.is (by omega)).1
  have e3 : tn (m.1 274 13) ≤ 30000 := (hW.now.wr.is (by omega)).2.2
  have hs := shown_is hW
  have hc : m.1 12 6 = nI (min (tn (m.1 274 13)) 20) := r.now.sun
  have hp : ∀ i j, i < min (tn (m.1 274 13)) 20 → j < 4 → m.1 14 (4 * i + j) = m.1 274 (1088 + 4 * ((tn (m.1 274 13) - min (tn (m.1 274 13)) 20 + i) % 1220) + j) := r.now.pag
  generalize hx : tn (m.1 274 13) = X at *
  refine vX11_book G d a0 a1 m _ ⟨fun q => ⟨fun q1 => ⟨fun q2 => ?_, fun q2 => ?_⟩, fun q1 => ?_⟩, fun q => ?_⟩
  · rw [hc] at q1
    have q1' := q1
    obtain ⟨i, hi, rfl⟩ := (oneM_nI (by omega)).mp q1
    obtain ⟨j, hj, rfl⟩ := (oneC_nI (n := 3) (by omega)).mp q2
    have ei : (nI i * 4) + nI j = nI (4 * i + j) := ix_c i j
    refine ⟨by rw [ei]; exact in_nI (by omega) (by omega), ?_⟩
    rw [ei, tn_nI (by omega), hp i j hi (by omega)]
    refine vX12_book G d (nI i) (nI j) m _ ⟨fun _ => ⟨fun _ => ⟨fun _ => ?_, fun q3 => absurd q2 q3⟩, fun q3 => absurd (by rw [hs]; exact q1') q3⟩, fun q3 => absurd q3 q⟩
    have hm : (X - min X 20 + i) % 1220 < 1220 := Nat.mod_lt _ (by omega)
    have ex : (((1088 : Int32) + ((4 : Int32) * ((((m.1 274 13) - (shownV m)) + nI i) - (((m.1 274 13) - (shownV m)) + nI i) / 1220 * 1220))) + nI j) = nI (1088 + 4 * ((X - min X 20 + i) % 1220) + j) := by
      rw [hs, e1, sub_nI (by omega), nI_add, show (1220 : Int32) = nI 1220 from rfl, rem_nI (by omega) (by omega) (by omega)]
      simp only [lit, pk_mul, nI_add]
    rw [ex, tn_nI (by omega)]
    exact ⟨in_nI (by omega) (by omega), rfl, h.idle⟩
  · exact vX12_book G d a0 a1 m _ ⟨fun _ => ⟨fun _ => ⟨fun q3 => absurd q3 q2, fun _ => ⟨rfl, h.idle⟩⟩, fun _ => ⟨rfl, h.idle⟩⟩, fun q3 => absurd q3 q⟩
  · refine vX12_book G d a0 a1 m _ ⟨fun _ => ⟨fun q2 => absurd ?_ q1, fun _ => ⟨rfl, h.idle⟩⟩, fun q3 => absurd q3 q⟩
    rw [hc, ← hs]
    exact q2
  · exact vX12_book G d a0 a1 m _ ⟨fun q3 => absurd q q3, fun _ => ⟨hc.trans hs.symm, h.idle⟩⟩
