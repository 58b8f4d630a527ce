/-! speak -/
noncomputable def sayS (X : Nat → Nat → Int32) (w k : Nat) (s : (Nat → Int32) × Nat) : (Nat → Int32) × Nat := (strF s.1 (strW s.1 w k) (ovN X s.1 (strW s.1 w k)), s.2 + if ovN X s.1 (strW s.1 w k) then 1 else 0)
noncomputable def sayF (X : Nat → Nat → Int32) (a : Nat → Int32) (w : Nat) : (Nat → Int32) × Nat := fold (sayS X w) 0 (lenW a w) (a, 0)
/-- while a word is spoken -/
def SayI (a : Nat → Int32) (i : Nat) (s : (Nat → Int32) × Nat) : Prop := WF s.1 ∧ (∀ j, j < 164 → j ≠ 14 → s.1 j = a j) ∧ tn (s.1 14) = tn (a 14) + i ∧ s.2 ≤ i
theorem say_len {a b : Nat → Int32} (h : ∀ j, j < 164 → j ≠ 14 → b j = a j) {w : Nat} (hw : w < 10) : lenW b w = lenW a w := by
  unfold lenW; rw [h _ (by omega) (by omega)]
theorem sayI_s {X : Nat → Nat → Int32} {a : Nat → Int32} {w : Nat} (h : WF a) (hw : w < tn (a 1)) (hs : tn (a 14) + lenW a w ≤ 24) (i : Nat) (s : (Nat → Int32) × Nat) (hi : i < lenW a w) (hI : SayI a i s) : tn (s.1 14) < 24 ∧ s.1 (37 + 9 * w + i) = nI (strW s.1 w i) ∧ strW s.1 w i < tn (s.1 0) ∧ SayI a (i + 1) (sayS X w i s) := by
  obtain ⟨i1, i2, i3, i4⟩ := hI
  have h10 := h.nw10
  have e1 : tn (s.1 1) = tn (a 1) := by rw [i2 1 (by omega) (by omega)]
  have hl := say_len i2 (w := w) (by omega)
  obtain ⟨s1, s2⟩ := i1.strW (w := w) (k := i) (by omega) (by rw [hl]; exact hi)
  refine ⟨by omega, s1, s2, i1.strF (by omega) s2 _, fun j h1 h2 => ?_, ?_, ?_⟩
  · show strF s.1 (strW s.1 w i) (ovN X s.1 (strW s.1 w i)) j = a j
    rw [strF_i (by omega) h2 (by omega)]; exact i2 j h1 h2
  · show tn (strF s.1 (strW s.1 w i) (ovN X s.1 (strW s.1 w i)) 14) = _
    rw [strF_14 (by omega)]; omega
  · show s.2 + (if ovN X s.1 (strW s.1 w i) then 1 else 0) ≤ i + 1
    split <;> omega
theorem say_fin {X : Nat → Nat → Int32} {a : Nat → Int32} {w : Nat} (h : WF a) (hw : w < tn (a 1)) (hs : tn (a 14) + lenW a w ≤ 24) : SayI a (lenW a w) (sayF X a w) :=
  fold_inv (SayI a) (sayS X w) (lenW a w) (fun i s hi hI => (sayI_s h hw hs i s hi hI).2.2.2) (lenW a w) 0 (a, 0) (by omega) ⟨h, fun _ _ _ => rfl, rfl, Nat.le_refl _⟩
theorem SayI.gr {a : Nat → Int32} {i : Nat} {s : (Nat → Int32) × Nat} (h : SayI a i s) : GrS a s.1 := ⟨h.2.1 _ (by omega) (by omega), h.2.1 _ (by omega) (by omega), h.2.1 _ (by omega) (by omega), fun i h1 h2 => h.2.1 _ (by omega) (by omega)⟩
theorem b2_add (n : Nat) (o : Bool) : nI n + b2 o = nI (n + if o then 1 else 0) := by
  cases o
  · exact nI_add n 0
  · exact nI_add n 1
theorem kP_say (G : GP) (d : Nat) (X : Nat → Nat → Int32) (w : Nat) (m : Mem) (a : Nat → Int32) (K : Int32 → Mem → Prop) (h : St X m a) (hw : w < tn (a 1)) (hs : tn (a 14) + lenW a w ≤ 24) (hK : ∀ m' : Mem, St X m' (sayF X a w).1 → FrP m.1 m'.1 → K (nI (sayF X a w).2) m') : Evi G (d + 4) mX11_say [.ref (ga G 0), .int (nI w)] m K := by
  have h10 := h.2.1.nw10
  have hl4 := (h.2.1.lenW hw).2.2
  refine vX11_say G d (nI w) m K ?_
  refine loopI (P := fun i (s : (Nat → Int32) × Nat) => ∀ (m' : Mem) (u : Value), St X m' s.1 → FrP m.1 m'.1 → Gw G (d + 4) mX11_say 22 [.ref (ga G 0), .int (nI w), .ref (ga G 2), .ref (ga G 12), .int (nI s.2), .int (nI i), u] [] m' (Qi K)) (SayI a) (sayS X w) (lenW a w) ?_ (lenW a w) 0 (a, 0) (by omega) ⟨h.2.1, fun _ _ _ => rfl, rfl, Nat.le_refl _⟩ (fun hI m' u s1 f1 => ?_) m uu h (FrP.rf _)
  · intro i s hi hI
    obtain ⟨c1, c2, c3, c4⟩ := sayI_s (X := X) h.2.1 hw hs i s hi hI
    have e1 : tn (s.1 1) = tn (a 1) := by rw [hI.2.1 1 (by omega) (by omega)]
    have hl := say_len hI.2.1 (w := w) (by omega)
    refine ⟨c4, fun hP m' u s1 f1 => ?_⟩
    have cl : m'.1 7 w = nI (lenW a w) := ((s1.1.len w (by omega)).trans (hI.1.lenW (w := w) (by omega)).1).trans (by rw [hl])
    obtain ⟨z1, z2⟩ := strC_is s1.1 hI.1 (w := w) (k := i) (by omega) (by omega)
    refine vX11_say_22 G d (nI w) (nI s.2) (nI i) u m' K ⟨in_nI (by omega) (by omega), fun q => ?_, fun _ => ⟨z1, ?_⟩⟩
    · rw [tn_nI (by omega), cl, le_nI (by omega) (by omega)] at q
      omega
    · rw [z2, c2]
      rintro _ rfl
      refine kC_strike1 G d (strW s.1 w i) m' s.1 _ X s1.1 s1.2.1 c1 c3 s1.2.2.2.1 s1.2.2.1 (fun m2 r2 f2 => ?_)
      rintro _ rfl _ rfl
      rw [b2_add, nI_1]
      have f' : FrP m'.1 m2.1 := fun c h1 h2 h3 => f2 c (by omega) (by omega) (fun e => h2 (by unfold Scr; omega)) (fun e => h2 (by unfold Scr; omega))
      exact hP m2 _ (s1.go r2 (hI.1.strF c1 c3 _) (str_gr c1 _ _) f' (f2 265 (by omega) (by omega) (by omega) (by omega))) (f1.tr f')
  · have e1 : tn ((sayF X a w).1 1) = tn (a 1) := by rw [show (sayF X a w).1 1 = a 1 from hI.2.1 1 (by omega) (by omega)]
    have hl : lenW (sayF X a w).1 w = lenW a w := say_len hI.2.1 (by omega)
    have hI' : SayI a (lenW a w) (sayF X a w) := hI
    have s1' : St X m' (sayF X a w).1 := s1
    have cl : m'.1 7 w = nI (lenW a w) := ((s1'.1.len w (by omega)).trans (hI'.1.lenW (w := w) (by omega)).1).trans (by rw [hl])
    refine vX11_say_22 G d (nI w) _ (nI (lenW a w)) u m' K ⟨in_nI (by omega) (by omega), fun _ => hK m' s1 f1, fun q => absurd ?_ q⟩
    rw [tn_nI (by omega), cl]
    exact Int32.le_refl _
theorem qP_say (G : GP) (d : Nat) (X : Nat → Nat → Int32) (w : Nat) (m : Mem) (a : Nat → Int32) (K : Int32 → Mem → Prop) (h : Mo X m a) (hw : w < tn (a 1)) (hs : tn (a 14) + lenW a w ≤ 24) (hK : ∀ m' : Mem, Mo X m' (sayF X a w).1 → FrM m.1 m'.1 → K (nI (sayF X a w).2) m') : Evi G (d + 6) mX12_speakNow [.ref (ga G 273), .int (nI w)] m K := by
  have hW := h.2.1
  have h10 := hW.nw10
  have hl4 := (hW.lenW hw).2.2
  have ix : (34 : Int32) + 9 * nI w + 2 = nI (36 + 9 * w) := by
    simp only [lit, pk_mul, nI_add]
    exact congrArg nI (by omega)
  have iy : ∀ k : Nat, (34 : Int32) + 9 * nI w + (3 + nI k) = nI (37 + 9 * w + k) := fun k => by
    simp only [lit, pk_mul, nI_add]
    exact congrArg nI (by omega)
  refine vX12_speakNow G d (nI w) m K ?_
  refine loopI (P := fun i (s : (Nat → Int32) × Nat) => ∀ (m' : Mem), Mo X m' s.1 → FrM m.1 m'.1 → Gw G (d + 6) mX12_speakNow 4 [.ref (ga G 273), .int (nI w), .int (nI s.2), .int (nI i)] [] m' (Qi K)) (SayI a) (sayS X w) (lenW a w) ?_ (lenW a w) 0 (a, 0) (by omega) ⟨hW, fun _ _ _ => rfl, rfl, Nat.le_refl _⟩ (fun hI m' s1 f1 => ?_) m h (FrM.rf _)
  · intro i s hi hI
    obtain ⟨c1, c2, c3, c4⟩ := sayI_s (X := X) hW hw hs i s hi hI
    have e1 : tn (s.1 1) = tn (a 1) := by rw [hI.2.1 1 (by omega) (by omega)]
    have hl := say_len hI.2.1 (w := w) (by omega)
    refine ⟨c4, fun hP m' s1 f1 => ?_⟩
    have cl : m'.1 274 (36 + 9 * w) = nI (lenW a w) := by rw [s1.1, ← hl]; exact (hI.1.lenW (w := w) (by omega)).1
    refine vX12_speakNow_4 G d (nI w) (nI s.2) (nI i) m' K ?_
    rw [ix, iy, tn_nI (by omega), tn_nI (by omega), cl, s1.1, c2]
    refine ⟨in_nI (by omega) (by omega), fun q => ?_, fun _ => ⟨in_nI (by omega) (by omega), ?_⟩⟩
    · rw [le_nI (by omega) (by omega)] at q
      omega
    · refine qP_ringNow G d X (strW s.1 w i) m' s.1 _ s1 c1 c3 (fun m2 s2 f2 => ?_)
      rintro _ rfl _ rfl
      rw [b2_add, nI_1]
      exact hP m2 s2 (f1.tr f2)
  · have e1 : tn ((sayF X a w).1 1) = tn (a 1) := by rw [show (sayF X a w).1 1 = a 1 from hI.2.1 1 (by omega) (by omega)]
    have hl : lenW (sayF X a w).1 w = lenW a w := say_len hI.2.1 (by omega)
    have hI' : SayI a (lenW a w) (sayF X a w) := hI
    have s1' : Mo X m' (sayF X a w).1 := s1
    have cl : m'.1 274 (36 + 9 * w) = nI (lenW a w) := by rw [s1'.1, ← hl]; exact (hI'.1.lenW (w := w) (by omega)).1
    refine vX12_speakNow_4 G d (nI w) _ (nI (lenW a w)) m' K ?_
    rw [ix, tn_nI (by omega), cl]
    exact ⟨in_nI (by omega) (by omega), fun _ => hK m' s1 f1, fun q => absurd (Int32.le_refl _) q⟩
def okW (a : Nat → Int32) (w : Nat) : Prop := needV a w ≤ tn (a 11) ∧ tn (a 14) + lenW a w ≤ 24
theorem kC_canW (G : GP) (d : Nat) (w : Nat) (m : Mem) (a : Nat → Int32) (K : Int32 → Mem → Prop) (r : RC m.1 0 a) (h : WF a) (hw : w < tn (a 1)) (hy : okW a w → K 1 m) (hn : ¬ okW a w → K 0 m) : Evi G (d + 2) mX10_canSay [.ref (ga G 1), .int (nI w)] m K := by
  have h10 := h.nw10
  obtain ⟨l1, l2, l3⟩ := h.lenW hw
  obtain ⟨d1, d2, d3⟩ := h.hd.is (by omega)
  have e0 : m.1 2 4 = nI (tn (a 1)) := r.nw.trans h.nwE
  have e7 : m.1 7 w = nI (lenW a w) := (show m.1 7 w = _ from r.len w hw).trans l1
  have e4 : m.1 1 4 = nI (tn (a 11)) := (show m.1 1 4 = _ from r.hd).trans d1
  have n14 := h.now.nr.is (by omega)
  have e12 : m.1 12 4 = nI (tn (a 14)) := (show m.1 12 4 = a 14 from r.now.nr).trans n14.1
  have b14 : tn (a 14) ≤ 24 := n14.2.2
  refine vX10_canSay G d (nI w) m K ⟨fun _ => ?_, fun q => absurd (by rw [e0]; exact (one_nI (by omega)).mpr ⟨w, hw, rfl⟩) q⟩
  refine kC_menFor G d w m a _ r h hw (fun h9 => ?_)
  rw [tn_nI (by omega), e7, e4, e12, lt_nI (by omega) (by omega), nI_add, show (24 : Int32) = nI 24 from rfl, lt_nI (by omega) (by omega)]
  unfold okW at hy hn
  exact ⟨fun q => hn (fun z => by omega), fun q => ⟨in_nI (by omega) (by omega), fun q2 => hn (fun z => by omega), fun q2 => hy ⟨by omega, by omega⟩⟩⟩
theorem qX12_canW (G : GP) (d : Nat) (w : Nat) (m : Mem) (K : Int32 → Mem → Prop) (h : WF (m.1 274)) (hw : w < tn (m.1 274 1)) (hy : okW (m.1 274) w → K 1 m) (hn : ¬ okW (m.1 274) w → K 0 m) : Evi G (d + 3) mX12_canSpeak [.ref (ga G 273), .int (nI w)] m K := by
  have h10 := h.nw10
  obtain ⟨l1, l2, l3⟩ := h.lenW hw
  obtain ⟨d1, d2, d3⟩ := h.hd.is (by omega)
  have n14 := h.now.nr.is (by omega)
  have e12 : m.1 274 14 = nI (tn (m.1 274 14)) := n14.1
  have b14 : tn (m.1 274 14) ≤ 24 := n14.2.2
  have ix : (34 : Int32) + 9 * nI w + 2 = nI (36 + 9 * w) := by
    simp only [lit, pk_mul, nI_add]
    exact congrArg nI (by omega)
  refine vX12_canSpeak G d (nI w) m K ?_
  refine qX12_needed G d w m _ h hw (fun h9 => ?_)
  rw [ix, tn_nI (by omega), l1, e12, d1, lt_nI (by omega) (by omega), nI_add, show (24 : Int32) = nI 24 from rfl, lt_nI (by omega) (by omega)]
  unfold okW at hy hn
  exact ⟨fun q => hn (fun z => by omega), fun q => ⟨in_nI (by omega) (by omega), fun q2 => hn (fun z => by omega), fun q2 => hy ⟨by omega, by omega⟩⟩⟩
noncomputable def spF (X : Nat → Nat → Int32) (a : Nat → Int32) (w : Nat) : (Nat → Int32) × Int32 := ((sayF X (keepF a) w).1, nI (sayF X (keepF a) w).2)
def SpkR (X : Nat → Nat → Int32) (a : Nat → Int32) (x : Int32) (z : (Nat → Int32) × Int32) : Prop := (∃ b, b < tn (a 1) ∧ x = nI b ∧ okW a b ∧ z = spF X a b) ∨ ((¬ ∃ b, b < tn (a 1) ∧ x = nI b ∧ okW a b) ∧ z = (a, -1))
theorem SpkR.fn {X : Nat → Nat → Int32} {a : Nat → Int32} (h : WF a) {x : Int32} {z z' : (Nat → Int32) × Int32} (p : SpkR X a x z) (q : SpkR X a x z') : z = z' := by
  have h6 := h.nw10
  rcases p with ⟨b, b1, b2, b3, b4⟩ | ⟨p1, p2⟩ <;> rcases q with ⟨c, c1, c2, c3, c4⟩ | ⟨q1, q2⟩
  · have : b = c := (eq_nI (by omega) (by omega)).mp (b2.symm.trans c2)
    subst this
    rw [b4, c4]
  · exact absurd ⟨b, b1, b2, b3⟩ q1
  · exact absurd ⟨c, c1, c2, c3⟩ p1
  · rw [p2, q2]
theorem okW_keep {a : Nat → Int32} (h : WF a) {w : Nat} (hw : w < tn (a 1)) (ho : okW a w) : w < tn (keepF a 1) ∧ tn (keepF a 14) + lenW (keepF a) w ≤ 24 := by
  have h6 := h.nw10
  unfold lenW
  rw [keep_i h (by omega) (by omega), keep_i h (by omega) (by omega), keep_i h (by omega) (by omega)]
  exact ⟨hw, ho.2⟩
theorem SpkR.ok {X : Nat → Nat → Int32} {a : Nat → Int32} (h : WF a) {x : Int32} {z : (Nat → Int32) × Int32} (p : SpkR X a x z) : WF z.1 ∧ GrS a z.1 ∧ z.1 13 = a 13 := by
  rcases p with ⟨b, b1, b2, b3, rfl⟩ | ⟨p1, rfl⟩
  · obtain ⟨k1, k2⟩ := okW_keep h b1 b3
    have hI := say_fin (X := X) h.keep k1 k2
    refine ⟨hI.1, (keep_gr h).tr hI.gr, ?_⟩
    show (sayF X (keepF a) b).1 13 = _
    rw [hI.2.1 13 (by omega) (by omega), keep_i h (by omega) (by omega)]
  · exact ⟨h, GrS.rf a, rfl⟩
theorem kP_speak (G : GP) (d : Nat) (X : Nat → Nat → Int32) (x : Int32) (m : Mem) (a : Nat → Int32) (K : Int32 → Mem → Prop) (h : St X m a) (hK : ∀ (m' : Mem) (z : (Nat → Int32) × Int32), SpkR X a x z → St X m' z.1 → FrP m.1 m'.1 → K z.2 m') : Evi G (d + 5) mX11_speak [.ref (ga G 0), .int x] m K := by
  have h6 := h.2.1.nw10
  refine vX11_speak G d x m K ?_
  have e0 : m.1 2 4 = nI (tn (a 1)) := h.1.nw.trans h.2.1.nwE
  by_cases hx : ∃ b, b < tn (a 1) ∧ x = nI b
  · obtain ⟨b, hb, rfl⟩ := hx
    refine kC_canW G (d + 2) b m a _ h.1 h.2.1 hb (fun ho => ⟨fun _ => ?_, fun q => absurd q (by decide)⟩) (fun ho => ⟨fun q => absurd rfl q, fun _ => ?_⟩)
    · obtain ⟨k1, k2⟩ := okW_keep h.2.1 hb ho
      refine kP_keep G (d + 1) X m a _ h (fun m1 s1 f1 => ?_)
      refine kP_say G d X b m1 (keepF a) _ s1 k1 k2 (fun m2 s2 f2 => ?_)
      exact hK m2 (spF X a b) (Or.inl ⟨b, hb, rfl, ho, rfl⟩) s2 (f1.tr f2)
    · refine hK m (a, -1) (Or.inr ⟨?_, rfl⟩) h (FrP.rf _)
      rintro ⟨c, c1, c2, c3⟩
      have : b = c := (eq_nI (by omega) (by omega)).mp c2
      subst this
      exact ho c3
  · refine vX10_canSay G (d + 2) x m _ ⟨fun q => absurd ?_ hx, fun _ => ⟨fun q => absurd rfl q, fun _ => ?_⟩⟩
    · rw [e0] at q
      exact (one_nI (by omega)).mp q
    · exact hK m (a, -1) (Or.inr ⟨fun ⟨c, c1, c2, c3⟩ => hx ⟨c, c1, c2⟩, rfl⟩) h (FrP.rf _)
theorem qP_speak (G : GP) (d : Nat) (X : Nat → Nat → Int32) (x : Int32) (m : Mem) (a : Nat → Int32) (K : Int32 → Mem → Prop) (h : Mo X m a) (hK : ∀ (m' : Mem) (z : (Nat → Int32) × Int32), SpkR X a x z → Mo X m' z.1 → FrM m.1 m'.1 → K z.2 m') : Evi G (d + 7) mX12_speak [.ref (ga G 273), .int x] m K := by
  obtain ⟨e, hW, h2, h3⟩ := id h
  subst e
  have h6 := hW.nw10
  refine vX12_speak G d x m K ?_
  rw [hW.nwE, oneM_nI (by omega)]
  refine ⟨?_, fun q => hK m (m.1 274, -1) (Or.inr ⟨fun ⟨c, c1, c2, c3⟩ => q ⟨c, c1, c2⟩, rfl⟩) h (FrM.rf _)⟩
  rintro ⟨b, hb, rfl⟩
  refine qX12_canW G (d + 3) b m _ hW hb (fun ho => ⟨fun _ => ?_, fun q => absurd q (by decide)⟩) (fun ho => ⟨fun q => absurd rfl q, fun _ => ?_⟩)
  · obtain ⟨k1, k2⟩ := okW_keep hW hb ho
    refine qP_keep G (d + 6) X m (m.1 274) _ h (fun m1 s1 f1 => ?_)
    refine qP_say G d X b m1 _ _ s1 k1 k2 (fun m2 s2 f2 => ?_)
    exact hK m2 (spF X (m.1 274) b) (Or.inl ⟨b, hb, rfl, ho, rfl⟩) s2 (f1.tr f2)
  · refine hK m (m.1 274, -1) (Or.inr ⟨?_, rfl⟩) h (FrM.rf _)
    rintro ⟨c, c1, c2, c3⟩
    have : b = c := (eq_nI (by omega) (by omega)).mp c2
    subst this
    exact ho c3
theorem case_speak (G : GP) (d : Nat) {n : Nat} (a0 : Int32) (m : Mem) (h : Inv TXc n m.1) : Evi G (d + 5) mX11_speak [.ref (ga G 0), .int a0] m (Same G TXc n (d + 7) mX12_speak [.int a0]) := by
  refine kP_speak G d m.1 a0 m (m.1 274) _ h.st (fun m1 z hz s1 f1 => ?_)
  refine qP_speak G d m.1 a0 m1 (m.1 274) _ (h.mo f1) (fun m2 z' hz' s2 f2 => ?_)
  have := hz.fn h.1 hz'
  subst this
  obtain ⟨o1, o2, o3⟩ := hz.ok h.1
  refine ⟨rfl, h.fin s1 f1 s2 f2 o2.2.1 ?_⟩
  rw [o3]
  have := h.2.2.2.2.2.2.2.1
  omega
/-! what would get over -/
theorem case_ofBell (G : GP) (d : Nat) {n : Nat} (a0 a1 : Int32) (m : Mem) (h : Inv TXc n m.1) : Evi G (d + 4) mX11_ofBell [.ref (ga G 0), .int a0, .int a1] m (Same G TXc n (d + 5) mX12_ofBell [.int a0, .int a1]) := by
  have hR := h.2.2.1
  have hW := h.1
  have h6 := hW.nb6
  have e0 : m.1 2 0 = nI (tn (m.1 274 0)) := hR.nb.trans hW.nbE
  have w8 := hW.now.wind.is (by omega)
  have c8 : m.1 274 8 = nI (tn (m.1 274 8)) := w8.1
  have n14 := hW.now.nr.is (by omega)
  have c14 : m.1 274 14 = nI (tn (m.1 274 14)) := n14.1
  have b14 : tn (m.1 274 14) ≤ 24 := n14.2.2
  have e4 : m.1 12 4 = nI (tn (m.1 274 14)) := (show m.1 12 4 = m.1 274 14 from hR.now.nr).trans c14
  have e12 : m.1 12 0 = nI (tn (m.1 274 8)) := (show m.1 12 0 = m.1 274 8 from hR.now.wind).trans c8
  refine vX11_ofBell G d a0 a1 m _ ?_
  rw [e0, one_nI (by omega)]
  refine ⟨?_, fun q => ?_⟩
  · rintro ⟨b, hb, rfl⟩
    have low : ∀ k : Nat, k < 3 → ∀ r : Int32, r = m.1 274 (16 + 3 * b + k) → Same G TXc n (d + 5) mX12_ofBell [.int (nI b), .int (nI k)] r m := by
      intro k hk r hr
      have ei : (16 : Int32) + (3 * nI b) + nI k = nI (16 + 3 * b + k) := by simp only [lit, pk_mul, nI_add]
      refine vX12_ofBell G d (nI b) (nI k) m _ ?_
      rw [hW.nbE, oneM_nI (by omega), ei, tn_nI (by omega)]
      refine ⟨fun _ => ⟨fun _ => ⟨fun q => ?_, fun _ => ⟨in_nI (by omega) (by omega), hr, h.idle⟩⟩, fun q => absurd ((oneC_nI (n := 3) (by omega)).mpr ⟨k, by omega, rfl⟩) q⟩, fun q => absurd ⟨b, hb, rfl⟩ q⟩
      exfalso
      have q := (le_nI (a := 3) (by omega) (by omega)).mp q
      omega
    rw [tn_nI (by omega)]
    refine ⟨?_, ?_, ?_, ?_, fun q => ?_⟩
    · rintro rfl
      exact ⟨in_nI (by omega) (by omega), low 0 (by omega) _ (hR.loud b hb)⟩
    · rintro rfl
      refine ⟨in_nI (by omega) (by omega), low 1 (by omega) _ ?_⟩
      rw [show 16 + 3 * b + 1 = 17 + 3 * b by omega]
      exact hR.pitch b hb
    · rintro rfl
      refine ⟨in_nI (by omega) (by omega), low 2 (by omega) _ ?_⟩
      rw [show 16 + 3 * b + 2 = 18 + 3 * b by omega]
      exact hR.men b hb
    · rintro rfl
      rw [e4, e12]
      refine kC_over G d b (tn (m.1 274 8)) (tn (m.1 274 14)) m (m.1 274) _ m.1 hR hW hb w8.2.2 (by omega) h.tt (fun _ _ _ => rfl) (fun m1 f1 => ?_)
      have g4 : m1.1 274 = m.1 274 := f1 274 (by omega) (by omega)
      have fin : ∀ r : Int32, r = b2 (ovr m.1 (m.1 274) b (tn (m.1 274 8)) (tn (m.1 274 14))) → Same G TXc n (d + 5) mX12_ofBell [.int (nI b), .int 3] r m1 := by
        intro r hr
        refine vX12_ofBell G d (nI b) 3 m1 _ ?_
        rw [g4, hW.nbE, oneM_nI (by omega)]
        refine ⟨fun _ => ⟨fun _ => ⟨fun _ => ?_, fun q => absurd (by decide) q⟩, fun q => absurd (by decide) q⟩, fun q => absurd ⟨b, hb, rfl⟩ q⟩
        rw [c8, c14]
        refine qX12_over G d b (tn (m.1 274 8)) (tn (m.1 274 14)) m1 _ m.1 (by rw [g4]; exact hW) (by rw [g4]; exact hb) w8.2.2 (by omega) (by rw [g4]; exact h.tt) (f1 276 (by omega) (by omega)) (fun m2 f2 => ?_)
        rw [g4]
        have hI : Inv TXc (n + 1) m2.1 := h.idle.scr TXc_ok (fun c hc => by
          rw [f2 c (fun e => hc (by unfold Scr; omega)) (fun e => hc (by unfold Scr; omega)), f1 c (fun e => hc (by unfold Scr; omega)) (fun e => hc (by unfold Scr; omega))])
        rw [hr]
        cases ovr m.1 (m.1 274) b (tn (m.1 274 8)) (tn (m.1 274 14))
        · exact ⟨fun _ => ⟨rfl, hI⟩, fun q => absurd rfl q⟩
        · exact ⟨fun q => absurd q (by decide), fun _ => ⟨rfl, hI⟩⟩
      refine ⟨fun q => fin 0 ?_, fun q => fin 1 ?_⟩
      · exact q.symm
      · cases e : ovr m.1 (m.1 274) b (tn (m.1 274 8)) (tn (m.1 274 14))
        · rw [e] at q; exact absurd rfl q
        · rfl
    · obtain ⟨q0, q1, q2, q3⟩ := q
      refine vX12_ofBell G d (nI b) a1 m _ ?_
      rw [hW.nbE, oneM_nI (by omega)]
      refine ⟨fun _ => ⟨fun z => ?_, fun _ => ⟨rfl, h.idle⟩⟩, fun z => absurd ⟨b, hb, rfl⟩ z⟩
      exfalso
      obtain ⟨k, hk, rfl⟩ := (oneC_nI (n := 3) (by omega)).mp z
      have : k = 0 ∨ k = 1 ∨ k = 2 ∨ k = 3 := by omega
      rcases this with rfl | rfl | rfl | rfl
      · exact q0 rfl
      · exact q1 rfl
      · exact q2 rfl
      · exact q3 rfl
  · refine vX12_ofBell G d a0 a1 m _ ?_
    rw [hW.nbE, oneM_nI (by omega)]
    exact ⟨fun z => absurd z q, fun _ => ⟨rfl, h.idle⟩⟩
