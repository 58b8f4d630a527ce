/-- the class looks for the lowest word -/
theorem kC_lowest (G : GP) (d : Nat) (X : Nat → Nat → Int32) (se asks : Bool) (fr la k : Nat) (m : Mem) (a : Nat → Int32) (K : Int32 → Mem → Prop) (R : Nat → Nat) (r : RC m.1 0 a) (h : WF a) (hL : Laid X m a R) (hT : ∀ t, t < tn (a 2) → TT X t) (hX : ∀ q, 238 ≤ q → q ≤ 261 → m.1 q = X q) (hd : FDa X a (m.1 265)) (hf : fr < hN a) (hk : k ≤ fr) (hla : okL a la k) (hy : asks = true → se = true ∧ (R fr).testBit k = true ∧ SW X m a R 0) (hn : asks = false → ∀ la w p, sen X a se la w p = true)
    (hex : ∃ w, LowR (rdC X a se fr la k) (tn (a 1)) w) (hK : ∀ (m' : Mem) (w : Nat), LowR (rdC X a se fr la k) (tn (a 1)) w → (∀ q, q ≠ 263 → q ≠ 264 → q ≠ 265 → m'.1 q = m.1 q) → FDa X a (m'.1 265) → K (nI w) m') : Evi G (d + 4) mX0_lowestAt [.ref (ga G 266), .int (b2 asks), .int (nI fr), .int (nI k), .int (laI (laO la))] m K := by
  have h10 := h.nw10
  have hnn := hN_le h
  obtain ⟨w0, x1, x2, x3⟩ := hex
  refine vX0_lowestAt G d (b2 asks) (nI fr) (nI k) (laI (laO la)) m K ?_
  have key : ∀ N w, w + N = w0 → ∀ (m' : Mem) (u6 u7 : Value), (∀ q, q ≠ 263 → q ≠ 264 → q ≠ 265 → m'.1 q = m.1 q) → FDa X a (m'.1 265) → Gw G (d + 4) mX0_lowestAt 3 [.ref (ga G 266), .int (b2 asks), .int (nI fr), .int (nI k), .int (laI (laO la)), .int (nI w), u6, u7] [] m' (Qi K) := by
    intro N
    induction N with
    | zero =>
      intro w hw m' u6 u7 f1 d1
      have : w = w0 := by omega
      subst this
      obtain ⟨y1, y2, y3⟩ := rd_ok x2
      have r1 : RC m'.1 0 a := r.fr (fun c h1 h2 _ _ => f1 c (by omega) (by omega) (by omega))
      have e4 : m'.1 2 4 = nI (tn (a 1)) := r1.nw.trans h.nwE
      obtain ⟨l1, l2, l3⟩ := h.lenW x1
      have e7 : m'.1 7 w = nI (lenW a w) := (show m'.1 7 w = _ from r1.len w x1).trans l1
      have hfb := fit_bit (v := w) (hL.1 fr (by omega)) x1 h10
      have hle := herB_le y1
      have v0 := VV_le X a false h _ 0 0 hle
      have v1 := VV_le X a true h _ w (k + 1) hle
      have any : VV X a false (fr + lenW a w) 0 0 ≠ 0 := fun z => y3 (VV_zero h se (hN a - (fr + lenW a w)) _ _ _ 0 0 (by omega) z)
      refine vX0_lowestAt_3 G d (b2 asks) (nI fr) (nI k) (laI (laO la)) (nI w) u6 u7 m' K ?_
      rw [e4, tn_nI (by omega), tn_nI (by omega), e7, nI_add, f1 268 (by omega) (by omega) (by omega), hfb]
      refine ⟨fun q => ?_, fun _ => ⟨in_nI (by omega) (by omega), ?_⟩⟩
      · exfalso
        rw [le_nI (by omega) (by omega)] at q
        omega
      rintro _ rfl
      refine ⟨in_nI (by omega) (by omega), fun _ => ?_, fun q => absurd y1 q⟩
      rw [tn_nI (by omega), f1 270 (by omega) (by omega) (by omega), hL.2.1 _ hle, cell_nI, tn_nI (by omega), f1 271 (by omega) (by omega) (by omega)]
      refine ⟨in_nI (by omega) (by omega), fun q => ?_, fun _ => ?_⟩
      · exfalso
        have q := (le_nI (b := 0) (by omega) (by omega)).mp q
        omega
      cases ha : asks
      · exact ⟨fun _ => hK m' w ⟨x1, x2, x3⟩ f1 d1, fun q => absurd rfl q⟩
      · obtain ⟨b1, b3, b4⟩ := hy ha
        subst b1
        refine ⟨fun q => absurd q (by decide), fun _ => ⟨in_nI (by omega) (by omega), ?_⟩⟩
        rw [b4 fr k w x1 y1 b3 (by omega) any]
        refine ⟨fun q => ?_, fun _ => ?_⟩
        · exfalso
          have q := (le_nI (b := 0) (by omega) (by omega)).mp q
          omega
        · refine kC_may G d w k (laO la) m' a _ X r1 h x1 ?_ hT (fun q h1 h2 => by rw [f1 q (by omega) (by omega) (by omega)]; exact hX q h1 h2) d1 (fun m2 f2 d2 => ?_)
          · rcases hla with ⟨z1, z2⟩ | ⟨z1, z2⟩
            · exact Or.inl ⟨by unfold laO; rw [if_pos z1], z2⟩
            · exact Or.inr ⟨la, by unfold laO; rw [if_neg (by omega)], z1, by omega, by omega⟩
          · rw [← sen_may, y2]
            exact ⟨fun q => absurd q (by decide), fun _ => hK m2 w ⟨x1, x2, x3⟩ (fun q h1 h2 h3 => (f2 q h1 h2 h3).trans (f1 q h1 h2 h3)) d2⟩
    | succ N ih =>
      intro w hw m' u6 u7 f1 d1
      have hwn : w < tn (a 1) := by omega
      have hno := x3 w (by omega)
      have r1 : RC m'.1 0 a := r.fr (fun c h1 h2 _ _ => f1 c (by omega) (by omega) (by omega))
      have e4 : m'.1 2 4 = nI (tn (a 1)) := r1.nw.trans h.nwE
      obtain ⟨l1, l2, l3⟩ := h.lenW hwn
      have e7 : m'.1 7 w = nI (lenW a w) := (show m'.1 7 w = _ from r1.len w hwn).trans l1
      have hfb := fit_bit (v := w) (hL.1 fr (by omega)) hwn h10
      have nx : ∀ (m2 : Mem) (u6 u7 : Value), (∀ q, q ≠ 263 → q ≠ 264 → q ≠ 265 → m2.1 q = m.1 q) → FDa X a (m2.1 265) → ∀ x : Int32, x = nI w + 1 → Gw G (d + 4) mX0_lowestAt 3 [.ref (ga G 266), .int (b2 asks), .int (nI fr), .int (nI k), .int (laI (laO la)), .int x, u6, u7] [] m2 (Qi K) := by
        rintro m2 u6 u7 f2 d2 _ rfl
        rw [nI_1]
        exact ih (w + 1) (by omega) m2 u6 u7 f2 d2
      refine vX0_lowestAt_3 G d (b2 asks) (nI fr) (nI k) (laI (laO la)) (nI w) u6 u7 m' K ?_
      rw [e4, tn_nI (by omega), tn_nI (by omega), e7, nI_add, f1 268 (by omega) (by omega) (by omega), hfb]
      refine ⟨fun q => ?_, fun _ => ⟨in_nI (by omega) (by omega), ?_⟩⟩
      · exfalso
        rw [le_nI (by omega) (by omega)] at q
        omega
      rintro _ rfl
      refine ⟨in_nI (by omega) (by omega), fun y1 => ?_, fun q => nx m' _ _ f1 d1⟩
      have hle := herB_le y1
      have v0 := VV_le X a false h _ 0 0 hle
      have v1 := VV_le X a true h _ w (k + 1) hle
      rw [tn_nI (by omega), f1 270 (by omega) (by omega) (by omega), hL.2.1 _ hle, cell_nI, tn_nI (by omega), f1 271 (by omega) (by omega) (by omega)]
      refine ⟨in_nI (by omega) (by omega), fun q => nx m' _ _ f1 d1, fun q => ?_⟩
      have any : VV X a false (fr + lenW a w) 0 0 ≠ 0 := fun z => q (by rw [z]; decide)
      cases ha : asks
      · exfalso
        have hs := hn ha
        have e5 : VV X a se (fr + lenW a w) w (k + 1) ≠ 0 := by
          rw [VV_any (s := fun _ _ _ => true) h se hs (hN a - (fr + lenW a w)) _ w 0 (k + 1) 0 (by omega)]
          exact any
        unfold rdC at hno
        rw [y1, hs, decide_eq_true e5] at hno
        cases hno
      · obtain ⟨b1, b3, b4⟩ := hy ha
        subst b1
        rw [ha] at nx
        refine ⟨fun q => absurd q (by decide), fun _ => ⟨in_nI (by omega) (by omega), ?_⟩⟩
        rw [b4 fr k w hwn y1 b3 (by omega) any]
        refine ⟨fun q2 => nx m' _ _ f1 d1, fun q2 => ?_⟩
        have e5 : VV X a true (fr + lenW a w) w (k + 1) ≠ 0 := fun z => q2 (by rw [z]; decide)
        refine kC_may G d w k (laO la) m' a _ X r1 h hwn ?_ hT (fun q h1 h2 => by rw [f1 q (by omega) (by omega) (by omega)]; exact hX q h1 h2) d1 (fun m2 f2 d2 => ?_)
        · rcases hla with ⟨z1, z2⟩ | ⟨z1, z2⟩
          · exact Or.inl ⟨by unfold laO; rw [if_pos z1], z2⟩
          · exact Or.inr ⟨la, by unfold laO; rw [if_neg (by omega)], z1, by omega, by omega⟩
        · unfold rdC at hno
          rw [y1, decide_eq_true e5, Bool.and_true, Bool.true_and, sen_may] at hno
          rw [hno]
          exact ⟨fun _ => nx m2 _ _ (fun q h1 h2 h3 => (f2 q h1 h2 h3).trans (f1 q h1 h2 h3)) d2, fun z => absurd rfl z⟩
  exact key w0 0 (by omega) m uu uu (fun _ _ _ _ => rfl) hd
theorem laO_w {a : Nat → Int32} (h : WF a) {w : Nat} (hw : w < tn (a 1)) : laI (laO w) = nI w := by
  have h10 := h.nw10
  unfold laO
  rw [if_neg (by omega)]
  rfl
/-- the class reads on -/
theorem kC_first (G : GP) (d : Nat) (X : Nat → Nat → Int32) (se asks : Bool) (i : Int32) (a : Nat → Int32) (K : Int32 → Mem → Prop) (R : Nat → Nat) (m : Mem) (r : RC m.1 0 a) (h : WF a) (hE : EarH m a) (hL : Laid X m a R) (hT : ∀ t, t < tn (a 2) → TT X t) (hX : ∀ q, 238 ≤ q → q ≤ 261 → m.1 q = X q) (hy : asks = true → se = true ∧ SW X m a R 0) (hn : asks = false → ∀ la w p, sen X a se la w p = true) :
    ∀ (f fr la k : Nat) (m' : Mem) (u1 : Value), hN a < fr + f → fr ≤ hN a → k ≤ fr → okL a la k → VV X a se fr la k ≠ 0 → (R fr).testBit k = true → (∀ q, q ≠ 263 → q ≠ 264 → q ≠ 265 → m'.1 q = m.1 q) → FDa X a (m'.1 265) → (∀ (m2 : Mem) (z : Int32), ResR X a se i f fr la k z → (∀ q, q ≠ 263 → q ≠ 264 → q ≠ 265 → m2.1 q = m.1 q) → FDa X a (m2.1 265) → K z m2) → Gw G (d + 6) mX0_firstReading 45 [.ref (ga G 266), u1, .int i, .int (b2 asks), .int (nI fr), .int (laI (laO la)), .int (nI k)] [] m' (Qi K)
  | 0, fr, la, k, m', u1, h1, h2, _, _, _, _, _, _, _ => by omega
  | f + 1, fr, la, k, m', u1, h1, h2, h3, h4, h5, h6, f1, d1, hK => by
    have h10 := h.nw10
    have hnn := hN_le h
    have e2 : m'.1 266 2 = nI (hN a) := by rw [f1 266 (by omega) (by omega) (by omega)]; exact hE.1
    have r1 : RC m'.1 0 a := r.fr (fun c h1 h2 _ _ => f1 c (by omega) (by omega) (by omega))
    have end_ : fr = hN a → ((¬ i = -1) → K (-2) m') ∧ ((i = -1) → K (nI k) m') := fun e => ⟨fun q => hK m' (-2) (Or.inl ⟨e, Or.inr ⟨q, rfl⟩⟩) f1 d1, fun q => hK m' (nI k) (Or.inl ⟨e, Or.inl ⟨q, rfl⟩⟩) f1 d1⟩
    refine vX0_firstReading_45 G d u1 i (b2 asks) (nI fr) (laI (laO la)) (nI k) m' K ?_
    rw [e2, show (24 : Int32) = nI 24 from rfl, le_nI (by omega) (by omega), le_nI (by omega) (by omega)]
    refine ⟨fun q => end_ (by omega), fun _ => ⟨fun q => end_ (by omega), fun q => ?_⟩⟩
    refine kC_lowest G (d + 1) X se asks fr la k m' a _ R r1 h (hL.fr (f1 268 (by omega) (by omega) (by omega)) (f1 269 (by omega) (by omega) (by omega)) (f1 270 (by omega) (by omega) (by omega))) hT (fun q h1 h2 => by rw [f1 q (by omega) (by omega) (by omega)]; exact hX q h1 h2) d1 (by omega) h3 h4 (fun z => ⟨(hy z).1, h6, fun fr k w hw hb hk hlt hz => by rw [f1 271 (by omega) (by omega) (by omega)]; exact (hy z).2 fr k w hw hb hk hlt hz⟩) hn (rd_ex h (by omega) h5) (fun m2 w hw f2 d2 => ?_)
    have f3 : ∀ q, q ≠ 263 → q ≠ 264 → q ≠ 265 → m2.1 q = m.1 q := fun q h1 h2 h3 => (f2 q h1 h2 h3).trans (f1 q h1 h2 h3)
    obtain ⟨x1, x2, x3⟩ := id hw
    obtain ⟨y1, y2, y3⟩ := rd_ok x2
    obtain ⟨l1, l2, l3⟩ := h.lenW x1
    have hle := herB_le y1
    have r2 : RC m2.1 0 a := r.fr (fun c h1 h2 _ _ => f3 c (by omega) (by omega) (by omega))
    have e7 : m2.1 7 w = nI (lenW a w) := (show m2.1 7 w = _ from r2.len w x1).trans l1
    refine ⟨fun _ => ⟨fun q2 => ⟨in_nI (by omega) (by omega), ?_⟩, fun q2 => ?_⟩, fun q2 => absurd q2 (m1_ne w (by omega))⟩
    · rw [tn_nI (by omega), e7, nI_add, nI_1]
      rintro _ rfl _ rfl
      rw [← laO_w h x1]
      refine kC_first G d X se asks i a K R m r h hE hL hT hX hy hn f (fr + lenW a w) w (k + 1) m2 _ (by omega) hle (by omega) (Or.inr ⟨x1, by omega⟩) y3 (hL.2.2.2 fr (by omega) w k x1 y1 h6) f3 d2 (fun m3 z hz => hK m3 z (Or.inr ⟨by omega, w, hw, Or.inr ⟨q2, hz⟩⟩))
    · exact hK m2 (nI w) (Or.inr ⟨by omega, w, hw, Or.inl ⟨q2, rfl⟩⟩) f3 d2
/-- the model reads on -/
theorem qX12_first (G : GP) (d : Nat) (X : Nat → Nat → Int32) (se : Bool) (i : Int32) (a : Nat → Int32) (K : Int32 → Mem → Prop) (m : Mem) (e : m.1 274 = a) (h : WF a) (hW : WayT X m a se 0) (hS : SenT X m a se (hN a)) (hH : ∀ k, k < hN a → m.1 283 k = hR a k) :
    ∀ (f fr la k : Nat) (u1 u7 : Value), hN a < fr + f → fr ≤ hN a → k ≤ fr → okL a la k → VV X a se fr la k ≠ 0 → (∀ z : Int32, ResR X a se i f fr la k z → K z m) → Gw G (d + 7) mX12_reading 39 [.ref (ga G 273), u1, .int i, .int (nI (hN a)), .int (nI fr), .int (nI la), .int (nI k), u7] [] m (Qi K)
  | 0, fr, la, k, u1, u7, h1, h2, _, _, _, _ => by omega
  | f + 1, fr, la, k, u1, u7, h1, h2, h3, h4, h5, hK => by
    have h10 := h.nw10
    have hnn := hN_le h
    refine vX12_reading_39 G d u1 i (nI (hN a)) (nI fr) (nI la) (nI k) u7 m K ?_
    rw [le_nI (by omega) (by omega)]
    refine ⟨fun q => ⟨fun q2 => hK (-2) (Or.inl ⟨by omega, Or.inr ⟨q2, rfl⟩⟩), fun q2 => hK (nI k) (Or.inl ⟨by omega, Or.inl ⟨q2, rfl⟩⟩)⟩, fun q => ?_⟩
    obtain ⟨w0, hw0⟩ := rd_ex (X := X) (se := se) h (show fr < hN a by omega) h5
    obtain ⟨x1, x2, x3⟩ := id hw0
    have key : ∀ N w, w + N = w0 → ∀ u1 : Value, Gw G (d + 7) mX12_reading 48 [.ref (ga G 273), u1, .int i, .int (nI (hN a)), .int (nI fr), .int (nI la), .int (nI k), .int (nI w)] [] m (Qi K) := by
      intro N
      induction N with
      | zero =>
        intro w hw u1
        have : w = w0 := by omega
        subst this
        obtain ⟨y1, y2, y3⟩ := rd_ok x2
        obtain ⟨l1, l2, l3⟩ := h.lenW x1
        have hle := herB_le y1
        have hv := VV_le X a se h (fr + lenW a w) w (k + 1) hle
        have ix : (34 : Int32) + 9 * nI w + 2 = nI (36 + 9 * w) := by
          simp only [lit, pk_mul, nI_add]
          exact congrArg nI (by omega)
        have e5 : m.1 284 (275 * (fr + lenW a w) + 25 * w + (k + 1)) = nI (VV X a se (fr + lenW a w) w (k + 1)) := hW _ w (k + 1) (by omega) hle (by omega) (Or.inr ⟨x1, by omega⟩)
        refine vX12_reading_48 G d u1 i (nI (hN a)) (nI fr) (nI la) (nI k) (nI w) m K ?_
        subst e
        refine qX12_here G (d + 4) w fr m _ h hH x1 (by omega) ?_
        rw [y1]
        refine ⟨fun z => absurd z (by decide), fun _ => ?_⟩
        refine qX12_sense G (d + 6) X se la w k (hN (m.1 274)) m (m.1 274) _ h hS hnn x1 (by unfold okL at h4; omega) ?_
        rw [y2]
        refine ⟨fun z => absurd z (by decide), fun _ => ?_⟩
        rw [ix, tn_nI (n := 36 + 9 * w) (by omega), l1, nI_add, nI_1, ix284, tn_nI (by omega), e5]
        refine ⟨in_nI (by omega) (by omega), in_nI (by omega) (by omega), fun _ => ⟨fun q2 => ⟨in_nI (by omega) (by omega), ?_⟩, fun q2 => ?_⟩, fun z => ?_⟩
        · rintro _ rfl _ rfl
          exact qX12_first G d X se i (m.1 274) K m rfl h hW hS hH f (fr + lenW (m.1 274) w) w (k + 1) _ _ (by omega) hle (by omega) (Or.inr ⟨x1, by omega⟩) y3 (fun z hz => hK z (Or.inr ⟨by omega, w, hw0, Or.inr ⟨q2, hz⟩⟩))
        · exact hK (nI w) (Or.inr ⟨by omega, w, hw0, Or.inl ⟨q2, rfl⟩⟩)
        · exfalso
          have z := (eq_nI (b := 0) (by omega) (by omega)).mp z
          exact y3 z
      | succ N ih =>
        intro w hw u1
        have hwn : w < tn (a 1) := by omega
        have hno := x3 w (by omega)
        have nx : ∀ (u1 : Value) (x : Int32), x = nI w + 1 → Gw G (d + 7) mX12_reading 48 [.ref (ga G 273), u1, .int i, .int (nI (hN a)), .int (nI fr), .int (nI la), .int (nI k), .int x] [] m (Qi K) := by
          rintro u1 _ rfl
          rw [nI_1]
          exact ih (w + 1) (by omega) u1
        obtain ⟨l1, l2, l3⟩ := h.lenW hwn
        have ix : (34 : Int32) + 9 * nI w + 2 = nI (36 + 9 * w) := by
          simp only [lit, pk_mul, nI_add]
          exact congrArg nI (by omega)
        refine vX12_reading_48 G d u1 i (nI (hN a)) (nI fr) (nI la) (nI k) (nI w) m K ?_
        subst e
        refine qX12_here G (d + 4) w fr m _ h hH hwn (by omega) ?_
        cases y1 : herB (m.1 274) w fr
        · exact ⟨fun _ => nx _, fun z => absurd rfl z⟩
        · refine ⟨fun z => absurd z (by decide), fun _ => ?_⟩
          have hle := herB_le y1
          have hv := VV_le X (m.1 274) se h (fr + lenW (m.1 274) w) w (k + 1) hle
          refine qX12_sense G (d + 6) X se la w k (hN (m.1 274)) m (m.1 274) _ h hS hnn hwn (by unfold okL at h4; omega) ?_
          cases y2 : sen X (m.1 274) se la w k
          · exact ⟨fun _ => nx _, fun z => absurd rfl z⟩
          · refine ⟨fun z => absurd z (by decide), fun _ => ?_⟩
            have e5 : m.1 284 (275 * (fr + lenW (m.1 274) w) + 25 * w + (k + 1)) = nI (VV X (m.1 274) se (fr + lenW (m.1 274) w) w (k + 1)) := hW _ w (k + 1) (by omega) hle (by omega) (Or.inr ⟨hwn, by omega⟩)
            rw [ix, tn_nI (n := 36 + 9 * w) (by omega), l1, nI_add, nI_1, ix284, tn_nI (by omega), e5]
            refine ⟨in_nI (by omega) (by omega), in_nI (by omega) (by omega), fun z => ?_, fun _ => nx _⟩
            exfalso
            have z2 : VV X (m.1 274) se (fr + lenW (m.1 274) w) w (k + 1) ≠ 0 := fun y => z (by rw [y]; rfl)
            unfold rdC at hno
            rw [y1, y2, decide_eq_true z2] at hno
            cases hno
    exact key w0 0 (by omega) _
theorem case_reading (G : GP) (d : Nat) {n : Nat} (a0 a1 : Int32) (m : Mem) (h : Inv TXc n m.1) : Evi G (d + 7) mX11_reading [.ref (ga G 0), .int a0, .int a1] m (Same G TXc n (d + 7) mX12_reading [.int a0, .int a1]) := by
  have hR := h.2.2.1
  have hW := h.1
  have hnn := hN_le hW
  -- the model, behind any run of the class
  have model : ∀ (r : Int32) (m1 : Mem), (∀ q, q < 263 ∨ 272 < q → m1.1 q = m.1 q) → FDa m.1 (m.1 274) (m1.1 265) → (a1 < -1 → r = -2) → (¬ a1 < -1 → VV m.1 (m.1 274) (!decide (a0 = 0)) 0 10 0 = 0 → r = -2) → (¬ a1 < -1 → VV m.1 (m.1 274) (!decide (a0 = 0)) 0 10 0 ≠ 0 → ResR m.1 (m.1 274) (!decide (a0 = 0)) a1 (hN (m.1 274) + 1) 0 10 0 r) → Same G TXc n (d + 7) mX12_reading [.int a0, .int a1] r m1 := by
    intro r m1 f1 d1 k1 k2 k3
    have g4 : m1.1 274 = m.1 274 := f1 274 (by omega)
    refine vX12_reading G d a0 a1 m1 _ ?_
    refine qX12_layWays G d m.1 a0 _ rfl m1 _ (by rw [g4]; exact hW) (by rw [g4]; exact h.tt) (f1 276 (by omega)) (fun m2 w2 s2 h2 f2 => ?_)
    rw [g4] at w2 s2 h2 ⊢
    have hI : Inv TXc (n + 1) m2.1 := h.ear f1 d1 f2
    have e : m2.1 284 250 = nI (VV m.1 (m.1 274) (!decide (a0 = 0)) 0 10 0) := w2 0 10 0 (by omega) (by omega) (by omega) (Or.inl ⟨rfl, rfl⟩)
    have hv := VV_le m.1 (m.1 274) (!decide (a0 = 0)) hW 0 10 0 (by omega)
    refine ⟨fun q => ⟨k1 q, hI⟩, fun q => ⟨vp_in_dec (by decide), fun q2 => ?_, fun q2 => ?_⟩⟩
    · have q2 : ¬ m2.1 284 250 = 0 := q2
      have h0 : VV m.1 (m.1 274) (!decide (a0 = 0)) 0 10 0 ≠ 0 := fun z => q2 (by rw [e, z]; rfl)
      refine qX12_first G d m.1 _ a1 (m.1 274) _ m2 ((f2 274 (by omega)).trans g4) hW w2 s2 h2 (hN (m.1 274) + 1) 0 10 0 _ _ (by omega) (by omega) (by omega) (Or.inl ⟨rfl, rfl⟩) h0 (fun z hz => ⟨(k3 q h0).fn hz, hI⟩)
    · have q2 : m2.1 284 250 = 0 := q2
      rw [e] at q2
      exact ⟨k2 q ((eq_nI (b := 0) (by omega) (by omega)).mp q2), hI⟩
  refine vX11_reading G d a0 a1 m _ (vX0_firstReading G d a0 a1 m _ ⟨fun q => ?_, fun q => ?_⟩)
  · exact model _ m (fun _ _ => rfl) h.fd (fun _ => rfl) (fun z => absurd q z) (fun z => absurd q z)
  · refine kC_ways G d m.1 a0 _ rfl m (m.1 274) _ hR hW h.tt (fun _ _ _ => rfl) h.fd (fun m1 R f1 d1 hE => ?_)
    obtain ⟨hE1, hL1, hS1⟩ := hE
    have hv := VV_le m.1 (m.1 274) (!decide (a0 = 0)) hW 0 10 0 (by omega)
    have r1 : RC m1.1 0 (m.1 274) := hR.fr (fun c h1 h2 _ _ => f1 c (by omega))
    have run : ∀ (asks : Bool), VV m.1 (m.1 274) (!decide (a0 = 0)) 0 10 0 ≠ 0 → (asks = true → (!decide (a0 = 0)) = true ∧ SW m.1 m1 (m.1 274) R 0) → (asks = false → ∀ la w p, sen m.1 (m.1 274) (!decide (a0 = 0)) la w p = true) → Gw G (d + 6) mX0_firstReading 45 [.ref (ga G 266), .int a0, .int a1, .int (b2 asks), .int 0, .int (-1), .int 0] [] m1 (Qi (Same G TXc n (d + 7) mX12_reading [.int a0, .int a1])) := by
      intro asks h0 hy hn
      refine kC_first G d m.1 _ asks a1 (m.1 274) _ R m1 r1 hW hE1 hL1 h.tt (fun q h1 h2 => f1 q (by omega)) hy hn (hN (m.1 274) + 1) 0 10 0 m1 _ (by omega) (by omega) (by omega) (Or.inl ⟨rfl, rfl⟩) h0 hL1.2.2.1.2 (fun _ _ _ _ => rfl) d1 (fun m2 z hz f2 d2 => ?_)
      exact model z m2 (fun q hq => by rw [f2 q (by omega) (by omega) (by omega), f1 q hq]) d2 (fun y => absurd y q) (fun _ y => absurd y h0) (fun _ _ => hz)
    refine ⟨fun q2 => ?_, fun q2 => ?_⟩
    · have h0 : VV m.1 (m.1 274) (!decide (a0 = 0)) 0 10 0 ≠ 0 := fun z => q2 (by rw [z]; rfl)
      refine ⟨fun q3 => ?_, fun q3 => ?_⟩
      · exact run false h0 (fun z => by cases z) (fun _ la w p => by rw [decide_eq_true q3]; rfl)
      · refine kC_hasG G (d + 3) m1 (m.1 274) _ m.1 r1 hW (fun q h1 h2 => f1 q (by omega)) (fun hg => ⟨fun z => absurd z (by decide), fun _ => ?_⟩) (fun hg => ⟨fun _ => ?_, fun z => absurd rfl z⟩)
        · exact run true h0 (fun _ => ⟨by rw [decide_eq_false q3]; rfl, hS1 (by rw [decide_eq_false q3]; rfl) hg⟩) (fun z => by cases z)
        · refine run false h0 (fun z => by cases z) (fun _ la w p => ?_)
          obtain ⟨n1, n2⟩ := noG hg
          unfold sen
          split
          · rw [n1]; simp
          · rw [n2]; simp
    · have q2 := (eq_nI (b := 0) (by omega) (by omega)).mp q2
      exact model _ m1 f1 d1 (fun y => absurd y q) (fun _ _ => rfl) (fun _ y => absurd q2 y)
