/-! shortest, at worst, whose, by -/
def AllO (X : Nat → Nat → Int32) (a : Nat → Int32) (w wd : Nat) : Prop := ∀ k, k < lenW a w → ovr X a (strW a w k) wd (tn (a 14) + k) = true
theorem kC_allO (G : GP) (d : Nat) (w wd : Nat) (m : Mem) (a : Nat → Int32) (K : Int32 → Mem → Prop) (X : Nat → Nat → Int32) (r : RC m.1 0 a) (h : WF a) (hw : w < tn (a 1)) (hwd : wd ≤ 9) (hT : ∀ t, t < tn (a 2) → TT X t) (hX : ∀ q, 238 ≤ q → q ≤ 261 → m.1 q = X q) (hy : AllO X a w wd → ∀ m' : Mem, (∀ q, q ≠ 263 → q ≠ 264 → m'.1 q = m.1 q) → K 1 m') (hn : ¬ AllO X a w wd → ∀ m' : Mem, (∀ q, q ≠ 263 → q ≠ 264 → m'.1 q = m.1 q) → K 0 m') : Evi G (d + 4) mX11_allGetOver [.ref (ga G 0), .int (nI w), .int (nI wd)] m K := by
  have h10 := h.nw10
  obtain ⟨l1, l2, l3⟩ := h.lenW hw
  have n14 := h.now.nr.is (by omega)
  have b14 : tn (a 14) ≤ 24 := n14.2.2
  refine vX11_allGetOver G d (nI w) (nI wd) m K ?_
  refine loopD (P := fun i => (∀ k, k < i → ovr X a (strW a w k) wd (tn (a 14) + k) = true) → ∀ m' : Mem, (∀ q, q ≠ 263 → q ≠ 264 → m'.1 q = m.1 q) → Gw G (d + 4) mX11_allGetOver 11 [.ref (ga G 0), .int (nI w), .int (nI wd), .ref (ga G 2), .int (nI i)] [] m' (Qi K)) (lenW a w) ?_ ?_ (fun k hk => by omega) m (fun _ _ _ => rfl)
  · intro i hi hP hA m' f1
    have r1 : RC m'.1 0 a := r.scr f1
    have cl : m'.1 7 w = nI (lenW a w) := (r1.len w hw).trans l1
    obtain ⟨z1, z2⟩ := strC_is r1 h hw (k := i) (by omega)
    obtain ⟨s1, s2⟩ := h.strW hw hi
    have e4 : m'.1 12 4 = nI (tn (a 14)) := (show m'.1 12 4 = a 14 from r1.now.nr).trans n14.1
    refine vX11_allGetOver_11 G d (nI w) (nI wd) (nI i) m' K ⟨in_nI (by omega) (by omega), fun q => ?_, fun _ => ⟨z1, ?_⟩⟩
    · rw [tn_nI (by omega), cl, le_nI (by omega) (by omega)] at q
      omega
    · rw [z2, s1, e4, nI_add]
      refine kC_over G d (strW a w i) wd (tn (a 14) + i) m' a _ X r1 h s2 hwd (by omega) hT (fun q h1 h2 => by rw [f1 q (by omega) (by omega)]; exact hX q h1 h2) (fun m2 f2 => ?_)
      have f3 : ∀ q, q ≠ 263 → q ≠ 264 → m2.1 q = m.1 q := fun q h1 h2 => (f2 q h1 h2).trans (f1 q h1 h2)
      cases e : ovr X a (strW a w i) wd (tn (a 14) + i)
      · exact ⟨fun q => absurd rfl q, fun _ => hn (fun z => by rw [z i hi] at e; cases e) m2 f3⟩
      · refine ⟨fun _ => ?_, fun q => absurd q (by decide)⟩
        rintro _ rfl
        rw [nI_1]
        refine hP (fun k hk => ?_) m2 f3
        by_cases z : k = i
        · rw [z]; exact e
        · exact hA k (by omega)
  · intro hA m' f1
    have r1 : RC m'.1 0 a := r.scr f1
    have cl : m'.1 7 w = nI (lenW a w) := (r1.len w hw).trans l1
    refine vX11_allGetOver_11 G d (nI w) (nI wd) (nI (lenW a w)) m' K ⟨in_nI (by omega) (by omega), fun _ => hy hA m' f1, fun q => absurd ?_ q⟩
    rw [tn_nI (by omega), cl]
    exact Int32.le_refl _
theorem qX12_allO (G : GP) (d : Nat) (w wd : Nat) (m : Mem) (K : Int32 → Mem → Prop) (X : Nat → Nat → Int32) (h : WF (m.1 274)) (hw : w < tn (m.1 274 1)) (hwd : wd ≤ 9) (hT : ∀ t, t < tn (m.1 274 2) → TT X t) (hX : m.1 276 = X 276) (hy : AllO X (m.1 274) w wd → ∀ m' : Mem, (∀ q, q ≠ 280 → q ≠ 282 → m'.1 q = m.1 q) → K 1 m') (hn : ¬ AllO X (m.1 274) w wd → ∀ m' : Mem, (∀ q, q ≠ 280 → q ≠ 282 → m'.1 q = m.1 q) → K 0 m') : Evi G (d + 5) mX12_areOver [.ref (ga G 273), .int (nI w), .int (nI wd)] m K := by
  have h10 := h.nw10
  obtain ⟨l1, l2, l3⟩ := h.lenW hw
  have n14 := h.now.nr.is (by omega)
  have b14 : tn (m.1 274 14) ≤ 24 := n14.2.2
  have e14 : m.1 274 14 = nI (tn (m.1 274 14)) := n14.1
  have ix : (34 : Int32) + 9 * nI w + 2 = nI (36 + 9 * w) := by
    simp only [lit, pk_mul, nI_add]
    exact congrArg nI (by omega)
  have iy : ∀ k : Nat, (34 : Int32) + 9 * nI w + (3 + nI k) = nI (37 + 9 * w + k) := fun k => by
    simp only [lit, pk_mul, nI_add]
    exact congrArg nI (by omega)
  refine vX12_areOver G d (nI w) (nI wd) m K ?_
  refine loopD (P := fun i => (∀ k, k < i → ovr X (m.1 274) (strW (m.1 274) w k) wd (tn (m.1 274 14) + k) = true) → ∀ m' : Mem, (∀ q, q ≠ 280 → q ≠ 282 → m'.1 q = m.1 q) → Gw G (d + 5) mX12_areOver 2 [.ref (ga G 273), .int (nI w), .int (nI wd), .int (nI i)] [] m' (Qi K)) (lenW (m.1 274) w) ?_ ?_ (fun k hk => by omega) m (fun _ _ _ => rfl)
  · intro i hi hP hA m' f1
    have g4 : m'.1 274 = m.1 274 := f1 274 (by omega) (by omega)
    obtain ⟨s1, s2⟩ := h.strW hw hi
    refine vX12_areOver_2 G d (nI w) (nI wd) (nI i) m' K ?_
    rw [ix, iy, tn_nI (by omega), tn_nI (by omega), g4, l1, s1, e14, nI_add]
    refine ⟨in_nI (by omega) (by omega), fun q => ?_, fun _ => ⟨in_nI (by omega) (by omega), ?_⟩⟩
    · rw [le_nI (by omega) (by omega)] at q
      omega
    · refine qX12_over G d (strW (m.1 274) w i) wd (tn (m.1 274 14) + i) m' _ X (by rw [g4]; exact h) (by rw [g4]; exact s2) hwd (by omega) (by rw [g4]; exact hT) (by rw [f1 276 (by omega) (by omega)]; exact hX) (fun m2 f2 => ?_)
      have f3 : ∀ q, q ≠ 280 → q ≠ 282 → m2.1 q = m.1 q := fun q h1 h2 => (f2 q h1 h2).trans (f1 q h1 h2)
      rw [g4]
      cases e : ovr X (m.1 274) (strW (m.1 274) w i) wd (tn (m.1 274 14) + i)
      · exact ⟨fun q => absurd rfl q, fun _ => hn (fun z => by rw [z i hi] at e; cases e) m2 f3⟩
      · refine ⟨fun _ => ?_, fun q => absurd q (by decide)⟩
        rintro _ rfl
        rw [nI_1]
        refine hP (fun k hk => ?_) m2 f3
        by_cases z : k = i
        · rw [z]; exact e
        · exact hA k (by omega)
  · intro hA m' f1
    have g4 : m'.1 274 = m.1 274 := f1 274 (by omega) (by omega)
    refine vX12_areOver_2 G d (nI w) (nI wd) _ m' K ?_
    rw [ix, tn_nI (by omega), g4, l1]
    exact ⟨in_nI (by omega) (by omega), fun _ => hy hA m' f1, fun q => absurd (Int32.le_refl _) q⟩
/-- the word that is best so far -/
def BestC (X : Nat → Nat → Int32) (a : Nat → Int32) (x : Int32) (i : Nat) (s : Option Nat) : Prop := a (35 + 9 * i) = x ∧ AllO X a i (tn (a 8)) ∧ ∀ b, s = some b → lenW a i < lenW a b
def BestR (X : Nat → Nat → Int32) (a : Nat → Int32) (x : Int32) : Nat → Option Nat → Prop
  | 0, s => s = none
  | i + 1, s' => ∃ s, BestR X a x i s ∧ ((BestC X a x i s ∧ s' = some i) ∨ (¬ BestC X a x i s ∧ s' = s))
theorem BestR.fn {X : Nat → Nat → Int32} {a : Nat → Int32} {x : Int32} : ∀ {i : Nat} {s s' : Option Nat}, BestR X a x i s → BestR X a x i s' → s = s'
  | 0, s, s', h, k => h.trans k.symm
  | i + 1, s, s', ⟨q, h1, h2⟩, ⟨q', k1, k2⟩ => by
    have := BestR.fn h1 k1
    subst this
    rcases h2 with ⟨p1, p2⟩ | ⟨p1, p2⟩ <;> rcases k2 with ⟨r1, r2⟩ | ⟨r1, r2⟩
    · rw [p2, r2]
    · exact absurd p1 r1
    · exact absurd r1 p1
    · rw [p2, r2]
theorem BestR.lt {X : Nat → Nat → Int32} {a : Nat → Int32} {x : Int32} : ∀ {i : Nat} {s : Option Nat}, BestR X a x i s → ∀ b, s = some b → b < i
  | 0, s, h, b, e => by rw [show s = none from h] at e; cases e
  | i + 1, s, ⟨q, h1, h2⟩, b, e => by
    rcases h2 with ⟨p1, p2⟩ | ⟨p1, p2⟩
    · rw [p2] at e; injection e with e; omega
    · rw [p2] at e
      have := BestR.lt h1 b e
      omega
theorem BestR.no {X : Nat → Nat → Int32} {a : Nat → Int32} {x : Int32} : ∀ {i : Nat} {s : Option Nat}, (∀ w, w < i → a (35 + 9 * w) ≠ x) → BestR X a x i s → s = none
  | 0, s, _, h => h
  | i + 1, s, hn, ⟨q, h1, h2⟩ => by
    have := BestR.no (fun w hw => hn w (by omega)) h1
    rcases h2 with ⟨p1, p2⟩ | ⟨p1, p2⟩
    · exact absurd p1.1 (hn i (by omega))
    · rw [p2]; exact this
theorem case_shortest (G : GP) (d : Nat) {n : Nat} (a0 : Int32) (m : Mem) (h : Inv TXc n m.1) : Evi G (d + 5) mX11_shortest [.ref (ga G 0), .int a0] m (Same G TXc n (d + 6) mX12_shortest [.int a0]) := by
  have hR := h.2.2.1
  have hW := h.1
  have h10 := hW.nw10
  have w8 := hW.now.wind.is (by omega)
  have b8 : tn (m.1 274 8) ≤ 9 := w8.2.2
  have c8 : m.1 274 8 = nI (tn (m.1 274 8)) := w8.1
  -- the model
  have model : ∀ (s : Option Nat) (m1 : Mem), BestR m.1 (m.1 274) a0 (tn (m.1 274 1)) s → (∀ q, q ≠ 263 → q ≠ 264 → m1.1 q = m.1 q) → Same G TXc n (d + 6) mX12_shortest [.int a0] (laI s) m1 := by
    intro s m1 hs f1
    have hI : ∀ m2 : Mem, (∀ q, q ≠ 280 → q ≠ 282 → m2.1 q = m1.1 q) → Inv TXc (n + 1) m2.1 := fun m2 f2 => h.idle.scr TXc_ok (fun c hc => by
      rw [f2 c (fun e => hc (by unfold Scr; omega)) (fun e => hc (by unfold Scr; omega)), f1 c (fun e => hc (by unfold Scr; omega)) (fun e => hc (by unfold Scr; omega))])
    refine vX12_shortest G d a0 m1 _ ⟨fun q => ?_, fun q => ?_⟩
    · refine loopD (P := fun i => ∀ (m2 : Mem) (b : Option Nat), BestR m.1 (m.1 274) a0 i b → (∀ q, q ≠ 280 → q ≠ 282 → m2.1 q = m1.1 q) → Gw G (d + 6) mX12_shortest 16 [.ref (ga G 273), .int a0, .int (laI b), .int (nI i)] [] m2 (Qi (fun r' m2 => laI s = r' ∧ Inv TXc (n + 1) m2.1))) (tn (m.1 274 1)) ?_ ?_ m1 none rfl (fun _ _ _ => rfl)
      · intro i hi hP m2 b hb f2
        have g4 : m2.1 274 = m.1 274 := (f2 274 (by omega) (by omega)).trans (f1 274 (by omega) (by omega))
        have hbl := hb.lt
        have i1 : (34 : Int32) + 9 * nI i + 1 = nI (35 + 9 * i) := by simp only [lit, pk_mul, nI_add]; exact congrArg nI (by omega)
        have i2 : ∀ w : Nat, (34 : Int32) + 9 * nI w + 2 = nI (36 + 9 * w) := fun w => by simp only [lit, pk_mul, nI_add]; exact congrArg nI (by omega)
        refine vX12_shortest_16 G d a0 (laI b) (nI i) m2 _ ?_
        rw [i1, tn_nI (by omega), g4, hW.nwE, c8]
        refine ⟨fun q2 => ?_, fun _ => ⟨in_nI (by omega) (by omega), fun q2 => ?_, fun q2 => ?_⟩⟩
        · rw [le_nI (by omega) (by omega)] at q2
          omega
        · rintro _ rfl
          rw [nI_1]
          exact hP m2 b ⟨b, hb, Or.inr ⟨fun z => q2 z.1, rfl⟩⟩ f2
        · refine qX12_allO G d i (tn (m.1 274 8)) m2 _ m.1 (by rw [g4]; exact hW) (by rw [g4]; exact hi) b8 (by rw [g4]; exact h.tt) ((f2 276 (by omega) (by omega)).trans (f1 276 (by omega) (by omega))) (fun hA m3 f3 => ⟨fun z => absurd z (by decide), fun _ => ?_⟩) (fun hA m3 f3 => ⟨fun _ => ?_, fun z => absurd rfl z⟩)
          · rw [g4] at hA
            have f4 : ∀ q, q ≠ 280 → q ≠ 282 → m3.1 q = m1.1 q := fun q h1 h2 => (f3 q h1 h2).trans (f2 q h1 h2)
            have g5 : m3.1 274 = m.1 274 := (f4 274 (by omega) (by omega)).trans (f1 274 (by omega) (by omega))
            cases b with
            | none =>
              refine ⟨fun _ => ?_, fun z => absurd rfl z⟩
              rintro _ rfl
              rw [nI_1]
              exact hP m3 (some i) ⟨none, hb, Or.inl ⟨⟨q2, hA, fun b e => by cases e⟩, rfl⟩⟩ f4
            | some b =>
              have hb10 := hbl b rfl
              obtain ⟨l1, l2, l3⟩ := hW.lenW (w := i) hi
              obtain ⟨k1, k2, k3⟩ := hW.lenW (w := b) (by omega)
              refine ⟨fun z => absurd z (m1_ne b (by omega)), fun _ => ?_⟩
              show vp_in ((34 : Int32) + 9 * nI i + 2) 5968 ∧ vp_in ((34 : Int32) + 9 * nI b + 2) 5968 ∧ (((m3.1 274 ((34 : Int32) + 9 * nI b + 2).toNatClampNeg) ≤ (m3.1 274 ((34 : Int32) + 9 * nI i + 2).toNatClampNeg)) → _) ∧ ((¬ (m3.1 274 ((34 : Int32) + 9 * nI b + 2).toNatClampNeg) ≤ (m3.1 274 ((34 : Int32) + 9 * nI i + 2).toNatClampNeg)) → _)
              rw [i2, i2, tn_nI (by omega), tn_nI (by omega), g5, l1, k1, le_nI (by omega) (by omega)]
              refine ⟨in_nI (by omega) (by omega), in_nI (by omega) (by omega), fun z => ?_, fun z => ?_⟩
              · rintro _ rfl
                rw [nI_1]
                exact hP m3 (some b) ⟨some b, hb, Or.inr ⟨fun y => by have := y.2.2 b rfl; omega, rfl⟩⟩ f4
              · rintro _ rfl
                rw [nI_1]
                exact hP m3 (some i) ⟨some b, hb, Or.inl ⟨⟨q2, hA, fun c e => by injection e with e; subst e; omega⟩, rfl⟩⟩ f4
          · rw [g4] at hA
            rintro _ rfl
            rw [nI_1]
            exact hP m3 b ⟨b, hb, Or.inr ⟨fun y => hA y.2.1, rfl⟩⟩ (fun q h1 h2 => (f3 q h1 h2).trans (f2 q h1 h2))
      · intro m2 b hb f2
        have g4 : m2.1 274 = m.1 274 := (f2 274 (by omega) (by omega)).trans (f1 274 (by omega) (by omega))
        refine vX12_shortest_16 G d a0 (laI b) (nI (tn (m.1 274 1))) m2 _ ?_
        rw [g4]
        have := hs.fn hb
        subst this
        exact ⟨fun _ => ⟨rfl, hI m2 f2⟩, fun z => absurd (by rw [← hW.nwE]; exact Int32.le_refl _) z⟩
    · have := hs.no (fun w hw e => q (by
        obtain ⟨z, z1, z2, z3⟩ := hW.means w hw
        rw [← e, z3]
        exact (oneC_nI (n := 99) (by omega)).mpr ⟨z, by omega, rfl⟩))
      subst this
      exact ⟨rfl, hI m1 (fun _ _ _ => rfl)⟩
  refine vX11_shortest G d a0 m _ ?_
  refine loopD (P := fun i => ∀ (m1 : Mem) (b : Option Nat) (u : Value), BestR m.1 (m.1 274) a0 i b → (∀ q, q ≠ 263 → q ≠ 264 → m1.1 q = m.1 q) → Gw G (d + 5) mX11_shortest 13 [.ref (ga G 0), .int a0, .ref (ga G 2), .int (laI b), .int (nI i), u] [] m1 (Qi (Same G TXc n (d + 6) mX12_shortest [.int a0]))) (tn (m.1 274 1)) ?_ ?_ m none uu rfl (fun _ _ _ => rfl)
  · intro i hi hP m1 b u hb f1
    have hbl := hb.lt
    have r1 : RC m1.1 0 (m.1 274) := hR.scr f1
    have e4 : m1.1 2 4 = nI (tn (m.1 274 1)) := r1.nw.trans hW.nwE
    have e9 : m1.1 9 i = m.1 274 (35 + 9 * i) := r1.means i hi
    have e12 : m1.1 12 0 = nI (tn (m.1 274 8)) := (show m1.1 12 0 = m.1 274 8 from r1.now.wind).trans c8
    obtain ⟨l1, l2, l3⟩ := hW.lenW (w := i) hi
    have e7 : m1.1 7 i = nI (lenW (m.1 274) i) := (show m1.1 7 i = _ from r1.len i hi).trans l1
    have over : (∀ b', b = some b' → lenW (m.1 274) i < lenW (m.1 274) b') → m.1 274 (35 + 9 * i) = a0 → Evi G (d + 4) mX11_allGetOver [.ref (ga G 0), .int (nI i), .int (nI (tn (m.1 274 8)))] m1 (fun r3 m2 => ((r3 = 0) → ∀ x4 : Int32, x4 = nI i + 1 → Gw G (d + 5) mX11_shortest 13 [.ref (ga G 0), .int a0, .ref (ga G 2), .int (laI b), .int x4, .int 1] [] m2 (Qi (Same G TXc n (d + 6) mX12_shortest [.int a0]))) ∧ ((¬ r3 = 0) → ∀ x5 : Int32, x5 = nI i + 1 → Gw G (d + 5) mX11_shortest 13 [.ref (ga G 0), .int a0, .ref (ga G 2), .int (nI i), .int x5, .int 1] [] m2 (Qi (Same G TXc n (d + 6) mX12_shortest [.int a0])))) := by
      intro hsh hme
      refine kC_allO G d i (tn (m.1 274 8)) m1 (m.1 274) _ m.1 r1 hW hi b8 h.tt (fun q h1 h2 => f1 q (by omega) (by omega)) (fun hA m2 f2 => ⟨fun z => absurd z (by decide), fun _ => ?_⟩) (fun hA m2 f2 => ⟨fun _ => ?_, fun z => absurd rfl z⟩)
      · rintro _ rfl
        rw [nI_1]
        exact hP m2 (some i) _ ⟨b, hb, Or.inl ⟨⟨hme, hA, hsh⟩, rfl⟩⟩ (fun q h1 h2 => (f2 q h1 h2).trans (f1 q h1 h2))
      · rintro _ rfl
        rw [nI_1]
        exact hP m2 b _ ⟨b, hb, Or.inr ⟨fun y => hA y.2.1, rfl⟩⟩ (fun q h1 h2 => (f2 q h1 h2).trans (f1 q h1 h2))
    refine vX11_shortest_13 G d a0 (laI b) (nI i) u m1 _ ?_
    rw [e4, e12, tn_nI (by omega), e9, e7]
    refine ⟨fun q => ?_, fun _ => ⟨fun q => ⟨in_nI (by omega) (by omega), fun q2 => ?_, fun q2 => ?_⟩, fun q => ?_⟩⟩
    · rw [le_nI (by omega) (by omega)] at q
      omega
    · rintro _ rfl
      rw [nI_1]
      exact hP m1 b _ ⟨b, hb, Or.inr ⟨fun z => q2 z.1, rfl⟩⟩ f1
    · refine over (fun b' e => ?_) q2
      subst e
      exact absurd q (m1_ne b' (by have := hbl b' rfl; omega))
    · cases b with
      | none => exact absurd rfl q
      | some b =>
        have hb10 := hbl b rfl
        obtain ⟨k1, k2, k3⟩ := hW.lenW (w := b) (by omega)
        have k7 : m1.1 7 b = nI (lenW (m.1 274) b) := (show m1.1 7 b = _ from r1.len b (by omega)).trans k1
        refine ⟨in_nI (by omega) (by omega), in_nI (by omega) (by omega), ?_⟩
        show ((m1.1 7 (nI b).toNatClampNeg ≤ nI (lenW (m.1 274) i)) → _) ∧ ((¬ m1.1 7 (nI b).toNatClampNeg ≤ nI (lenW (m.1 274) i)) → _)
        rw [tn_nI (by omega), k7, le_nI (by omega) (by omega)]
        refine ⟨fun q2 => ⟨in_nI (by omega) (by omega), fun q3 => ?_, fun q3 => ?_⟩, fun q2 => ⟨in_nI (by omega) (by omega), fun q3 => ?_, fun q3 => ?_⟩⟩
        · rintro _ rfl
          rw [nI_1]
          exact hP m1 (some b) _ ⟨some b, hb, Or.inr ⟨fun z => q3 z.1, rfl⟩⟩ f1
        · rintro _ rfl
          rw [nI_1]
          exact hP m1 (some b) _ ⟨some b, hb, Or.inr ⟨fun z => by have := z.2.2 b rfl; omega, rfl⟩⟩ f1
        · rintro _ rfl
          rw [nI_1]
          exact hP m1 (some b) _ ⟨some b, hb, Or.inr ⟨fun z => q3 z.1, rfl⟩⟩ f1
        · exact over (fun b' e => by injection e with e; subst e; omega) q3
  · intro m1 b u hb f1
    have e4 : m1.1 2 4 = nI (tn (m.1 274 1)) := (hR.scr f1).nw.trans hW.nwE
    refine vX11_shortest_13 G d a0 (laI b) (nI (tn (m.1 274 1))) u m1 _ ⟨fun _ => model b m1 hb f1, fun q => absurd ?_ q⟩
    rw [e4]
    exact Int32.le_refl _
def WrstR (X : Nat → Nat → Int32) (a : Nat → Int32) (w k : Nat) : Prop := k ≤ 10 ∧ (∀ j, j < k → AllO X a w j) ∧ (k = 10 ∨ ¬ AllO X a w k)
theorem WrstR.fn {X : Nat → Nat → Int32} {a : Nat → Int32} {w k k' : Nat} (h : WrstR X a w k) (h' : WrstR X a w k') : k = k' := by
  rcases Nat.lt_trichotomy k k' with z | z | z
  · rcases h.2.2 with y | y
    · have := h'.1; omega
    · exact absurd (h'.2.1 k z) y
  · exact z
  · rcases h'.2.2 with y | y
    · have := h.1; omega
    · exact absurd (h.2.1 k' z) y
theorem case_atWorst (G : GP) (d : Nat) {n : Nat} (a0 : Int32) (m : Mem) (h : Inv TXc n m.1) : Evi G (d + 5) mX11_atWorst [.ref (ga G 0), .int a0] m (Same G TXc n (d + 6) mX12_atWorst [.int a0]) := by
  have hR := h.2.2.1
  have hW := h.1
  have h10 := hW.nw10
  have e4 : m.1 2 4 = nI (tn (m.1 274 1)) := hR.nw.trans hW.nwE
  refine vX11_atWorst G d a0 m _ ?_
  rw [e4, one_nI (by omega)]
  refine ⟨?_, fun q => ?_⟩
  · rintro ⟨w, hw, rfl⟩
    have model : ∀ (k : Nat) (m1 : Mem), WrstR m.1 (m.1 274) w k → (∀ q, q ≠ 263 → q ≠ 264 → m1.1 q = m.1 q) → Same G TXc n (d + 6) mX12_atWorst [.int (nI w)] (nI k - 1) m1 := by
      intro k m1 hk f1
      have hI : ∀ m2 : Mem, (∀ q, q ≠ 280 → q ≠ 282 → m2.1 q = m1.1 q) → Inv TXc (n + 1) m2.1 := fun m2 f2 => h.idle.scr TXc_ok (fun c hc => by
        rw [f2 c (fun e => hc (by unfold Scr; omega)) (fun e => hc (by unfold Scr; omega)), f1 c (fun e => hc (by unfold Scr; omega)) (fun e => hc (by unfold Scr; omega))])
      have g4 : m1.1 274 = m.1 274 := f1 274 (by omega) (by omega)
      refine vX12_atWorst G d (nI w) m1 _ ?_
      rw [g4, hW.nwE, oneM_nI (by omega)]
      refine ⟨fun _ => ?_, fun q => absurd ⟨w, hw, rfl⟩ q⟩
      refine loopD (P := fun i => (∀ j, j < i → AllO m.1 (m.1 274) w j) → ∀ (m2 : Mem), (∀ q, q ≠ 280 → q ≠ 282 → m2.1 q = m1.1 q) → Gw G (d + 6) mX12_atWorst 12 [.ref (ga G 273), .int (nI w), .int (nI i)] [] m2 (Qi (fun r' m2 => nI k - 1 = r' ∧ Inv TXc (n + 1) m2.1))) 10 ?_ ?_ (fun j hj => by omega) m1 (fun _ _ _ => rfl)
      · intro i hi hP hA m2 f2
        have g5 : m2.1 274 = m.1 274 := (f2 274 (by omega) (by omega)).trans g4
        refine vX12_atWorst_12 G d (nI w) (nI i) m2 _ ⟨fun q => ?_, fun _ => ?_⟩
        · exfalso
          have q := (le_nI (a := 10) (by omega) (by omega)).mp q
          omega
        · refine qX12_allO G d w i m2 _ m.1 (by rw [g5]; exact hW) (by rw [g5]; exact hw) (by omega) (by rw [g5]; exact h.tt) ((f2 276 (by omega) (by omega)).trans (f1 276 (by omega) (by omega))) (fun hB m3 f3 => ⟨fun z => absurd z (by decide), fun _ => ?_⟩) (fun hB m3 f3 => ⟨fun _ => ?_, fun z => absurd rfl z⟩)
          · rw [g5] at hB
            rintro _ rfl
            rw [nI_1]
            refine hP (fun j hj => ?_) m3 (fun q h1 h2 => (f3 q h1 h2).trans (f2 q h1 h2))
            by_cases e : j = i
            · rw [e]; exact hB
            · exact hA j (by omega)
          · rw [g5] at hB
            have : k = i := hk.fn ⟨by omega, hA, Or.inr hB⟩
            subst this
            exact ⟨rfl, hI m3 (fun q h1 h2 => (f3 q h1 h2).trans (f2 q h1 h2))⟩
      · intro hA m2 f2
        have : k = 10 := hk.fn ⟨by omega, hA, Or.inl rfl⟩
        subst this
        exact vX12_atWorst_12 G d (nI w) (nI 10) m2 _ ⟨fun _ => ⟨rfl, hI m2 f2⟩, fun q => absurd (by decide) q⟩
    refine loopD (P := fun i => (∀ j, j < i → AllO m.1 (m.1 274) w j) → ∀ (m1 : Mem), (∀ q, q ≠ 263 → q ≠ 264 → m1.1 q = m.1 q) → Gw G (d + 5) mX11_atWorst 20 [.ref (ga G 0), .int (nI w), .int (nI i - 1), .int (nI i)] [] m1 (Qi (Same G TXc n (d + 6) mX12_atWorst [.int (nI w)]))) 10 ?_ ?_ (fun j hj => by omega) m (fun _ _ _ => rfl)
    · intro i hi hP hA m1 f1
      refine vX11_atWorst_20 G d (nI w) (nI i - 1) (nI i) m1 _ ⟨fun q => ?_, fun _ => ?_⟩
      · exfalso
        have q := (lt_nI (a := 9) (by omega) (by omega)).mp q
        omega
      · refine kC_allO G d w i m1 (m.1 274) _ m.1 (hR.scr f1) hW hw (by omega) h.tt (fun q h1 h2 => f1 q (by omega) (by omega)) (fun hB m2 f2 => ⟨fun z => absurd z (by decide), fun _ => ?_⟩) (fun hB m2 f2 => ⟨fun _ => ?_, fun z => absurd rfl z⟩)
        · rintro _ rfl
          rw [nI_1]
          have := hP (fun j hj => ?_) m2 (fun q h1 h2 => (f2 q h1 h2).trans (f1 q h1 h2))
          · rw [nI_pred] at this
            exact this
          · by_cases e : j = i
            · rw [e]; exact hB
            · exact hA j (by omega)
        · exact model i m2 ⟨by omega, hA, Or.inr hB⟩ (fun q h1 h2 => (f2 q h1 h2).trans (f1 q h1 h2))
    · intro hA m1 f1
      exact vX11_atWorst_20 G d (nI w) (nI 10 - 1) (nI 10) m1 _ ⟨fun _ => model 10 m1 ⟨by omega, hA, Or.inl rfl⟩ f1, fun q => absurd (by decide) q⟩
  · refine vX12_atWorst G d a0 m _ ?_
    rw [hW.nwE, oneM_nI (by omega)]
    exact ⟨fun z => absurd z q, fun _ => ⟨rfl, h.idle⟩⟩
