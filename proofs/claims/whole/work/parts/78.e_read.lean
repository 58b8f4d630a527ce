/-! how often it can be read: the class -/
/-- after a count with sense or any -/
def EarR (X : Nat → Nat → Int32) (m : Mem) (a : Nat → Int32) (se : Bool) (R : Nat → Nat) : Prop := EarH m a ∧ Laid X m a R ∧ (se = true → hasG X a → SW X m a R 0)
/-- the class's pass over one end and one word -/
theorem kC_ends (G : GP) (d : Nat) (X : Nat → Nat → Int32) (e w A : Nat) (m : Mem) (a : Nat → Int32) (K : Int32 → Mem → Prop) (R : Nat → Nat) (r : RC m.1 0 a) (h : WF a) (hE : EarH m a) (hL : Laid X m a R) (hT : ∀ t, t < tn (a 2) → TT X t) (hX : ∀ q, 238 ≤ q → q ≤ 261 → m.1 q = X q) (hd : FDa X a (m.1 265)) (he0 : 0 < e) (he : e ≤ hN a) (hw : w < tn (a 1)) (hA : A < 33554432) (hA2 : ∀ k, A.testBit k = true → ∃ fr, fr + lenW a w = e ∧ herB a w fr = true ∧ (R fr).testBit k = true) (hS : SW X m a R e) (u1 u5 : Value)
    (hK : ∀ (m' : Mem) (l7 : Value), (∀ q, q ≠ 263 → q ≠ 264 → q ≠ 265 → q ≠ 271 → m'.1 q = m.1 q) → FDa X a (m'.1 265) → (∀ k, A.testBit k = true → m'.1 271 ((e * 25 + (k + 1)) * 10 + w) = nI (VV X a true e w (k + 1))) → (∀ q, (∀ k, k < e → q ≠ (e * 25 + (k + 1)) * 10 + w) → m'.1 271 q = m.1 271 q) → Gw G (d + 5) mX0_waysToRead 56 [.ref (ga G 266), uu, .ref (ga G 2), .int (nI e), .int (nI (w + 1)), uu, .int (nI A), l7] [] m' (Qi K)) :
    Gw G (d + 5) mX0_waysToRead 117 [.ref (ga G 266), u1, .ref (ga G 2), .int (nI e), .int (nI w), u5, .int (nI A), .int 0] [] m (Qi K) := by
  have h10 := h.nw10
  have hn := hN_le h
  refine loopD (P := fun k => ∀ (m' : Mem) (u1 u5 : Value), (∀ q, q ≠ 263 → q ≠ 264 → q ≠ 265 → q ≠ 271 → m'.1 q = m.1 q) → FDa X a (m'.1 265) → (∀ j, j < k → A.testBit j = true → m'.1 271 ((e * 25 + (j + 1)) * 10 + w) = nI (VV X a true e w (j + 1))) → (∀ q, (∀ k, k < e → q ≠ (e * 25 + (k + 1)) * 10 + w) → m'.1 271 q = m.1 271 q) → Gw G (d + 5) mX0_waysToRead 117 [.ref (ga G 266), u1, .ref (ga G 2), .int (nI e), .int (nI w), u5, .int (nI A), .int (nI k)] [] m' (Qi K)) e ?_ ?_ m u1 u5 (fun _ _ _ _ _ => rfl) hd (fun j hj => by omega) (fun _ _ => rfl)
  · intro k hk hP m' u1 u5 f1 d1 g1 g2
    have r1 : RC m'.1 0 a := r.fr (fun c h1 h2 _ _ => f1 c (by omega) (by omega) (by omega) (by omega))
    have hE1 : EarH m' a := ⟨by rw [f1 266 (by omega) (by omega) (by omega) (by omega)]; exact hE.1, fun k hk => by rw [f1 267 (by omega) (by omega) (by omega) (by omega)]; exact hE.2 k hk⟩
    have hL1 : Laid X m' a R := hL.fr (f1 268 (by omega) (by omega) (by omega) (by omega)) (f1 269 (by omega) (by omega) (by omega) (by omega)) (f1 270 (by omega) (by omega) (by omega) (by omega))
    refine vX0_waysToRead_117 G d u1 (nI e) (nI w) u5 (nI A) (nI k) m' K ?_
    rw [le_nI (by omega) (by omega), bit_0 (by omega) (by omega)]
    refine ⟨fun q => by omega, fun _ => ⟨fun q => ?_, fun q => ?_⟩⟩
    · rintro _ rfl
      rw [nI_1]
      refine hP m' _ _ f1 d1 (fun j hj hb => ?_) g2
      by_cases z : j = k
      · rw [z, q] at hb; cases hb
      · exact g1 j (by omega) hb
    · have q : A.testBit k = true := by cases z : A.testBit k; exact absurd z q; rfl
      obtain ⟨fr, x1, x2, x3⟩ := hA2 k q
      have hle := (hL.2.2.1.1 fr (by omega)).2.2 k x3
      have hl1 := (h.lenW hw).2.1
      have hw10 : laI (laO w) = nI w := by unfold laO; rw [if_neg (by omega)]; rfl
      rw [nI_1, ← hw10]
      refine kC_behind G d X e (k + 1) w m' a _ R r1 h hE1 hL1 hT (fun q h1 h2 => by rw [f1 q (by omega) (by omega) (by omega) (by omega)]; exact hX q h1 h2) d1 he (by omega) (Or.inr ⟨hw, by omega⟩) (fun v hv hb hz => ?_) (fun m2 f2 d2 => ?_)
      · have hc := hL.2.2.2 fr (by omega) w k hw x2 x3
        rw [x1] at hc
        have hl2 := (h.lenW hv).2.1
        have := hS e (k + 1) v hv hb hc (by omega) hz
        rw [g2 _ (fun j hj z => by omega)]
        exact this
      · rw [hw10, show ((nI e * 25 + nI (k + 1)) * 10) + nI w = nI ((e * 25 + (k + 1)) * 10 + w) by rw [← nI_1, cell_nI], tn_nI (by omega)]
        refine ⟨in_nI (by omega) (by omega), ?_⟩
        rintro _ rfl _ rfl
        refine hP _ _ _ (fun q h1 h2 h3 h4 => by rw [wI_n _ _ _ h4, f2 q h1 h2 h3, f1 q h1 h2 h3 h4]) (by rw [wI_n _ _ _ (by omega)]; exact d2) (fun j hj hb => ?_) (fun q hq => ?_)
        · rw [wI_s, f2 271 (by omega) (by omega) (by omega)]
          by_cases z : j = k
          · rw [z, upd_s]
          · rw [upd_n _ _ (by omega)]; exact g1 j (by omega) hb
        · rw [wI_s, upd_n _ _ (hq k hk), f2 271 (by omega) (by omega) (by omega)]; exact g2 q hq
  · intro m' u1 u5 f1 d1 g1 g2
    refine vX0_waysToRead_117 G d u1 (nI e) (nI w) u5 (nI A) (nI e) m' K ⟨fun _ => ?_, fun q => absurd (Int32.le_refl _) q⟩
    rintro _ rfl
    rw [nI_1]
    refine hK m' _ f1 d1 (fun k hb => ?_) g2
    obtain ⟨fr, x1, x2, x3⟩ := hA2 k hb
    have hle := (hL.2.2.1.1 fr (by omega)).2.2 k x3
    have hl1 := (h.lenW hw).2.1
    exact g1 k (by omega) hb
theorem kC_ways (G : GP) (d : Nat) (X : Nat → Nat → Int32) (a0 : Int32) (se : Bool) (hse : se = !decide (a0 = 0)) (m : Mem) (a : Nat → Int32) (K : Int32 → Mem → Prop) (r : RC m.1 0 a) (h : WF a) (hT : ∀ t, t < tn (a 2) → TT X t) (hX : ∀ q, 238 ≤ q → q ≤ 261 → m.1 q = X q) (hd : FDa X a (m.1 265)) (hK : ∀ (m' : Mem) (R : Nat → Nat), (∀ q, q < 263 ∨ 272 < q → m'.1 q = m.1 q) → FDa X a (m'.1 265) → EarR X m' a se R → K (nI (VV X a se 0 10 0)) m') : Evi G (d + 5) mX0_waysToRead [.ref (ga G 266), .int a0] m K := by
  have h10 := h.nw10
  have hn := hN_le h
  refine vX0_waysToRead G d a0 m K ?_
  refine kC_listen G (d + 4) m a _ r h (fun m1 e1 e2 e3 _ => ?_)
  have r1 : RC m1.1 0 a := r.fr (fun c h1 h2 _ _ => e3 c (by omega) (by omega))
  refine kC_layWords G (d + 1) X m1 a _ r1 h ⟨e1, e2⟩ (fun m2 R hL f2 => ?_)
  have r2 : RC m2.1 0 a := r1.fr (fun c h1 h2 _ _ => f2 c (by omega) (by omega) (by omega))
  have hE2 : EarH m2 a := ⟨by rw [f2 266 (by omega) (by omega) (by omega)]; exact e1, fun k hk => by rw [f2 267 (by omega) (by omega) (by omega)]; exact e2 k hk⟩
  have d2 : FDa X a (m2.1 265) := by rw [f2 265 (by omega) (by omega) (by omega), e3 265 (by omega) (by omega)]; exact hd
  have X2 : ∀ q, 238 ≤ q → q ≤ 261 → m2.1 q = X q := fun q h1 h2 => by rw [f2 q (by omega) (by omega) (by omega), e3 q (by omega) (by omega)]; exact hX q h1 h2
  have fr2 : ∀ q, q < 263 ∨ 272 < q → m2.1 q = m.1 q := fun q hq => by rw [f2 q (by omega) (by omega) (by omega), e3 q (by omega) (by omega)]
  have any : (∀ la w p, sen X a se la w p = true) → (se = true → ¬ hasG X a) → K (m2.1 270 0) m2 := by
    intro hs hg
    rw [hL.2.1 0 (by omega), ← VV_any (s := fun _ _ _ => true) h se hs (hN a) 0 10 0 0 0 (by omega)]
    exact hK m2 R fr2 d2 ⟨hE2, hL, fun z g => absurd g (hg z)⟩
  refine ⟨fun q => ?_, fun q => ⟨fun q2 => ?_, fun q2 => ?_⟩⟩
  · have : se = false := by rw [hse, decide_eq_true q]; rfl
    refine any (fun _ _ _ => by rw [this]; rfl) (fun z => by rw [this] at z; cases z)
  · rw [hE2.1] at q2
    have q2 := (eq_nI (b := 0) (by omega) (by omega)).mp q2
    have := hK m2 R fr2 d2 ⟨hE2, hL, fun _ _ => fun fr k w hw hb _ hlt _ => ?_⟩
    · rw [hL.2.1 0 (by omega)]
      have e5 : VV X a se 0 10 0 = 1 := by have := VV_n X a se 10 0; rw [q2] at this; exact this
      have e6 : VV X a false 0 0 0 = 1 := by have := VV_n X a false 0 0; rw [q2] at this; exact this
      rw [e5] at this
      rw [e6]
      exact this
    · have := herB_le hb
      omega
  have hse' : se = true := by rw [hse, decide_eq_false q]; rfl
  refine kC_hasG G (d + 2) m2 a _ X r2 h X2 (fun hg => ⟨fun _ => ?_, fun z => absurd z (by decide)⟩) (fun hg => ⟨fun z => absurd rfl z, fun _ => ?_⟩)
  · rw [hE2.1]
    rintro _ rfl
    rw [hse'] at hK
    have key : ∀ e, e ≤ hN a → ∀ (m' : Mem) (u1 u4 u5 u6 u7 : Value), (∀ q, q ≠ 263 → q ≠ 264 → q ≠ 265 → q ≠ 271 → m'.1 q = m2.1 q) → FDa X a (m'.1 265) → SW X m' a R e → Gw G (d + 5) mX0_waysToRead 49 [.ref (ga G 266), u1, .ref (ga G 2), .int (nI e), u4, u5, u6, u7] [] m' (Qi K) := by
      intro e
      induction e with
      | zero =>
        intro _ m' u1 u4 u5 u6 u7 f3 d3 s3
        refine vX0_waysToRead_49 G d u1 (nI 0) u4 u5 u6 u7 m' K ⟨fun _ => ?_, fun z => absurd (by decide) z⟩
        have r3 : RC m'.1 0 a := r2.fr (fun c h1 h2 _ _ => f3 c (by omega) (by omega) (by omega) (by omega))
        have hE3 : EarH m' a := ⟨by rw [f3 266 (by omega) (by omega) (by omega) (by omega)]; exact hE2.1, fun k hk => by rw [f3 267 (by omega) (by omega) (by omega) (by omega)]; exact hE2.2 k hk⟩
        have hL3 : Laid X m' a R := hL.fr (f3 268 (by omega) (by omega) (by omega) (by omega)) (f3 269 (by omega) (by omega) (by omega) (by omega)) (f3 270 (by omega) (by omega) (by omega) (by omega))
        refine kC_behind G d X 0 0 10 m' a _ R r3 h hE3 hL3 hT (fun q h1 h2 => by rw [f3 q (by omega) (by omega) (by omega) (by omega)]; exact X2 q h1 h2) d3 (by omega) (by omega) (Or.inl ⟨rfl, rfl⟩) (fun w hw hb hz => s3 0 0 w hw hb hL.2.2.1.2 (by have := (h.lenW hw).2.1; omega) hz) (fun m4 f4 d4 => ?_)
        refine hK m4 R (fun q hq => by rw [f4 q (by omega) (by omega) (by omega), f3 q (by omega) (by omega) (by omega) (by omega), fr2 q hq]) d4 ⟨⟨by rw [f4 266 (by omega) (by omega) (by omega)]; exact hE3.1, fun k hk => by rw [f4 267 (by omega) (by omega) (by omega)]; exact hE3.2 k hk⟩, hL3.fr (f4 268 (by omega) (by omega) (by omega)) (f4 269 (by omega) (by omega) (by omega)) (f4 270 (by omega) (by omega) (by omega)), fun _ _ => ?_⟩
        intro fr k w hw hb hk hlt hz
        rw [f4 271 (by omega) (by omega) (by omega)]
        exact s3 fr k w hw hb hk hlt hz
      | succ e ih =>
        intro he m' u1 u4 u5 u6 u7 f3 d3 s3
        refine vX0_waysToRead_49 G d u1 (nI (e + 1)) u4 u5 u6 u7 m' K ⟨fun z => ?_, fun _ => ?_⟩
        · exfalso
          have z := (le_nI (b := 0) (by omega) (by omega)).mp z
          omega
        have v0 := VV_le X a false h (e + 1) 0 0 he
        -- when all words are through
        have nxt : ∀ (m4 : Mem) (u1 u4 u5 u6 u7 : Value), (∀ q, q ≠ 263 → q ≠ 264 → q ≠ 265 → q ≠ 271 → m4.1 q = m2.1 q) → FDa X a (m4.1 265) → SW X m4 a R e → ∀ x : Int32, x = nI (e + 1) + (-1) → Gw G (d + 5) mX0_waysToRead 49 [.ref (ga G 266), u1, .ref (ga G 2), .int x, u4, u5, u6, u7] [] m4 (Qi K) := by
          rintro m4 u1 u4 u5 u6 u7 f4 d4 s4 _ rfl
          rw [pk_m1]
          exact ih (by omega) m4 _ _ _ _ _ f4 d4 s4
        refine loopD (P := fun w => ∀ (m4 : Mem) (u1 u5 u6 u7 : Value), (∀ q, q ≠ 263 → q ≠ 264 → q ≠ 265 → q ≠ 271 → m4.1 q = m2.1 q) → FDa X a (m4.1 265) → SW X m4 a R (e + 1) → (∀ fr k v, v < w → herB a v fr = true → (R fr).testBit k = true → fr + lenW a v = e + 1 → m4.1 271 (((e + 1) * 25 + (k + 1)) * 10 + v) = nI (VV X a true (e + 1) v (k + 1))) → Gw G (d + 5) mX0_waysToRead 56 [.ref (ga G 266), u1, .ref (ga G 2), .int (nI (e + 1)), .int (nI w), u5, u6, u7] [] m4 (Qi K)) (tn (a 1)) ?_ ?_ m' _ _ _ _ f3 d3 s3 (fun fr k v hv => by omega)
        · intro w hw hP m4 u1 u5 u6 u7 f4 d4 s4 g4
          have r4 : RC m4.1 0 a := r2.fr (fun c h1 h2 _ _ => f4 c (by omega) (by omega) (by omega) (by omega))
          have hE4 : EarH m4 a := ⟨by rw [f4 266 (by omega) (by omega) (by omega) (by omega)]; exact hE2.1, fun k hk => by rw [f4 267 (by omega) (by omega) (by omega) (by omega)]; exact hE2.2 k hk⟩
          have hL4 : Laid X m4 a R := hL.fr (f4 268 (by omega) (by omega) (by omega) (by omega)) (f4 269 (by omega) (by omega) (by omega) (by omega)) (f4 270 (by omega) (by omega) (by omega) (by omega))
          have e4 : m4.1 2 4 = nI (tn (a 1)) := r4.nw.trans h.nwE
          obtain ⟨l1, l2, l3⟩ := h.lenW hw
          have e7 : m4.1 7 w = nI (lenW a w) := (show m4.1 7 w = _ from r4.len w hw).trans l1
          have X4 : ∀ q, 238 ≤ q → q ≤ 261 → m4.1 q = X q := fun q h1 h2 => by rw [f4 q (by omega) (by omega) (by omega) (by omega)]; exact X2 q h1 h2
          -- the pass over the counts of words
          have pass : ∀ A : Nat, A < 33554432 → (∀ k, A.testBit k = true ↔ ∃ fr, fr + lenW a w = e + 1 ∧ herB a w fr = true ∧ (R fr).testBit k = true) → ∀ u5 : Value, Gw G (d + 5) mX0_waysToRead 117 [.ref (ga G 266), uu, .ref (ga G 2), .int (nI (e + 1)), .int (nI w), u5, .int (nI A), .int 0] [] m4 (Qi K) := by
            intro A hA hA2 u5
            refine kC_ends G d X (e + 1) w A m4 a K R r4 h hE4 hL4 hT X4 d4 (by omega) he hw hA (fun k hk => (hA2 k).mp hk) s4 _ _ (fun m5 l7 f5 d5 g5 g6 => ?_)
            refine hP m5 _ _ _ _ (fun q h1 h2 h3 h4 => by rw [f5 q h1 h2 h3 h4, f4 q h1 h2 h3 h4]) d5 (fun fr k v hv hb hk hlt hz => ?_) (fun fr k v hv hb hk hfr => ?_)
            · rw [g6 _ (fun j hj z => by omega)]
              exact s4 fr k v hv hb hk hlt hz
            · by_cases z : v = w
              · subst z
                exact g5 k ((hA2 k).mpr ⟨fr, hfr, hb, hk⟩)
              · rw [g6 _ (fun j hj z => by omega)]
                exact g4 fr k v (by omega) hb hk hfr
          have none : (∀ fr, fr + lenW a w = e + 1 → herB a w fr = true → False) → ∀ u5 : Value, Gw G (d + 5) mX0_waysToRead 117 [.ref (ga G 266), uu, .ref (ga G 2), .int (nI (e + 1)), .int (nI w), u5, .int 0, .int 0] [] m4 (Qi K) := by
            intro hno u5
            refine pass 0 (by omega) (fun k => ⟨fun z => ?_, fun ⟨fr, x1, x2, x3⟩ => (hno fr x1 x2).elim⟩) u5
            rw [Nat.zero_testBit] at z
            cases z
          refine vX0_waysToRead_56 G d u1 (nI (e + 1)) (nI w) u5 u6 u7 m4 K ?_
          rw [e4, tn_nI (by omega), tn_nI (by omega), e7, hL4.2.1 _ he]
          refine ⟨fun z => ?_, fun _ => ⟨in_nI (by omega) (by omega), fun z => ?_, fun z => ⟨in_nI (by omega) (by omega), ?_⟩⟩⟩
          · exfalso
            rw [le_nI (by omega) (by omega)] at z
            omega
          · have z := (le_nI (b := 0) (by omega) (by omega)).mp z
            refine nxt m4 _ _ _ _ _ f4 d4 (fun fr k v hv hb hk hlt hz => ?_)
            by_cases y : fr + lenW a v = e + 1
            · rw [y] at hz
              exact absurd (by omega) hz
            · exact s4 fr k v hv hb hk (by omega) hz
          · rintro _ rfl
            refine ⟨fun y => ?_, fun y => ?_⟩
            · refine none (fun fr x1 x2 => ?_) _
              rw [sub_nI (by omega)] at y
              exact absurd y (nI_pos (by omega))
            · have hsub : lenW a w ≤ e + 1 := by
                rcases Nat.lt_or_ge (e + 1) (lenW a w) with x | x
                · exact absurd (pk_sneg (by omega) x) y
                · exact x
              rw [sub_nI hsub, tn_nI (by omega)]
              have hf := fit_bit (v := w) (hL4.1 (e + 1 - lenW a w) (by omega)) hw h10
              rw [hf]
              obtain ⟨q1, q2, q3⟩ := hL4.2.2.1.1 (e + 1 - lenW a w) (by omega)
              refine ⟨in_nI (by omega) (by omega), fun hb => ⟨in_nI (by omega) (by omega), ?_⟩, fun hb => ?_⟩
              · rw [q1]
                rintro _ rfl
                refine pass _ q2 (fun k => ⟨fun x => ⟨_, by omega, hb, x⟩, fun ⟨fr, x1, x2, x3⟩ => ?_⟩) _
                rw [show e + 1 - lenW a w = fr by omega]
                exact x3
              · refine none (fun fr x1 x2 => hb ?_) _
                rw [show e + 1 - lenW a w = fr by omega]
                exact x2
        · intro m4 u1 u5 u6 u7 f4 d4 s4 g4
          have r4 : RC m4.1 0 a := r2.fr (fun c h1 h2 _ _ => f4 c (by omega) (by omega) (by omega) (by omega))
          have e4 : m4.1 2 4 = nI (tn (a 1)) := r4.nw.trans h.nwE
          refine vX0_waysToRead_56 G d u1 (nI (e + 1)) (nI (tn (a 1))) u5 u6 u7 m4 K ⟨fun _ => ?_, fun z => absurd (by rw [e4]; exact Int32.le_refl _) z⟩
          refine nxt m4 _ _ _ _ _ f4 d4 (fun fr k v hv hb hk hlt hz => ?_)
          by_cases y : fr + lenW a v = e + 1
          · rw [y]
            exact g4 fr k v hv hb hk y
          · exact s4 fr k v hv hb hk (by omega) hz
    refine key (hN a) (Nat.le_refl _) m2 _ _ _ _ _ (fun _ _ _ _ _ => rfl) d2 (fun fr k w hw hb _ hlt _ => ?_)
    have := herB_le hb
    omega
  · refine any (fun la w p => ?_) (fun _ => hg)
    obtain ⟨n1, n2⟩ := noG hg
    unfold sen
    split
    · rw [n1]; simp
    · rw [n2]; simp
