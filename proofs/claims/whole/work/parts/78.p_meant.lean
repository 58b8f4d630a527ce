/-! MEANT -/
/-- in how many ways what was heard is left of a word, and its odds -/
def wlW (a : Nat → Int32) (w : Nat) : Nat := wl (hR a) (wdW a w) (lenW a w) (hN a)
def oddW (a : Nat → Int32) (p w : Nat) : Nat := tn (a (41 + 9 * w)) * (wlW a w * prC p (lenW a w) (hN a))
theorem prC_b {p L n : Nat} (hp : p < 11) (hL : L < 5) : prC p L n ≤ 10000 := by
  by_cases h : n < 5
  · exact prC_le p hp L hL n h
  · have : prC p L n = prC p L 4 := by
      unfold prC
      refine fold_congr _ _ _ (fun j s h1 h2 => ?_)
      rw [if_pos (show j < n by omega), if_pos (show j < 4 by omega)]
    rw [this]
    exact prC_le p hp L hL 4 (by omega)
theorem oddW_le {a : Nat → Int32} (h : WF a) {p w : Nat} (hp : p < 11) (hw : w < tn (a 1)) : oddW a p w ≤ 20000000 := by
  have h1 := ((h.wei w hw).is (by omega)).2.2
  have h2 := (h.lenW hw).2.2
  have h3 : wlW a w ≤ 16 := Nat.le_trans (wl_le _ _ _ _) (by
    have : 2 ^ lenW a w ≤ 2 ^ 4 := Nat.pow_le_pow_right (by omega) h2
    omega)
  have h4 := prC_b (n := hN a) hp (show lenW a w < 5 by omega)
  unfold oddW
  calc tn (a (41 + 9 * w)) * (wlW a w * prC p (lenW a w) (hN a)) ≤ 99 * (16 * 10000) := Nat.mul_le_mul h1 (Nat.mul_le_mul h3 h4)
    _ ≤ 20000000 := by omega
theorem kC_waysLeft (G : GP) (d : Nat) (w : Nat) (m : Mem) (a : Nat → Int32) (K : Int32 → Mem → Prop) (r : RC m.1 0 a) (h : WF a) (hE : EarH m a) (hw : w < tn (a 1)) (hn : hN a ≤ 4) (hK : ∀ m' : Mem, (∀ q, q ≠ 272 → m'.1 q = m.1 q) → K (nI (wlW a w)) m') : Evi G (d + 2) mX0_waysLeft [.ref (ga G 266), .int (nI w)] m K := by
  have h10 := h.nw10
  obtain ⟨l1, l2, l3⟩ := h.lenW hw
  have wb : ∀ i j, i ≤ 4 → wl (hR a) (wdW a w) i j ≤ 16 := fun i j hi => Nat.le_trans (wl_le _ _ _ _) (by
    have : 2 ^ i ≤ 2 ^ 4 := Nat.pow_le_pow_right (by omega) hi
    omega)
  refine vX0_waysLeft G d (nI w) m K ?_
  refine qJ7_fill G (d + 1) 272 5 (by decide +kernel) (by omega) 0 m _ (fun m1 f1 f2 _ => ?_)
  rintro _ rfl
  refine loopD (P := fun i => ∀ (m' : Mem) (u3 u4 : Value), (∀ j, j ≤ hN a → m'.1 272 j = nI (wl (hR a) (wdW a w) i j)) → (∀ q, q ≠ 272 → m'.1 q = m.1 q) → Gw G (d + 2) mX0_waysLeft 17 [.ref (ga G 266), .int (nI w), .int (nI i), u3, u4] [] m' (Qi K)) (lenW a w) ?_ ?_ _ uu uu ?_ ?_
  · intro i hi hP m' u3 u4 c1 c2
    have r1 : RC m'.1 0 a := r.fr (fun c h1 h2 _ _ => c2 c (by omega))
    have e7 : m'.1 7 w = nI (lenW a w) := (show m'.1 7 w = _ from r1.len w hw).trans l1
    obtain ⟨z1, z2⟩ := strC_is r1 h hw (k := i) (by omega)
    refine vX0_waysLeft_17 G d (nI w) (nI i) u3 u4 m' K ?_
    rw [tn_nI (by omega), e7, le_nI (by omega) (by omega)]
    refine ⟨in_nI (by omega) (by omega), fun q => by omega, fun _ => ⟨z1, ?_⟩⟩
    rw [z2, show m'.1 266 2 = nI (hN a) by rw [c2 266 (by omega)]; exact hE.1]
    rintro _ rfl _ rfl
    have key : ∀ j, j ≤ hN a → ∀ m2 : Mem, (∀ k, j < k → k ≤ hN a → m2.1 272 k = nI (wl (hR a) (wdW a w) (i + 1) k)) → (∀ k, k ≤ j → m2.1 272 k = nI (wl (hR a) (wdW a w) i k)) → (∀ q, q ≠ 272 → m2.1 q = m.1 q) → Gw G (d + 2) mX0_waysLeft 52 [.ref (ga G 266), .int (nI w), .int (nI i), .int (a (37 + 9 * w + i)), .int (nI j)] [] m2 (Qi K) := by
      intro j
      induction j with
      | zero =>
        intro _ m2 d1 d2 d3
        refine vX0_waysLeft_52 G d (nI w) (nI i) _ (nI 0) m2 K ⟨fun _ => ?_, fun q => absurd (by decide) q⟩
        rintro _ rfl
        rw [nI_1]
        refine hP m2 _ _ (fun k hk => ?_) d3
        by_cases e : k = 0
        · rw [e, d2 0 (by omega)]; rfl
        · exact d1 k (by omega) hk
      | succ j ih =>
        intro hj m2 d1 d2 d3
        have er : m2.1 267 j = hR a j := by rw [d3 267 (by omega)]; exact hE.2 j (by omega)
        have ws : wl (hR a) (wdW a w) (i + 1) (j + 1) = wl (hR a) (wdW a w) i (j + 1) + (if hR a j = a (37 + 9 * w + i) then wl (hR a) (wdW a w) i j else 0) := rfl
        refine vX0_waysLeft_52 G d (nI w) (nI i) _ (nI (j + 1)) m2 K ?_
        rw [nI_pred, pk_m1, tn_nI (n := j) (by omega), tn_nI (n := j + 1) (by omega), er]
        refine ⟨fun q => ?_, fun _ => ⟨in_nI (by omega) (by omega), fun q => ?_, fun q => ?_⟩⟩
        · exfalso
          have q := (le_nI (b := 0) (by omega) (by omega)).mp q
          omega
        · rintro _ rfl
          refine ih (by omega) m2 (fun k h1 h2 => ?_) (fun k hk => d2 k (by omega)) d3
          by_cases e : k = j + 1
          · rw [e, d2 (j + 1) (by omega), ws, if_neg q]
            rfl
          · exact d1 k (by omega) h2
        · refine ⟨in_nI (by omega) (by omega), in_nI (by omega) (by omega), in_nI (by omega) (by omega), ?_⟩
          rw [d2 (j + 1) (by omega), d2 j (by omega), nI_add]
          rintro _ rfl _ rfl
          refine ih (by omega) _ (fun k h1 h2 => ?_) (fun k hk => ?_) (fun q hq => by rw [wI_n _ _ _ hq]; exact d3 q hq)
          · rw [wI_s]
            by_cases e : k = j + 1
            · rw [e, upd_s, ws, if_pos q]
            · rw [upd_n _ _ e]; exact d1 k (by omega) h2
          · rw [wI_s, upd_n _ _ (by omega)]; exact d2 k (by omega)
    exact key (hN a) (Nat.le_refl _) m' (fun k h1 h2 => by omega) c1 c2
  · intro m' u3 u4 c1 c2
    have r1 : RC m'.1 0 a := r.fr (fun c h1 h2 _ _ => c2 c (by omega))
    have e7 : m'.1 7 w = nI (lenW a w) := (show m'.1 7 w = _ from r1.len w hw).trans l1
    refine vX0_waysLeft_17 G d (nI w) (nI (lenW a w)) u3 u4 m' K ?_
    rw [tn_nI (by omega), e7, show m'.1 266 2 = nI (hN a) by rw [c2 266 (by omega)]; exact hE.1, tn_nI (by omega), c1 (hN a) (Nat.le_refl _)]
    exact ⟨in_nI (by omega) (by omega), fun _ => ⟨in_nI (by omega) (by omega), hK m' c2⟩, fun q => absurd (Int32.le_refl _) q⟩
  · intro j hj
    rw [wI_s]
    by_cases e : j = 0
    · rw [e, upd_s]; rfl
    · rw [upd_n _ _ e, f1 j (by omega)]
      show _ = nI (if j = 0 then 1 else 0)
      rw [if_neg e]; rfl
  · intro q hq
    rw [wI_n _ _ _ hq]; exact f2 q hq
theorem l10 : (10 : Int64) = lN 10 := rfl
theorem s10 {p : Nat} (hp : p ≤ 10) : ((10 : Int32) - nI p).toInt64 = lN (10 - p) := by
  rw [show (10 : Int32) - nI p = nI (10 - p) from sub_nI (a := 10) hp, nI_l (by omega)]
theorem kC_likely (G : GP) (d : Nat) (w p : Nat) (m : Mem) (a : Nat → Int32) (K : Int64 → Mem → Prop) (r : RC m.1 0 a) (h : WF a) (hE : EarH m a) (hw : w < tn (a 1)) (hp : p ≤ 10) (hK : ∀ m' : Mem, (∀ q, q ≠ 272 → m'.1 q = m.1 q) → K (lN (wlW a w * prC p (lenW a w) (hN a))) m') : Evl G (d + 3) mX0_likelihood [.ref (ga G 266), .int (nI w), .int (nI p)] m K := by
  have h10 := h.nw10
  have hnn := hN_le h
  obtain ⟨l1, l2, l3⟩ := h.lenW hw
  have e7 : m.1 7 w = nI (lenW a w) := (show m.1 7 w = _ from r.len w hw).trans l1
  refine vX0_likelihood G d (nI w) (nI p) m K ?_
  rw [tn_nI (by omega), e7, hE.1]
  refine ⟨in_nI (by omega) (by omega), ?_⟩
  rintro _ rfl
  rw [le_nI (by omega) (by omega)]
  refine ⟨fun q => ?_, fun q => ?_⟩
  · have wb : wlW a w ≤ 16 := Nat.le_trans (wl_le _ _ _ _) (by
      have : 2 ^ lenW a w ≤ 2 ^ 4 := Nat.pow_le_pow_right (by omega) l3
      omega)
    refine kC_waysLeft G d w m a _ r h hE hw (by omega) (fun m1 f1 => ?_)
    rw [nI_l (by omega)]
    have e6 : m1.1 266 2 = nI (hN a) := by rw [f1 266 (by omega)]; exact hE.1
    have hK := hK m1 f1
    unfold prC at hK
    rw [← fold_mul] at hK
    refine loopF (P := fun i (s : Nat) => ∀ (u1 u5 : Value), Gw G (d + 3) mX0_likelihood 34 [.ref (ga G 266), u1, .int (nI p), .int (nI (lenW a w)), .long (lN s), u5, .int (nI i)] [] m1 (Ql K)) (fun i s => s * (if i < hN a then 10 - p else if i < lenW a w then p else 10)) 4 ?_ 4 0 (wlW a w) (by omega) ?_ _ _
    · intro i s hi hP u1 u5
      refine vX0_likelihood_34 G d u1 (nI p) (nI (lenW a w)) (lN s) u5 (nI i) m1 K ?_
      rw [e6, show (4 : Int32) = nI 4 from rfl, le_nI (by omega) (by omega), le_nI (by omega) (by omega), le_nI (by omega) (by omega), s10 hp, l10, nI_l (n := p) (by omega), lN_mul, lN_mul, lN_mul]
      refine ⟨fun z => by omega, fun _ => ⟨fun z => ⟨fun y => ?_, fun y => ?_⟩, fun z => ?_⟩⟩
      · rintro _ rfl _ rfl
        rw [nI_1]
        rw [if_neg (by omega), if_neg (by omega)] at hP
        exact hP _ _
      · rintro _ rfl _ rfl
        rw [nI_1]
        rw [if_neg (by omega), if_pos (by omega)] at hP
        exact hP _ _
      · rintro _ rfl _ rfl
        rw [nI_1]
        rw [if_pos (by omega)] at hP
        exact hP _ _
    · intro u1 u5
      exact vX0_likelihood_34 G d u1 (nI p) (nI (lenW a w)) _ u5 (nI 4) m1 K ⟨fun _ => hK, fun z => absurd (by decide) z⟩
  · have := hK m (fun _ _ => rfl)
    unfold wlW at this
    rw [wl_0 _ _ _ _ (by omega), Nat.zero_mul] at this
    exact this
theorem qX12_isLeft (G : GP) (d : Nat) (w k : Nat) (m : Mem) (K : Int32 → Mem → Prop) (h : WF (m.1 274)) (hH : ∀ j, j < hN (m.1 274) → m.1 283 j = hR (m.1 274) j) (hw : w < tn (m.1 274 1)) (hk : k < 16) (hy : rn (hR (m.1 274)) (wdW (m.1 274) w) (hN (m.1 274)) k (lenW (m.1 274) w) = some (hN (m.1 274)) → K 1 m) (hn : ¬ rn (hR (m.1 274)) (wdW (m.1 274) w) (hN (m.1 274)) k (lenW (m.1 274) w) = some (hN (m.1 274)) → K 0 m) : Evi G (d + 2) mX12_isLeft [.ref (ga G 273), .int (nI w), .int (nI k), .int (nI (hN (m.1 274)))] m K := by
  have h10 := h.nw10
  have hnn := hN_le h
  obtain ⟨l1, l2, l3⟩ := h.lenW hw
  have ix : (34 : Int32) + 9 * nI w + 2 = nI (36 + 9 * w) := by
    simp only [lit, pk_mul, nI_add]
    exact congrArg nI (by omega)
  have iy : ∀ k : Nat, (34 : Int32) + 9 * nI w + (3 + nI k) = nI (37 + 9 * w + k) := fun k => by
    simp only [lit, pk_mul, nI_add]
    exact congrArg nI (by omega)
  -- once none, none
  have dead : ∀ j i, rn (hR (m.1 274)) (wdW (m.1 274) w) (hN (m.1 274)) k i = none → rn (hR (m.1 274)) (wdW (m.1 274) w) (hN (m.1 274)) k (i + j) = none := by
    intro j
    induction j with
    | zero => intro i e; exact e
    | succ j ih =>
      intro i e
      have := ih i e
      show (match rn (hR (m.1 274)) (wdW (m.1 274) w) (hN (m.1 274)) k (i + j) with
        | none => none
        | some c => _) = none
      rw [this]
  have deadK : ∀ i, i ≤ lenW (m.1 274) w → rn (hR (m.1 274)) (wdW (m.1 274) w) (hN (m.1 274)) k i = none → K 0 m := fun i hi e => hn (fun z => by
    have := dead (lenW (m.1 274) w - i) i e
    rw [show i + (lenW (m.1 274) w - i) = lenW (m.1 274) w by omega, z] at this
    cases this)
  refine vX12_isLeft G d (nI w) (nI k) (nI (hN (m.1 274))) m K ?_
  refine loopD (P := fun i => ∀ c, rn (hR (m.1 274)) (wdW (m.1 274) w) (hN (m.1 274)) k i = some c → c ≤ hN (m.1 274) → Gw G (d + 2) mX12_isLeft 6 [.ref (ga G 273), .int (nI w), .int (nI k), .int (nI (hN (m.1 274))), .int (nI c), .int (nI i)] [] m (Qi K)) (lenW (m.1 274) w) ?_ ?_ 0 rfl (by omega)
  · intro i hi hP c hc hcn
    have rs : rn (hR (m.1 274)) (wdW (m.1 274) w) (hN (m.1 274)) k (i + 1) = if k.testBit i then (if c = hN (m.1 274) then none else if hR (m.1 274) c = m.1 274 (37 + 9 * w + i) then some (c + 1) else none) else some c := by
      show (match rn (hR (m.1 274)) (wdW (m.1 274) w) (hN (m.1 274)) k i with
        | none => none
        | some c => _) = _
      rw [hc]
      rfl
    refine vX12_isLeft_6 G d (nI w) (nI k) (nI (hN (m.1 274))) (nI c) (nI i) m K ?_
    rw [ix, iy, tn_nI (n := 36 + 9 * w) (by omega), tn_nI (n := 37 + 9 * w + i) (by omega), tn_nI (n := c) (by omega), l1, le_nI (by omega) (by omega), bit_1 (by omega) (by omega), eq_nI (by omega) (by omega)]
    refine ⟨in_nI (by omega) (by omega), fun q => by omega, fun _ => ⟨fun q => ⟨fun q2 => ?_, fun q2 => ?_⟩, fun q => ?_⟩⟩
    · rw [if_pos q, if_pos q2] at rs
      exact deadK (i + 1) (by omega) rs
    · rw [if_pos q, if_neg q2] at rs
      rw [hH c (by omega)]
      refine ⟨in_nI (by omega) (by omega), in_nI (by omega) (by omega), fun q3 => ?_, fun q3 => ?_⟩
      · rw [if_pos q3] at rs
        rintro _ rfl _ rfl
        rw [nI_1, nI_1]
        exact hP (c + 1) rs (by omega)
      · rw [if_neg q3] at rs
        exact deadK (i + 1) (by omega) rs
    · rw [if_neg q] at rs
      rintro _ rfl
      rw [nI_1]
      exact hP c rs hcn
  · intro c hc hcn
    refine vX12_isLeft_6 G d (nI w) (nI k) (nI (hN (m.1 274))) (nI c) (nI (lenW (m.1 274) w)) m K ?_
    rw [ix, tn_nI (n := 36 + 9 * w) (by omega), l1, eq_nI (by omega) (by omega)]
    refine ⟨in_nI (by omega) (by omega), fun _ => ⟨fun q => hn (fun z => ?_), fun q => hy (by rw [hc, q])⟩, fun q => absurd (Int32.le_refl _) q⟩
    rw [hc] at z
    injection z with z
    exact q z
theorem qX12_likely (G : GP) (d : Nat) (w p : Nat) (m : Mem) (K : Int64 → Mem → Prop) (h : WF (m.1 274)) (hH : ∀ j, j < hN (m.1 274) → m.1 283 j = hR (m.1 274) j) (hw : w < tn (m.1 274 1)) (hp : p ≤ 10) (hK : K (lN (oddW (m.1 274) p w)) m) : Evl G (d + 3) mX12_likely [.ref (ga G 273), .int (nI w), .int (nI p), .int (nI (hN (m.1 274)))] m K := by
  have h10 := h.nw10
  have hnn := hN_le h
  obtain ⟨l1, l2, l3⟩ := h.lenW hw
  obtain ⟨g1, -, g3⟩ := (h.wei w hw).is (by omega)
  have ix : (34 : Int32) + 9 * nI w + 2 = nI (36 + 9 * w) := by
    simp only [lit, pk_mul, nI_add]
    exact congrArg nI (by omega)
  have i7 : (34 : Int32) + 9 * nI w + 7 = nI (41 + 9 * w) := by
    simp only [lit, pk_mul, nI_add]
    exact congrArg nI (by omega)
  have e2 : (1 : Int32) <<< (nI (lenW (m.1 274) w) &&& 31) = nI (2 ^ lenW (m.1 274) w) := by rw [shl1_nI _ (by omega), Nat.shiftLeft_eq, Nat.one_mul]
  have p4 : 2 ^ lenW (m.1 274) w ≤ 16 := by
    have : 2 ^ lenW (m.1 274) w ≤ 2 ^ 4 := Nat.pow_le_pow_right (by omega) l3
    omega
  unfold oddW wlW at hK
  rw [← likely_sum _ _ _ _ _ _ (by omega) (by omega)] at hK
  refine vX12_likely G d (nI w) (nI p) (nI (hN (m.1 274))) m K ?_
  have hK : K (lN (fold (fun k s => s + (fun k => if rn (hR (m.1 274)) (wdW (m.1 274) w) (hN (m.1 274)) k (lenW (m.1 274) w) = some (hN (m.1 274)) then tn (m.1 274 (41 + 9 * w)) * prM p (lenW (m.1 274) w) k else 0) k) 0 (2 ^ lenW (m.1 274) w) 0)) m := hK
  refine loopF (P := fun k (s : Nat) => ∀ (u5 u7 u8 u9 : Value), Gw G (d + 3) mX12_likely 6 [.ref (ga G 273), .int (nI w), .int (nI p), .int (nI (hN (m.1 274))), .long (lN s), u5, .int (nI k), u7, u8, u9] [] m (Ql K)) (fun k s => s + (fun k => if rn (hR (m.1 274)) (wdW (m.1 274) w) (hN (m.1 274)) k (lenW (m.1 274) w) = some (hN (m.1 274)) then tn (m.1 274 (41 + 9 * w)) * prM p (lenW (m.1 274) w) k else 0) k) (2 ^ lenW (m.1 274) w) ?_ (2 ^ lenW (m.1 274) w) 0 0 (by omega) ?_ _ _ _ _
  · intro k s hk hP u5 u7 u8 u9
    refine vX12_likely_6 G d (nI w) (nI p) (nI (hN (m.1 274))) (lN s) u5 (nI k) u7 u8 u9 m K ?_
    rw [ix, tn_nI (n := 36 + 9 * w) (by omega), l1, e2, le_nI (by omega) (by omega)]
    refine ⟨in_nI (by omega) (by omega), fun q => by omega, fun _ => ?_⟩
    refine qX12_isLeft G d w k m _ h hH hw (by omega) (fun z => ⟨fun _ => ?_, fun y => absurd y (by decide)⟩) (fun z => ⟨fun y => absurd rfl y, fun _ => ?_⟩)
    · rw [i7, tn_nI (n := 41 + 9 * w) (by omega), g1, nI_l (by omega)]
      refine ⟨in_nI (by omega) (by omega), ?_⟩
      rintro _ rfl
      simp only [if_pos z] at hP
      unfold prM at hP
      rw [← fold_mul] at hP
      refine loopF (P := fun i (t : Nat) => ∀ (u5 u8 : Value), Gw G (d + 3) mX12_likely 46 [.ref (ga G 273), .int (nI w), .int (nI p), .int (nI (hN (m.1 274))), .long (lN s), u5, .int (nI k), .long (lN t), u8, .int (nI i)] [] m (Ql K)) (fun i t => t * (if i < lenW (m.1 274) w then (if k.testBit i then 10 - p else p) else 10)) 4 ?_ 4 0 (tn (m.1 274 (41 + 9 * w))) (by omega) ?_ _ _
      · intro i t hi hQ u5 u8
        refine vX12_likely_46 G d (nI w) (nI p) (nI (hN (m.1 274))) (lN s) u5 (nI k) (lN t) u8 (nI i) m K ?_
        rw [ix, tn_nI (n := 36 + 9 * w) (by omega), l1, show (4 : Int32) = nI 4 from rfl, le_nI (by omega) (by omega), lt_nI (by omega) (by omega), bit_1 (by omega) (by omega), s10 hp, l10, nI_l (n := p) (by omega), lN_mul, lN_mul, lN_mul]
        refine ⟨fun y => by omega, fun _ => ⟨in_nI (by omega) (by omega), fun y => ⟨fun x => ?_, fun x => ?_⟩, fun y => ?_⟩⟩
        · rintro _ rfl _ rfl
          rw [nI_1]
          rw [if_pos y, if_pos x] at hQ
          exact hQ _ _
        · rintro _ rfl _ rfl
          rw [nI_1]
          rw [if_pos y, if_neg x] at hQ
          exact hQ _ _
        · rintro _ rfl _ rfl
          rw [nI_1]
          rw [if_neg y] at hQ
          exact hQ _ _
      · intro u5 u8
        refine vX12_likely_46 G d (nI w) (nI p) (nI (hN (m.1 274))) (lN s) u5 (nI k) _ u8 (nI 4) m K ⟨fun _ => ?_, fun y => absurd (by decide) y⟩
        rw [lN_add, nI_1]
        rintro _ rfl _ rfl
        exact hP _ _ _ _
    · rintro _ rfl
      simp only [if_neg z, Nat.add_zero] at hP
      rw [nI_1]
      exact hP _ _ _ _
  · intro u5 u7 u8 u9
    refine vX12_likely_6 G d (nI w) (nI p) (nI (hN (m.1 274))) _ u5 (nI (2 ^ lenW (m.1 274) w)) u7 u8 u9 m K ?_
    rw [ix, tn_nI (n := 36 + 9 * w) (by omega), l1, e2]
    exact ⟨in_nI (by omega) (by omega), fun _ => hK, fun q => absurd (Int32.le_refl _) q⟩
/-- the odds of words below w together -/
def allW (a : Nat → Int32) (p : Nat) : Nat → Nat
  | 0 => 0
  | w + 1 => allW a p w + oddW a p w
theorem allW_le {a : Nat → Int32} (h : WF a) {p : Nat} (hp : p < 11) : ∀ w, w ≤ tn (a 1) → allW a p w ≤ 20000000 * w
  | 0, _ => Nat.le_refl _
  | w + 1, hw => by
    have h1 := allW_le h hp w (by omega)
    have h2 := oddW_le h hp (show w < tn (a 1) by omega)
    show allW a p w + oddW a p w ≤ _
    omega
abbrev SameL (G : GP) (TX : (Nat → Nat → Int32) → Prop) (n D : Nat) (y : MD) (as : List Value) : Int64 → Mem → Prop := fun r m1 => Evl G D y (.ref (ga G 273) :: as) m1 (fun r' m2 => r = r' ∧ Inv TX (n + 1) m2.1)
/-- the answer -/
def mnV (a : Nat → Int32) (w p : Nat) (low : Bool) : Nat := if allW a p (tn (a 1)) = 0 then (if low then 1 else 0) else (if low then allW a p (tn (a 1)) else oddW a p w) / Nat.gcd (allW a p (tn (a 1))) (oddW a p w)
theorem case_meant (G : GP) (d : Nat) {n : Nat} (a0 a1 a2 : Int32) (m : Mem) (h : Inv TXc n m.1) : Evl G (d + 4) mX11_meant [.ref (ga G 0), .int a0, .int a1, .int a2] m (SameL G TXc n (d + 4) mX12_meant [.int a0, .int a1, .int a2]) := by
  have hRC := h.2.2.1
  have hW := h.1
  have h10 := hW.nw10
  have e4 : m.1 2 4 = nI (tn (m.1 274 1)) := hRC.nw.trans hW.nwE
  refine vX11_meant G d a0 a1 a2 m _ ?_
  rw [e4, one_nI (by omega)]
  refine ⟨?_, fun q => ?_⟩
  · rintro ⟨w, hw, rfl⟩
    refine ⟨fun q1 => ?_, fun q1 => ?_⟩
    · have q1' := q1
      obtain ⟨p, hp, rfl⟩ := of_range (n := 10) (by omega) q1.1 q1.2
      have hA := allW_le hW (p := p) (by omega) (tn (m.1 274 1)) (Nat.le_refl _)
      have hO := oddW_le hW (p := p) (by omega) hw
      have g0 : allW (m.1 274) p (tn (m.1 274 1)) ≠ 0 → 0 < Nat.gcd (allW (m.1 274) p (tn (m.1 274 1))) (oddW (m.1 274) p w) ∧ Nat.gcd (allW (m.1 274) p (tn (m.1 274 1))) (oddW (m.1 274) p w) ≤ 200000000 := fun z => by
        refine ⟨Nat.gcd_pos_of_pos_left _ (by omega), ?_⟩
        have := Nat.gcd_le_left (oddW (m.1 274) p w) (show 0 < allW (m.1 274) p (tn (m.1 274 1)) by omega)
        omega
      have lz : ∀ b : Nat, b < 1000000000 → (lg_cmp (lN b) 0 = 0 ↔ b = 0) := fun b hb => lc0_nI (by omega)
      have model : ∀ (low : Bool) (m1 : Mem), low = !decide (a2 = 0) → (∀ q, q ≠ 266 → q ≠ 267 → q ≠ 272 → m1.1 q = m.1 q) → SameL G TXc n (d + 4) mX12_meant [.int (nI w), .int (nI p), .int a2] (lN (mnV (m.1 274) w p low)) m1 := by
        intro low m1 hlow f1
        have g4 : m1.1 274 = m.1 274 := f1 274 (by omega) (by omega) (by omega)
        refine vX12_meant G d (nI w) (nI p) a2 m1 _ ?_
        rw [g4, hW.nwE, oneM_nI (by omega)]
        refine ⟨fun _ => ⟨fun _ => ?_, fun z => absurd q1' z⟩, fun z => absurd ⟨w, hw, rfl⟩ z⟩
        refine qX12_heardL G (d + 3) m1 _ (by rw [g4]; exact hW) (fun m2 e1 e2 _ => ?_)
        rw [g4] at e1 ⊢
        have g5 : m2.1 274 = m.1 274 := (e2 274 (by omega)).trans g4
        have hI : Inv TXc (n + 1) m2.1 := h.idle.scr TXc_ok (fun c hc => by
          rw [e2 c (fun e => hc (by unfold Scr; omega)), f1 c (fun e => hc (by unfold Scr; omega)) (fun e => hc (by unfold Scr; omega)) (fun e => hc (by unfold Scr; omega))])
        have lik : ∀ (v : Nat) (K : Int64 → Mem → Prop), v < tn (m.1 274 1) → K (lN (oddW (m.1 274) p v)) m2 → Evl G (d + 3) mX12_likely [.ref (ga G 273), .int (nI v), .int (nI p), .int (nI (hN (m.1 274)))] m2 K := by
          intro v K hv hK
          have := qX12_likely G d v p m2 K (by rw [g5]; exact hW) (by rw [g5]; exact e1) (by rw [g5]; exact hv) hp (by rw [g5]; exact hK)
          rw [g5] at this
          exact this
        refine loopD (P := fun i => ∀ (u6 u8 : Value), Gw G (d + 4) mX12_meant 34 [.ref (ga G 273), .int (nI w), .int (nI p), .int a2, .int (nI (hN (m.1 274))), .long (lN (allW (m.1 274) p i)), u6, .int (nI i), u8] [] m2 (Ql (fun r' m2 => lN (mnV (m.1 274) w p low) = r' ∧ Inv TXc (n + 1) m2.1))) (tn (m.1 274 1)) ?_ ?_ _ _
        · intro i hi hP u6 u8
          refine vX12_meant_34 G d (nI w) (nI p) a2 (nI (hN (m.1 274))) _ u6 (nI i) u8 m2 _ ?_
          rw [g5, hW.nwE, le_nI (by omega) (by omega)]
          refine ⟨fun z => by omega, fun _ => lik i _ hi ?_⟩
          rw [lN_add, nI_1]
          rintro _ rfl _ rfl
          exact hP _ _
        · intro u6 u8
          refine vX12_meant_34 G d (nI w) (nI p) a2 (nI (hN (m.1 274))) _ u6 (nI (tn (m.1 274 1))) u8 m2 _ ?_
          rw [lz _ (by omega)]
          refine ⟨fun _ => ⟨fun z => lik w _ hw ?_, fun z => ?_⟩, fun z => absurd (by rw [g5, ← hW.nwE]; exact Int32.le_refl _) z⟩
          · obtain ⟨c1, c2⟩ := g0 z
            rw [Nat.gcd_comm] at c1 c2
            refine ⟨fun y => ?_, fun y => ?_⟩
            · refine qX12_gcd G (d + 3) _ _ (by omega) (by omega) m2 _ ⟨(ne0_lN (by omega)).mpr (by omega), ?_, hI⟩
              rw [pk_lDiv (by omega) (by omega) (by omega)]
              unfold mnV
              rw [hlow, if_neg z, decide_eq_true y, Nat.gcd_comm]
              rfl
            · refine qX12_gcd G (d + 3) _ _ (by omega) (by omega) m2 _ ⟨(ne0_lN (by omega)).mpr (by omega), ?_, hI⟩
              rw [pk_lDiv (by omega) (by omega) (by omega)]
              unfold mnV
              rw [hlow, if_neg z, decide_eq_false y, Nat.gcd_comm]
              rfl
          · refine ⟨fun y => ⟨?_, hI⟩, fun y => ⟨?_, hI⟩⟩
            · unfold mnV
              rw [hlow, if_pos z, decide_eq_true y]; rfl
            · unfold mnV
              rw [hlow, if_pos z, decide_eq_false y]; rfl
      refine kC_listen G (d + 3) m (m.1 274) _ hRC hW (fun m1 e1 e2 e3 _ => ?_)
      refine loopD (P := fun i => ∀ (m2 : Mem) (u5 u7 u9 u10 : Value), (∀ q, q ≠ 266 → q ≠ 267 → q ≠ 272 → m2.1 q = m.1 q) → m2.1 266 2 = nI (hN (m.1 274)) → (∀ k, k < hN (m.1 274) → m2.1 267 k = hR (m.1 274) k) → Gw G (d + 4) mX11_meant 44 [.ref (ga G 0), .int (nI w), .int (nI p), .int a2, .long (lN (if w < i then oddW (m.1 274) p w else 0)), u5, .long (lN (allW (m.1 274) p i)), u7, .int (nI i), u9, u10] [] m2 (Ql (SameL G TXc n (d + 4) mX12_meant [.int (nI w), .int (nI p), .int a2]))) (tn (m.1 274 1)) ?_ ?_ m1 _ _ _ _ (fun q h1 h2 _ => e3 q h1 h2) e1 e2
      · intro i hi hP m2 u5 u7 u9 u10 f2 c1 c2
        have r2 : RC m2.1 0 (m.1 274) := hRC.fr (fun c h1 h2 _ _ => f2 c (by omega) (by omega) (by omega))
        have c4 : m2.1 2 4 = nI (tn (m.1 274 1)) := r2.nw.trans hW.nwE
        obtain ⟨g1, -, g3⟩ := (hW.wei i hi).is (by omega)
        have c8 : m2.1 108 i = nI (tn (m.1 274 (41 + 9 * i))) := (show m2.1 108 i = _ from r2.wei i hi).trans g1
        refine vX11_meant_44 G d (nI w) (nI p) a2 _ u5 _ u7 (nI i) u9 u10 m2 _ ?_
        rw [c4, le_nI (by omega) (by omega)]
        refine ⟨fun z => by omega, fun _ => ⟨in_nI (by omega) (by omega), ?_⟩⟩
        refine kC_likely G d i p m2 (m.1 274) _ r2 hW ⟨c1, c2⟩ hi hp (fun m3 f3 => ?_)
        rw [tn_nI (by omega), c8, nI_l (by omega), lN_mul]
        rintro _ rfl
        rw [lN_add, eq_nI (by omega) (by omega)]
        rintro _ rfl
        have f4 : ∀ q, q ≠ 266 → q ≠ 267 → q ≠ 272 → m3.1 q = m.1 q := fun q h1 h2 h3 => (f3 q h3).trans (f2 q h1 h2 h3)
        have d1 : m3.1 266 2 = nI (hN (m.1 274)) := by rw [f3 266 (by omega)]; exact c1
        have d2 : ∀ k, k < hN (m.1 274) → m3.1 267 k = hR (m.1 274) k := fun k hk => by rw [f3 267 (by omega)]; exact c2 k hk
        refine ⟨fun z => ?_, fun z => ?_⟩
        · rintro _ rfl
          rw [nI_1]
          have := hP m3 uu uu (.long (lN (tn (m.1 274 (41 + 9 * i)) * (wlW (m.1 274) i * prC p (lenW (m.1 274) i) (hN (m.1 274)))))) uu f4 d1 d2
          by_cases y : w < i
          · rw [if_pos (by omega)] at this
            rw [if_pos y]
            exact this
          · rw [if_neg (by omega)] at this
            rw [if_neg y]
            exact this
        · rintro _ rfl
          rw [nI_1]
          have := hP m3 uu uu (.long (lN (tn (m.1 274 (41 + 9 * i)) * (wlW (m.1 274) i * prC p (lenW (m.1 274) i) (hN (m.1 274)))))) uu f4 d1 d2
          rw [if_pos (by omega)] at this
          subst z
          exact this
      · intro m2 u5 u7 u9 u10 f2 c1 c2
        have r2 : RC m2.1 0 (m.1 274) := hRC.fr (fun c h1 h2 _ _ => f2 c (by omega) (by omega) (by omega))
        have c4 : m2.1 2 4 = m.1 274 1 := r2.nw
        rw [if_pos hw]
        refine vX11_meant_44 G d (nI w) (nI p) a2 _ u5 _ u7 (nI (tn (m.1 274 1))) u9 u10 m2 _ ?_
        rw [lz _ (by omega)]
        refine ⟨fun _ => ⟨fun z => ?_, fun z => ?_⟩, fun z => absurd (by rw [c4, ← hW.nwE]; exact Int32.le_refl _) z⟩
        · obtain ⟨k1, k2⟩ := g0 z
          refine qX11_gcd G (d + 3) _ _ (by omega) (by omega) m2 _ ?_
          rw [lz _ (by omega), pk_lDiv (by omega) k1 (by omega), pk_lDiv (by omega) k1 (by omega)]
          have ne : ¬ lN (Nat.gcd (allW (m.1 274) p (tn (m.1 274 1))) (oddW (m.1 274) p w)) = 0 := (ne0_lN (by omega)).mpr (by omega)
          refine ⟨fun _ => ⟨fun y => ⟨ne, ?_⟩, fun y => ⟨ne, ?_⟩⟩, fun y => by omega⟩
          · have := model false m2 (by rw [decide_eq_true y]; rfl) f2
            unfold mnV at this
            rw [if_neg z] at this
            exact this
          · have := model true m2 (by rw [decide_eq_false y]; rfl) f2
            unfold mnV at this
            rw [if_neg z] at this
            exact this
        · refine ⟨fun y => ?_, fun y => ?_⟩
          · have := model false m2 (by rw [decide_eq_true y]; rfl) f2
            unfold mnV at this
            rw [if_pos z] at this
            exact this
          · have := model true m2 (by rw [decide_eq_false y]; rfl) f2
            unfold mnV at this
            rw [if_pos z] at this
            exact this
    · refine vX12_meant G d (nI w) a1 a2 m _ ?_
      rw [hW.nwE, oneM_nI (by omega)]
      exact ⟨fun _ => ⟨fun z => absurd z q1, fun _ => ⟨rfl, h.idle⟩⟩, fun z => absurd ⟨w, hw, rfl⟩ z⟩
  · refine vX12_meant G d a0 a1 a2 m _ ?_
    rw [hW.nwE, oneM_nI (by omega)]
    exact ⟨fun z => absurd z q, fun _ => ⟨rfl, h.idle⟩⟩
