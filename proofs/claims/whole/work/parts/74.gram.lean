/-! the grammar: begins, follows -/
def nmW (Kd Mn : Nat → Int32) (x w p : Nat) (k : Nat) : Int := if k = 8 then (Kd x).toInt else if k = 9 then (Mn x).toInt else if k = 10 then (Kd w).toInt else if k = 11 then (Mn w).toInt else if k = 12 then (p : Int) else 0
def kdA (a : Nat → Int32) (x : Nat) : Int32 := a (34 + 9 * x)
def mnA (a : Nat → Int32) (x : Nat) : Int32 := a (35 + 9 * x)
noncomputable def flw (X : Nat → Nat → Int32) (a : Nat → Int32) (t x w p : Nat) : Bool := if X (238 + 6 * t + 4) 1 < X (238 + 6 * t + 5) 1 then lawV X t 1 (nmW (kdA a) (mnA a) x w p) else true
noncomputable def fol (X : Nat → Nat → Int32) (a : Nat → Int32) (x w p : Nat) : Bool := if a 3 = -1 then true else flw X a (tn (a 3)) x w p
noncomputable def bgn (X : Nat → Nat → Int32) (a : Nat → Int32) (w : Nat) : Bool := if a 3 = -1 then true else if X (238 + 6 * tn (a 3) + 4) 2 < X (238 + 6 * tn (a 3) + 5) 2 then lawV X (tn (a 3)) 2 (nmW (kdA a) (mnA a) w w 0) else true
theorem nmW_bd {a : Nat → Int32} (h : WF a) {x w p : Nat} (hx : x < tn (a 1)) (hw : w < tn (a 1)) (hp : p ≤ 1000) (k : Nat) : bI (nmW (kdA a) (mnA a) x w p k) := by
  have T : ∀ {x : Int32} {n : Nat}, bd x 0 n → n ≤ 1000 → bI x.toInt := fun e h => by
    obtain ⟨z, h1, h2, rfl⟩ := e
    rw [nI_toInt (by omega)]
    unfold bI; omega
  unfold nmW
  split
  · exact T (h.kind x hx) (by omega)
  split
  · exact T (h.means x hx) (by omega)
  split
  · exact T (h.kind w hw) (by omega)
  split
  · exact T (h.means w hw) (by omega)
  split
  · unfold bI; omega
  · unfold bI; omega
theorem nmW_congr {Kd Mn Kd' Mn' : Nat → Int32} {x w p : Nat} (h1 : Kd x = Kd' x) (h2 : Mn x = Mn' x) (h3 : Kd w = Kd' w) (h4 : Mn w = Mn' w) : nmW Kd Mn x w p = nmW Kd' Mn' x w p := by
  funext k
  unfold nmW
  rw [h1, h2, h3, h4]
/-- follows, the model -/
theorem qX12_flw (G : GP) (d : Nat) (t x w p : Nat) (m : Mem) (K : Int32 → Mem → Prop) (X : Nat → Nat → Int32) (h : WF (m.1 274)) (ht : t < 4) (hx : x < tn (m.1 274 1)) (hw : w < tn (m.1 274 1)) (hp : p ≤ 1000) (hT : TT X t) (hX : m.1 276 = X 276) (hK : ∀ m' : Mem, (∀ q, q ≠ 280 → q ≠ 282 → m'.1 q = m.1 q) → K (b2 (flw X (m.1 274) t x w p)) m') : Evi G (d + 4) mX12_isFollowing [.ref (ga G 273), .int (nI t), .int (nI x), .int (nI w), .int (nI p)] m K := by
  have hnw := (h.nw.is (by omega)).2.2
  have ix : ∀ z : Nat, (34 : Int32) + 9 * nI z = nI (34 + 9 * z) := fun z => by rw [show (34 : Int32) = nI 34 from rfl, show (9 : Int32) = nI 9 from rfl, pk_mul, nI_add]
  have i0 : ∀ z : Nat, nI (34 + 9 * z) + 0 = nI (34 + 9 * z) := fun z => nI_add _ 0
  have i1 : ∀ z : Nat, nI (34 + 9 * z) + 1 = nI (35 + 9 * z) := fun z => by rw [nI_1]; congr 1; omega
  refine vX12_isFollowing G d (nI t) (nI x) (nI w) (nI p) m K ?_
  refine qX12_clauseOf G (d + 3) t 1 m _ X ht (by omega) hT hX (fun C k fr ti hk hL => ⟨fun _ => ?_, fun q => absurd q (m1_ne k (by omega))⟩) (fun hL => ⟨fun q => absurd rfl q, fun _ => ?_⟩)
  · have hv : flw X (m.1 274) t x w p = lawB (nmW (kdA (m.1 274)) (mnA (m.1 274)) x w p) (oF X t) (vF X t) fr ti := by
      unfold flw
      rw [if_pos (show X (238 + 6 * t + 4) 1 < X (238 + 6 * t + 5) 1 from hL.has), hL.val]
    rw [hv] at hK
    rw [ix, ix, i0, i0, i1, i1, tn_nI (by omega), tn_nI (by omega), tn_nI (by omega), tn_nI (by omega)]
    refine ⟨in_nI (by omega) (by omega), ?_⟩
    rintro _ rfl
    refine ⟨in_nI (by omega) (by omega), ?_⟩
    rintro _ rfl
    refine ⟨in_nI (by omega) (by omega), ?_⟩
    rintro _ rfl
    refine ⟨in_nI (by omega) (by omega), ?_⟩
    rintro _ rfl _ rfl
    obtain ⟨a1, a2, a3, a4, a5, a6, a7, a8, a9, a10, a11⟩ := hL
    refine qX12_isSo G d t k fr ti _ _ (nmW (kdA (m.1 274)) (mnA (m.1 274)) x w p) (oF X t) (vF X t) (by omega) hk a4 a5 ?_ ?_ (fun i h1 h2 => ?_) a10 (fun m' hF => ⟨?_, hK m' (fun q q1 q2 => ?_)⟩)
    · show m.1 276 _ = _
      rw [hX]; exact a6
    · show m.1 276 _ = _
      rw [hX]; exact a7
    · obtain ⟨z1, z2, z3, z4, z5, z6, -⟩ := a11 i h1 h2
      refine ⟨?_, ?_, z4, ⟨z5, fun e1 => ?_⟩, fun e1 => ⟨?_, nmW_bd h hx hw hp _⟩⟩
      · show m.1 276 _ = _
        rw [hX]; exact z2
      · show m.1 276 _ = _
        rw [hX]; exact z3
      · have := (z6 e1).2.1 rfl; omega
      · have hc := (z6 e1).2.1 rfl
        generalize vF X t i = c at hc
        have : c = 8 ∨ c = 9 ∨ c = 10 ∨ c = 11 ∨ c = 12 := by omega
        rcases this with rfl | rfl | rfl | rfl | rfl
        · rfl
        · rfl
        · rfl
        · rfl
        · exact nI_toInt (by omega)
    · cases lawB (nmW (kdA (m.1 274)) (mnA (m.1 274)) x w p) (oF X t) (vF X t) fr ti
      · exact Or.inl rfl
      · exact Or.inr rfl
    · rw [hF.1 q q2]
      simp only [wI_n _ _ _ q1]
  · have := hK m (fun _ _ _ => rfl)
    unfold flw at this
    rw [if_neg (show ¬ X (238 + 6 * t + 4) 1 < X (238 + 6 * t + 5) 1 from hL)] at this
    exact this
theorem qX12_fol (G : GP) (d : Nat) (x w p : Nat) (m : Mem) (K : Int32 → Mem → Prop) (X : Nat → Nat → Int32) (h : WF (m.1 274)) (hx : x < tn (m.1 274 1)) (hw : w < tn (m.1 274 1)) (hp : p ≤ 1000) (hT : ∀ t, t < tn (m.1 274 2) → TT X t) (hX : m.1 276 = X 276) (hK : ∀ m' : Mem, (∀ q, q ≠ 280 → q ≠ 282 → m'.1 q = m.1 q) → K (b2 (fol X (m.1 274) x w p)) m') : Evi G (d + 4) mX12_isFollowing [.ref (ga G 273), .int (m.1 274 3), .int (nI x), .int (nI w), .int (nI p)] m K := by
  rcases h.ru with e | ⟨t, ht, e⟩
  · have := hK m (fun _ _ _ => rfl)
    unfold fol at this
    rw [if_pos e] at this
    rw [e]
    exact vX12_isFollowing G d (-1) (nI x) (nI w) (nI p) m K (qX12_clauseNone G (d + 3) 1 m _ ⟨fun q => absurd rfl q, fun _ => this⟩)
  · have h4 := (h.nt.is (by omega)).2.2
    have et : tn (m.1 274 3) = t := by rw [e]; exact tn_nI (by omega)
    rw [e]
    refine qX12_flw G d t x w p m K X h (by omega) hx hw hp (hT t ht) hX (fun m' hF => ?_)
    have := hK m' hF
    unfold fol at this
    rw [if_neg (by rw [e]; exact m1_ne t (by omega)), et] at this
    exact this
theorem qX12_bgn (G : GP) (d : Nat) (w : Nat) (m : Mem) (K : Int32 → Mem → Prop) (X : Nat → Nat → Int32) (h : WF (m.1 274)) (hw : w < tn (m.1 274 1)) (hT : ∀ t, t < tn (m.1 274 2) → TT X t) (hX : m.1 276 = X 276) (hK : ∀ m' : Mem, (∀ q, q ≠ 280 → q ≠ 282 → m'.1 q = m.1 q) → K (b2 (bgn X (m.1 274) w)) m') : Evi G (d + 4) mX12_isBeginning [.ref (ga G 273), .int (nI w)] m K := by
  have hnw := (h.nw.is (by omega)).2.2
  have ix : ∀ z : Nat, (34 : Int32) + 9 * nI z = nI (34 + 9 * z) := fun z => by rw [show (34 : Int32) = nI 34 from rfl, show (9 : Int32) = nI 9 from rfl, pk_mul, nI_add]
  have i0 : ∀ z : Nat, nI (34 + 9 * z) + 0 = nI (34 + 9 * z) := fun z => nI_add _ 0
  have i1 : ∀ z : Nat, nI (34 + 9 * z) + 1 = nI (35 + 9 * z) := fun z => by rw [nI_1]; congr 1; omega
  refine vX12_isBeginning G d (nI w) m K ?_
  rcases h.ru with e | ⟨t, ht, e⟩
  · have := hK m (fun _ _ _ => rfl)
    unfold bgn at this
    rw [if_pos e] at this
    rw [e]
    exact qX12_clauseNone G (d + 3) 2 m _ ⟨fun q => absurd rfl q, fun _ => this⟩
  have h4 := (h.nt.is (by omega)).2.2
  have et : tn (m.1 274 3) = t := by rw [e]; exact tn_nI (by omega)
  have e3 : ¬ m.1 274 3 = -1 := by rw [e]; exact m1_ne t (by omega)
  rw [e]
  refine qX12_clauseOf G (d + 3) t 2 m _ X (by omega) (by omega) (hT t ht) hX (fun C k fr ti hk hL => ⟨fun _ => ?_, fun q => absurd q (m1_ne k (by omega))⟩) (fun hL => ⟨fun q => absurd rfl q, fun _ => ?_⟩)
  · have hv : bgn X (m.1 274) w = lawB (nmW (kdA (m.1 274)) (mnA (m.1 274)) w w 0) (oF X t) (vF X t) fr ti := by
      unfold bgn
      rw [if_neg e3, et, if_pos (show X (238 + 6 * t + 4) 2 < X (238 + 6 * t + 5) 2 from hL.has), hL.val]
    rw [hv] at hK
    rw [ix, i0, i1, tn_nI (by omega), tn_nI (by omega)]
    refine ⟨in_nI (by omega) (by omega), ?_⟩
    rintro _ rfl
    refine ⟨in_nI (by omega) (by omega), ?_⟩
    rintro _ rfl
    obtain ⟨a1, a2, a3, a4, a5, a6, a7, a8, a9, a10, a11⟩ := hL
    refine cast (congrArg (fun z => Evi G (d + 3) mX12_isSo [.ref (ga G 273), .int z, .int (nI k)] _ _) e.symm) ?_
    refine qX12_isSo G d t k fr ti _ _ (nmW (kdA (m.1 274)) (mnA (m.1 274)) w w 0) (oF X t) (vF X t) (by omega) hk a4 a5 ?_ ?_ (fun i h1 h2 => ?_) a10 (fun m' hF => ⟨?_, hK m' (fun q q1 q2 => ?_)⟩)
    · show m.1 276 _ = _
      rw [hX]; exact a6
    · show m.1 276 _ = _
      rw [hX]; exact a7
    · obtain ⟨z1, z2, z3, z4, z5, z6, -⟩ := a11 i h1 h2
      refine ⟨?_, ?_, z4, ⟨z5, fun e1 => ?_⟩, fun e1 => ⟨?_, nmW_bd h hw hw (by omega) _⟩⟩
      · show m.1 276 _ = _
        rw [hX]; exact z2
      · show m.1 276 _ = _
        rw [hX]; exact z3
      · have := (z6 e1).2.2 rfl; omega
      · have hc := (z6 e1).2.2 rfl
        generalize vF X t i = c at hc
        have : c = 8 ∨ c = 9 := by omega
        rcases this with rfl | rfl
        · rfl
        · rfl
    · cases lawB (nmW (kdA (m.1 274)) (mnA (m.1 274)) w w 0) (oF X t) (vF X t) fr ti
      · exact Or.inl rfl
      · exact Or.inr rfl
    · rw [hF.1 q q2]
      simp only [wI_n _ _ _ q1]
  · have := hK m (fun _ _ _ => rfl)
    unfold bgn at this
    rw [if_neg e3, et, if_neg (show ¬ X (238 + 6 * t + 4) 2 < X (238 + 6 * t + 5) 2 from hL)] at this
    exact this
/-- the class: names of a pair, then the law -/
def nmMem (m : Mem) (x w p : Nat) : Mem := wI (wI (wI (wI (wI m 263 19 (m.1 8 x)) 263 13 (m.1 9 x)) 263 20 (m.1 8 w)) 263 21 (m.1 9 w)) 263 22 (nI p)
theorem kC_namePair (G : GP) (d : Nat) (x w p : Nat) (m : Mem) (K : Mem → Prop) (hx : x < 10) (hw : w < 10) (hK : K (nmMem m x w p)) : Evv G (d + 1) mX1_namePair [.ref (ga G 262), .int (nI x), .int (nI w), .int (nI p)] m K := by
  refine vX1_namePair G d (nI x) (nI w) (nI p) m K ⟨in_nI hx (by omega), ?_⟩
  rw [tn_nI (by omega), tn_nI (by omega)]
  refine vX1_name G d 119 _ m _ ⟨vp_in_dec (by decide), ?_⟩
  rintro _ rfl
  refine ⟨in_nI hx (by omega), vX1_name G d 113 _ _ _ ⟨vp_in_dec (by decide), ?_⟩⟩
  rintro _ rfl
  refine ⟨in_nI hw (by omega), vX1_name G d 120 _ _ _ ⟨vp_in_dec (by decide), ?_⟩⟩
  rintro _ rfl
  refine ⟨in_nI hw (by omega), vX1_name G d 121 _ _ _ ⟨vp_in_dec (by decide), ?_⟩⟩
  rintro _ rfl
  refine vX1_name G d 122 _ _ _ ⟨vp_in_dec (by decide), ?_⟩
  rintro _ rfl
  exact hK
theorem kC_saysN (G : GP) (d : Nat) (t l x w p C k fr ti : Nat) (m : Mem) (a : Nat → Int32) (K : Int32 → Mem → Prop) (X : Nat → Nat → Int32) (r : RC m.1 0 a) (h : WF a) (ht : t < 4) (hl : l = 1 ∨ l = 2) (hx : x < tn (a 1)) (hw : w < tn (a 1)) (hp : p ≤ 1000) (hL : LawAt X t l C k fr ti) (hX : ∀ q, 238 ≤ q → q ≤ 261 → m.1 q = X q) (hK : ∀ m' : Mem, (∀ q, q ≠ 263 → q ≠ 264 → m'.1 q = m.1 q) → K (b2 (lawV X t l (nmW (kdA a) (mnA a) x w p))) m') : Evi G (d + 2) mX1_says [.ref (ga G 262), .ref (ga G (238 + 6 * t)), .int (nI l)] (nmMem m x w p) K := by
  rw [hL.val] at hK
  obtain ⟨a1, a2, a3, a4, a5, a6, a7, a8, a9, a10, a11⟩ := hL
  refine qX1_says G d (238 + 6 * t) (tx_all t ht) l fr ti _ _ (nmW (kdA a) (mnA a) x w p) (oF X t) (vF X t) (by omega) a4 a5 ?_ ?_ (by omega) (fun i h1 h2 => ?_) a10 (fun m' hF _ => hK m' (fun q q1 q2 => ?_))
  · unfold nmMem
    simp only [wI_n _ _ _ (show 238 + 6 * t + 4 ≠ 263 by omega)]
    rw [hX _ (by omega) (by omega)]; exact a8
  · unfold nmMem
    simp only [wI_n _ _ _ (show 238 + 6 * t + 5 ≠ 263 by omega)]
    rw [hX _ (by omega) (by omega)]; exact a9
  · obtain ⟨z1, z2, z3, z4, z5, z6, -⟩ := a11 i h1 h2
    have hc : oF X t i = 1 → 8 ≤ vF X t i ∧ vF X t i < 13 := fun e1 => by
      rcases hl with hl | hl
      · exact (z6 e1).2.1 hl
      · have := (z6 e1).2.2 hl; omega
    refine ⟨?_, ⟨z5, fun e1 => (hc e1).2⟩, fun e1 => ⟨?_, nmW_bd h hx hw hp _⟩⟩
    · unfold nmMem
      simp only [wI_n _ _ _ (show 238 + 6 * t + 3 ≠ 263 by omega)]
      rw [hX _ (by omega) (by omega)]; exact z1
    · have hc := hc e1
      generalize vF X t i = c at hc
      have : c = 8 ∨ c = 9 ∨ c = 10 ∨ c = 11 ∨ c = 12 := by omega
      rcases this with rfl | rfl | rfl | rfl | rfl
      · exact congrArg Int32.toInt (show m.1 8 x = a (34 + 9 * x) from r.kind x hx)
      · exact congrArg Int32.toInt (show m.1 9 x = a (35 + 9 * x) from r.means x hx)
      · exact congrArg Int32.toInt (show m.1 8 w = a (34 + 9 * w) from r.kind w hw)
      · exact congrArg Int32.toInt (show m.1 9 w = a (35 + 9 * w) from r.means w hw)
      · exact nI_toInt (by omega)
  · rw [hF q q2]
    unfold nmMem
    simp only [wI_n _ _ _ q1]
theorem kC_flw (G : GP) (d : Nat) (t x w p : Nat) (m : Mem) (a : Nat → Int32) (K : Int32 → Mem → Prop) (X : Nat → Nat → Int32) (r : RC m.1 0 a) (h : WF a) (ht : t < 4) (hx : x < tn (a 1)) (hw : w < tn (a 1)) (hp : p ≤ 1000) (hT : TT X t) (hX : ∀ q, 238 ≤ q → q ≤ 261 → m.1 q = X q) (hK : ∀ m' : Mem, (∀ q, q ≠ 263 → q ≠ 264 → m'.1 q = m.1 q) → K (b2 (flw X a t x w p)) m') : Evi G (d + 3) mX1_follows [.ref (ga G 262), .ref (ga G (238 + 6 * t)), .int (nI x), .int (nI w), .int (nI p)] m K := by
  have hnw := (h.nw.is (by omega)).2.2
  refine vX1_follows G d (238 + 6 * t) (tx_all t ht) (nI x) (nI w) (nI p) m K ⟨vp_in_dec (by decide), ?_⟩
  show ((m.1 (238 + 6 * t + 4) 1 < m.1 (238 + 6 * t + 5) 1) → _) ∧ (¬ (m.1 (238 + 6 * t + 4) 1 < m.1 (238 + 6 * t + 5) 1) → _)
  rw [hX (238 + 6 * t + 4) (by omega) (by omega), hX (238 + 6 * t + 5) (by omega) (by omega)]
  obtain ⟨C, -, -, -, -, c5⟩ := hT
  rcases c5 1 (by omega) with ⟨k, fr, ti, hL⟩ | hL
  · refine ⟨fun _ => ?_, fun q => absurd hL.has q⟩
    refine kC_namePair G (d + 1) x w p m _ (by omega) (by omega) ?_
    refine kC_saysN G d t 1 x w p C k fr ti m a _ X r h ht (Or.inl rfl) hx hw hp hL hX (fun m' hF => ⟨?_, ?_⟩)
    · cases lawV X t 1 (nmW (kdA a) (mnA a) x w p)
      · exact Or.inl rfl
      · exact Or.inr rfl
    · have := hK m' hF
      unfold flw at this
      rw [if_pos (show X (238 + 6 * t + 4) 1 < X (238 + 6 * t + 5) 1 from hL.has)] at this
      exact this
  · refine ⟨fun q => absurd q hL.2, fun _ => ?_⟩
    have := hK m (fun _ _ _ => rfl)
    unfold flw at this
    rw [if_neg (show ¬ X (238 + 6 * t + 4) 1 < X (238 + 6 * t + 5) 1 from hL.2)] at this
    exact this
def b12 (b : Bool) : Int32 := if b then 1 else 2
/-- what was found of the grammar -/
def FDx (R : Prop) (X : Nat → Nat → Int32) (t nw : Nat) (Kd Mn g : Nat → Int32) : Prop := ∀ p x w, p < 24 → x < 10 → w < 10 → g ((p * 10 + x) * 10 + w) ≠ 0 → R ∧ x < nw ∧ w < nw ∧ hasL X t (if p = 0 then 2 else 1) ∧ g ((p * 10 + x) * 10 + w) = b12 (lawV X t (if p = 0 then 2 else 1) (nmW Kd Mn x w p))
def MayT (G : GP) (d : Nat) (m1 : Mem) (K : Int32 → Mem → Prop) (t3 : Nat) (a0 a1 a2 l x5 : Int32) : Prop := ((x5 < 0) → K 0 m1) ∧ ((¬ x5 < 0) → ((x5 < 2400) → vp_in x5 2400 ∧ ((¬ (m1.1 265 x5.toNatClampNeg) = 0) → vp_in x5 2400 ∧ ((¬ (m1.1 265 x5.toNatClampNeg) = 1) → K 0 m1) ∧ (((m1.1 265 x5.toNatClampNeg) = 1) → K 1 m1)) ∧ (((m1.1 265 x5.toNatClampNeg) = 0) → Evv G (d + 2) mX1_namePair [.ref (ga G 262), .int a0, .int a1, .int a2] m1 (fun m6 => Evi G (d + 2) mX1_says [.ref (ga G 262), .ref (ga G t3), .int l] m6 (fun r8 m7 => ((r8 = 0) → vp_in x5 2400 ∧ ∀ m9 : Mem, m9 = wI m7 265 x5.toNatClampNeg 2 → vp_in x5 2400 ∧ ((¬ (m9.1 265 x5.toNatClampNeg) = 1) → K 0 m9) ∧ (((m9.1 265 x5.toNatClampNeg) = 1) → K 1 m9)) ∧ ((¬ r8 = 0) → vp_in x5 2400 ∧ ∀ m10 : Mem, m10 = wI m7 265 x5.toNatClampNeg 1 → vp_in x5 2400 ∧ ((¬ (m10.1 265 x5.toNatClampNeg) = 1) → K 0 m10) ∧ (((m10.1 265 x5.toNatClampNeg) = 1) → K 1 m10)))))) ∧ ((¬ x5 < 2400) → K 0 m1))
theorem kC_mayT (G : GP) (d : Nat) (R : Prop) (hR : R) (t l x w p P C k fr ti : Nat) (m : Mem) (a : Nat → Int32) (K : Int32 → Mem → Prop) (X : Nat → Nat → Int32) (r : RC m.1 0 a) (h : WF a) (ht : t < 4) (hx : x < tn (a 1)) (hw : w < tn (a 1)) (hp : p < 24) (hP : P ≤ 1000) (hl : l = if p = 0 then 2 else 1) (hL : LawAt X t l C k fr ti) (hv : lawV X t l (nmW (kdA a) (mnA a) x w P) = lawV X t l (nmW (kdA a) (mnA a) x w p)) (hX : ∀ q, 238 ≤ q → q ≤ 261 → m.1 q = X q) (hF : FDx R X t (tn (a 1)) (kdA a) (mnA a) (m.1 265)) (hK : ∀ m' : Mem, (∀ q, q ≠ 263 → q ≠ 264 → q ≠ 265 → m'.1 q = m.1 q) → FDx R X t (tn (a 1)) (kdA a) (mnA a) (m'.1 265) → K (b2 (lawV X t l (nmW (kdA a) (mnA a) x w P))) m') : MayT G d m K (238 + 6 * t) (nI x) (nI w) (nI P) (nI l) (nI ((p * 10 + x) * 10 + w)) := by
  have hnw := (h.nw.is (by omega)).2.2
  have hl2 : l = 1 ∨ l = 2 := by rw [hl]; split <;> omega
  unfold MayT
  rw [tn_nI (by omega)]
  refine ⟨fun q => absurd q (nI_pos (by omega)), fun _ => ⟨fun _ => ⟨in_nI (by omega) (by omega), fun q => ⟨in_nI (by omega) (by omega), ?_⟩, fun q => ?_⟩, fun q => absurd ((lt_nI (b := 2400) (by omega) (by omega)).mpr (by omega)) q⟩⟩
  · obtain ⟨-, g1, g2, -, g3⟩ := hF p x w hp (by omega) (by omega) q
    rw [← hl, ← hv] at g3
    have := hK m (fun _ _ _ _ => rfl) hF
    rw [g3]
    cases e : lawV X t l (nmW (kdA a) (mnA a) x w P) <;> rw [e] at this
    · exact ⟨fun _ => this, fun q2 => absurd q2 (by decide)⟩
    · exact ⟨fun q2 => absurd rfl q2, fun _ => this⟩
  · refine kC_namePair G (d + 1) x w P m _ (by omega) (by omega) ?_
    refine kC_saysN G d t l x w P C k fr ti m a _ X r h ht hl2 hx hw hP hL hX (fun m' f1 => ?_)
    have key : ∀ v : Int32, v = b12 (lawV X t l (nmW (kdA a) (mnA a) x w P)) → (∀ q, q ≠ 263 → q ≠ 264 → q ≠ 265 → (wI m' 265 ((p * 10 + x) * 10 + w) v).1 q = m.1 q) ∧ FDx R X t (tn (a 1)) (kdA a) (mnA a) ((wI m' 265 ((p * 10 + x) * 10 + w) v).1 265) := by
      intro v ev
      refine ⟨fun q q1 q2 q3 => by rw [wI_n _ _ _ q3, f1 q q1 q2], fun p' x' w' h1 h2 h3 h4 => ?_⟩
      rw [wI_s] at h4 ⊢
      by_cases e : (p' * 10 + x') * 10 + w' = (p * 10 + x) * 10 + w
      · have e1 : p' = p := by omega
        have e2 : x' = x := by omega
        have e3 : w' = w := by omega
        subst e1 e2 e3
        rw [upd_s, ev, hv, ← hl]
        exact ⟨hR, hx, hw, hL.has, rfl⟩
      · rw [upd_n _ _ e] at h4 ⊢
        rw [f1 265 (by omega) (by omega)] at h4 ⊢
        exact hF p' x' w' h1 h2 h3 h4
    cases e : lawV X t l (nmW (kdA a) (mnA a) x w P) <;> rw [e] at hK key
    · refine ⟨fun _ => ⟨in_nI (by omega) (by omega), ?_⟩, fun q2 => absurd rfl q2⟩
      rintro _ rfl
      refine ⟨in_nI (by omega) (by omega), fun _ => hK _ (key 2 rfl).1 (key 2 rfl).2, fun q2 => ?_⟩
      rw [wI_s, upd_s] at q2
      exact absurd q2 (by decide)
    · refine ⟨fun q2 => absurd q2 (by decide), fun _ => ⟨in_nI (by omega) (by omega), ?_⟩⟩
      rintro _ rfl
      refine ⟨in_nI (by omega) (by omega), fun q2 => ?_, fun _ => hK _ (key 1 rfl).1 (key 1 rfl).2⟩
      rw [wI_s, upd_s] at q2
      exact absurd rfl q2
