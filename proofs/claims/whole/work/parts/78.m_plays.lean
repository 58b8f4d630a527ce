/-- one clause, played -/
def PlR (X : Nat → Nat → Int32) (a : Nat → Int32) (s : Nat) (V : Nat → Int32) (Z : (Nat → Int32) × Bool) : Prop :=
  (s = 3 → ∃ z, BelR a (V 0) (V 1) (V 2) z ∧ Z = (z.1, decide (¬ z.2 = -1))) ∧
  (s = 4 → Z = (wordF a (tl4 (V 2) (V 3) (V 4) (V 5)) (V 0) (V 1), decide (¬ wordR a (tl4 (V 2) (V 3) (V 4) (V 5)) (V 0) (V 1) = -1))) ∧
  (s = 5 → ∃ z, RingR X a (V 0) z ∧ Z = (z.1, decide (¬ z.2 = -1))) ∧
  (s = 6 → ∃ z, SpkR X a (V 0) z ∧ Z = (z.1, decide (¬ z.2 = -1))) ∧
  (s = 7 → ∃ z, SetR a 8 (V 0) z ∧ Z = (z.1, decide (¬ z.2 = 0))) ∧
  (s = 8 → ∃ z, SetR a 9 (V 0) z ∧ Z = (z.1, decide (¬ z.2 = 0))) ∧
  (s = 9 → Z = ((hrs (tn (V 0)) a).1, decide (¬ (hrs (tn (V 0)) a).2 = 0))) ∧
  (s = 10 → Z = (sdF X (keepF a), true)) ∧
  (s < 3 → Z = (a, true))
theorem PlR.fn {X : Nat → Nat → Int32} {a : Nat → Int32} {s : Nat} {V : Nat → Int32} {Z Z' : (Nat → Int32) × Bool} (h : WF a) (hs : s ≤ 10) (p : PlR X a s V Z) (q : PlR X a s V Z') : Z = Z' := by
  obtain ⟨p3, p4, p5, p6, p7, p8, p9, p10, p0⟩ := p
  obtain ⟨q3, q4, q5, q6, q7, q8, q9, q10, q0⟩ := q
  have : s < 3 ∨ s = 3 ∨ s = 4 ∨ s = 5 ∨ s = 6 ∨ s = 7 ∨ s = 8 ∨ s = 9 ∨ s = 10 := by omega
  rcases this with e | e | e | e | e | e | e | e | e
  · rw [p0 e, q0 e]
  · obtain ⟨z, z1, z2⟩ := p3 e
    obtain ⟨y, y1, y2⟩ := q3 e
    have := z1.fn y1
    subst this
    rw [z2, y2]
  · rw [p4 e, q4 e]
  · obtain ⟨z, z1, z2⟩ := p5 e
    obtain ⟨y, y1, y2⟩ := q5 e
    have := z1.fn h y1
    subst this
    rw [z2, y2]
  · obtain ⟨z, z1, z2⟩ := p6 e
    obtain ⟨y, y1, y2⟩ := q6 e
    have := z1.fn h y1
    subst this
    rw [z2, y2]
  · obtain ⟨z, z1, z2⟩ := p7 e
    obtain ⟨y, y1, y2⟩ := q7 e
    have := z1.fn y1
    subst this
    rw [z2, y2]
  · obtain ⟨z, z1, z2⟩ := p8 e
    obtain ⟨y, y1, y2⟩ := q8 e
    have := z1.fn y1
    subst this
    rw [z2, y2]
  · rw [p9 e, q9 e]
  · rw [p10 e, q10 e]
theorem RingR.non {X : Nat → Nat → Int32} {a : Nat → Int32} {x : Int32} {z : (Nat → Int32) × Int32} (p : RingR X a x z) : NoN z.2 := by
  rcases p with ⟨b, q1, q2, q3, rfl⟩ | ⟨p1, rfl⟩
  · show NoN (b2 _)
    cases ovN X (keepF a) b
    · exact Or.inr ⟨0, by omega, rfl⟩
    · exact Or.inr ⟨1, by omega, rfl⟩
  · exact Or.inl rfl
theorem SpkR.non {X : Nat → Nat → Int32} {a : Nat → Int32} (h : WF a) {x : Int32} {z : (Nat → Int32) × Int32} (p : SpkR X a x z) : NoN z.2 := by
  rcases p with ⟨b, b1, b2, b3, rfl⟩ | ⟨p1, rfl⟩
  · obtain ⟨k1, k2⟩ := okW_keep h b1 b3
    have hI := say_fin (X := X) h.keep k1 k2
    have := hI.2.2.2
    exact Or.inr ⟨_, by omega, rfl⟩
  · exact Or.inl rfl
theorem PlR.ok {X : Nat → Nat → Int32} {a : Nat → Int32} {s : Nat} {V : Nat → Int32} {Z : (Nat → Int32) × Bool} (h : WF a) (hb : tn (a 13) < 30000) (hs : s ≤ 10) (p : PlR X a s V Z) : WF Z.1 ∧ GrW a Z.1 ∧ tn (Z.1 13) ≤ tn (a 13) + 1 := by
  obtain ⟨p3, p4, p5, p6, p7, p8, p9, p10, p0⟩ := p
  have : s < 3 ∨ s = 3 ∨ s = 4 ∨ s = 5 ∨ s = 6 ∨ s = 7 ∨ s = 8 ∨ s = 9 ∨ s = 10 := by omega
  rcases this with e | e | e | e | e | e | e | e | e
  · rw [p0 e]
    exact ⟨h, (GrS.rf a).w h, by show tn (a 13) ≤ _; omega⟩
  · obtain ⟨z, z1, rfl⟩ := p3 e
    obtain ⟨o1, o2, o3, o4⟩ := z1.ok h
    exact ⟨o1, o2, by rw [o3]; omega⟩
  · rw [p4 e]
    obtain ⟨o1, o2, o3, o4⟩ := word_ok (t := tl4 (V 2) (V 3) (V 4) (V 5)) (kd := V 0) (mn := V 1) h
    exact ⟨o1, o2, by show tn (wordF a (tl4 (V 2) (V 3) (V 4) (V 5)) (V 0) (V 1) 13) ≤ _; rw [o3]; omega⟩
  · obtain ⟨z, z1, rfl⟩ := p5 e
    obtain ⟨o1, o2, o3⟩ := z1.ok h
    exact ⟨o1, o2.w h, by rw [o3]; omega⟩
  · obtain ⟨z, z1, rfl⟩ := p6 e
    obtain ⟨o1, o2, o3⟩ := z1.ok h
    exact ⟨o1, o2.w h, by rw [o3]; omega⟩
  · obtain ⟨z, z1, rfl⟩ := p7 e
    obtain ⟨o1, o2, o3, -⟩ := z1.ok h (Or.inl rfl)
    exact ⟨o1, o2.w h, by rw [o3]; omega⟩
  · obtain ⟨z, z1, rfl⟩ := p8 e
    obtain ⟨o1, o2, o3, -⟩ := z1.ok h (Or.inr rfl)
    exact ⟨o1, o2.w h, by rw [o3]; omega⟩
  · rw [p9 e]
    exact ⟨hrs_WF _ a h, (hrs_gr _ h).1.w h, by rw [(hrs_gr _ h).2]; omega⟩
  · rw [p10 e]
    have ho := okS_keep h hb
    refine ⟨h.keep.sun _ ho.2 ho.1, ((keep_gr h).tr (sun_gr _ _)).w h, ?_⟩
    show tn (sunF (keepF a) (nI (VV X (keepF a) true 0 10 0)) 13) ≤ _
    rw [sunF_13, keep_i h (by omega) (by omega), show tn (nI (tn (a 13) + 1)) = tn (a 13) + 1 from tn_nI (by omega)]
    omega
/-- the class: what is told -/
theorem kC_told (G : GP) (d : Nat) (t k i C : Nat) (m : Mem) (K : Int32 → Mem → Prop) (ht : t < 4) (hC : C ≤ 24) (hk : k < C) (hi : i < 6) (e : m.1 (238 + 6 * t) 0 = nI C) (hK : K (m.1 (238 + 6 * t + 2) (6 * k + i)) m) : Evi G (d + 1) mX8_told [.ref (ga G (238 + 6 * t)), .int (nI k), .int (nI i)] m K := by
  have ix : nI k * 6 + nI i = nI (6 * k + i) := by rw [show (6 : Int32) = nI 6 from rfl, pk_mul, nI_add, Nat.mul_comm]
  refine vX8_told G d (238 + 6 * t) (tx_all t ht) (nI k) (nI i) m K ?_
  rw [e, ix, tn_nI (by omega)]
  exact ⟨fun q => absurd q (nI_pos (by omega)), fun _ => ⟨fun q => by rw [le_nI (by omega) (by omega)] at q; omega, fun _ => ⟨fun _ => ⟨in_nI (by omega) (by omega), hK⟩, fun q => absurd ((oneC_nI (n := 5) (by omega)).mpr ⟨i, by omega, rfl⟩) q⟩⟩⟩
theorem kC_what (G : GP) (d : Nat) (t k C : Nat) (m : Mem) (K : Int32 → Mem → Prop) (ht : t < 4) (hC : C ≤ 24) (hk : k < C) (e : m.1 (238 + 6 * t) 0 = nI C) (hK : K (m.1 (238 + 6 * t + 1) k) m) : Evi G d mX8_what [.ref (ga G (238 + 6 * t)), .int (nI k)] m K := by
  refine vX8_what G d (238 + 6 * t) (tx_all t ht) (nI k) m K ?_
  rw [e, tn_nI (by omega)]
  exact ⟨fun q => absurd q (nI_pos (by omega)), fun _ => ⟨fun q => by rw [le_nI (by omega) (by omega)] at q; omega, fun _ => ⟨in_nI (by omega) (by omega), hK⟩⟩⟩
abbrev clS (X : Nat → Nat → Int32) (t k : Nat) : Nat := tn (X 276 (801 * t + 1 + 8 * k))
abbrev clV (X : Nat → Nat → Int32) (t k : Nat) : Nat → Int32 := fun i => X 276 (801 * t + 2 + 8 * k + i)
theorem kP_plays (G : GP) (d : Nat) (X : Nat → Nat → Int32) (t k C : Nat) (m : Mem) (a : Nat → Int32) (K : Int32 → Mem → Prop) (h : St X m a) (ht : t < 4) (hC : C ≤ 24) (hk : k < C) (e : X (238 + 6 * t) 0 = nI C) (hc : ClAt X t k) (hb : tn (a 13) < 30000) (hK : ∀ (m' : Mem) (Z : (Nat → Int32) × Bool), PlR X a (clS X t k) (clV X t k) Z → St X m' Z.1 → FrP m.1 m'.1 → K (b2 Z.2) m') : Evi G (d + 6) mX11_plays [.ref (ga G 0), .ref (ga G (238 + 6 * t)), .int (nI k)] m K := by
  obtain ⟨s, s1, s2, s3, s4, s5⟩ := hc
  have es : clS X t k = s := by show tn (X 276 (801 * t + 1 + 8 * k)) = s; rw [s2]; exact tn_nI (by omega)
  rw [es] at hK
  have gX : ∀ q, 238 ≤ q → q ≤ 261 → m.1 q = X q := h.2.2.1
  have e0 : m.1 (238 + 6 * t) 0 = nI C := by rw [gX _ (by omega) (by omega)]; exact e
  have g2 : m.1 (238 + 6 * t + 2) = X (238 + 6 * t + 2) := gX _ (by omega) (by omega)
  have g1 : m.1 (238 + 6 * t + 1) = X (238 + 6 * t + 1) := gX _ (by omega) (by omega)
  have T : ∀ (i : Nat) (K : Int32 → Mem → Prop), i < 6 → K (X (238 + 6 * t + 2) (6 * k + i)) m → Evi G (d + 5) mX8_told [.ref (ga G (238 + 6 * t)), .int (nI k), .int (nI i)] m K := fun i K hi hK => kC_told G (d + 4) t k i C m K ht hC hk hi e0 (by rw [g2]; exact hK)
  have V : ∀ i, 3 ≤ s → i < ar s → X (238 + 6 * t + 2) (6 * k + i) = clV X t k i := fun i h3 hi => s4 h3 i hi
  refine vX11_plays G d (238 + 6 * t) (tx_all t ht) (nI k) m K (T 0 _ (by omega) (kC_what G (d + 5) t k C m _ ht hC hk e0 ?_))
  rw [g1, s3]
  have ne : ∀ z : Nat, z < 200 → (nI (100 + s) = nI z ↔ 100 + s = z) := fun z hz => eq_nI (by omega) (by omega)
  have yn : ∀ (r : Int32) (m' : Mem) (a' : Nat → Int32) (n : Int32), (r = n ∨ ¬ r = n) → PlR X a s (clV X t k) (a', decide (¬ r = n)) → St X m' a' → FrP m.1 m'.1 → ((r = n) → K 0 m') ∧ ((¬ r = n) → K 1 m') := by
    intro r m' a' n _ hP hS hF
    refine ⟨fun q => ?_, fun q => ?_⟩
    · rw [decide_eq_false (fun z => z q)] at hP
      exact hK m' _ hP hS hF
    · rw [decide_eq_true q] at hP
      exact hK m' _ hP hS hF
  have z1 : ∀ (r : Int32) (m' : Mem) (a' : Nat → Int32), (r = 0 ∨ r = 1) → PlR X a s (clV X t k) (a', decide (¬ r = 0)) → St X m' a' → FrP m.1 m'.1 → (r = 0 ∨ r = 1) ∧ K r m' := by
    intro r m' a' hr hP hS hF
    refine ⟨hr, ?_⟩
    rcases hr with rfl | rfl
    · exact hK m' _ hP hS hF
    · exact hK m' _ hP hS hF
  have P : ∀ (j : Nat), s = j → ∀ Z, ((j = 3 → ∃ z, BelR a (clV X t k 0) (clV X t k 1) (clV X t k 2) z ∧ Z = (z.1, decide (¬ z.2 = -1))) ∧ (j = 4 → Z = (wordF a (tl4 (clV X t k 2) (clV X t k 3) (clV X t k 4) (clV X t k 5)) (clV X t k 0) (clV X t k 1), decide (¬ wordR a (tl4 (clV X t k 2) (clV X t k 3) (clV X t k 4) (clV X t k 5)) (clV X t k 0) (clV X t k 1) = -1))) ∧ (j = 5 → ∃ z, RingR X a (clV X t k 0) z ∧ Z = (z.1, decide (¬ z.2 = -1))) ∧ (j = 6 → ∃ z, SpkR X a (clV X t k 0) z ∧ Z = (z.1, decide (¬ z.2 = -1))) ∧ (j = 7 → ∃ z, SetR a 8 (clV X t k 0) z ∧ Z = (z.1, decide (¬ z.2 = 0))) ∧ (j = 8 → ∃ z, SetR a 9 (clV X t k 0) z ∧ Z = (z.1, decide (¬ z.2 = 0))) ∧ (j = 9 → Z = ((hrs (tn (clV X t k 0)) a).1, decide (¬ (hrs (tn (clV X t k 0)) a).2 = 0))) ∧ (j = 10 → Z = (sdF X (keepF a), true)) ∧ (j < 3 → Z = (a, true))) → PlR X a s (clV X t k) Z := by
    intro j hj Z hZ
    subst hj
    exact hZ
  refine ⟨fun q => ?_, fun q => ?_, fun q => ?_, fun q => ?_, fun q => ?_, fun q => ?_, fun q => ?_, fun q => ?_, fun q => ?_⟩
  · have q : s = 3 := by have := (ne 103 (by omega)).mp q; omega
    refine T 1 _ (by omega) (T 2 _ (by omega) ?_)
    rw [V 0 (by omega) (by rw [q]; decide), V 1 (by omega) (by rw [q]; decide), V 2 (by omega) (by rw [q]; decide)]
    refine kP_bell G (d + 3) X _ _ _ m a _ h (fun m' Z B S F => ?_)
    exact yn Z.2 m' Z.1 (-1) (Classical.em _) (P 3 q _ ⟨fun _ => ⟨Z, B, rfl⟩, fun z => by omega, fun z => by omega, fun z => by omega, fun z => by omega, fun z => by omega, fun z => by omega, fun z => by omega, fun z => by omega⟩) S F
  · have q : s = 4 := by have := (ne 104 (by omega)).mp q; omega
    refine T 2 _ (by omega) (T 3 _ (by omega) (T 4 _ (by omega) (T 5 _ (by omega) (T 1 _ (by omega) ?_))))
    rw [V 0 (by omega) (by rw [q]; decide), V 1 (by omega) (by rw [q]; decide), V 2 (by omega) (by rw [q]; decide), V 3 (by omega) (by rw [q]; decide), V 4 (by omega) (by rw [q]; decide), V 5 (by omega) (by rw [q]; decide)]
    refine kP_word G (d + 3) X _ _ _ _ _ _ m a _ h (fun m' S F => ?_)
    exact yn _ m' _ (-1) (Classical.em _) (P 4 q _ ⟨fun z => by omega, fun _ => rfl, fun z => by omega, fun z => by omega, fun z => by omega, fun z => by omega, fun z => by omega, fun z => by omega, fun z => by omega⟩) S F
  · have q : s = 5 := by have := (ne 105 (by omega)).mp q; omega
    rw [V 0 (by omega) (by rw [q]; decide)]
    refine kP_ring G d X _ m a _ h (fun m' Z B S F => ?_)
    exact yn Z.2 m' Z.1 (-1) (Classical.em _) (P 5 q _ ⟨fun z => by omega, fun z => by omega, fun _ => ⟨Z, B, rfl⟩, fun z => by omega, fun z => by omega, fun z => by omega, fun z => by omega, fun z => by omega, fun z => by omega⟩) S F
  · have q : s = 6 := by have := (ne 106 (by omega)).mp q; omega
    rw [V 0 (by omega) (by rw [q]; decide)]
    refine kP_speak G d X _ m a _ h (fun m' Z B S F => ?_)
    exact yn Z.2 m' Z.1 (-1) (Classical.em _) (P 6 q _ ⟨fun z => by omega, fun z => by omega, fun z => by omega, fun _ => ⟨Z, B, rfl⟩, fun z => by omega, fun z => by omega, fun z => by omega, fun z => by omega, fun z => by omega⟩) S F
  · have q : s = 7 := by have := (ne 107 (by omega)).mp q; omega
    rw [V 0 (by omega) (by rw [q]; decide)]
    refine kP_set G (d + 1) X 0 _ 8 (Or.inl ⟨rfl, rfl⟩) m a _ h (fun m' Z B S F => ?_)
    exact z1 Z.2 m' Z.1 (B.ok h.2.1 (Or.inl rfl)).2.2.2 (P 7 q _ ⟨fun z => by omega, fun z => by omega, fun z => by omega, fun z => by omega, fun _ => ⟨Z, B, rfl⟩, fun z => by omega, fun z => by omega, fun z => by omega, fun z => by omega⟩) S F
  · have q : s = 8 := by have := (ne 108 (by omega)).mp q; omega
    rw [V 0 (by omega) (by rw [q]; decide)]
    refine kP_set G (d + 1) X 1 _ 9 (Or.inr ⟨by decide, rfl⟩) m a _ h (fun m' Z B S F => ?_)
    exact z1 Z.2 m' Z.1 (B.ok h.2.1 (Or.inr rfl)).2.2.2 (P 8 q _ ⟨fun z => by omega, fun z => by omega, fun z => by omega, fun z => by omega, fun z => by omega, fun _ => ⟨Z, B, rfl⟩, fun z => by omega, fun z => by omega, fun z => by omega⟩) S F
  · have q : s = 9 := by have := (ne 109 (by omega)).mp q; omega
    obtain ⟨n, n1, n60, en⟩ := s5 q
    have ev : clV X t k 0 = nI n := en
    rw [V 0 (by omega) (by rw [q]; decide), ev]
    refine kC_hours G (d + 1) n (by omega) _ m a h.1 h.2.1 (fun m' r' f' => ?_)
    have S : St X m' (hrs n a).1 := h.go r' (hrs_WF n a h.2.1) (hrs_gr n h.2.1).1 f'.p (f' 265 (by omega))
    refine z1 _ m' _ (hrs_01 n a) (P 9 q _ ⟨fun z => by omega, fun z => by omega, fun z => by omega, fun z => by omega, fun z => by omega, fun z => by omega, fun _ => ?_, fun z => by omega, fun z => by omega⟩) S f'.p
    rw [ev, show tn (nI n) = n from tn_nI (by omega)]
  · have q : s = 10 := by have := (ne 110 (by omega)).mp q; omega
    refine kP_keep G (d + 2) X m a _ h (fun m1 s1 f1 => ?_)
    refine kP_sun G d X m1 (keepF a) _ s1 (okS_keep h.2.1 hb) (fun m2 s2 f2 => ?_)
    exact hK m2 (sdF X (keepF a), true) (P 10 q _ ⟨fun z => by omega, fun z => by omega, fun z => by omega, fun z => by omega, fun z => by omega, fun z => by omega, fun z => by omega, fun _ => rfl, fun z => by omega⟩) s2 (f1.tr f2)
  · obtain ⟨q3, q4, q5, q6, q7, q8, q9, q10⟩ := q
    have n : ∀ z : Nat, ¬ nI (100 + s) = nI z → ¬ 100 + s = z := fun z h1 h2 => h1 (by rw [h2])
    have q : s < 3 := by
      have := n 103 q3; have := n 104 q4; have := n 105 q5; have := n 106 q6; have := n 107 q7; have := n 108 q8; have := n 109 q9; have := n 110 q10
      omega
    exact hK m (a, true) ⟨fun z => by omega, fun z => by omega, fun z => by omega, fun z => by omega, fun z => by omega, fun z => by omega, fun z => by omega, fun z => by omega, fun _ => rfl⟩ h (FrP.rf _)
theorem qP_plays (G : GP) (d : Nat) (X : Nat → Nat → Int32) (t k : Nat) (m : Mem) (a : Nat → Int32) (K : Int32 → Mem → Prop) (h : Mo X m a) (ht : t < 4) (hk : k < 24) (hc : ClAt X t k) (hb : tn (a 13) < 30000) (hK : ∀ (m' : Mem) (Z : (Nat → Int32) × Bool), PlR X a (clS X t k) (clV X t k) Z → Mo X m' Z.1 → FrM m.1 m'.1 → K (b2 Z.2) m') : Evi G (d + 10) mX12_isPlayed [.ref (ga G 273), .int (nI (801 * t + 1 + 8 * k))] m K := by
  obtain ⟨s, s1, s2, s3, s4, s5⟩ := hc
  have hW := h.2.1
  have e6 : m.1 276 = X 276 := h.2.2.1
  have es : clS X t k = s := by show tn (X 276 (801 * t + 1 + 8 * k)) = s; rw [s2]; exact tn_nI (by omega)
  rw [es] at hK
  have ix : ∀ i : Nat, nI (801 * t + 1 + 8 * k) + nI i = nI (801 * t + 1 + 8 * k + i) := fun i => nI_add _ _
  have vx : ∀ i, i < 7 → vp_in (nI (801 * t + 1 + 8 * k + i)) 3204 := fun i hi => in_nI (by omega) (by omega)
  have vl : ∀ i, i < 6 → X 276 (801 * t + 1 + 8 * k + (i + 1)) = clV X t k i := fun i hi => by
    show _ = X 276 (801 * t + 2 + 8 * k + i)
    rw [show 801 * t + 1 + 8 * k + (i + 1) = 801 * t + 2 + 8 * k + i by omega]
  refine vX12_isPlayed G d (nI (801 * t + 1 + 8 * k)) m K ?_
  rw [e6, show nI (801 * t + 1 + 8 * k) + 1 = nI (801 * t + 1 + 8 * k + 1) from ix 1, show nI (801 * t + 1 + 8 * k) + 2 = nI (801 * t + 1 + 8 * k + 2) from ix 2, show nI (801 * t + 1 + 8 * k) + 3 = nI (801 * t + 1 + 8 * k + 3) from ix 3, show nI (801 * t + 1 + 8 * k) + 4 = nI (801 * t + 1 + 8 * k + 4) from ix 4, show nI (801 * t + 1 + 8 * k) + 5 = nI (801 * t + 1 + 8 * k + 5) from ix 5, show nI (801 * t + 1 + 8 * k) + 6 = nI (801 * t + 1 + 8 * k + 6) from ix 6]
  rw [tn_nI (n := 801 * t + 1 + 8 * k + 1) (by omega), tn_nI (n := 801 * t + 1 + 8 * k + 2) (by omega), tn_nI (n := 801 * t + 1 + 8 * k + 3) (by omega), tn_nI (n := 801 * t + 1 + 8 * k + 4) (by omega), tn_nI (n := 801 * t + 1 + 8 * k + 5) (by omega), tn_nI (n := 801 * t + 1 + 8 * k + 6) (by omega), tn_nI (n := 801 * t + 1 + 8 * k) (by omega), s2]
  refine ⟨vx 1 (by omega), ?_⟩
  rintro _ rfl
  rw [vl 0 (by omega), show X 276 (801 * t + 1 + 8 * k + 2) = clV X t k 1 from vl 1 (by omega), show X 276 (801 * t + 1 + 8 * k + 3) = clV X t k 2 from vl 2 (by omega), show X 276 (801 * t + 1 + 8 * k + 4) = clV X t k 3 from vl 3 (by omega), show X 276 (801 * t + 1 + 8 * k + 5) = clV X t k 4 from vl 4 (by omega), show X 276 (801 * t + 1 + 8 * k + 6) = clV X t k 5 from vl 5 (by omega)]
  have ne : ∀ z : Nat, z < 200 → (nI s = nI z ↔ s = z) := fun z hz => eq_nI (by omega) (by omega)
  have yn : ∀ (r : Int32) (m' : Mem) (a' : Nat → Int32), NoN r → PlR X a s (clV X t k) (a', decide (¬ r = -1)) → Mo X m' a' → FrM m.1 m'.1 → ((r < 0) → K 0 m') ∧ ((¬ r < 0) → K 1 m') := by
    intro r m' a' hr hP hS hF
    rw [hr.lt]
    refine ⟨fun q => ?_, fun q => ?_⟩
    · rw [decide_eq_false (fun z => z q)] at hP
      exact hK m' _ hP hS hF
    · rw [decide_eq_true q] at hP
      exact hK m' _ hP hS hF
  have z1 : ∀ (r : Int32) (m' : Mem) (a' : Nat → Int32), (r = 0 ∨ r = 1) → PlR X a s (clV X t k) (a', decide (¬ r = 0)) → Mo X m' a' → FrM m.1 m'.1 → (r = 0 ∨ r = 1) ∧ K r m' := by
    intro r m' a' hr hP hS hF
    refine ⟨hr, ?_⟩
    rcases hr with rfl | rfl
    · exact hK m' _ hP hS hF
    · exact hK m' _ hP hS hF
  refine ⟨in_nI (by omega) (by omega), fun q => ?_, fun q => ?_, fun q => ?_, fun q => ?_, fun q => ?_, fun q => ?_, fun q => ?_, fun q => ?_, fun q => ?_⟩
  · have q := (ne 3 (by omega)).mp q
    subst q
    refine ⟨vx 2 (by omega), vx 3 (by omega), qP_bell G (d + 8) X _ _ _ m a _ h (fun m' Z B S F => ?_)⟩
    exact yn Z.2 m' Z.1 (B.ok hW).2.2.2 ⟨fun _ => ⟨Z, B, rfl⟩, fun z => by omega, fun z => by omega, fun z => by omega, fun z => by omega, fun z => by omega, fun z => by omega, fun z => by omega, fun z => by omega⟩ S F
  · have q := (ne 4 (by omega)).mp q
    subst q
    refine ⟨vx 3 (by omega), vx 4 (by omega), vx 5 (by omega), vx 6 (by omega), vx 2 (by omega), qP_word G (d + 6) X _ _ _ _ _ _ m a _ h (fun m' S F => ?_)⟩
    exact yn _ m' _ (word_ok hW).2.2.2 ⟨fun z => by omega, fun _ => rfl, fun z => by omega, fun z => by omega, fun z => by omega, fun z => by omega, fun z => by omega, fun z => by omega, fun z => by omega⟩ S F
  · have q := (ne 5 (by omega)).mp q
    subst q
    refine qP_ring G (d + 3) X _ m a _ h (fun m' Z B S F => ?_)
    exact yn Z.2 m' Z.1 B.non ⟨fun z => by omega, fun z => by omega, fun _ => ⟨Z, B, rfl⟩, fun z => by omega, fun z => by omega, fun z => by omega, fun z => by omega, fun z => by omega, fun z => by omega⟩ S F
  · have q := (ne 6 (by omega)).mp q
    subst q
    refine qP_speak G (d + 2) X _ m a _ h (fun m' Z B S F => ?_)
    exact yn Z.2 m' Z.1 (B.non hW) ⟨fun z => by omega, fun z => by omega, fun z => by omega, fun _ => ⟨Z, B, rfl⟩, fun z => by omega, fun z => by omega, fun z => by omega, fun z => by omega, fun z => by omega⟩ S F
  · have q := (ne 7 (by omega)).mp q
    subst q
    refine qP_set G (d + 8) X 0 _ 8 (Or.inl ⟨rfl, rfl⟩) m a _ h (fun m' Z B S F => ?_)
    exact z1 Z.2 m' Z.1 (B.ok hW (Or.inl rfl)).2.2.2 ⟨fun z => by omega, fun z => by omega, fun z => by omega, fun z => by omega, fun _ => ⟨Z, B, rfl⟩, fun z => by omega, fun z => by omega, fun z => by omega, fun z => by omega⟩ S F
  · have q := (ne 8 (by omega)).mp q
    subst q
    refine qP_set G (d + 8) X 1 _ 9 (Or.inr ⟨by decide, rfl⟩) m a _ h (fun m' Z B S F => ?_)
    exact z1 Z.2 m' Z.1 (B.ok hW (Or.inr rfl)).2.2.2 ⟨fun z => by omega, fun z => by omega, fun z => by omega, fun z => by omega, fun z => by omega, fun _ => ⟨Z, B, rfl⟩, fun z => by omega, fun z => by omega, fun z => by omega⟩ S F
  · have q := (ne 9 (by omega)).mp q
    subst q
    obtain ⟨n, n1, n60, en⟩ := s5 rfl
    have ev : clV X t k 0 = nI n := en
    have ea := h.1
    rw [ev]
    refine qX12_hours G (d + 6) n (by omega) _ m (by rw [ea]; exact hW) ?_
    rw [ea]
    have f' : FrM m.1 (wA m 274 (hrs n a).1).1 := fun c h1 _ => wA_n _ _ h1
    refine z1 _ _ _ (hrs_01 n a) ⟨fun z => by omega, fun z => by omega, fun z => by omega, fun z => by omega, fun z => by omega, fun z => by omega, fun _ => ?_, fun z => by omega, fun z => by omega⟩ (h.go (wA_s _ _ _) (hrs_WF n a hW) (hrs_gr n hW).1.2.1 f') f'
    rw [ev, show tn (nI n) = n from tn_nI (by omega)]
  · have q := (ne 10 (by omega)).mp q
    subst q
    refine vX12_sunday G d m _ ?_
    refine qP_keep G (d + 8) X m a _ h (fun m1 s1 f1 => ?_)
    refine qP_sun G d X m1 (keepF a) _ s1 (okS_keep hW hb) (fun m2 s2 f2 => ?_)
    have hle := VV_le X (keepF a) true hW.keep 0 10 0 (Nat.zero_le _)
    refine ⟨fun z => absurd z (nI_pos (by omega)), fun _ => ?_⟩
    exact hK m2 (sdF X (keepF a), true) ⟨fun z => by omega, fun z => by omega, fun z => by omega, fun z => by omega, fun z => by omega, fun z => by omega, fun z => by omega, fun _ => rfl, fun z => by omega⟩ s2 (f1.tr f2)
  · obtain ⟨q3, q4, q5, q6, q7, q8, q9, q10⟩ := q
    have n : ∀ z : Nat, ¬ nI s = nI z → ¬ s = z := fun z h1 h2 => h1 (by rw [h2])
    have q : s < 3 := by
      have := n 3 q3; have := n 4 q4; have := n 5 q5; have := n 6 q6; have := n 7 q7; have := n 8 q8; have := n 9 q9; have := n 10 q10
      omega
    exact hK m (a, true) ⟨fun z => by omega, fun z => by omega, fun z => by omega, fun z => by omega, fun z => by omega, fun z => by omega, fun z => by omega, fun z => by omega, fun _ => rfl⟩ h (FrM.rf _)
/-- the clauses from k on -/
def PydR (X : Nat → Nat → Int32) (t : Nat) : Nat → Nat → (Nat → Int32) → (Nat → Int32) × Int32 → Prop
  | 0, _, a, z => z = (a, -1)
  | N + 1, k, a, z => ∃ Z, PlR X a (clS X t k) (clV X t k) Z ∧ ((Z.2 = true ∧ PydR X t N (k + 1) Z.1 z) ∨ (Z.2 = false ∧ z = (Z.1, nI k)))
theorem PydR.fn {X : Nat → Nat → Int32} {t C : Nat} (hc : ∀ k, k < C → clS X t k ≤ 10) : ∀ {N k : Nat} {a : Nat → Int32} {z z' : (Nat → Int32) × Int32}, k + N = C → WF a → tn (a 13) + N < 30000 → PydR X t N k a z → PydR X t N k a z' → z = z'
  | 0, _, _, _, _, _, _, _, h, h' => h.trans h'.symm
  | N + 1, k, a, z, z', hk, hW, hb, ⟨Z, h1, h2⟩, ⟨Z', k1, k2⟩ => by
    have := h1.fn hW (hc k (by omega)) k1
    subst this
    obtain ⟨o1, o2, o3⟩ := h1.ok hW (by omega) (hc k (by omega))
    rcases h2 with ⟨a1, a2⟩ | ⟨a1, a2⟩ <;> rcases k2 with ⟨b1, b2⟩ | ⟨b1, b2⟩
    · exact PydR.fn hc (by omega) o1 (by omega) a2 b2
    · rw [a1] at b1; cases b1
    · rw [a1] at b1; cases b1
    · rw [a2, b2]
theorem PydR.ok {X : Nat → Nat → Int32} {t C : Nat} (hc : ∀ k, k < C → clS X t k ≤ 10) : ∀ {N k : Nat} {a : Nat → Int32} {z : (Nat → Int32) × Int32}, k + N = C → WF a → tn (a 13) + N < 30000 → PydR X t N k a z → WF z.1 ∧ GrW a z.1 ∧ tn (z.1 13) ≤ tn (a 13) + N
  | 0, _, a, _, _, hW, _, h => by
    rw [show _ = _ from h]
    exact ⟨hW, (GrS.rf a).w hW, by show tn (a 13) ≤ _; omega⟩
  | N + 1, k, a, z, hk, hW, hb, ⟨Z, h1, h2⟩ => by
    obtain ⟨o1, o2, o3⟩ := h1.ok hW (by omega) (hc k (by omega))
    rcases h2 with ⟨a1, a2⟩ | ⟨a1, rfl⟩
    · obtain ⟨p1, p2, p3⟩ := PydR.ok hc (by omega) o1 (by omega) a2
      exact ⟨p1, o2.tr p2, by omega⟩
    · exact ⟨o1, o2, by show tn (Z.1 13) ≤ _; omega⟩
theorem case_played (G : GP) (d : Nat) {n : Nat} (hn : n < 700) (a0 : Int32) (m : Mem) (h : Inv TXc n m.1) : Evi G (d + 7) mX11_played [.ref (ga G 0), .int a0] m (Same G TXc n (d + 11) mX12_played [.int a0]) := by
  have h13 := h.2.2.2.2.2.2.2.1
  have hR := h.2.2.1
  have hW := h.1
  obtain ⟨t1, -, t3⟩ := hW.nt.is (by omega)
  have e5 : m.1 1 5 = nI (tn (m.1 274 2)) := (show m.1 1 5 = m.1 274 2 from hR.nt).trans t1
  refine vX11_played G d a0 m _ ?_
  rw [e5, one_nI (by omega)]
  refine ⟨?_, fun q => ?_⟩
  · rintro ⟨t, ht, rfl⟩
    refine ⟨in_nI (by omega) (by omega), ?_⟩
    rw [tn_nI (by omega)]
    rintro _ rfl
    have hTT := h.tt t ht
    obtain ⟨C, c1, c2, c3, c4, -⟩ := id hTT
    have hc : ∀ k, k < C → clS m.1 t k ≤ 10 := fun k hk => by
      obtain ⟨s, s1, s2, -⟩ := c4 k hk
      show tn (m.1 276 (801 * t + 1 + 8 * k)) ≤ 10
      rw [s2, show tn (nI s) = s from tn_nI (by omega)]
      exact s1
    have model : ∀ (m1 : Mem) (z : (Nat → Int32) × Int32), PydR m.1 t C 0 (m.1 274) z → St m.1 m1 z.1 → FrP m.1 m1.1 → Same G TXc n (d + 11) mX12_played [.int (nI t)] z.2 m1 := by
      intro m1 z hz s1 f1
      have g4 : m1.1 274 = m.1 274 := f1 274 (by omega) (by unfold Scr; omega) (by omega)
      refine vX12_played G d (nI t) m1 _ ?_
      rw [g4, t1, oneM_nI (by omega)]
      refine ⟨fun _ => ?_, fun q => absurd ⟨t, ht, rfl⟩ q⟩
      obtain ⟨z1, z2, z3⟩ := hz.ok hc (by omega) hW (by omega)
      have eT : (801 : Int32) * nI t = nI (801 * t) := pk_mul 801 t
      have run : ∀ (N k : Nat) (a : Nat → Int32) (m2 : Mem), k + N = C → WF a → tn (a 13) + N < 30000 → Mo m.1 m2 a → FrM m1.1 m2.1 → (∀ z', PydR m.1 t N k a z' → PydR m.1 t C 0 (m.1 274) z') → Gw G (d + 11) mX12_played 21 [.ref (ga G 273), .int (nI t), .int (nI k)] [] m2 (Qi (fun r' m2 => z.2 = r' ∧ Inv TXc (n + 1) m2.1)) := by
        intro N
        induction N with
        | zero =>
          intro k a m2 hk hWa hba s2 f2 hP
          refine vX12_played_21 G d (nI t) (nI k) m2 _ ?_
          rw [eT, tn_nI (by omega), s2.2.2.1, c3]
          refine ⟨in_nI (by omega) (by omega), fun _ => ?_, fun q => absurd ((le_nI (by omega) (by omega)).mpr (by omega)) q⟩
          have := hz.fn hc (by omega) hW (by omega) (hP (a, -1) rfl)
          subst this
          exact ⟨rfl, h.fin s1 f1 s2 f2 z2.1 (by omega)⟩
        | succ N ih =>
          intro k a m2 hk hWa hba s2 f2 hP
          refine vX12_played_21 G d (nI t) (nI k) m2 _ ?_
          have eX : nI (801 * t) + 1 + 8 * nI k = nI (801 * t + 1 + 8 * k) := by rw [show (8 : Int32) = nI 8 from rfl, pk_mul, nI_1, nI_add]
          rw [eT, eX, tn_nI (by omega), s2.2.2.1, c3]
          refine ⟨in_nI (by omega) (by omega), fun q => by rw [le_nI (by omega) (by omega)] at q; omega, fun _ => ?_⟩
          refine qP_plays G d m.1 t k m2 a _ s2 (by omega) (by omega) (c4 k (by omega)) (by omega) (fun m3 Z hZ s3 f3 => ?_)
          obtain ⟨o1, o2, o3⟩ := hZ.ok hWa (by omega) (hc k (by omega))
          cases hb : Z.2
          · refine ⟨fun q => absurd rfl q, fun _ => ?_⟩
            have := hz.fn hc (by omega) hW (by omega) (hP (Z.1, nI k) ⟨Z, hZ, Or.inr ⟨hb, rfl⟩⟩)
            subst this
            exact ⟨rfl, h.fin s1 f1 s3 (f2.tr f3) z2.1 (by omega)⟩
          · refine ⟨fun _ => ?_, fun q => absurd q (by decide)⟩
            rintro _ rfl
            rw [nI_1]
            exact ih (k + 1) Z.1 m3 (by omega) o1 (by omega) s3 (f2.tr f3) (fun z' hz' => hP z' ⟨Z, hZ, Or.inl ⟨hb, hz'⟩⟩)
      exact run C 0 (m.1 274) m1 (by omega) hW (by omega) (h.mo f1) (FrM.rf _) (fun z' hz' => hz')
    have run : ∀ (N k : Nat) (a : Nat → Int32) (m2 : Mem) (u1 : Value), k + N = C → WF a → tn (a 13) + N < 30000 → St m.1 m2 a → FrP m.1 m2.1 → (∀ z', PydR m.1 t N k a z' → PydR m.1 t C 0 (m.1 274) z') → Gw G (d + 7) mX11_played 23 [.ref (ga G 0), u1, .ref (ga G (238 + 6 * t)), .int (nI k)] [] m2 (Qi (Same G TXc n (d + 11) mX12_played [.int (nI t)])) := by
      intro N
      induction N with
      | zero =>
        intro k a m2 u1 hk hWa hba s2 f2 hP
        refine vX11_played_23 G d u1 (238 + 6 * t) (tx_all t (by omega)) (nI k) m2 _ ?_
        rw [s2.2.2.1 (238 + 6 * t) (by omega) (by omega), c2]
        exact ⟨fun _ => model m2 (a, -1) (hP _ rfl) s2 f2, fun q => absurd ((le_nI (by omega) (by omega)).mpr (by omega)) q⟩
      | succ N ih =>
        intro k a m2 u1 hk hWa hba s2 f2 hP
        refine vX11_played_23 G d u1 (238 + 6 * t) (tx_all t (by omega)) (nI k) m2 _ ?_
        rw [s2.2.2.1 (238 + 6 * t) (by omega) (by omega), c2]
        refine ⟨fun q => by rw [le_nI (by omega) (by omega)] at q; omega, fun _ => ?_⟩
        refine kP_plays G d m.1 t k C m2 a _ s2 (by omega) c1 (by omega) c2 (c4 k (by omega)) (by omega) (fun m3 Z hZ s3 f3 => ?_)
        obtain ⟨o1, o2, o3⟩ := hZ.ok hWa (by omega) (hc k (by omega))
        cases hb : Z.2
        · exact ⟨fun q => absurd rfl q, fun _ => model m3 (Z.1, nI k) (hP _ ⟨Z, hZ, Or.inr ⟨hb, rfl⟩⟩) s3 (f2.tr f3)⟩
        · refine ⟨fun _ => ?_, fun q => absurd q (by decide)⟩
          rintro _ rfl
          rw [nI_1]
          exact ih (k + 1) Z.1 m3 _ (by omega) o1 (by omega) s3 (f2.tr f3) (fun z' hz' => hP z' ⟨Z, hZ, Or.inl ⟨hb, hz'⟩⟩)
    exact run C 0 (m.1 274) m _ (by omega) hW (by omega) h.st (FrP.rf _) (fun z' hz' => hz')
  · refine vX12_played G d a0 m _ ?_
    rw [t1, oneM_nI (by omega)]
    exact ⟨fun z => absurd z q, fun _ => ⟨rfl, h.idle⟩⟩
