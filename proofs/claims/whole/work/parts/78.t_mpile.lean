/-! the model's pile and code -/
def PL : List Nat → (Nat → Int32) → Prop
  | [], _ => True
  | o :: S, g => g S.length = nI o ∧ PL S g
theorem PL.fr : ∀ {S : List Nat} {g g' : Nat → Int32}, PL S g → (∀ k, k < S.length → g' k = g k) → PL S g'
  | [], _, _, _, _ => True.intro
  | o :: S, g, g', h, e => ⟨(e _ (by rw [List.length_cons]; omega)).trans h.1, PL.fr h.2 (fun k hk => e k (by rw [List.length_cons]; omega))⟩
def CM (t0 : Nat) (C : List (Nat × Nat)) (g : Nat → Int32) : Prop := ∀ k, k < C.length → g (801 * t0 + 193 + 2 * k) = nI (oL C k) ∧ g (801 * t0 + 194 + 2 * k) = nI (vL C k)
/-- the model at a law -/
def ML (t0 l : Nat) (S : List Nat) (C : List (Nat × Nat)) (m : Mem) : Prop := m.1 273 13 = nI (801 * t0) ∧ m.1 273 14 = nI C.length ∧ m.1 273 15 = nI l ∧ m.1 273 17 = nI S.length ∧ PL S (m.1 279) ∧ CM t0 C (m.1 276)
/-- what may change at one token -/
def FX (t0 c0 : Nat) (m m' : Mem) : Prop := (∀ c, c ≠ 273 → c ≠ 276 → c ≠ 279 → m'.1 c = m.1 c) ∧ (∀ p, ¬ (p = 14 ∨ (17 ≤ p ∧ p ≤ 19)) → m'.1 273 p = m.1 273 p) ∧ (∀ p, (p < 801 * t0 + 193 + 2 * c0 ∨ 801 * t0 + 801 ≤ p) → m'.1 276 p = m.1 276 p) ∧ m'.2.1 = m.2.1
/-- what may change in a law -/
def FL (t0 c0 : Nat) (m m' : Mem) : Prop := (∀ c, c ≠ 273 → c ≠ 276 → c ≠ 279 → m'.1 c = m.1 c) ∧ (∀ p, ¬ ((8 ≤ p ∧ p ≤ 11) ∨ p = 14 ∨ (17 ≤ p ∧ p ≤ 19)) → m'.1 273 p = m.1 273 p) ∧ (∀ p, (p < 801 * t0 + 193 + 2 * c0 ∨ 801 * t0 + 801 ≤ p) → m'.1 276 p = m.1 276 p)
theorem FX.rf (t0 c0 : Nat) (m : Mem) : FX t0 c0 m m := ⟨fun _ _ _ _ => rfl, fun _ _ => rfl, fun _ _ => rfl, rfl⟩
theorem FX.tr {t0 c0 : Nat} {a b c : Mem} (h : FX t0 c0 a b) (k : FX t0 c0 b c) : FX t0 c0 a c := ⟨fun q h1 h2 h3 => (k.1 q h1 h2 h3).trans (h.1 q h1 h2 h3), fun p hp => (k.2.1 p hp).trans (h.2.1 p hp), fun p hp => (k.2.2.1 p hp).trans (h.2.2.1 p hp), k.2.2.2.trans h.2.2.2⟩
theorem FX.ms {t0 c0 : Nat} {m m' : Mem} (h : FX t0 c0 m m') : MSm m m' := ⟨fun p hp => h.2.1 p (by omega), h.1 278 (by omega) (by omega) (by omega), by rw [h.2.2.2]⟩
theorem FX.fl {t0 c0 : Nat} {m m' : Mem} (h : FX t0 c0 m m') : FL t0 c0 m m' := ⟨h.1, fun p hp => h.2.1 p (by omega), h.2.2.1⟩
theorem FL.rf (t0 c0 : Nat) (m : Mem) : FL t0 c0 m m := (FX.rf t0 c0 m).fl
theorem FL.tr {t0 c0 : Nat} {a b c : Mem} (h : FL t0 c0 a b) (k : FL t0 c0 b c) : FL t0 c0 a c := ⟨fun q h1 h2 h3 => (k.1 q h1 h2 h3).trans (h.1 q h1 h2 h3), fun p hp => (k.2.1 p hp).trans (h.2.1 p hp), fun p hp => (k.2.2 p hp).trans (h.2.2 p hp)⟩
theorem MV.fl {t0 c0 : Nat} {m m' : Mem} (h : MV m m') : FL t0 c0 m m' := ⟨fun c h1 _ _ => h.1 c h1, fun p hp => h.2 p (by omega), fun p _ => by rw [h.1 276 (by omega)]⟩
theorem MV.ml {t0 l : Nat} {S : List Nat} {C : List (Nat × Nat)} {m m' : Mem} (h : MV m m') (k : ML t0 l S C m) : ML t0 l S C m' := by
  obtain ⟨k1, k2, k3, k4, k5, k6⟩ := k
  refine ⟨(h.2 13 (by omega)).trans k1, (h.2 14 (by omega)).trans k2, (h.2 15 (by omega)).trans k3, (h.2 17 (by omega)).trans k4, ?_, ?_⟩
  · rw [h.1 279 (by omega)]; exact k5
  · rw [h.1 276 (by omega)]; exact k6
theorem MV.p {m m' : Mem} (h : MV m m') {p : Nat} (hp : ¬ (8 ≤ p ∧ p ≤ 11)) : m'.1 273 p = m.1 273 p := h.2 p hp
theorem rkV : ∀ {o : Nat}, opIn o → rankV (nI o) = nI (rk o) := by
  intro o h
  rcases op_cases h with rfl | rfl | rfl | rfl | rfl | rfl | rfl | rfl | rfl | rfl | rfl | rfl | rfl | rfl | rfl | rfl <;> decide
theorem rk_le {o : Nat} (h : opIn o) : rk o ≤ 8 := (opIn_rk o (opIn_lt h) h).2.2
/-- a write beside: places of 273 -/
theorem ML.w3 {t0 l : Nat} {S : List Nat} {C : List (Nat × Nat)} {m : Mem} (k : ML t0 l S C m) {p : Nat} {v : Int32} (hp : p = 18 ∨ p = 19) : ML t0 l S C (wI m 273 p v) := by
  obtain ⟨k1, k2, k3, k4, k5, k6⟩ := k
  unfold ML
  rw [wI_s, wI_n m _ _ (show 279 ≠ 273 by omega), wI_n m _ _ (show 276 ≠ 273 by omega), upd_n _ _ (show 13 ≠ p by omega), upd_n _ _ (show 14 ≠ p by omega), upd_n _ _ (show 15 ≠ p by omega), upd_n _ _ (show 17 ≠ p by omega)]
  exact ⟨k1, k2, k3, k4, k5, k6⟩
theorem FX.w3 {t0 c0 : Nat} {m : Mem} {p : Nat} {v : Int32} (hp : p = 14 ∨ (17 ≤ p ∧ p ≤ 19)) : FX t0 c0 m (wI m 273 p v) := by
  refine ⟨fun c h1 _ _ => wI_n m _ _ h1, fun q hq => ?_, fun q _ => by rw [wI_n m _ _ (show 276 ≠ 273 by omega)], rfl⟩
  rw [wI_s, upd_n _ _ (by omega)]
theorem qX12_emit (G : GP) (d t0 l c0 o v : Nat) (S : List Nat) (C : List (Nat × Nat)) (m : Mem) (K : Mem → Prop) (ht : t0 < 4) (h : ML t0 l S C m) (hC : C.length < 300) (hc : c0 ≤ C.length) (hK : ∀ m', ML t0 l S (C ++ [(o, v)]) m' → FX t0 c0 m m' → m'.1 279 = m.1 279 → (∀ p, p ≠ 14 → m'.1 273 p = m.1 273 p) → K m') : Evv G d mX12_emit [.ref (ga G 273), .int (nI o), .int (nI v)] m K := by
  obtain ⟨k1, k2, k3, k4, k5, k6⟩ := h
  have e1 : ((nI (801 * t0) + 193) + ((2 : Int32) * nI C.length)) = nI (801 * t0 + 193 + 2 * C.length) := by rw [show (193 : Int32) = nI 193 from rfl, show (2 : Int32) = nI 2 from rfl, pk_mul, nI_add, nI_add]
  have e2 : nI (801 * t0 + 193 + 2 * C.length) + 1 = nI (801 * t0 + 194 + 2 * C.length) := by rw [show (1 : Int32) = nI 1 from rfl, nI_add]; congr 1; omega
  have e3 : (nI (801 * t0 + 193 + 2 * C.length)).toNatClampNeg = 801 * t0 + 193 + 2 * C.length := tn_nI (by omega)
  have e4 : (nI (801 * t0 + 194 + 2 * C.length)).toNatClampNeg = 801 * t0 + 194 + 2 * C.length := tn_nI (by omega)
  refine vX12_emit G d _ _ m K ?_
  rw [k1, k2, e1]
  refine ⟨in_nI (by omega) (by omega), fun m1 em1 => ?_⟩
  rw [e3] at em1
  have a1 : m1.1 273 = m.1 273 := by rw [em1]; exact wI_n m _ _ (by omega)
  rw [a1, k1, k2, e1, e2]
  refine ⟨in_nI (by omega) (by omega), fun m2 em2 m3 em3 => ?_⟩
  rw [e4] at em2
  have a2 : m2.1 273 = m.1 273 := by rw [em2, wI_n m1 _ _ (by omega)]; exact a1
  rw [a2, k2, show (1 : Int32) = nI 1 from rfl, nI_add] at em3
  have b3 : m3.1 273 = upd (m.1 273) 14 (nI (C.length + 1)) := by rw [em3, wI_s, a2]
  have b6 : m3.1 276 = upd (upd (m.1 276) (801 * t0 + 193 + 2 * C.length) (nI o)) (801 * t0 + 194 + 2 * C.length) (nI v) := by
    rw [em3, wI_n m2 _ _ (by omega), em2, wI_s, em1, wI_s]
  have bo : ∀ c, c ≠ 273 → c ≠ 276 → m3.1 c = m.1 c := fun c h1 h2 => by rw [em3, wI_n m2 _ _ h1, em2, wI_n m1 _ _ h2, em1, wI_n m _ _ h2]
  have b2 : m3.2.1 = m.2.1 := by rw [em3, em2, em1]; rfl
  have bp : ∀ p, p ≠ 14 → m3.1 273 p = m.1 273 p := fun p hp => by rw [b3, upd_n _ _ hp]
  refine hK m3 ⟨(bp 13 (by omega)).trans k1, ?_, (bp 15 (by omega)).trans k3, (bp 17 (by omega)).trans k4, ?_, fun k hk => ?_⟩ ⟨fun c h1 h2 h3 => bo c h1 h2, fun p hp => bp p (by omega), fun p hp => ?_, b2⟩ (bo 279 (by omega) (by omega)) bp
  · rw [b3, upd_s, List.length_append, List.length_singleton]
  · rw [bo 279 (by omega) (by omega)]; exact k5
  · rw [List.length_append, List.length_singleton] at hk
    rw [b6]
    by_cases e : k = C.length
    · subst e
      rw [(oL_last C (o, v)).1, (oL_last C (o, v)).2, upd_s, upd_n _ _ (by omega), upd_s]
      exact ⟨rfl, rfl⟩
    · rw [(oL_app (by omega)).1, (oL_app (by omega)).2, upd_n _ _ (by omega), upd_n _ _ (by omega), upd_n _ _ (by omega), upd_n _ _ (by omega)]
      exact k6 k (by omega)
  · rw [b6, upd_n _ _ (by omega), upd_n _ _ (by omega)]
theorem stl_mem {r : Nat} : ∀ {S : List Nat} {C : List (Nat × Nat)}, C.length ≤ (stl r S C).2.length
  | [], C => Nat.le_refl _
  | o :: S, C => by
    unfold stl
    by_cases e : r ≤ rk o
    · rw [if_pos e]
      have := stl_mem (r := r) (S := S) (C := C ++ [(o, 0)])
      rw [List.length_append, List.length_singleton] at this
      omega
    · rw [if_neg e]
      exact Nat.le_refl _
theorem qX12_settle_0 (G : GP) (d t0 l c0 r : Nat) (ht : t0 < 4) (hr : 1 ≤ r ∧ r ≤ 8) : ∀ (S : List Nat) (C : List (Nat × Nat)) (m : Mem) (K : Mem → Prop), GS S → opS S ≤ 8 → ML t0 l S C m → m.1 273 18 = nI (opS S) → C.length + S.length ≤ 300 → c0 ≤ C.length → (∀ m', ML t0 l (stl r S C).1 (stl r S C).2 m' → m'.1 273 18 = nI (opS (stl r S C).1) → m'.1 273 19 = m.1 273 19 → FX t0 c0 m m' → K m') → Gw G (d + 1) mX12_settle 0 [.ref (ga G 273), .int (nI r)] [] m (Qv K)
  | [], C, m, K, hG, h8, hM, ho, hl, hc, hK => by
    refine vX12_settle_0 G d _ m K ⟨fun _ => hK m hM ho rfl (FX.rf t0 c0 m), fun z => absurd ?_ z⟩
    rw [hM.2.2.2.1]
    exact (le_nI (b := 0) (by omega) (by omega)).mpr (Nat.le_refl _)
  | o :: S, C, m, K, hG, h8, hM, ho, hl, hc, hK => by
    have h45 := GS_len hG h8
    rw [List.length_cons] at hl h45
    have hoI := hG.2.1
    have hM' := hM
    obtain ⟨k1, k2, k3, k4, k5, k6⟩ := hM
    rw [List.length_cons] at k4
    have e1 : nI (S.length + 1) - 1 = nI S.length := by rw [show (1 : Int32) = nI 1 from rfl, sub_nI (by omega)]; congr 1
    have e2 : (nI S.length).toNatClampNeg = S.length := tn_nI (by omega)
    refine vX12_settle_0 G d _ m K ⟨fun z => ?_, fun _ => ?_⟩
    · rw [k4] at z
      have := (le_nI (b := 0) (by omega) (by omega)).mp z
      omega
    rw [k4, e1, e2, k5.1, rkV hoI]
    have er : nI (rk o) < nI r ↔ rk o < r := by
      have := rk_le hoI
      exact lt_nI (by omega) (by omega)
    refine ⟨in_nI (by omega) (by omega), fun z => ?_, fun z m1 em1 => ?_⟩
    · rw [er] at z
      have hs : stl r (o :: S) C = (o :: S, C) := if_neg (by omega)
      rw [hs] at hK
      exact hK m hM' ho rfl (FX.rf t0 c0 m)
    rw [er] at z
    have hs : stl r (o :: S) C = stl r S (C ++ [(o, 0)]) := if_pos (by omega)
    rw [hs] at hK
    have a17 : m1.1 273 = upd (m.1 273) 17 (nI S.length) := by rw [em1, wI_s]
    have a9 : m1.1 279 = m.1 279 := by rw [em1]; exact wI_n m _ _ (by omega)
    have hM1 : ML t0 l S C m1 := by
      unfold ML
      rw [a17, a9, show m1.1 276 = m.1 276 by rw [em1]; exact wI_n m _ _ (by omega), upd_s, upd_n _ _ (show 13 ≠ 17 by omega), upd_n _ _ (show 14 ≠ 17 by omega), upd_n _ _ (show 15 ≠ 17 by omega)]
      exact ⟨k1, k2, k3, rfl, k5.2, k6⟩
    have f1 : FX t0 c0 m m1 := by rw [em1]; exact FX.w3 (by omega)
    have b18 : m1.1 273 18 = nI (opS (o :: S)) := by rw [a17, upd_n _ _ (by omega)]; exact ho
    have b19 : m1.1 273 19 = m.1 273 19 := by rw [a17, upd_n _ _ (by omega)]
    rw [a17, upd_s, e2, a9, k5.1]
    refine ⟨in_nI (by omega) (by omega), ?_⟩
    refine qX12_emit G d t0 l c0 o 0 S C m1 _ ht hM1 (by omega) hc (fun m2 hM2 f2 c9 cp => ?_)
    have b17 : m2.1 273 17 = nI S.length := by rw [cp 17 (by omega), a17, upd_s]
    rw [b17, e2, c9, a9, k5.1]
    have q2 : nI o = 2 ↔ o = 2 := eq_nI (b := 2) (by have := opIn_lt hoI; omega) (by omega)
    have q20 : nI o = 20 ↔ o = 20 := eq_nI (b := 20) (by have := opIn_lt hoI; omega) (by omega)
    have q7 : nI o = 7 ↔ o = 7 := eq_nI (b := 7) (by have := opIn_lt hoI; omega) (by omega)
    rw [q2, q20, q7]
    have hne : o ≠ 40 := fun z' => by
      rw [z'] at z
      have : rk 40 = 0 := rfl
      omega
    have hop : opS (o :: S) = opS S + (if isO o then 1 else 0) := rfl
    have dn : isO o = true → ∀ m3, m3 = wI m2 273 18 (m2.1 273 18 - 1) → Gw G (d + 1) mX12_settle 0 [.ref (ga G 273), .int (nI r)] [] m3 (Qv K) := by
      intro hO m3 em3
      rw [hO, if_pos rfl] at hop
      have v : m2.1 273 18 - 1 = nI (opS S) := by rw [cp 18 (by omega), b18, hop, show (1 : Int32) = nI 1 from rfl, sub_nI (by omega)]; congr 1
      rw [v] at em3
      have hM3 : ML t0 l S (C ++ [(o, 0)]) m3 := by rw [em3]; exact hM2.w3 (Or.inl rfl)
      have f3 : FX t0 c0 m2 m3 := by rw [em3]; exact FX.w3 (by omega)
      refine qX12_settle_0 G d t0 l c0 r ht hr S _ m3 K hG.1 (by omega) hM3 (by rw [em3, wI_s, upd_s]) (by rw [List.length_append, List.length_singleton]; omega) (by rw [List.length_append, List.length_singleton]; omega) (fun m' g1 g2 g3 g4 => hK m' g1 g2 (g3.trans ?_) (((f1.tr f2).tr f3).tr g4))
      rw [em3, wI_s, upd_n _ _ (by omega), cp 19 (by omega), b19]
    refine ⟨in_nI (by omega) (by omega), fun z2 m3 em3 => dn (by rw [z2]; rfl) m3 em3, fun z2 => ⟨in_nI (by omega) (by omega), fun z20 m3 em3 => dn (by rw [z20]; rfl) m3 em3, fun z20 => ⟨in_nI (by omega) (by omega), fun z7 => ?_, fun z7 m3 em3 => dn (by rw [z7]; rfl) m3 em3⟩⟩⟩
    have hO : isO o = false := by
      rcases op_cases hoI with rfl | rfl | rfl | rfl | rfl | rfl | rfl | rfl | rfl | rfl | rfl | rfl | rfl | rfl | rfl | rfl <;> first | rfl | omega
    rw [hO, if_neg (by decide), Nat.add_zero] at hop
    refine qX12_settle_0 G d t0 l c0 r ht hr S _ m2 K hG.1 (by omega) hM2 (by rw [cp 18 (by omega), b18, hop]) (by rw [List.length_append, List.length_singleton]; omega) (by rw [List.length_append, List.length_singleton]; omega) (fun m' g1 g2 g3 g4 => hK m' g1 g2 (g3.trans ?_) ((f1.tr f2).tr g4))
    rw [cp 19 (by omega), b19]
theorem qX12_settle (G : GP) (d t0 l c0 r : Nat) (ht : t0 < 4) (hr : 1 ≤ r ∧ r ≤ 8) (S : List Nat) (C : List (Nat × Nat)) (m : Mem) (K : Mem → Prop) (hG : GS S) (h8 : opS S ≤ 8) (hM : ML t0 l S C m) (ho : m.1 273 18 = nI (opS S)) (hl : C.length + S.length ≤ 300) (hc : c0 ≤ C.length) (hK : ∀ m', ML t0 l (stl r S C).1 (stl r S C).2 m' → m'.1 273 18 = nI (opS (stl r S C).1) → m'.1 273 19 = m.1 273 19 → FX t0 c0 m m' → K m') : Evv G (d + 1) mX12_settle [.ref (ga G 273), .int (nI r)] m K :=
  vX12_settle G d _ m K (qX12_settle_0 G d t0 l c0 r ht hr S C m K hG h8 hM ho hl hc hK)
theorem nI_p (n : Nat) : nI (n + 1) - 1 = nI n := by
  rw [show (1 : Int32) = nI 1 from rfl, sub_nI (by omega)]
  congr 1
theorem neg_nI (n : Nat) (h : n < 2147483648) : ¬ nI n < 0 := fun z => by
  have := (lt_nI (b := 0) h (by omega)).mp z
  omega
theorem qX12_isOpen_7 (G : GP) (d : Nat) (m : Mem) (K : Int32 → Mem → Prop) : ∀ (S : List Nat), GS S → S.length ≤ 60 → PL S (m.1 279) → (hasP S = true → K 1 m) → (hasP S = false → K 0 m) → Gw G d mX12_isOpen 7 [.ref (ga G 273), .int (nI S.length - 1)] [] m (Qi K)
  | [], _, _, _, _, h0 => by
    refine vX12_isOpen_7 G d _ m K ⟨fun _ => ⟨fun _ => h0 rfl, fun z => absurd (by decide) z⟩, fun z => absurd (by decide) z⟩
  | o :: S, hG, hl, hP, h1, h0 => by
    rw [List.length_cons] at hl
    have e2 : (nI S.length).toNatClampNeg = S.length := tn_nI (by omega)
    have hn := neg_nI S.length (by omega)
    rw [List.length_cons, nI_p]
    refine vX12_isOpen_7 G d _ m K ⟨fun z => absurd z hn, fun _ => ?_⟩
    rw [e2, hP.1]
    have e40 : (40 : Int32) ≤ nI o ↔ 40 ≤ o := le_nI (a := 40) (by omega) (by have := opIn_lt hG.2.1; omega)
    rw [e40]
    refine ⟨in_nI (by omega) (by omega), fun z => ⟨fun z2 => absurd z2 hn, fun _ => h1 ?_⟩, fun z x2 ex2 => ?_⟩
    · have := opIn_lt hG.2.1
      have : o = 40 := by omega
      subst this
      simp [hasP]
    · rw [show x2 = nI S.length - 1 by rw [ex2, Int32.sub_eq_add_neg]]
      have hh : hasP (o :: S) = hasP S := by
        unfold hasP
        rw [List.contains_cons]
        have : (40 == o) = false := by
          rw [beq_eq_false_iff_ne]
          omega
        rw [this, Bool.false_or]
      rw [hh] at h1 h0
      exact qX12_isOpen_7 G d m K S hG.1 (by omega) hP.2 h1 h0
theorem qX12_isOpen (G : GP) (d : Nat) (S : List Nat) (m : Mem) (K : Int32 → Mem → Prop) (hG : GS S) (hl : S.length ≤ 60) (h17 : m.1 273 17 = nI S.length) (hP : PL S (m.1 279)) (h1 : hasP S = true → K 1 m) (h0 : hasP S = false → K 0 m) : Evi G d mX12_isOpen [.ref (ga G 273)] m K :=
  vX12_isOpen G d m K (fun x ex => by rw [ex, h17]; exact qX12_isOpen_7 G d m K S hG hl hP h1 h0)
theorem qX12_isCompared_7 (G : GP) (d : Nat) (m : Mem) (K : Int32 → Mem → Prop) : ∀ (S : List Nat), GS S → S.length ≤ 60 → PL S (m.1 279) → (cmpS S = true → K 1 m) → (cmpS S = false → K 0 m) → Gw G (d + 1) mX12_isCompared 7 [.ref (ga G 273), .int (nI S.length - 1)] [] m (Qi K)
  | [], _, _, _, _, h0 => by
    refine vX12_isCompared_7 G d _ m K ⟨fun _ => ⟨fun _ => h0 rfl, fun z => absurd (by decide) z⟩, fun z => absurd (by decide) z⟩
  | o :: S, hG, hl, hP, h1, h0 => by
    rw [List.length_cons] at hl
    have e2 : (nI S.length).toNatClampNeg = S.length := tn_nI (by omega)
    have hn := neg_nI S.length (by omega)
    rw [List.length_cons, nI_p]
    refine vX12_isCompared_7 G d _ m K ⟨fun z => absurd z hn, fun _ => ?_⟩
    have hr := rk_le hG.2.1
    rw [e2, hP.1, rkV hG.2.1]
    have e4 : nI (rk o) ≤ 4 ↔ rk o ≤ 4 := le_nI (b := 4) (by omega) (by omega)
    have q4 : nI (rk o) = 4 ↔ rk o = 4 := eq_nI (b := 4) (by omega) (by omega)
    rw [e4, q4]
    refine ⟨in_nI (by omega) (by omega), fun z => ⟨fun z2 => absurd z2 hn, fun _ => ⟨in_nI (by omega) (by omega), fun y => h0 ?_, fun y => h1 ?_⟩⟩, fun z x2 ex2 => ?_⟩
    · unfold cmpS; rw [if_neg (by omega)]; exact decide_eq_false y
    · unfold cmpS; rw [if_neg (by omega)]; exact decide_eq_true y
    · rw [show x2 = nI S.length - 1 by rw [ex2, Int32.sub_eq_add_neg]]
      have hh : cmpS (o :: S) = cmpS S := if_pos (by omega)
      rw [hh] at h1 h0
      exact qX12_isCompared_7 G d m K S hG.1 (by omega) hP.2 h1 h0
theorem qX12_isCompared (G : GP) (d : Nat) (S : List Nat) (m : Mem) (K : Int32 → Mem → Prop) (hG : GS S) (hl : S.length ≤ 60) (h17 : m.1 273 17 = nI S.length) (hP : PL S (m.1 279)) (h1 : cmpS S = true → K 1 m) (h0 : cmpS S = false → K 0 m) : Evi G (d + 1) mX12_isCompared [.ref (ga G 273)] m K :=
  vX12_isCompared G d m K (fun x ex => by rw [ex, h17]; exact qX12_isCompared_7 G d m K S hG hl hP h1 h0)
theorem askS_c (o : Nat) (S : List Nat) : askS (o :: S) = (!hasP (o :: S) && decide (1 ≤ rk o ∧ rk o ≤ 3)) := rfl
theorem qX12_isAskAhead (G : GP) (d : Nat) (S : List Nat) (m : Mem) (K : Int32 → Mem → Prop) (hG : GS S) (hl : S.length ≤ 60) (h17 : m.1 273 17 = nI S.length) (hP : PL S (m.1 279)) (h1 : askS S = true → K 1 m) (h0 : askS S = false → K 0 m) : Evi G (d + 1) mX12_isAskAhead [.ref (ga G 273)] m K := by
  refine vX12_isAskAhead G d m K (qX12_isOpen G d S m _ hG hl h17 hP (fun y => ⟨fun _ => h0 ?_, fun z => absurd z (by decide)⟩) (fun y => ⟨fun z => absurd rfl z, fun _ => ?_⟩))
  · cases S with
    | nil => cases y
    | cons o S => rw [askS_c, y]; rfl
  · cases S with
    | nil =>
      rw [h17]
      exact ⟨fun _ => h1 rfl, fun z => absurd rfl z⟩
    | cons o S =>
      rw [List.length_cons] at hl h17
      have hr := rk_le hG.2.1
      have e2 : (nI S.length).toNatClampNeg = S.length := tn_nI (by omega)
      rw [h17, nI_p, e2, hP.1, rkV hG.2.1]
      have q1 : (1 : Int32) ≤ nI (rk o) ↔ 1 ≤ rk o := le_nI (a := 1) (by omega) (by omega)
      have q3 : nI (rk o) ≤ 3 ↔ rk o ≤ 3 := le_nI (b := 3) (by omega) (by omega)
      rw [q1, q3]
      refine ⟨fun z => absurd ((eq_nI (b := 0) (by omega) (by omega)).mp z) (by omega), fun _ => ⟨in_nI (by omega) (by omega), fun z => h1 ?_, fun z => h0 ?_⟩⟩
      · rw [askS_c, y, decide_eq_true z]; rfl
      · rw [askS_c, y, decide_eq_false z]; rfl
