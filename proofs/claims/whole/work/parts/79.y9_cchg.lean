/-! changes: the class's methods -/
def LowK (aj : Nat → List Nat) (δ : Nat → Nat) (f k : Nat) : Prop := k ∈ aj f ∧ δ k + 1 = δ f ∧ ∀ y, y ∈ aj f → δ y + 1 = δ f → k ≤ y
section CChg
variable {n N : Nat} {R P h : Nat → Nat} {nb : Nat → Nat → Nat} {aj : Nat → List Nat} {t : Nat} {δ : Nat → Nat}
theorem CQ.nx (T : Tab n N R P h nb aj) {i Q : Nat} {u : Nat → Nat} {f : Nat → Nat → Int32} (c : CQ N P δ aj i Q (δ (u i)) u f) (hi : i < Q) (ha : ∀ p, p < 2 ^ (n - 1) → 1 ≤ p → f 237 (nb (u i) p) ≠ -1) : CQ N P δ aj (i + 1) Q (δ (u i)) u f := by
  obtain ⟨c1, c2, c3, c4, c5, c6, c7, c8, c9, c10⟩ := c
  refine ⟨by omega, c2, c3, c4, c5, fun a h1 x hx => ?_, fun a h1 => ?_, fun a h1 h2 => c8 a (by omega) h2, c9, c10⟩
  · by_cases e : a = i
    · rw [e] at hx
      obtain ⟨-, -, -, p, p1, p2, p3⟩ := T.aj (u i) (c3 i hi).1 x hx
      rw [← p3]; exact ha p p1 p2
    · exact c6 a (by omega) x hx
  · by_cases e : a = i
    · rw [e]; exact Nat.le_refl _
    · exact c7 a (by omega)
theorem pm_nI {n : Nat} (h2 : 2 ≤ n) (h5 : n ≤ 5) : (1 : Int32) <<< ((nI n - 1) &&& 31) = nI (2 ^ (n - 1)) := by
  rw [show nI n - 1 = nI (n - 1) by rw [show n = (n - 1) + 1 by omega, nI_p]; rfl]
  exact shl_pow (by omega)
theorem kX4_measure (G : GP) (d : Nat) (T : Tab n N R P h nb aj) (D : Dst N t aj δ) (ht : t < N) {s : Nat} (hs : s < N) (m : Mem) (K : Mem → Prop) (hK : ∀ m' : Mem, (∀ c, c ≠ 236 → c ≠ 237 → m'.1 c = m.1 c) → CDn N δ s (m'.1 237) → K m') : Evv G (d + 2) mX4_measure [.ref (ga G 235), .int (nI n), .int (nI (P t)), .int (nI s)] m K := by
  obtain ⟨h2, h5, hN2, hN⟩ := T.sz
  have hm : 2 ^ (n - 1) ≤ 16 := Nat.le_trans (Nat.pow_le_pow_right (show 0 < 2 by omega) (show n - 1 ≤ 4 by omega)) (by decide)
  have main : ∀ (w i Q lev : Nat) (u : Nat → Nat) (m2 : Mem) (u2 u6 u7 u8 u9 : Value), N ≤ i + w → CQ N P δ aj i Q lev u m2.1 → (∀ c, c ≠ 236 → c ≠ 237 → m2.1 c = m.1 c) → Gw G (d + 2) mX4_measure 32 [.ref (ga G 235), .int (nI n), u2, .int (nI s), .int (nI Q), .int (nI i), u6, u7, u8, u9] [] m2 (Qv K) := by
    intro w
    induction w with
    | zero =>
      intro i Q lev u m2 u2 u6 u7 u8 u9 hw c fr
      have hQ := c.cnt
      have e : i = Q := by have := c.1; omega
      refine vX4_measure_32 G d _ u2 _ _ _ u6 u7 u8 u9 m2 K ⟨fun _ => hK m2 fr (c.out T D hs (Or.inr e)), fun z => absurd ((le_nI (by omega) (by omega)).mpr (by omega)) z⟩
    | succ w ih =>
      intro i Q lev u m2 u2 u6 u7 u8 u9 hw c fr
      have hQ := c.cnt
      have hiQ := c.1
      have eq : nI Q ≤ nI i ↔ Q ≤ i := le_nI (by omega) (by omega)
      refine vX4_measure_32 G d _ u2 _ _ _ u6 u7 u8 u9 m2 K ?_
      rw [eq, show (nI s).toNatClampNeg = s from tn_nI (by omega)]
      refine ⟨fun z => hK m2 fr (c.out T D hs (Or.inr (by omega))), fun z => ⟨in_nI (by omega) (by omega), fun y => hK m2 fr (c.out T D hs (Or.inl y)), fun y => ⟨in_nI (by omega) (by omega), ?_⟩⟩⟩
      have hi : i < Q := by omega
      have c' := c.lev D hi
      obtain ⟨x1, x2, x3⟩ := c.2.2.1 i hi
      have hδi := D.2.2.2 (u i) x1
      rw [show (nI i).toNatClampNeg = i from tn_nI (by omega), x2]
      refine kX4_rankOf G d h5 _ m2 _ ?_
      rw [T.rk (u i) x1]
      refine ⟨in_nI (by omega) (by omega), fun x8 e8 => ?_⟩
      rw [show (nI (u i)).toNatClampNeg = u i from tn_nI (by omega), x3] at e8
      rw [e8]
      have inner : ∀ (v p Q : Nat) (u' : Nat → Nat) (m3 : Mem) (u2 u8 u9 : Value), p + v = 2 ^ (n - 1) → 1 ≤ p → i < Q → u' i = u i → CQ N P δ aj i Q (δ (u' i)) u' m3.1 → (∀ c, c ≠ 236 → c ≠ 237 → m3.1 c = m.1 c) → (∀ p', 1 ≤ p' → p' < p → m3.1 237 (nb (u i) p') ≠ -1) → Gw G (d + 2) mX4_measure 70 [.ref (ga G 235), .int (nI n), u2, .int (nI s), .int (nI Q), .int (nI i), .int (nI (δ (u i))), .int (nI p), u8, u9] [] m3 (Qv K) := by
        intro v
        induction v with
        | zero =>
          intro p Q u' m3 u2 u8 u9 hv hp hiQ hu c3 fr3 hpp
          refine vX4_measure_70 G d _ u2 _ _ _ _ _ u8 u9 m3 K ?_
          rw [pm_nI h2 h5]
          refine ⟨fun _ x9 e9 => ?_, fun z => absurd ((le_nI (by omega) (by omega)).mpr (by omega)) z⟩
          rw [e9, ← nI_succ]
          refine ih (i + 1) Q _ u' m3 _ _ _ _ _ (by omega) (c3.nx T hiQ (fun p' q1 q2 => ?_)) fr3
          rw [hu]; exact hpp p' q2 (by omega)
        | succ v ihv =>
          intro p Q u' m3 u2 u8 u9 hv hp hiQ hu c3 fr3 hpp
          have hQ3 := c3.cnt
          obtain ⟨y1, y2, y3⟩ := c3.2.2.1 i hiQ
          rw [hu] at y1 y2 y3
          obtain ⟨t1, t2, t3⟩ := T.ch (u i) y1 p (by omega) hp
          refine vX4_measure_70 G d _ u2 _ _ _ _ _ u8 u9 m3 K ?_
          rw [pm_nI h2 h5]
          refine ⟨fun z => absurd ((le_nI (a := 2 ^ (n - 1)) (b := p) (by omega) (by omega)).mp z) (by omega), fun _ => ⟨in_nI (by omega) (by omega), ?_⟩⟩
          rw [show (nI i).toNatClampNeg = i from tn_nI (by omega), y2]
          refine kX4_changed G (d + 1) _ _ m3 _ ?_
          rw [t1]
          refine kX4_rankOf G d h5 _ m3 _ ?_
          rw [T.rk _ t2]
          have tr : (nI (nb (u i) p)).toNatClampNeg = nb (u i) p := tn_nI (by omega)
          have nx : ∀ m4 : Mem, m4.1 237 (nb (u i) p) ≠ -1 → (∀ p', 1 ≤ p' → p' < p → m4.1 237 (nb (u i) p') ≠ -1) → ∀ p', 1 ≤ p' → p' < p + 1 → m4.1 237 (nb (u i) p') ≠ -1 := fun m4 q1 q2 p' q3 q4 => by
            by_cases e : p' = p
            · rw [e]; exact q1
            · exact q2 p' q3 (by omega)
          rw [tr]
          have q120 : (120 : Int32) ≤ nI Q ↔ 120 ≤ Q := le_nI (a := 120) (by omega) (by omega)
          rw [q120]
          refine ⟨in_nI (by omega) (by omega), fun z x14 e14 => ?_, fun z => ⟨fun zz => ?_, fun zz => ⟨in_nI (by omega) (by omega), fun m16 e16 => ⟨in_nI (by omega) (by omega), fun m17 e17 x18 e18 x19 e19 => ?_⟩⟩⟩⟩
          · rw [e14, ← nI_succ]
            exact ihv (p + 1) Q u' m3 _ _ _ (by omega) (by omega) hiQ hu c3 fr3 (nx m3 z hpp)
          · exfalso
            have h1 := cntN_lt (m3.1 237) z N t2
            rw [← c3.2.1] at h1
            omega
          · have hδ1 : nI (δ (u i)) + 1 = nI (δ (u i) + 1) := nI_add _ 1
            rw [show (nI Q).toNatClampNeg = Q from tn_nI (by omega)] at e17
            rw [hδ1] at e16
            have g1 : m17.1 236 = upd (m3.1 236) Q (nI (P (nb (u i) p))) := by rw [e17, wI_s, e16, wI_n _ _ _ (by omega)]
            have g2 : m17.1 237 = upd (m3.1 237) (nb (u i) p) (nI (δ (u i) + 1)) := by rw [e17, wI_n _ _ _ (by omega), e16, wI_s]
            rw [e18, e19, show nI Q + 1 = nI (Q + 1) from nI_add Q 1, show nI p + 1 = nI (p + 1) from nI_add p 1]
            have ui' : upd' u' Q (nb (u i) p) i = u i := by rw [← hu]; exact if_neg (by omega)
            have c4 := CQ.add T D (g := m17.1) c3 hiQ (show p < 2 ^ (n - 1) by omega) hp (by rw [hu]; exact z) (by rw [hu]; exact g1) (by rw [hu]; exact g2)
            rw [hu] at c4
            refine ihv (p + 1) (Q + 1) (upd' u' Q (nb (u i) p)) m17 _ _ _ (by omega) (by omega) (by omega) ui' c4 (fun c q1 q2 => by rw [e17, wI_n _ _ _ q1, e16, wI_n _ _ _ q2]; exact fr3 c q1 q2) (nx m17 ?_ (fun p' q1 q2 => ?_))
            · rw [g2, upd_s]; exact m1_nI (by omega)
            · rw [g2]
              by_cases e : nb (u i) p' = nb (u i) p
              · rw [e, upd_s]; exact m1_nI (by omega)
              · rw [upd_n _ _ e]; exact hpp p' q1 q2
      exact inner (2 ^ (n - 1) - 1) 1 Q u m2 _ _ _ (by have := Nat.one_le_two_pow (n := n - 1); omega) (Nat.le_refl _) hi rfl c' fr (fun p' q1 q2 => by omega)
  refine vX4_measure G d _ _ _ m K ?_
  refine qJ7_fill G (d + 1) 237 120 (by decide +kernel) (by omega) (-1) m _ (fun m1 f1 f2 f3 => ?_)
  refine kX4_rankOf G d h5 _ m1 _ ?_
  rw [T.rk t ht]
  refine ⟨in_nI (by omega) (by omega), fun m4 e4 m5 e5 => ?_⟩
  rw [show (nI t).toNatClampNeg = t from tn_nI (by omega)] at e4
  have δt : δ t = 0 := (D.1 t ht).mpr rfl
  have g1 : m5.1 236 = upd (m1.1 236) 0 (nI (P t)) := by rw [e5, wI_s, e4, wI_n _ _ _ (by omega)]
  have g2 : m5.1 237 = upd (m1.1 237) t 0 := by rw [e5, wI_n _ _ _ (by omega), e4, wI_s]
  have z0 : (0 : Int32) ≠ -1 := by decide
  refine main N 0 1 0 (fun _ => t) m5 _ _ _ _ _ (by omega) ⟨by omega, ?_, fun q hq => ?_, fun x hx hne => ?_, fun a b _ _ => Nat.le_refl _, fun a ha => absurd ha (Nat.not_lt_zero a), fun a ha => absurd ha (Nat.not_lt_zero a), fun a _ _ => Nat.zero_le _, fun a _ => by rw [δt]; omega, fun x hx hd => ?_⟩ (fun c q1 q2 => by rw [e5, wI_n _ _ _ q1, e4, wI_n _ _ _ q2]; exact f2 c q2)
  · rw [g2, cntN_up _ (f1 t (by omega)) z0, if_pos ht, cntN_0 N (fun x hx => f1 x (by omega))]
  · have : q = 0 := by omega
    subst this
    rw [g1, g2, upd_s, upd_s, δt]
    exact ⟨ht, rfl, rfl⟩
  · refine ⟨0, by omega, ?_⟩
    rw [g2] at hne
    by_cases e : x = t
    · exact e.symm
    · rw [upd_n _ _ e] at hne; exact absurd (f1 x (by omega)) hne
  · have e : x = t := (D.1 x hx).mp (by omega)
    rw [g2, e, upd_s]; exact z0
theorem Tab.mono (T : Tab n N R P h nb aj) {a b : Nat} (hb : b < N) (hab : a < b) : R a < R b := by
  have : ∀ k, a + 1 + k < N → R a < R (a + 1 + k) := by
    intro k
    induction k with
    | zero => exact fun hk => T.inc a hk
    | succ k ih => exact fun hk => Nat.lt_trans (ih (by omega)) (T.inc (a + 1 + k) (by omega))
  have := this (b - (a + 1)) (by omega)
  rw [show a + 1 + (b - (a + 1)) = b by omega] at this
  exact this
theorem Tab.R_le (T : Tab n N R P h nb aj) {a b : Nat} (ha : a < N) (hb : b < N) : R a ≤ R b ↔ a ≤ b := by
  constructor
  · intro hle
    rcases Nat.lt_or_ge b a with q | q
    · have := T.mono ha q; omega
    · exact q
  · intro hle
    by_cases e : a = b
    · rw [e]; exact Nat.le_refl _
    · have := T.mono hb (show a < b by omega); omega
theorem Tab.R_lt (T : Tab n N R P h nb aj) {k : Nat} (hk : k < N) : R k < 100000 := Nat.lt_of_lt_of_le (T.rw k hk).1 (p10_le T.sz.2.1)
theorem Tab.R_eq (T : Tab n N R P h nb aj) {a b : Nat} (ha : a < N) (hb : b < N) : nI (R a) = nI (R b) ↔ a = b := by
  have h1 := T.R_lt ha
  have h2 := T.R_lt hb
  rw [eq_nI (by omega) (by omega)]
  constructor
  · intro e
    have h3 := (T.R_le ha hb).mp (by omega)
    have h4 := (T.R_le hb ha).mp (by omega)
    omega
  · intro e; rw [e]
theorem kX4_lowest (G : GP) (d : Nat) (T : Tab n N R P h nb aj) (D : Dst N t aj δ) {f : Nat} (hf : f < N) (hft : f ≠ t) (m : Mem) (hd : CDn N δ f (m.1 237)) (K : Int32 → Mem → Prop) (hK : ∀ k, k < N → LowK aj δ f k → K (nI (R k)) m) : Evi G (d + 2) mX4_lowestBehind [.ref (ga G 235), .int (nI n), .int (nI (P f)), .int (nI (δ f) - 1)] m K := by
  obtain ⟨h2, h5, hN2, hN⟩ := T.sz
  have hm : 2 ^ (n - 1) ≤ 16 := Nat.le_trans (Nat.pow_le_pow_right (show 0 < 2 by omega) (show n - 1 ≤ 4 by omega)) (by decide)
  have hδf := D.2.2.2 f hf
  obtain ⟨j, hj, j1, j2⟩ := D.2.2.1 f hf hft
  have j3 : j ∈ aj f := (T.aj j hj f j1).2.2.1
  refine vX4_lowestBehind G d _ _ _ m K ?_
  have ef : nI (δ f) - 1 = nI (δ f - 1) := by rw [j2, nI_p]; rfl
  rw [ef]
  have lp : ∀ (v p : Nat) (lo : Int32) (u6 u7 : Value), p + v = 2 ^ (n - 1) → 1 ≤ p → ((lo = -1 ∧ ∀ p', p' < p → 1 ≤ p' → δ (nb f p') + 1 ≠ δ f) ∨ (∃ k, k < N ∧ lo = nI (R k) ∧ k ∈ aj f ∧ δ k + 1 = δ f ∧ ∀ p', p' < p → 1 ≤ p' → δ (nb f p') + 1 = δ f → k ≤ nb f p')) → Gw G (d + 2) mX4_lowestBehind 6 [.ref (ga G 235), .int (nI n), .int (nI (P f)), .int (nI (δ f - 1)), .int lo, .int (nI p), u6, u7] [] m (Qi K) := by
    intro v
    induction v with
    | zero =>
      intro p lo u6 u7 hv hp hI
      refine vX4_lowestBehind_6 G d _ _ _ _ _ u6 u7 m K ?_
      rw [pm_nI h2 h5]
      refine ⟨fun _ => ?_, fun z => absurd ((le_nI (by omega) (by omega)).mpr (by omega)) z⟩
      rcases hI with ⟨-, hI⟩ | ⟨k, k1, k2, k3, k4, k5⟩
      · obtain ⟨-, -, -, p', q1, q2, q3⟩ := T.aj f hf j j3
        exact absurd (by rw [q3]; exact j2.symm) (hI p' (by omega) q2)
      · rw [k2]
        refine hK k k1 ⟨k3, k4, fun y hy1 hy2 => ?_⟩
        obtain ⟨-, -, -, p', q1, q2, q3⟩ := T.aj f hf y hy1
        have := k5 p' (by omega) q2 (by rw [q3]; exact hy2)
        rw [q3] at this
        exact this
    | succ v ih =>
      intro p lo u6 u7 hv hp hI
      obtain ⟨t1, t2, t3⟩ := T.ch f hf p (by omega) hp
      have hδx := D.2.2.2 _ t2
      refine vX4_lowestBehind_6 G d _ _ _ _ _ u6 u7 m K ?_
      rw [pm_nI h2 h5]
      refine ⟨fun z => absurd ((le_nI (a := 2 ^ (n - 1)) (b := p) (by omega) (by omega)).mp z) (by omega), fun _ => ?_⟩
      refine kX4_changed G (d + 1) _ _ m _ ?_
      rw [t1]
      refine kX4_rankOf G d h5 _ m _ ?_
      rw [T.rk _ t2]
      have tr : (nI (nb f p)).toNatClampNeg = nb f p := tn_nI (by omega)
      have is : m.1 237 (nb f p) = nI (δ f - 1) ↔ δ (nb f p) + 1 = δ f := by
        constructor
        · intro e
          rcases hd.2.1 _ t2 with q | q
          · rw [q] at e; exact absurd e.symm (m1_nI (by omega))
          · rw [q] at e
            have := (eq_nI (by omega) (by omega)).mp e
            omega
        · intro e
          rw [hd.2.2 _ t2 (by omega)]
          congr 1; omega
      rw [tr, is]
      have sp : nI p + 1 = nI (p + 1) := nI_add p 1
      have ext : ∀ Z : Nat → Prop, Z p → (∀ p', p' < p → 1 ≤ p' → Z p') → ∀ p', p' < p + 1 → 1 ≤ p' → Z p' := fun Z z1 z2 p' q1 q2 => by
        by_cases e : p' = p
        · rw [e]; exact z1
        · exact z2 p' (by omega) q2
      refine ⟨in_nI (by omega) (by omega), fun z x5 e5 => ?_, fun z => ?_⟩
      · rw [e5, sp]
        refine ih (p + 1) lo _ _ (by omega) (by omega) ?_
        rcases hI with ⟨i1, i2⟩ | ⟨k, k1, k2, k3, k4, k5⟩
        · exact Or.inl ⟨i1, ext _ z i2⟩
        · exact Or.inr ⟨k, k1, k2, k3, k4, ext _ (fun y => absurd y z) k5⟩
      · refine kX4_unpacked G (d + 1) h5 _ m _ ?_
        rw [T.up _ t2]
        have hx : nb f p ∈ aj f := by
          rcases t3 with e | e
          · rw [e] at z; omega
          · exact e
        have hR := T.R_lt t2
        have neww : (∀ p', p' < p → 1 ≤ p' → δ (nb f p') + 1 = δ f → nb f p ≤ nb f p') → ∀ (u6 u7 : Value), Gw G (d + 2) mX4_lowestBehind 6 [.ref (ga G 235), .int (nI n), .int (nI (P f)), .int (nI (δ f - 1)), .int (nI (R (nb f p))), .int (nI (p + 1)), u6, u7] [] m (Qi K) := fun hq u6 u7 =>
          ih (p + 1) _ _ _ (by omega) (by omega) (Or.inr ⟨nb f p, t2, rfl, hx, z, ext _ (fun _ => Nat.le_refl _) hq⟩)
        rcases hI with ⟨i1, i2⟩ | ⟨k, k1, k2, k3, k4, k5⟩
        · refine ⟨fun _ x8 e8 => ?_, fun y => absurd i1 y⟩
          rw [e8, sp]
          exact neww (fun p' q1 q2 q3 => absurd q3 (i2 p' q1 q2)) _ _
        · have hRk := T.R_lt k1
          have el : lo ≤ nI (R (nb f p)) ↔ k ≤ nb f p := by
            rw [k2, le_nI (by omega) (by omega)]; exact T.R_le k1 t2
          rw [el]
          refine ⟨fun y => absurd y (by rw [k2]; exact m1_nI (by omega)), fun _ => ⟨fun y x9 e9 => ?_, fun y x10 e10 => ?_⟩⟩
          · rw [e9, sp]
            exact ih (p + 1) lo _ _ (by omega) (by omega) (Or.inr ⟨k, k1, k2, k3, k4, ext _ (fun _ => y) k5⟩)
          · rw [e10, sp]
            exact neww (fun p' q1 q2 q3 => by have := k5 p' q1 q2 q3; omega) _ _
  exact lp (2 ^ (n - 1) - 1) 1 (-1) _ _ (by have := Nat.one_le_two_pow (n := n - 1); omega) (Nat.le_refl _) (Or.inl ⟨rfl, fun p' q1 q2 => by omega⟩)
end CChg
