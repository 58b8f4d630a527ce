/-! changes: fewest; the model's rows -/
def isVd (n : Nat) (x : Int32) : Prop := ∃ V, V < 10 ^ n ∧ lorD V n = 2 ^ n - 1 ∧ x = nI V
section Few
variable {n N : Nat} {R P h : Nat → Nat} {nb : Nat → Nat → Nat} {aj : Nat → List Nat} {t : Nat} {δ : Nat → Nat}
theorem Tab.vd (T : Tab n N R P h nb aj) {x : Int32} : isVd n x ↔ ∃ k, k < N ∧ x = nI (R k) := by
  constructor
  · rintro ⟨V, v1, v2, rfl⟩
    obtain ⟨k, k1, k2⟩ := T.all V v1 v2
    exact ⟨k, k1, by rw [k2]⟩
  · rintro ⟨k, k1, rfl⟩
    exact ⟨R k, (T.rw k k1).1, (T.rw k k1).2, rfl⟩
theorem kX4_packR (G : GP) (d : Nat) (T : Tab n N R P h nb aj) {f : Nat} (hf : f < N) (m : Mem) (K : Int32 → Mem → Prop) (hK : K (nI (P f)) m) : Evi G d mX4_packed [.int (nI n), .int (nI (R f))] m K := by
  have hR := T.R_lt hf
  have hp := p10_le T.sz.2.1
  refine kX4_packed G d T.sz.1 T.sz.2.1 _ m K (fun V e h1 h2 => ?_) (fun z => absurd rfl (z (R f) (T.rw f hf).1 (T.rw f hf).2))
  have e2 := (eq_nI (a := R f) (b := V) (by omega) (by omega)).mp e
  rw [← e2, (T.pk f hf).1]
  exact hK
theorem kX4_packN (G : GP) (d : Nat) (h2 : 2 ≤ n) (h5 : n ≤ 5) {x : Int32} (hx : ¬ isVd n x) (m : Mem) (K : Int32 → Mem → Prop) (hK : K (-1) m) : Evi G d mX4_packed [.int (nI n), .int x] m K :=
  kX4_packed G d h2 h5 x m K (fun V e v1 v2 => absurd ⟨V, v1, v2, e⟩ hx) (fun _ => hK)
theorem kX4_fewest (G : GP) (d : Nat) (T : Tab n N R P h nb aj) (D : Dst N t aj δ) (ht : t < N) {f : Nat} (hf : f < N) (row : Int32) (m : Mem) (K : Int32 → Mem → Prop) (hK : ∀ m' : Mem, (∀ c, c ≠ 236 → c ≠ 237 → m'.1 c = m.1 c) → ((row = 0 → K (nI (δ f)) m') ∧ (row ≠ 0 → f = t → K (nI (R f)) m') ∧ (row ≠ 0 → f ≠ t → ∀ k, k < N → LowK aj δ f k → K (nI (R k)) m'))) : Evi G (d + 3) mX4_fewest [.ref (ga G 235), .int (nI n), .int (nI (R f)), .int (nI (R t)), .int row] m K := by
  obtain ⟨h2, h5, hN2, hN⟩ := T.sz
  have hpf := (T.pk f hf).2
  have hpt := (T.pk t ht).2
  have hδ := D.2.2.2 f hf
  refine vX4_fewest G d _ _ _ _ m K ⟨fun _ => ?_, fun z => absurd ⟨(le_nI (a := 2) (by omega) (by omega)).mpr h2, (le_nI (b := 5) (by omega) (by omega)).mpr h5⟩ z⟩
  refine kX4_packR G (d + 2) T hf m _ (kX4_packR G (d + 2) T ht m _ ?_)
  refine ⟨fun z => absurd z (m1_nI (by omega)), fun _ => ⟨fun _ => ?_, fun z => absurd z (m1_nI (by omega))⟩⟩
  refine kX4_rankOf G (d + 1) h5 _ m _ ?_
  rw [T.rk f hf]
  refine kX4_measure G d T D ht hf m _ (fun m' fr hd => ?_)
  refine kX4_rankOf G (d + 1) h5 _ m' _ ?_
  rw [T.rk f hf]
  refine ⟨in_nI (by omega) (by omega), fun x10 e10 => ?_⟩
  rw [show (nI f).toNatClampNeg = f from tn_nI (by omega), hd.1] at e10
  obtain ⟨k1, k2, k3⟩ := hK m' fr
  have e0 : nI (δ f) = 0 ↔ f = t := by
    rw [← D.1 f hf]; exact eq_nI (b := 0) (by omega) (by omega)
  rw [e10, e0]
  refine ⟨fun z => ⟨fun y => ?_, fun y => k2 z y⟩, fun z => k1 z⟩
  exact kX4_lowest G d T D hf y m' hd _ (fun k q1 q2 => k3 z y k q1 q2)
theorem kX4_fewestN (G : GP) (d : Nat) (a0 a1 a2 a3 : Int32) (m : Mem) (K : Int32 → Mem → Prop) (hno : ∀ n, 2 ≤ n → n ≤ 5 → a0 = nI n → isVd n a1 → ¬ isVd n a2) (hK : K (-1) m) : Evi G (d + 3) mX4_fewest [.ref (ga G 235), .int a0, .int a1, .int a2, .int a3] m K := by
  refine vX4_fewest G d _ _ _ _ m K ⟨fun z => ?_, fun _ => hK⟩
  obtain ⟨n, h5, rfl⟩ := of_range (x := a0) (n := 5) (by omega) (Int32.le_trans (by decide) z.1) z.2
  have h2 : 2 ≤ n := (le_nI (a := 2) (by omega) (by omega)).mp z.1
  by_cases v1 : isVd n a1
  · obtain ⟨N, R, P, h, nb, aj, T⟩ := tab_ex h2 h5
    obtain ⟨f, hf, rfl⟩ := T.vd.mp v1
    have hpf := (T.pk f hf).2
    refine kX4_packR G (d + 2) T hf m _ (kX4_packN G (d + 2) h2 h5 (hno n h2 h5 rfl v1) m _ ?_)
    exact ⟨fun _ => hK, fun _ => ⟨fun z => absurd rfl z, fun _ => hK⟩⟩
  · refine kX4_packN G (d + 2) h2 h5 v1 m _ ?_
    by_cases v2 : isVd n a2
    · obtain ⟨N, R, P, h, nb, aj, T⟩ := tab_ex h2 h5
      obtain ⟨f, hf, rfl⟩ := T.vd.mp v2
      refine kX4_packR G (d + 2) T hf m _ ?_
      exact ⟨fun _ => hK, fun z => absurd rfl z⟩
    · refine kX4_packN G (d + 2) h2 h5 v2 m _ ?_
      exact ⟨fun _ => hK, fun z => absurd rfl z⟩
/-- the model's paper -/
def Fmc (m m' : Mem) : Prop := (∀ c, c ≠ 273 → c ≠ 291 → c ≠ 292 → m'.1 c = m.1 c) ∧ ∀ p, p ≠ 34 → m'.1 273 p = m.1 273 p
theorem Fmc.rf (m : Mem) : Fmc m m := ⟨fun _ _ _ _ => rfl, fun _ _ => rfl⟩
theorem Fmc.tr {a b c : Mem} (h : Fmc a b) (k : Fmc b c) : Fmc a c := ⟨fun q h1 h2 h3 => (k.1 q h1 h2 h3).trans (h.1 q h1 h2 h3), fun p hp => (k.2 p hp).trans (h.2 p hp)⟩
theorem Fmc.w1 {a b : Mem} (h : Fmc a b) {k : Nat} {v : Int32} : Fmc a (wI b 291 k v) := h.tr ⟨fun c _ h2 _ => wI_n b _ _ h2, fun p _ => by rw [wI_n b _ _ (show 273 ≠ 291 by omega)]⟩
theorem Fmc.w2 {a b : Mem} (h : Fmc a b) {k : Nat} {v : Int32} : Fmc a (wI b 292 k v) := h.tr ⟨fun c _ _ h3 => wI_n b _ _ h3, fun p _ => by rw [wI_n b _ _ (show 273 ≠ 292 by omega)]⟩
theorem Fmc.w3 {a b : Mem} (h : Fmc a b) {v : Int32} : Fmc a (wI b 273 34 v) := h.tr ⟨fun c h1 _ _ => wI_n b _ _ h1, fun p hp => w73n b v hp⟩
theorem qX12_layRows (G : GP) (d : Nat) (T : Tab n N R P h nb aj) (m : Mem) (K : Mem → Prop) (hK : ∀ m' : Mem, Fmc m m' → m'.1 273 34 = nI N → (∀ k, k < N → m'.1 291 k = nI (R k)) → K m') : Evv G (d + 2) mX12_layRows [.ref (ga G 273), .int (nI n)] m K := by
  obtain ⟨h2, h5, hN2, hN⟩ := T.sz
  have hp := p10_le h5
  refine vX12_layRows G d _ m K (fun m1 e1 => ?_)
  have lp : ∀ (w v c : Nat) (m2 : Mem), v + w = 10 ^ n → c ≤ N → Fmc m m2 → m2.1 273 34 = nI c → (∀ j, j < c → m2.1 291 j = nI (R j)) → (∀ j, j < c → R j < v) → (c < N → v ≤ R c) → Gw G (d + 2) mX12_layRows 7 [.ref (ga G 273), .int (nI n), .int (nI v)] [] m2 (Qv K) := by
    intro w
    induction w with
    | zero =>
      intro v c m2 hv hc fr q1 q2 q3 q4
      refine vX12_layRows_7 G d _ _ m2 K (kX12_tens G (d + 1) h5 m2 _ ⟨fun _ => ?_, fun z => absurd ((le_nI (by omega) (by omega)).mpr (by omega)) z⟩)
      have hcN : c = N := by
        rcases Nat.lt_or_ge c N with q | q
        · have h1 := (T.rw c q).1
          have h3 := q4 q
          omega
        · omega
      subst hcN
      exact hK m2 fr q1 q2
    | succ w ih =>
      intro v c m2 hv hc fr q1 q2 q3 q4
      refine vX12_layRows_7 G d _ _ m2 K (kX12_tens G (d + 1) h5 m2 _ ⟨fun z => absurd ((le_nI (a := 10 ^ n) (b := v) (by omega) (by omega)).mp z) (by omega), fun _ => ?_⟩)
      have sv : nI v + 1 = nI (v + 1) := nI_add v 1
      refine kX12_isRow G d h2 h5 (by omega) m2 _ (fun hy => ⟨fun _ => ?_, fun z => absurd z (by decide)⟩) (fun hy => ⟨fun z => absurd rfl z, fun _ x10 e10 => ?_⟩)
      · obtain ⟨k, k1, k2⟩ := T.all v (by omega) hy
        have hkc : k = c := by
          rcases Nat.lt_trichotomy k c with q | q | q
          · have := q3 k q; omega
          · exact q
          · have h1 := T.mono k1 q
            have h3 := q4 (by omega)
            omega
        subst hkc
        rw [q1, show (nI k).toNatClampNeg = k from tn_nI (by omega)]
        refine ⟨in_nI (by omega) (by omega), fun m6 e6 => ?_⟩
        have n6 : m6.1 273 34 = nI k := by rw [e6, wI_n _ _ _ (by omega), q1]
        rw [n6, show (nI k).toNatClampNeg = k from tn_nI (by omega)]
        refine ⟨in_nI (by omega) (by omega), fun m7 e7 m8 e8 x9 e9 => ?_⟩
        have n7 : m7.1 273 34 = nI k := by rw [e7, wI_n _ _ _ (by omega), n6]
        rw [n7, show nI k + 1 = nI (k + 1) from nI_add k 1] at e8
        rw [e9, sv]
        have c1 : m8.1 291 = upd (m2.1 291) k (nI v) := by rw [e8, wI_n _ _ _ (by omega), e7, wI_n _ _ _ (by omega), e6, wI_s]
        refine ih (v + 1) (k + 1) m8 (by omega) (by omega) (by rw [e8, e7, e6]; exact fr.w1.w2.w3) (by rw [e8, w73]) (fun j hj => ?_) (fun j hj => ?_) (fun hk => ?_)
        · rw [c1]
          by_cases e : j = k
          · rw [e, upd_s, k2]
          · rw [upd_n _ _ e]; exact q2 j (by omega)
        · by_cases e : j = k
          · rw [e, k2]; omega
          · have := q3 j (by omega); omega
        · have := T.inc k hk; omega
      · rw [e10, sv]
        refine ih (v + 1) c m2 (by omega) hc fr q1 q2 (fun j hj => by have := q3 j hj; omega) (fun hk => ?_)
        have h3 := q4 hk
        have h4 : R c ≠ v := fun e => hy (by rw [← e]; exact (T.rw c hk).2)
        omega
  rw [show (0 : Int32) = nI 0 from rfl] at e1 ⊢
  exact lp (10 ^ n) 0 0 m1 (by omega) (by omega) (by rw [e1]; exact (Fmc.rf m).w3) (by rw [e1, w73]) (fun j hj => absurd hj (Nat.not_lt_zero j)) (fun j hj => absurd hj (Nat.not_lt_zero j)) (fun _ => Nat.zero_le _)
theorem qX12_nextOf (G : GP) (d : Nat) (T : Tab n N R P h nb aj) (D : Dst N t aj δ) {f : Nat} (hf : f < N) (hft : f ≠ t) (m : Mem) (hr : ∀ k, k < N → m.1 291 k = nI (R k)) (hd : ∀ x, x < N → (m.1 292 x = nI (δ f) - 1 ↔ δ x + 1 = δ f)) (K : Int32 → Mem → Prop) (hK : ∀ k, k < N → LowK aj δ f k → K (nI (R k)) m) : Evi G (d + 2) mX12_nextOf [.ref (ga G 273), .int (nI (R f)), .int (nI n), .int (nI (δ f) - 1)] m K := by
  obtain ⟨h2, h5, hN2, hN⟩ := T.sz
  obtain ⟨j, hj, j1, j2⟩ := D.2.2.1 f hf hft
  have j3 : j ∈ aj f := (T.aj j hj f j1).2.2.1
  have hRf := T.R_lt hf
  refine vX12_nextOf G d _ _ _ m K ?_
  have lp : ∀ (w k : Nat), k + w = N → (∀ y, y < k → ¬ (y ∈ aj f ∧ δ y + 1 = δ f)) → Gw G (d + 2) mX12_nextOf 3 [.ref (ga G 273), .int (nI (R f)), .int (nI n), .int (nI (δ f) - 1), .int (nI k)] [] m (Qi K) := by
    intro w
    induction w with
    | zero =>
      intro k e hk
      exact absurd ⟨j3, j2.symm⟩ (hk j (by omega))
    | succ w ih =>
      intro k e hk
      have sk : nI k + 1 = nI (k + 1) := nI_add k 1
      have ex : ¬ (k ∈ aj f ∧ δ k + 1 = δ f) → ∀ y, y < k + 1 → ¬ (y ∈ aj f ∧ δ y + 1 = δ f) := fun z y hy => by
        by_cases q : y = k
        · rw [q]; exact z
        · exact hk y (by omega)
      have hRk := T.R_lt (show k < N by omega)
      refine vX12_nextOf_3 G d _ _ _ _ m K ?_
      rw [show (nI k).toNatClampNeg = k from tn_nI (by omega), hd k (by omega), hr k (by omega), sk]
      refine ⟨in_nI (by omega) (by omega), fun z x1 e1 => ?_, fun z => ⟨in_nI (by omega) (by omega), ?_⟩⟩
      · rw [e1]; exact ih (k + 1) (by omega) (ex (fun y => z y.2))
      · refine kX12_isChange G d h2 h5 (by omega) (by omega) m _ (fun y => ⟨fun _ => ⟨in_nI (by omega) (by omega), ?_⟩, fun q => absurd q (by decide)⟩) (fun y => ⟨fun q => absurd rfl q, fun _ x4 e4 => ?_⟩)
        · rw [hr k (by omega)]
          refine hK k (by omega) ⟨(T.ic f hf k (by omega)).mp y, z, fun y h1 h3 => ?_⟩
          rcases Nat.lt_or_ge y k with q | q
          · exact absurd ⟨h1, h3⟩ (hk y q)
          · exact q
        · rw [e4]; exact ih (k + 1) (by omega) (ex (fun q => y ((T.ic f hf k (by omega)).mpr q.1)))
  exact lp N 0 (by omega) (fun y hy => absurd hy (Nat.not_lt_zero y))
end Few
