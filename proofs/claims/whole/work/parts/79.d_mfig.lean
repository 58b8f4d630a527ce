/-! the model's clauses: numbers, words, sorts, laws -/
def MX (x : Nat) (v : Int32) (m m' : Mem) : Prop := (∀ c, c ≠ 273 → c ≠ 276 → m'.1 c = m.1 c) ∧ (∀ p, ¬ (8 ≤ p ∧ p ≤ 11) → m'.1 273 p = m.1 273 p) ∧ m'.1 276 = upd (m.1 276) x v
theorem ms_276 (m : Mem) (x : Nat) (v : Int32) : MSm m (wI m 276 x v) := ⟨fun p _ => by rw [wI_n m _ _ (show 273 ≠ 276 by omega)], wI_n m _ _ (by omega), rfl⟩
theorem qX12_figure (G : GP) {kd nm st : Nat → Nat} {cnt : Nat} {T : Nat → Mem → Prop} (H : TokM G kd nm st cnt T) (d i x lo hi : Nat) (m : Mem) (K : Int32 → Mem → Prop) (hx : x < 3204) (hhi : hi ≤ 1000) (hlo : lo ≤ hi) (hT : T i m) (hK : kd i = 2 → lo ≤ nm i → nm i ≤ hi → ∀ m', MX x (nI (nm i)) m m' → T (i + 1) m' → K 0 m') (h1 : kd i ≠ 2 → K 1 m) (h2 : kd i = 2 → ¬ (lo ≤ nm i ∧ nm i ≤ hi) → K 2 m) : Evi G (d + 2) mX12_figure [.ref (ga G 273), .int (nI x), .int (nI lo), .int (nI hi)] m K := by
  have hk := H.tk hT
  have ex : (nI x).toNatClampNeg = x := tn_nI (by omega)
  refine vX12_figure G d _ _ _ m K ⟨fun q => ?_, fun q => h1 (fun z => q (hk.num.mpr z))⟩
  have k2 := hk.num.mp q
  obtain ⟨v, ev, hv, en⟩ := hk.nu k2
  rw [ev, ex]
  have e1 : nI lo ≤ nI v ↔ lo ≤ v := le_nI (by omega) (by omega)
  have e2 : nI v ≤ nI hi ↔ v ≤ hi := le_nI (by omega) (by omega)
  rw [e1, e2]
  refine ⟨fun z => ⟨in_nI hx (by omega), fun m1 em1 => ?_⟩, fun z => h2 k2 (fun y => z (by omega))⟩
  have ev' : nm i = v := by omega
  have hT1 : T i m1 := by rw [em1]; exact H.fr hT (ms_276 m x _)
  refine H.nx hT1 (by omega) (fun m2 v2 hT2 => hK k2 (by omega) (by omega) m2 ⟨fun c c1 c2 => ?_, fun p hp => ?_, ?_⟩ hT2)
  · rw [v2.1 c c1, em1, wI_n m _ _ c2]
  · rw [v2.p hp, em1, wI_n m _ _ (by omega)]
  · rw [v2.1 276 (by omega), em1, wI_s, ev']
theorem MV.mx {x : Nat} {v : Int32} {m m1 m2 : Mem} (h : MV m m1) (k : MX x v m1 m2) : MX x v m m2 := ⟨fun c h1 h2 => (k.1 c h1 h2).trans (h.1 c h1), fun p hp => (k.2.1 p hp).trans (h.p hp), by rw [k.2.2, h.1 276 (by omega)]⟩
theorem qX12_worded (G : GP) {kd nm st : Nat → Nat} {cnt : Nat} {T : Nat → Mem → Prop} (H : TokM G kd nm st cnt T) (d i x lo hi t : Nat) (w : Int64) (m : Mem) (K : Int32 → Mem → Prop) (hx : x < 3204) (hhi : hi ≤ 1000) (hlo : lo ≤ hi) (ht : t ≠ 1) (hT : T i m) (hw : isW m w ↔ kd i = t) (hK : kd i = t → kd (i + 1) = 2 → lo ≤ nm (i + 1) → nm (i + 1) ≤ hi → ∀ m', MX x (nI (nm (i + 1))) m m' → T (i + 2) m' → K 0 m') (h0 : kd i ≠ t → K 1 m) (h1 : kd i = t → kd (i + 1) ≠ 2 → ∀ m', MV m m' → T (i + 1) m' → K 1 m') (h2 : kd i = t → kd (i + 1) = 2 → ¬ (lo ≤ nm (i + 1) ∧ nm (i + 1) ≤ hi) → ∀ m', MV m m' → T (i + 1) m' → K 2 m') : Evi G (d + 3) mX12_worded [.ref (ga G 273), .long w, .int (nI x), .int (nI lo), .int (nI hi)] m K := by
  refine vX12_worded G d _ _ _ _ m K ⟨fun q => ?_, fun q => h0 (fun z => q (hw.mpr z))⟩
  have kt := hw.mp q
  refine H.nx hT (by omega) (fun m1 v1 hT1 => ?_)
  exact qX12_figure G H d (i + 1) x lo hi m1 _ hx hhi hlo hT1 (fun a b c m' g1 g2 => hK kt a b c m' (v1.mx g1) g2) (fun a => h1 kt a m1 v1 hT1) (fun a b => h2 kt a b m1 v1 hT1)
theorem qX12_sortOf (G : GP) {kd nm st : Nat → Nat} {cnt : Nat} {T : Nat → Mem → Prop} (H : TokM G kd nm st cnt T) (d i : Nat) (m : Mem) (K : Int32 → Mem → Prop) (hT : T i m) (h1 : ∀ s, s ≤ 10 → kd i = 100 + s → K (nI s) m) (h0 : ¬ (100 ≤ kd i ∧ kd i ≤ 110) → K (-1) m) : Evi G (d + 5) mX12_sortOf [.ref (ga G 273)] m K := by
  have hk := H.tk hT
  refine vX12_sortOf G d m K ⟨fun q => h1 0 (by omega) (hk.over.mp q), fun q0 => ?_⟩
  refine H.fol hT (fun b => ⟨fun z => absurd z (by decide), fun _ => h1 1 (by omega) b⟩) (fun q1 => ⟨fun _ => ⟨fun q => h1 2 (by omega) (hk.begins.mp q), fun q2 => ⟨fun q => h1 3 (by omega) (hk.bell.mp q), fun q3 => ⟨fun q => h1 4 (by omega) (hk.word.mp q), fun q4 => ⟨fun q => h1 5 (by omega) (hk.ring.mp q), fun q5 => ⟨fun q => h1 6 (by omega) (hk.speak.mp q), fun q6 => ⟨fun q => h1 7 (by omega) (hk.wind.mp q), fun q7 => ⟨fun q => h1 8 (by omega) (hk.frost.mp q), fun q8 => ⟨fun q => h1 9 (by omega) (hk.hour.mp q), fun q9 => ⟨fun q => h1 10 (by omega) (hk.sunday.mp q), fun q10 => h0 ?_⟩⟩⟩⟩⟩⟩⟩⟩⟩, fun z => absurd rfl z⟩)
  have n0 : ¬ kd i = 100 := fun z => q0 (hk.over.mpr z)
  have n2 : ¬ kd i = 102 := fun z => q2 (hk.begins.mpr z)
  have n3 : ¬ kd i = 103 := fun z => q3 (hk.bell.mpr z)
  have n4 : ¬ kd i = 104 := fun z => q4 (hk.word.mpr z)
  have n5 : ¬ kd i = 105 := fun z => q5 (hk.ring.mpr z)
  have n6 : ¬ kd i = 106 := fun z => q6 (hk.speak.mpr z)
  have n7 : ¬ kd i = 107 := fun z => q7 (hk.wind.mpr z)
  have n8 : ¬ kd i = 108 := fun z => q8 (hk.frost.mpr z)
  have n9 : ¬ kd i = 109 := fun z => q9 (hk.hour.mpr z)
  have n10 : ¬ kd i = 110 := fun z => q10 (hk.sunday.mpr z)
  omega
/-- the model's law clause -/
theorem qX12_lawClause (G : GP) {kd nm st : Nat → Nat} {cnt : Nat} {T : Nat → Mem → Prop} (H : TokM G kd nm st cnt T) (d t0 l i k : Nat) (C : List (Nat × Nat)) (m : Mem) (K : Int32 → Mem → Prop) (ht : t0 < 4) (hl : l < 3) (hk : k < 24) (hi : i ≤ cnt) (hC : C.length ≤ i) (hT : T i m) (h13 : m.1 273 13 = nI (801 * t0)) (h14 : m.1 273 14 = nI C.length) (h15 : m.1 273 15 = nI l) (hM : CM t0 C (m.1 276)) (hK : ∀ e j C' m', lawP l kd nm (cnt + 1 - i) i [] C true = (e, j, C') → e ≤ 5 → j ≤ cnt → T j m' → (∀ c, c ≠ 273 → c ≠ 276 → c ≠ 279 → m'.1 c = m.1 c) → (∀ p, ¬ ((8 ≤ p ∧ p ≤ 11) ∨ p = 14 ∨ (17 ≤ p ∧ p ≤ 19)) → m'.1 273 p = m.1 273 p) → (∀ p, p < 801 * t0 + 193 ∨ 801 * t0 + 801 ≤ p → p ≠ 801 * t0 + 2 + 8 * k → p ≠ 801 * t0 + 3 + 8 * k → m'.1 276 p = m.1 276 p) → (e = 0 → m'.1 273 14 = nI C'.length ∧ CM t0 C' (m'.1 276) ∧ m'.1 276 (801 * t0 + 2 + 8 * k) = nI C.length ∧ m'.1 276 (801 * t0 + 3 + 8 * k) = nI C'.length) → K (nI e) m') : Evi G (d + 8) mX12_lawClause [.ref (ga G 273), .int (nI (801 * t0 + 1 + 8 * k))] m K := by
  have hcb := H.cb
  have e1 : nI (801 * t0 + 1 + 8 * k) + 1 = nI (801 * t0 + 2 + 8 * k) := by rw [show (1 : Int32) = nI 1 from rfl, nI_add]; congr 1; omega
  have e2 : nI (801 * t0 + 1 + 8 * k) + 2 = nI (801 * t0 + 3 + 8 * k) := by rw [show (2 : Int32) = nI 2 from rfl, nI_add]; congr 1; omega
  have t1 : (nI (801 * t0 + 2 + 8 * k)).toNatClampNeg = 801 * t0 + 2 + 8 * k := tn_nI (by omega)
  have t2 : (nI (801 * t0 + 3 + 8 * k)).toNatClampNeg = 801 * t0 + 3 + 8 * k := tn_nI (by omega)
  refine vX12_lawClause G d _ m K ?_
  rw [e1, t1, h14, e2, t2]
  refine ⟨in_nI (by omega) (by omega), fun m1 em1 => ?_⟩
  refine vX12_either G d m1 _ (fun a ea b eb c ec => ?_)
  have c3 : c.1 273 = upd (upd (upd (m.1 273) 17 0) 18 0) 19 0 := by rw [ec, wI_s, eb, wI_s, ea, wI_s, em1, wI_n _ _ _ (by omega)]
  have co : ∀ q, q ≠ 273 → c.1 q = m1.1 q := fun q h => by rw [ec, wI_n _ _ _ h, eb, wI_n _ _ _ h, ea, wI_n _ _ _ h]
  have c6 : c.1 276 = upd (m.1 276) (801 * t0 + 2 + 8 * k) (nI C.length) := by rw [co 276 (by omega), em1, wI_s]
  have cq : ∀ q, q ≠ 273 → q ≠ 276 → c.1 q = m.1 q := fun q h1 h2 => by rw [co q h1, em1, wI_n _ _ _ h2]
  have cp : ∀ p, ¬ (17 ≤ p ∧ p ≤ 19) → c.1 273 p = m.1 273 p := fun p hp => by rw [c3, upd_n _ _ (by omega), upd_n _ _ (by omega), upd_n _ _ (by omega)]
  have hTc : T i c := H.fr hT ⟨fun p hp => cp p (by omega), cq 278 (by omega) (by omega), by rw [ec, eb, ea, em1]; rfl⟩
  have hS : MSt T t0 l C.length cnt i [] C true c := by
    refine ⟨hTc, ⟨(cp 13 (by omega)).trans h13, (cp 14 (by omega)).trans h14, (cp 15 (by omega)).trans h15, ?_, True.intro, fun q hq => ?_⟩, ?_, ?_, True.intro, by decide, by rw [List.length_nil]; omega, Nat.le_refl _, hi⟩
    · rw [c3, upd_n _ _ (by omega), upd_n _ _ (by omega), upd_s]; rfl
    · rw [c6, upd_n _ _ (by omega), upd_n _ _ (by omega)]
      exact hM q hq
    · rw [c3, upd_n _ _ (by omega), upd_s]; rfl
    · rw [c3, upd_s]; rfl
  refine qX12_law G H d t0 l C.length ht hl (cnt + 1 - i) i [] C true _ c _ (Nat.le_refl _) hS (fun e j C' m2 q1 q2 q3 q4 q5 q6 => ?_)
  refine ⟨in_nI (by omega) (by omega), fun m3 em3 => ?_⟩
  have d6 : m3.1 276 = upd (m2.1 276) (801 * t0 + 3 + 8 * k) (m2.1 273 14) := by rw [em3, wI_s]
  have dq : ∀ q, q ≠ 276 → m3.1 q = m2.1 q := fun q h => by rw [em3, wI_n _ _ _ h]
  refine hK e j C' m3 q1 q2 q3 (H.fr q4 (by rw [em3]; exact ms_276 m2 _ _)) (fun q h1 h2 h3 => ?_) (fun p hp => ?_) (fun p hp h1 h2 => ?_) (fun e0 => ?_)
  · rw [dq q h2, q5.1 q h1 h2 h3, cq q h1 h2]
  · rw [dq 273 (by omega), q5.2.1 p hp, cp p (by omega)]
  · rw [d6, upd_n _ _ h2, q5.2.2 p (by omega), c6, upd_n _ _ h1]
  · obtain ⟨r1, r2⟩ := q6 e0
    refine ⟨by rw [dq 273 (by omega)]; exact r1, fun q hq => ?_, ?_, ?_⟩
    · rw [d6, upd_n _ _ (by omega), upd_n _ _ (by omega)]
      exact r2 q hq
    · rw [d6, upd_n _ _ (by omega), q5.2.2 _ (by omega), c6, upd_s]
    · rw [d6, upd_s]; exact r1
