/-! TEXTS on both sides -/
def oF (X : Nat → Nat → Int32) (t i : Nat) : Nat := tn (X 276 (801 * t + 193 + 2 * i))
def vF (X : Nat → Nat → Int32) (t i : Nat) : Nat := tn (X 276 (801 * t + 194 + 2 * i))
def ar (s : Nat) : Nat := if s = 3 then 3 else if s = 4 then 6 else if s = 10 then 0 else 1
def nmOK (l v : Nat) : Prop := (l = 0 → v < 8) ∧ (l = 1 → 8 ≤ v ∧ v < 13) ∧ (l = 2 → 8 ≤ v ∧ v < 10)
/-- a place of a law's code -/
def OpAt (X : Nat → Nat → Int32) (t l i : Nat) : Prop := X (238 + 6 * t + 3) i = nI (opC (oF X t i) (vF X t i)) ∧ X 276 (801 * t + 193 + 2 * i) = nI (oF X t i) ∧ X 276 (801 * t + 194 + 2 * i) = nI (vF X t i) ∧ oF X t i ≤ 22 ∧ (oF X t i = 0 → vF X t i ≤ 9999) ∧ (oF X t i = 1 → nmOK l (vF X t i)) ∧ (X (238 + 6 * t) 4 = 0 → ¬ (oF X t i = 1 ∧ vF X t i = 12))
/-- the law l of the text t, its clause k, its code from fr till ti -/
def LawAt (X : Nat → Nat → Int32) (t l C k fr ti : Nat) : Prop := k < C ∧ X 276 (801 * t + 1 + 8 * k) = nI l ∧ (∀ j, j < k → X 276 (801 * t + 1 + 8 * j) ≠ nI l) ∧ fr < ti ∧ ti ≤ 300 ∧ X 276 (801 * t + 2 + 8 * k) = nI fr ∧ X 276 (801 * t + 3 + 8 * k) = nI ti ∧ X (238 + 6 * t + 4) l = nI fr ∧ X (238 + 6 * t + 5) l = nI ti ∧ tyR (oF X t) fr (ti - fr) = some (1, 0) ∧ ∀ i, fr ≤ i → i < ti → OpAt X t l i
def NoLaw (X : Nat → Nat → Int32) (t l C : Nat) : Prop := (∀ k, k < C → X 276 (801 * t + 1 + 8 * k) ≠ nI l) ∧ ¬ X (238 + 6 * t + 4) l < X (238 + 6 * t + 5) l
def ClAt (X : Nat → Nat → Int32) (t k : Nat) : Prop := ∃ s, s ≤ 10 ∧ X 276 (801 * t + 1 + 8 * k) = nI s ∧ X (238 + 6 * t + 1) k = nI (100 + s) ∧ (3 ≤ s → ∀ i, i < ar s → X (238 + 6 * t + 2) (6 * k + i) = X 276 (801 * t + 2 + 8 * k + i)) ∧ (s = 9 → bd (X 276 (801 * t + 2 + 8 * k)) 1 60)
def TT (X : Nat → Nat → Int32) (t : Nat) : Prop := ∃ C, C ≤ 24 ∧ X (238 + 6 * t) 0 = nI C ∧ X 276 (801 * t) = nI C ∧ (∀ k, k < C → ClAt X t k) ∧ ∀ l, l < 3 → (∃ k fr ti, LawAt X t l C k fr ti) ∨ NoLaw X t l C
def lawV (X : Nat → Nat → Int32) (t l : Nat) (nm : Nat → Int) : Bool := lawB nm (oF X t) (vF X t) (tn (X (238 + 6 * t + 4) l)) (tn (X (238 + 6 * t + 5) l))
def hasL (X : Nat → Nat → Int32) (t l : Nat) : Prop := X (238 + 6 * t + 4) l < X (238 + 6 * t + 5) l
theorem LawAt.has {X : Nat → Nat → Int32} {t l C k fr ti : Nat} (h : LawAt X t l C k fr ti) : hasL X t l := by
  obtain ⟨-, -, -, h1, h2, -, -, h3, h4, -, -⟩ := h
  unfold hasL
  rw [h3, h4]
  exact (lt_nI (by omega) (by omega)).mpr h1
theorem LawAt.val {X : Nat → Nat → Int32} {t l C k fr ti : Nat} (h : LawAt X t l C k fr ti) (nm : Nat → Int) : lawV X t l nm = lawB nm (oF X t) (vF X t) fr ti := by
  obtain ⟨-, -, -, h1, h2, -, -, h3, h4, -, -⟩ := h
  unfold lawV
  rw [h3, h4, show tn (nI fr) = fr from tn_nI (by omega), show tn (nI ti) = ti from tn_nI (by omega)]
theorem LawAt.congr {X : Nat → Nat → Int32} {t l C k fr ti : Nat} (h : LawAt X t l C k fr ti) {nm nm' : Nat → Int} (hn : ∀ v, nmOK l v → (v = 12 → ¬ X (238 + 6 * t) 4 = 0) → nm v = nm' v) : lawV X t l nm = lawV X t l nm' := by
  rw [h.val, h.val]
  obtain ⟨-, -, -, h1, h2, -, -, h3, h4, -, h5⟩ := h
  exact lawB_congr (fun i a b => ⟨rfl, rfl, fun e => hn _ ((h5 i a b).2.2.2.2.2.1 e) (fun e12 z => (h5 i a b).2.2.2.2.2.2 z ⟨e, e12⟩)⟩)
/-- two memories hold the same text t -/
def TxEq (X Y : Nat → Nat → Int32) (t : Nat) : Prop := (∀ q, 238 + 6 * t ≤ q → q ≤ 243 + 6 * t → Y q = X q) ∧ ∀ i, 801 * t ≤ i → i < 801 * t + 801 → Y 276 i = X 276 i
theorem TxEq.eo {X Y : Nat → Nat → Int32} {t : Nat} (h : TxEq X Y t) {i : Nat} (hi : i < 300) : oF Y t i = oF X t i := by
  unfold oF
  rw [h.2 _ (by omega) (by omega)]
theorem TxEq.ev {X Y : Nat → Nat → Int32} {t : Nat} (h : TxEq X Y t) {i : Nat} (hi : i < 300) : vF Y t i = vF X t i := by
  unfold vF
  rw [h.2 _ (by omega) (by omega)]
theorem TxEq.law {X Y : Nat → Nat → Int32} {t l C k fr ti : Nat} (h : TxEq X Y t) (hk : C ≤ 24) (hL : LawAt X t l C k fr ti) : LawAt Y t l C k fr ti := by
  obtain ⟨a1, a2, a3, a4, a5, a6, a7, a8, a9, a10, a11⟩ := hL
  refine ⟨a1, ?_, fun j hj => ?_, a4, a5, ?_, ?_, ?_, ?_, ?_, fun i h1 h2 => ?_⟩
  · rw [h.2 _ (by omega) (by omega)]; exact a2
  · rw [h.2 _ (by omega) (by omega)]; exact a3 j hj
  · rw [h.2 _ (by omega) (by omega)]; exact a6
  · rw [h.2 _ (by omega) (by omega)]; exact a7
  · rw [h.1 _ (by omega) (by omega)]; exact a8
  · rw [h.1 _ (by omega) (by omega)]; exact a9
  · rw [← a10]
    exact tyR_congr _ (fun i hi => h.eo (by omega))
  · have := a11 i h1 h2
    unfold OpAt at this ⊢
    rw [h.eo (i := i) (by omega), h.ev (i := i) (by omega), h.1 (238 + 6 * t + 3) (by omega) (by omega), h.1 (238 + 6 * t) (by omega) (by omega), h.2 (801 * t + 193 + 2 * i) (by omega) (by omega), h.2 (801 * t + 194 + 2 * i) (by omega) (by omega)]
    exact this
theorem TT.fr {X Y : Nat → Nat → Int32} {t : Nat} (hT : TT X t) (h : TxEq X Y t) : TT Y t := by
  obtain ⟨C, c1, c2, c3, c4, c5⟩ := hT
  refine ⟨C, c1, ?_, ?_, fun k hk => ?_, fun l hl => ?_⟩
  · rw [h.1 _ (by omega) (by omega)]; exact c2
  · rw [h.2 _ (by omega) (by omega)]; exact c3
  · obtain ⟨s, s1, s2, s3, s4, s5⟩ := c4 k hk
    refine ⟨s, s1, ?_, ?_, fun h3 i hi => ?_, fun h9 => ?_⟩
    · rw [h.2 _ (by omega) (by omega)]; exact s2
    · rw [h.1 _ (by omega) (by omega)]; exact s3
    · have : i < 6 := by unfold ar at hi; split at hi <;> (try split at hi) <;> (try split at hi) <;> omega
      rw [h.1 _ (by omega) (by omega), h.2 _ (by omega) (by omega)]; exact s4 h3 i hi
    · rw [h.2 _ (by omega) (by omega)]; exact s5 h9
  · rcases c5 l hl with ⟨k, fr, ti, hL⟩ | ⟨n1, n2⟩
    · exact Or.inl ⟨k, fr, ti, h.law c1 hL⟩
    · refine Or.inr ⟨fun k hk => ?_, ?_⟩
      · rw [h.2 _ (by omega) (by omega)]; exact n1 k hk
      · rw [h.1 _ (by omega) (by omega), h.1 _ (by omega) (by omega)]; exact n2
theorem TxEq.elaw {X Y : Nat → Nat → Int32} {t : Nat} (h : TxEq X Y t) (hT : TT X t) {l : Nat} (hl : l < 3) (hL : hasL X t l) (nm : Nat → Int) : lawV Y t l nm = lawV X t l nm := by
  obtain ⟨C, c1, c2, c3, c4, c5⟩ := hT
  rcases c5 l hl with ⟨k, fr, ti, q⟩ | ⟨n1, n2⟩
  · rw [(h.law c1 q).val, q.val]
    obtain ⟨-, -, -, h1, h2, -⟩ := q
    exact lawB_congr (fun i a b => ⟨h.eo (by omega), h.ev (by omega), fun _ => rfl⟩)
  · exact absurd hL n2
/-- the clause of a sort -/
theorem qX12_clauseOf (G : GP) (d : Nat) (t l : Nat) (m : Mem) (K : Int32 → Mem → Prop) (X : Nat → Nat → Int32) (ht : t < 4) (hl : l < 3) (hT : TT X t) (hX : m.1 276 = X 276) (hy : ∀ C k fr ti, k < 24 → LawAt X t l C k fr ti → K (nI k) m) (hn : ¬ hasL X t l → K (-1) m) : Evi G d mX12_clauseOf [.ref (ga G 273), .int (nI t), .int (nI l)] m K := by
  obtain ⟨C, c1, c2, c3, c4, c5⟩ := hT
  refine vX12_clauseOf G d (nI t) (nI l) m K ?_
  have e1 : (801 : Int32) * nI t = nI (801 * t) := pk_mul 801 t
  have key : ∀ N k, k + N = C → (∀ j, j < k → X 276 (801 * t + 1 + 8 * j) ≠ nI l) → Gw G d mX12_clauseOf 2 [.ref (ga G 273), .int (nI t), .int (nI l), .int (nI k)] [] m (Qi K) := by
    intro N
    induction N with
    | zero =>
      intro k hk hj
      refine vX12_clauseOf_2 G d (nI t) (nI l) (nI k) m K ⟨fun q => absurd q (nI_pos (by omega)), fun _ => ?_⟩
      rw [e1, tn_nI (by omega), hX, c3]
      refine ⟨in_nI (by omega) (by omega), fun _ => ?_, fun q => absurd ((le_nI (by omega) (by omega)).mpr (by omega)) q⟩
      rcases c5 l hl with ⟨k', fr, ti, hL⟩ | hL
      · exact absurd hL.2.1 (hj k' (by have := hL.1; omega))
      · exact hn hL.2
    | succ N ih =>
      intro k hk hj
      have e2 : nI (801 * t) + 1 + 8 * nI k = nI (801 * t + 1 + 8 * k) := by rw [show (8 : Int32) = nI 8 from rfl, pk_mul, nI_1, nI_add]
      refine vX12_clauseOf_2 G d (nI t) (nI l) (nI k) m K ⟨fun q => absurd q (nI_pos (by omega)), fun _ => ?_⟩
      rw [e1, e2, tn_nI (by omega), tn_nI (by omega), hX, c3]
      refine ⟨in_nI (by omega) (by omega), fun q => ?_, fun _ => ⟨in_nI (by omega) (by omega), fun q => ?_, fun q => ?_⟩⟩
      · rw [le_nI (by omega) (by omega)] at q
        omega
      · rintro _ rfl
        rw [nI_1]
        refine ih (k + 1) (by omega) (fun j h1 => ?_)
        by_cases e : j = k
        · rw [e]; exact q
        · exact hj j (by omega)
      · rcases c5 l hl with ⟨k', fr, ti, hL⟩ | hL
        · have : k' = k := by
            rcases Nat.lt_trichotomy k' k with z | z | z
            · exact absurd hL.2.1 (hj k' z)
            · exact z
            · exact absurd q (hL.2.2.1 k z)
          subst this
          exact hy C k' fr ti (by omega) hL
        · exact absurd q (hL.1 k (by omega))
  exact key C 0 (by omega) (fun j hj => by omega)
theorem qX12_clauseNone (G : GP) (d : Nat) (l : Int32) (m : Mem) (K : Int32 → Mem → Prop) (hn : K (-1) m) : Evi G d mX12_clauseOf [.ref (ga G 273), .int (-1), .int l] m K :=
  vX12_clauseOf G d (-1) l m K (vX12_clauseOf_2 G d (-1) l 0 m K ⟨fun _ => hn, fun q => absurd (by decide) q⟩)
def nmO (a : Nat → Int32) (b wd st : Nat) (k : Nat) : Int := ((([tn (a (16 + 3 * b)), tn (a (17 + 3 * b)), tn (a (18 + 3 * b)), wd, tn (a 9), tn (a 10), st, b] : List Nat).getD k 0 : Nat) : Int)
def overN (a : Nat → Int32) (b wd : Nat) : Bool := decide (wd < tn (a (16 + 3 * b)) + tn (a 9))
noncomputable def ovr (X : Nat → Nat → Int32) (a : Nat → Int32) (b wd st : Nat) : Bool := if a 3 = -1 then overN a b wd else if X (238 + 6 * tn (a 3) + 4) 0 < X (238 + 6 * tn (a 3) + 5) 0 then lawV X (tn (a 3)) 0 (nmO a b wd st) else overN a b wd
theorem le_sub {L w f : Nat} (hL : L ≤ 9) (hw : w ≤ 9) (hf : f ≤ 9) : nI L ≤ nI w - nI f ↔ ¬ w < L + f := by
  rw [Int32.le_iff_toInt_le, pk_sub_toInt (by omega) (by omega), nI_toInt (by omega)]
  omega
theorem m1_ne (t : Nat) (ht : t < 2147483648) : nI t ≠ -1 := fun e => by
  have h1 : (nI t).toInt = (-1 : Int32).toInt := congrArg Int32.toInt e
  rw [nI_toInt (by omega), show (-1 : Int32).toInt = -1 from by decide] at h1
  omega
/-- a stroke gets over: the model -/
theorem qX12_over (G : GP) (d : Nat) (b wd st : Nat) (m : Mem) (K : Int32 → Mem → Prop) (X : Nat → Nat → Int32) (h : WF (m.1 274)) (hb : b < tn (m.1 274 0)) (hwd : wd ≤ 9) (hst : st ≤ 1000) (hT : ∀ t, t < tn (m.1 274 2) → TT X t) (hX : m.1 276 = X 276) (hK : ∀ m' : Mem, (∀ q, q ≠ 280 → q ≠ 282 → m'.1 q = m.1 q) → K (b2 (ovr X (m.1 274) b wd st)) m') : Evi G (d + 4) mX12_isOver [.ref (ga G 273), .int (nI b), .int (nI wd), .int (nI st)] m K := by
  have hnb := (h.nb.is (by omega)).2.2
  obtain ⟨l1, l2, l3⟩ := (h.loud b hb).is (by omega)
  obtain ⟨p1, p2, p3⟩ := (h.pitch b hb).is (by omega)
  obtain ⟨n1, n2, n3⟩ := (h.men b hb).is (by omega)
  obtain ⟨f1, f2, f3⟩ := h.now.frost.is (by omega)
  obtain ⟨o1, o2, o3⟩ := h.now.hour.is (by omega)
  have i0 : (16 : Int32) + 3 * nI b = nI (16 + 3 * b) := by rw [show (16 : Int32) = nI 16 from rfl, show (3 : Int32) = nI 3 from rfl, pk_mul, nI_add]
  have i1 : nI (16 + 3 * b) + 1 = nI (17 + 3 * b) := by rw [nI_1]; congr 1; omega
  have i2 : nI (16 + 3 * b) + 2 = nI (18 + 3 * b) := by rw [show (2 : Int32) = nI 2 from rfl, nI_add]; congr 1; omega
  have none : ovr X (m.1 274) b wd st = overN (m.1 274) b wd → (vp_in ((16 : Int32) + (3 : Int32) * nI b) 5968 ∧ (((m.1 274 ((16 : Int32) + (3 : Int32) * nI b).toNatClampNeg) ≤ (nI wd - (m.1 274 9))) → K 0 m) ∧ ((¬ (m.1 274 ((16 : Int32) + (3 : Int32) * nI b).toNatClampNeg) ≤ (nI wd - (m.1 274 9))) → K 1 m)) := by
    intro e
    have k := hK m (fun _ _ _ => rfl)
    rw [e] at k
    unfold overN at k
    rw [i0, tn_nI (by omega), l1, show m.1 274 9 = nI (tn (m.1 274 9)) from f1, le_sub (by omega) (by omega) (show tn (m.1 274 9) ≤ 9 from f3)]
    refine ⟨in_nI (by omega) (by omega), fun q => ?_, fun q => ?_⟩
    · rw [decide_eq_false q] at k; exact k
    · rw [decide_eq_true (by omega)] at k; exact k
  refine vX12_isOver G d (nI b) (nI wd) (nI st) m K ?_
  rcases h.ru with e | ⟨t, ht, e⟩
  · rw [e]
    refine qX12_clauseNone G (d + 3) 0 m _ ⟨fun q => absurd rfl q, fun _ => ?_⟩
    exact none (by unfold ovr; rw [if_pos e])
  · have h4 := (h.nt.is (by omega)).2.2
    have et : tn (m.1 274 3) = t := by rw [e]; exact tn_nI (by omega)
    have e3 : ¬ m.1 274 3 = -1 := by rw [e]; exact m1_ne t (by omega)
    rw [e]
    refine qX12_clauseOf G (d + 3) t 0 m _ X (by omega) (by omega) (hT t ht) hX (fun C k fr ti hk hL => ⟨fun _ => ?_, fun q => absurd q (m1_ne k (by omega))⟩) (fun hL => ⟨fun q => absurd rfl q, fun _ => none ?_⟩)
    · have hv : ovr X (m.1 274) b wd st = lawB (nmO (m.1 274) b wd st) (oF X t) (vF X t) fr ti := by
        unfold ovr
        rw [if_neg e3, et, if_pos (show X (238 + 6 * t + 4) 0 < X (238 + 6 * t + 5) 0 from hL.has), hL.val]
      rw [hv] at hK
      rw [i0, i1, i2, tn_nI (by omega), tn_nI (by omega), tn_nI (by omega)]
      refine ⟨in_nI (by omega) (by omega), ?_⟩
      rintro _ rfl
      refine ⟨in_nI (by omega) (by omega), ?_⟩
      rintro _ rfl
      refine ⟨in_nI (by omega) (by omega), ?_⟩
      rintro _ rfl _ rfl _ rfl _ rfl _ rfl _ rfl
      obtain ⟨a1, a2, a3, a4, a5, a6, a7, a8, a9, a10, a11⟩ := hL
      refine cast (congrArg (fun z => Evi G (d + 3) mX12_isSo [.ref (ga G 273), .int z, .int (nI k)] _ _) e.symm) ?_
      refine qX12_isSo G d t k fr ti _ _ (nmO (m.1 274) b wd st) (oF X t) (vF X t) (by omega) hk a4 a5 ?_ ?_ (fun i h1 h2 => ?_) a10 (fun m' hF => ⟨?_, hK m' (fun q q1 q2 => ?_)⟩)
      · show m.1 276 _ = _
        rw [hX]; exact a6
      · show m.1 276 _ = _
        rw [hX]; exact a7
      · obtain ⟨z1, z2, z3, z4, z5, z6, -⟩ := a11 i h1 h2
        have hnm : ∀ c, c < 8 → ((wI (wI (wI (wI (wI (wI (wI (wI m 280 0 (m.1 274 (16 + 3 * b))) 280 1 (m.1 274 (17 + 3 * b))) 280 2 (m.1 274 (18 + 3 * b))) 280 3 (nI wd)) 280 4 (m.1 274 9)) 280 5 (m.1 274 10)) 280 6 (nI st)) 280 7 (nI b)).1 280 c).toInt = nmO (m.1 274) b wd st c ∧ bI (nmO (m.1 274) b wd st c) := by
          have T : ∀ {x : Int32} {n : Nat}, x = nI n → n ≤ 100000 → x.toInt = (n : Int) ∧ bI (n : Int) := fun e h => by
            rw [e, nI_toInt (by omega)]
            exact ⟨rfl, by unfold bI; omega⟩
          intro c hc
          match c, hc with
          | 0, _ => exact T (n := tn (m.1 274 (16 + 3 * b))) l1 (Nat.le_trans l3 (by omega))
          | 1, _ => exact T (n := tn (m.1 274 (17 + 3 * b))) p1 (Nat.le_trans p3 (by omega))
          | 2, _ => exact T (n := tn (m.1 274 (18 + 3 * b))) n1 (Nat.le_trans n3 (by omega))
          | 3, _ => exact T (n := wd) rfl (by omega)
          | 4, _ => exact T (n := tn (m.1 274 9)) f1 (Nat.le_trans f3 (by omega))
          | 5, _ => exact T (n := tn (m.1 274 10)) o1 (Nat.le_trans o3 (by omega))
          | 6, _ => exact T (n := st) rfl (by omega)
          | 7, _ => exact T (n := b) rfl (by omega)
        refine ⟨?_, ?_, z4, ⟨z5, fun e1 => ?_⟩, fun e1 => hnm _ ((z6 e1).1 rfl)⟩
        · show m.1 276 _ = _
          rw [hX]; exact z2
        · show m.1 276 _ = _
          rw [hX]; exact z3
        · have := (z6 e1).1 rfl; omega
      · cases lawB (nmO (m.1 274) b wd st) (oF X t) (vF X t) fr ti
        · exact Or.inl rfl
        · exact Or.inr rfl
      · rw [hF.1 q q2]
        simp only [wI_n _ _ _ q1]
    · unfold ovr
      rw [if_neg e3, et, if_neg (show ¬ X (238 + 6 * t + 4) 0 < X (238 + 6 * t + 5) 0 from hL)]
/-- a stroke gets over: the class -/
theorem kC_ruling (G : GP) (d : Nat) (m : Mem) (a : Nat → Int32) (K : Option Nat → Mem → Prop) (r : RC m.1 0 a) (h : WF a) (h0 : a 3 = -1 → K none m) (h1 : ∀ t, t < tn (a 2) → t < 4 → a 3 = nI t → K (some (238 + 6 * t)) m) : Evr G (d + 1) mX1_ruling [.ref (ga G 262)] m K := by
  have e6 : m.1 1 6 = a 3 := r.ru
  obtain ⟨t1, t2, t3⟩ := h.nt.is (by omega)
  have e5 : m.1 1 5 = nI (tn (a 2)) := (show m.1 1 5 = a 2 from r.nt).trans t1
  refine vX1_ruling G d m K ?_
  rw [e6, e5]
  rcases h.ru with e | ⟨t, ht, e⟩
  · rw [e]
    exact ⟨fun q => absurd q.1 (by decide), fun _ => h0 e⟩
  · rw [e]
    refine ⟨fun _ => ⟨in_nI (by omega) (by omega), ?_⟩, fun q => absurd ((one_nI (by omega)).mpr ⟨t, ht, rfl⟩) q⟩
    rintro _ rfl
    rw [tn_nI (by omega)]
    exact h1 t ht (by omega) e
theorem kC_over (G : GP) (d : Nat) (b wd st : Nat) (m : Mem) (a : Nat → Int32) (K : Int32 → Mem → Prop) (X : Nat → Nat → Int32) (r : RC m.1 0 a) (h : WF a) (hb : b < tn (a 0)) (hwd : wd ≤ 9) (hst : st ≤ 1000) (hT : ∀ t, t < tn (a 2) → TT X t) (hX : ∀ q, 238 ≤ q → q ≤ 261 → m.1 q = X q) (hK : ∀ m' : Mem, (∀ q, q ≠ 263 → q ≠ 264 → m'.1 q = m.1 q) → K (b2 (ovr X a b wd st)) m') : Evi G (d + 3) mX1_getsOver [.ref (ga G 262), .int (nI b), .int (nI st), .int (nI wd)] m K := by
  have hnb := (h.nb.is (by omega)).2.2
  obtain ⟨l1, l2, l3⟩ := (h.loud b hb).is (by omega)
  obtain ⟨p1, p2, p3⟩ := (h.pitch b hb).is (by omega)
  obtain ⟨n1, n2, n3⟩ := (h.men b hb).is (by omega)
  obtain ⟨f1, f2, f3⟩ := h.now.frost.is (by omega)
  obtain ⟨o1, o2, o3⟩ := h.now.hour.is (by omega)
  have e0 : m.1 2 0 = nI (tn (a 0)) := (show m.1 2 0 = a 0 from r.nb).trans (h.nb.is (by omega)).1
  have c3 : m.1 3 b = nI (tn (a (16 + 3 * b))) := (show m.1 3 b = _ from r.loud b hb).trans l1
  have c4 : m.1 4 b = nI (tn (a (17 + 3 * b))) := (show m.1 4 b = _ from r.pitch b hb).trans p1
  have c5 : m.1 5 b = nI (tn (a (18 + 3 * b))) := (show m.1 5 b = _ from r.men b hb).trans n1
  have c1 : m.1 12 1 = nI (tn (a 9)) := (show m.1 12 1 = a 9 from r.now.frost).trans f1
  have c2 : m.1 12 2 = nI (tn (a 10)) := (show m.1 12 2 = a 10 from r.now.hour).trans o1
  have none : ovr X a b wd st = overN a b wd → (vp_in (nI b) 6 ∧ (((m.1 3 (nI b).toNatClampNeg) ≤ (nI wd - (m.1 12 1))) → K 0 m) ∧ ((¬ (m.1 3 (nI b).toNatClampNeg) ≤ (nI wd - (m.1 12 1))) → K 1 m)) := by
    intro e
    have k := hK m (fun _ _ _ => rfl)
    rw [e] at k
    unfold overN at k
    rw [tn_nI (by omega), c3, c1, le_sub (by omega) (by omega) (show tn (a 9) ≤ 9 from f3)]
    refine ⟨in_nI (by omega) (by omega), fun q => ?_, fun q => ?_⟩
    · rw [decide_eq_false q] at k; exact k
    · rw [decide_eq_true (by omega)] at k; exact k
  refine vX1_getsOver G d (nI b) (nI st) (nI wd) m K ⟨fun _ => ?_, fun q => absurd (by rw [e0]; exact (one_nI (by omega)).mpr ⟨b, hb, rfl⟩) q⟩
  refine kC_ruling G (d + 1) m a _ r h (fun e => ⟨fun _ => none (by unfold ovr; rw [if_pos e]), fun t3 q => by cases q⟩) (fun t ht h4 e => ⟨fun q => (by cases q), fun t3 q => ?_⟩)
  injection q with q
  subst q
  have et : tn (a 3) = t := by rw [e]; exact tn_nI (by omega)
  have e3 : ¬ a 3 = -1 := by rw [e]; exact m1_ne t (by omega)
  refine ⟨tx_all t h4, vp_in_dec (by decide), ?_⟩
  show ((m.1 (238 + 6 * t + 4) 0 < m.1 (238 + 6 * t + 5) 0) → _) ∧ (¬ (m.1 (238 + 6 * t + 4) 0 < m.1 (238 + 6 * t + 5) 0) → _)
  rw [hX (238 + 6 * t + 4) (by omega) (by omega), hX (238 + 6 * t + 5) (by omega) (by omega)]
  obtain ⟨C, -, -, -, -, c5'⟩ := hT t ht
  rcases c5' 0 (by omega) with ⟨k, fr, ti, hL⟩ | hL
  · have hv : ovr X a b wd st = lawB (nmO a b wd st) (oF X t) (vF X t) fr ti := by
      unfold ovr
      rw [if_neg e3, et, if_pos (show X (238 + 6 * t + 4) 0 < X (238 + 6 * t + 5) 0 from hL.has), hL.val]
    rw [hv] at hK
    refine ⟨fun _ => ⟨in_nI (by omega) (by omega), ?_⟩, fun q => absurd hL.has q⟩
    rw [tn_nI (by omega)]
    refine vX1_name G (d + 2) 117 _ m _ ⟨vp_in_dec (by decide), ?_⟩
    rintro _ rfl
    refine ⟨in_nI (by omega) (by omega), vX1_name G (d + 2) 111 _ _ _ ⟨vp_in_dec (by decide), ?_⟩⟩
    rintro _ rfl
    refine ⟨in_nI (by omega) (by omega), vX1_name G (d + 2) 112 _ _ _ ⟨vp_in_dec (by decide), ?_⟩⟩
    rintro _ rfl
    refine vX1_name G (d + 2) 107 _ _ _ ⟨vp_in_dec (by decide), ?_⟩
    rintro _ rfl
    refine vX1_name G (d + 2) 108 _ _ _ ⟨vp_in_dec (by decide), ?_⟩
    rintro _ rfl
    refine vX1_name G (d + 2) 109 _ _ _ ⟨vp_in_dec (by decide), ?_⟩
    rintro _ rfl
    refine vX1_name G (d + 2) 118 _ _ _ ⟨vp_in_dec (by decide), ?_⟩
    rintro _ rfl
    refine vX1_name G (d + 2) 103 _ _ _ ⟨vp_in_dec (by decide), ?_⟩
    rintro _ rfl
    obtain ⟨a1, a2, a3, a4, a5, a6, a7, a8, a9, a10, a11⟩ := hL
    refine qX1_says G d (238 + 6 * t) (tx_all t h4) 0 fr ti _ _ (nmO a b wd st) (oF X t) (vF X t) (by omega) a4 a5 ?_ ?_ (by omega) (fun i h1 h2 => ?_) a10 (fun m' hF _ => ⟨?_, hK m' (fun q q1 q2 => ?_)⟩)
    · simp only [wI_n _ _ _ (show 238 + 6 * t + 4 ≠ 263 by omega)]
      rw [hX _ (by omega) (by omega)]; exact a8
    · simp only [wI_n _ _ _ (show 238 + 6 * t + 5 ≠ 263 by omega)]
      rw [hX _ (by omega) (by omega)]; exact a9
    · obtain ⟨z1, z2, z3, z4, z5, z6, -⟩ := a11 i h1 h2
      refine ⟨?_, ⟨z5, fun e1 => ?_⟩, fun e1 => ?_⟩
      · simp only [wI_n _ _ _ (show 238 + 6 * t + 3 ≠ 263 by omega)]
        rw [hX _ (by omega) (by omega)]; exact z1
      · have := (z6 e1).1 rfl; omega
      · have hc := (z6 e1).1 rfl
        have T : ∀ {x : Int32} {n : Nat}, x = nI n → n ≤ 100000 → x.toInt = (n : Int) ∧ bI (n : Int) := fun e h => by
          rw [e, nI_toInt (by omega)]
          exact ⟨rfl, by unfold bI; omega⟩
        generalize vF X t i = c at hc
        match c, hc with
        | 0, _ => exact T (n := tn (a (16 + 3 * b))) c3 (Nat.le_trans l3 (by omega))
        | 1, _ => exact T (n := tn (a (17 + 3 * b))) c4 (Nat.le_trans p3 (by omega))
        | 2, _ => exact T (n := tn (a (18 + 3 * b))) c5 (Nat.le_trans n3 (by omega))
        | 3, _ => exact T (n := wd) rfl (by omega)
        | 4, _ => exact T (n := tn (a 9)) c1 (Nat.le_trans f3 (by omega))
        | 5, _ => exact T (n := tn (a 10)) c2 (Nat.le_trans o3 (by omega))
        | 6, _ => exact T (n := st) rfl (by omega)
        | 7, _ => exact T (n := b) rfl (by omega)
    · cases lawB (nmO a b wd st) (oF X t) (vF X t) fr ti
      · exact Or.inl rfl
      · exact Or.inr rfl
    · rw [hF q q2]
      simp only [wI_n _ _ _ q1]
  · refine ⟨fun q => absurd q hL.2, fun _ => none ?_⟩
    unfold ovr
    rw [if_neg e3, et, if_neg (show ¬ X (238 + 6 * t + 4) 0 < X (238 + 6 * t + 5) 0 from hL.2)]
