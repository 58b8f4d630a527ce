/-! feed -/
def shV : Nat → Int32
  | 0 => 24
  | 1 => 16
  | 2 => 8
  | 3 => 0
  | _ => -8
def bM (x : Int32) (k : Nat) : Int32 := (x >>> (shV k &&& 31)) &&& 255
def bC (x : Int32) (k : Nat) : Int32 := vp_nar .byte ((x >>> (shV k &&& 31)).toInt8.toInt32)
theorem shV_s : ∀ k, k < 4 → shV k + (-8) = shV (k + 1) := by decide
theorem pt_app {f g g' : Nat → Int32} {a n n' : Nat} (h : ∀ j, j < n' → g (n + j) = g' j) : pt (pt f g a n) g' (a + n) n' = pt f g a (n + n') := by
  funext k
  by_cases h1 : a ≤ k ∧ k < a + n
  · rw [pt_out (by omega), pt_in h1.1 h1.2, pt_in h1.1 (by omega)]
  · by_cases h2 : a + n ≤ k ∧ k < a + n + n'
    · rw [pt_in h2.1 h2.2, pt_in (by omega) (by omega), ← h _ (by omega)]
      exact congrArg g (by omega)
    · rw [pt_out (by omega), pt_out (by omega), pt_out (by omega)]
theorem and255 (y : Int32) : ∃ v, v < 256 ∧ y &&& 255 = nI v ∧ vp_nar .byte (y.toInt8.toInt32) = (nI v).toInt8.toInt32 := by
  have e1 : y &&& 255 = nI (y.toBitVec.toNat % 2 ^ 8) := pk_and y 8 (by decide)
  refine ⟨y.toBitVec.toNat % 2 ^ 8, by omega, e1, ?_⟩
  have e2 : vp_nar .byte (y.toInt8.toInt32) = y.toInt8.toInt32.toInt8.toInt32 := rfl
  have e3 : (y &&& 255).toInt8 = y.toInt8 := by
    rw [Int32.toInt8_and, show (255 : Int32).toInt8 = -1 by decide]
    exact Int8.and_neg_one
  rw [e2, ← e1, e3]
  simp
theorem qX7_append (G : GP) (d : Nat) (x : Int32) (m : Mem) (K : Mem → Prop) (L : Nat) (hL : m.1 228 0 = nI L) (h : L + 4 ≤ 300) (hK : ∀ m' : Mem, m'.1 228 0 = nI (L + 4) → m'.1 229 = pt (m.1 229) (bC x) L 4 → (∀ c, c ≠ 228 → c ≠ 229 → m'.1 c = m.1 c) → K m') : Evv G d mX7_append [.ref (ga G 228), .int x] m K := by
  refine vX7_append G d x m K ?_
  refine loopD (P := fun i => ∀ m' : Mem, m'.1 228 0 = nI (L + i) → m'.1 229 = pt (m.1 229) (bC x) L i → (∀ c, c ≠ 228 → c ≠ 229 → m'.1 c = m.1 c) → Gw G d mX7_append 3 [.ref (ga G 228), .int x, .int (shV i)] [] m' (Qv K)) 4 ?_ ?_ m hL (by rw [pt_0]) (fun _ _ _ => rfl)
  · intro i hi hP m' e1 e2 e3
    refine vX7_append_3 G d x (shV i) m' K ⟨fun q => ?_, fun _ => ⟨fun q => ?_, fun _ => ⟨by rw [e1]; exact in_nI (by omega) (by omega), ?_⟩⟩⟩
    · exfalso
      have : ∀ i, i < 4 → ¬ shV i < 0 := by decide
      exact this i hi q
    · rw [e1] at q
      have q := (le_nI (a := 300) (by omega) (by omega)).mp q
      omega
    · rintro _ rfl _ rfl _ rfl
      rw [shV_s i hi]
      refine hP _ ?_ ?_ ?_
      · rw [wI_s, upd_s, wI_n _ _ _ (by omega), e1]
        exact nI_1 _
      · rw [wI_n _ _ _ (by omega), wI_s, e1, tn_nI (by omega), e2, ← pt_succ]
        rfl
      · intro c h1 h2
        rw [wI_n _ _ _ h1, wI_n _ _ _ h2, e3 c h1 h2]
  · intro m' e1 e2 e3
    exact vX7_append_3 G d x (shV 4) m' K ⟨fun _ => hK m' e1 e2 e3, fun q => absurd (by decide) q⟩
theorem qX12_four (G : GP) (d : Nat) (x : Int32) (m : Mem) (K : Mem → Prop) (L : Nat) (hL : m.1 273 5 = nI L) (h : L + 4 ≤ 300) (hK : ∀ m' : Mem, m'.1 273 = upd (m.1 273) 5 (nI (L + 4)) → m'.1 278 = pt (m.1 278) (bM x) L 4 → (∀ c, c ≠ 273 → c ≠ 278 → m'.1 c = m.1 c) → K m') : Evv G d mX12_four [.ref (ga G 273), .int x] m K := by
  refine vX12_four G d x m K ?_
  refine loopD (P := fun i => ∀ m' : Mem, m'.1 273 = upd (m.1 273) 5 (nI (L + i)) → m'.1 278 = pt (m.1 278) (bM x) L i → (∀ c, c ≠ 273 → c ≠ 278 → m'.1 c = m.1 c) → Gw G d mX12_four 3 [.ref (ga G 273), .int x, .int (shV i)] [] m' (Qv K)) 4 ?_ ?_ m ?_ (by rw [pt_0]) (fun _ _ _ => rfl)
  · intro i hi hP m' e1 e2 e3
    have e5 : m'.1 273 5 = nI (L + i) := by rw [e1, upd_s]
    refine vX12_four_3 G d x (shV i) m' K ⟨fun q => ?_, fun _ => ⟨by rw [e5]; exact in_nI (by omega) (by omega), ?_⟩⟩
    · exfalso
      have : ∀ i, i < 4 → ¬ shV i < 0 := by decide
      exact this i hi q
    · rintro _ rfl _ rfl _ rfl
      rw [shV_s i hi]
      refine hP _ ?_ ?_ ?_
      · rw [wI_s, wI_n _ _ _ (by omega), e1, upd_s]
        funext k
        by_cases hk : k = 5
        · rw [hk, upd_s, upd_s]; exact nI_1 _
        · rw [upd_n _ _ hk, upd_n _ _ hk, upd_n _ _ hk]
      · rw [wI_n _ _ _ (by omega), wI_s, e5, tn_nI (by omega), e2, ← pt_succ]
        rfl
      · intro c h1 h2
        rw [wI_n _ _ _ h1, wI_n _ _ _ h2, e3 c h1 h2]
  · intro m' e1 e2 e3
    exact vX12_four_3 G d x (shV 4) m' K ⟨fun _ => hK m' e1 e2 e3, fun q => absurd (by decide) q⟩
  · funext k
    by_cases hk : k = 5
    · rw [hk, upd_s]; exact hL
    · rw [upd_n _ _ hk]
def x5 (a b c d e : Int32) : Nat → Int32
  | 0 => a
  | 1 => b
  | 2 => c
  | 3 => d
  | _ => e
theorem case_feed (G : GP) (d : Nat) {TX : (Nat → Nat → Int32) → Prop} (hT : TXok TX) {n : Nat} (a0 a1 a2 a3 a4 : Int32) (m : Mem) (h : Inv TX n m.1) : Evi G (d + 1) mX11_feed [.ref (ga G 0), .int a0, .int a1, .int a2, .int a3, .int a4] m (Same G TX n (d + 1) mX12_feed [.int a0, .int a1, .int a2, .int a3, .int a4]) := by
  have hP := h.2.2.2.2.1
  obtain ⟨e1, -, e3⟩ := hP.bd.is (by omega)
  have e2 := hP.len.trans e1
  generalize hL : tn (m.1 273 5) = L at *
  have e20 : nI L + 20 = nI (L + 20) := nI_add L 20
  have a300 : (300 : Int32) = nI 300 := rfl
  refine vX11_feed G d a0 a1 a2 a3 a4 m _ ⟨fun q => ?_, fun q => ?_⟩
  · have q' := q
    rw [e2, e20, a300, le_nI (by omega) (by omega)] at q
    let gc : Nat → Int32 := fun j => bC (x5 a0 a1 a2 a3 a4 (j / 4)) (j % 4)
    let gm : Nat → Int32 := fun j => bM (x5 a0 a1 a2 a3 a4 (j / 4)) (j % 4)
    refine qX7_append G d a0 m _ L e2 (by omega) (fun m1 c1 r1 o1 => ?_)
    refine qX7_append G d a1 m1 _ _ c1 (by omega) (fun m2 c2 r2 o2 => ?_)
    refine qX7_append G d a2 m2 _ _ c2 (by omega) (fun m3 c3 r3 o3 => ?_)
    refine qX7_append G d a3 m3 _ _ c3 (by omega) (fun m4 c4 r4 o4 => ?_)
    refine qX7_append G d a4 m4 _ _ c4 (by omega) (fun m5 c5 r5 o5 => ?_)
    have rc : m5.1 229 = pt (m.1 229) gc L 20 := by
      have s1 : m1.1 229 = pt (m.1 229) gc L 4 := by
        rw [r1]
        have := pt_app (f := m.1 229) (g := gc) (g' := bC a0) (a := L) (n := 0) (n' := 4) (by intro j hj; show bC (x5 a0 a1 a2 a3 a4 ((0 + j) / 4)) ((0 + j) % 4) = _; rw [show (0 + j) / 4 = 0 by omega, show (0 + j) % 4 = j by omega]; rfl)
        rw [pt_0] at this
        exact this
      have s2 : m2.1 229 = pt (m.1 229) gc L (4 + 4) := by
        rw [r2, s1]
        exact pt_app (by intro j hj; show bC (x5 a0 a1 a2 a3 a4 ((4 + j) / 4)) ((4 + j) % 4) = _; rw [show (4 + j) / 4 = 1 by omega, show (4 + j) % 4 = j by omega]; rfl)
      have s3 : m3.1 229 = pt (m.1 229) gc L (8 + 4) := by
        rw [r3, s2]
        exact pt_app (by intro j hj; show bC (x5 a0 a1 a2 a3 a4 ((8 + j) / 4)) ((8 + j) % 4) = _; rw [show (8 + j) / 4 = 2 by omega, show (8 + j) % 4 = j by omega]; rfl)
      have s4 : m4.1 229 = pt (m.1 229) gc L (12 + 4) := by
        rw [r4, s3]
        exact pt_app (by intro j hj; show bC (x5 a0 a1 a2 a3 a4 ((12 + j) / 4)) ((12 + j) % 4) = _; rw [show (12 + j) / 4 = 3 by omega, show (12 + j) % 4 = j by omega]; rfl)
      rw [r5, s4]
      exact pt_app (by intro j hj; show bC (x5 a0 a1 a2 a3 a4 ((16 + j) / 4)) ((16 + j) % 4) = _; rw [show (16 + j) / 4 = 4 by omega, show (16 + j) % 4 = j by omega]; rfl)
    have oc : ∀ c, c ≠ 228 → c ≠ 229 → m5.1 c = m.1 c := fun c h1 h2 => by rw [o5 c h1 h2, o4 c h1 h2, o3 c h1 h2, o2 c h1 h2, o1 c h1 h2]
    have t3 : m5.1 273 = m.1 273 := oc 273 (by omega) (by omega)
    have t5 : m5.1 273 5 = nI L := by rw [t3]; exact e1
    refine vX12_feed G d a0 a1 a2 a3 a4 m5 _ ⟨fun _ => ?_, fun q2 => absurd ?_ q2⟩
    · refine qX12_four G d a0 m5 _ L t5 (by omega) (fun n1 c1' r1 p1 => ?_)
      refine qX12_four G d a1 n1 _ _ (by rw [c1', upd_s]) (by omega) (fun n2 c2' r2 p2 => ?_)
      refine qX12_four G d a2 n2 _ _ (by rw [c2', upd_s]) (by omega) (fun n3 c3' r3 p3 => ?_)
      refine qX12_four G d a3 n3 _ _ (by rw [c3', upd_s]) (by omega) (fun n4 c4' r4 p4 => ?_)
      refine qX12_four G d a4 n4 _ _ (by rw [c4', upd_s]) (by omega) (fun n5 c5' r5 p5 => ?_)
      have rm : n5.1 278 = pt (m.1 278) gm L 20 := by
        have t8 : m5.1 278 = m.1 278 := oc 278 (by omega) (by omega)
        have s1 : n1.1 278 = pt (m.1 278) gm L 4 := by
          rw [r1, t8]
          have := pt_app (f := m.1 278) (g := gm) (g' := bM a0) (a := L) (n := 0) (n' := 4) (by intro j hj; show bM (x5 a0 a1 a2 a3 a4 ((0 + j) / 4)) ((0 + j) % 4) = _; rw [show (0 + j) / 4 = 0 by omega, show (0 + j) % 4 = j by omega]; rfl)
          rw [pt_0] at this
          exact this
        have s2 : n2.1 278 = pt (m.1 278) gm L (4 + 4) := by
          rw [r2, s1]
          exact pt_app (by intro j hj; show bM (x5 a0 a1 a2 a3 a4 ((4 + j) / 4)) ((4 + j) % 4) = _; rw [show (4 + j) / 4 = 1 by omega, show (4 + j) % 4 = j by omega]; rfl)
        have s3 : n3.1 278 = pt (m.1 278) gm L (8 + 4) := by
          rw [r3, s2]
          exact pt_app (by intro j hj; show bM (x5 a0 a1 a2 a3 a4 ((8 + j) / 4)) ((8 + j) % 4) = _; rw [show (8 + j) / 4 = 2 by omega, show (8 + j) % 4 = j by omega]; rfl)
        have s4 : n4.1 278 = pt (m.1 278) gm L (12 + 4) := by
          rw [r4, s3]
          exact pt_app (by intro j hj; show bM (x5 a0 a1 a2 a3 a4 ((12 + j) / 4)) ((12 + j) % 4) = _; rw [show (12 + j) / 4 = 3 by omega, show (12 + j) % 4 = j by omega]; rfl)
        rw [r5, s4]
        exact pt_app (by intro j hj; show bM (x5 a0 a1 a2 a3 a4 ((16 + j) / 4)) ((16 + j) % 4) = _; rw [show (16 + j) / 4 = 4 by omega, show (16 + j) % 4 = j by omega]; rfl)
      have om : ∀ c, c ≠ 273 → c ≠ 278 → n5.1 c = m5.1 c := fun c h1 h2 => by rw [p5 c h1 h2, p4 c h1 h2, p3 c h1 h2, p2 c h1 h2, p1 c h1 h2]
      have t3' : n5.1 273 = upd (m.1 273) 5 (nI (L + 20)) := by
        rw [c5', c4', c3', c2', c1', t3]
        funext k
        by_cases hk : k = 5
        · rw [hk, upd_s, upd_s]
        · rw [upd_n _ _ hk, upd_n _ _ hk, upd_n _ _ hk, upd_n _ _ hk, upd_n _ _ hk, upd_n _ _ hk]
      have all : ∀ c, c ≠ 228 → c ≠ 229 → c ≠ 273 → c ≠ 278 → n5.1 c = m.1 c := fun c h1 h2 h3 h4 => by rw [om c h3 h4, oc c h1 h2]
      have t7 : n5.1 273 5 = nI (L + 20) := by rw [t3', upd_s]
      have t8 : n5.1 228 0 = nI (L + 20) := by rw [om 228 (by omega) (by omega)]; exact c5
      refine ⟨?_, ?_⟩
      · rw [c5, t7]
      · obtain ⟨b1, b2, b3, b4, b5, b6, b7, b8, b9⟩ := h
        have e4 : n5.1 274 = m.1 274 := all 274 (by omega) (by omega) (by omega) (by omega)
        have e5 : n5.1 275 = m.1 275 := all 275 (by omega) (by omega) (by omega) (by omega)
        refine ⟨by rw [e4]; exact b1, by rw [e5]; exact b2, ?_, ?_, ⟨?_, ?_, ?_⟩, b6.fr ?_ ?_ ?_, hT m.1 n5.1 ⟨?_, ?_, ?_, ?_, ?_, ?_⟩ b7, by rw [e4]; omega, by rw [e5]; omega⟩
        · rw [e4]; exact b3.fr (fun c h1 h2 _ _ => all c (by omega) (by omega) (by omega) (by omega))
        · rw [e5]; exact b4.fr (fun c h1 h2 _ _ => all c (by omega) (by omega) (by omega) (by omega))
        · rw [t7, t8]
        · rw [t7]; exact ⟨L + 20, by omega, by omega, rfl⟩
        · intro k hk
          rw [t7] at hk
          have : tn (nI (L + 20)) = L + 20 := tn_nI (by omega)
          rw [this] at hk
          rw [rm, om 229 (by omega) (by omega), rc]
          by_cases hk2 : k < L
          · rw [pt_out (by omega), pt_out (by omega)]
            exact b5.byt k (by rw [hL]; exact hk2)
          · rw [pt_in (by omega) (by omega), pt_in (by omega) (by omega)]
            exact and255 _
        · exact all 233 (by omega) (by omega) (by omega) (by omega)
        · rw [t3', upd_n _ _ (by omega)]
        · rw [t3', upd_n _ _ (by omega)]
        · rintro c (⟨h1, h2⟩ | rfl | rfl | rfl | rfl)
          · exact all c (by omega) (by omega) (by omega) (by omega)
          · exact all 265 (by omega) (by omega) (by omega) (by omega)
          · exact all 276 (by omega) (by omega) (by omega) (by omega)
          · exact all 8 (by omega) (by omega) (by omega) (by omega)
          · exact all 9 (by omega) (by omega) (by omega) (by omega)
        · rw [all 1 (by omega) (by omega) (by omega) (by omega)]
        · rw [all 1 (by omega) (by omega) (by omega) (by omega)]
        · rw [all 2 (by omega) (by omega) (by omega) (by omega)]
        · rw [e4]
        · rw [e5]
    · rw [t5, e20, a300, le_nI (by omega) (by omega)]
      exact q
  · refine vX12_feed G d a0 a1 a2 a3 a4 m _ ⟨fun q2 => absurd ?_ q, fun _ => ⟨rfl, h.idle⟩⟩
    rw [e2, ← e1]
    exact q2
