/-! apart -/
abbrev farSet (a : Nat → Int32) (D s : Nat) : Prop := ∀ w, w < tn (a 1) → ∀ v, v < w → s.testBit w = true → s.testBit v = true → D ≤ distV a w v
def bestS (a : Nat → Int32) (D : Nat) (s b : Nat) : Nat := if pop b < pop s ∧ farSet a D s then s else b
def nearB (a : Nat → Int32) (D w : Nat) : Nat → Nat
  | 0 => 0
  | v + 1 => if distV a w v < D then nearB a D w v ||| 1 <<< v else nearB a D w v
theorem nearB_tb (a : Nat → Int32) (D w q : Nat) : ∀ v, (nearB a D w v).testBit q = true ↔ q < v ∧ distV a w q < D
  | 0 => by unfold nearB; simp
  | v + 1 => by
    unfold nearB
    split
    · rename_i h
      rw [tb_or, Bool.or_eq_true, nearB_tb a D w q v, decide_eq_true_iff]
      constructor
      · rintro (⟨h1, h2⟩ | h1)
        · exact ⟨by omega, h2⟩
        · rw [h1]; exact ⟨by omega, h⟩
      · rintro ⟨h1, h2⟩
        by_cases e : q = v
        · exact Or.inr e
        · exact Or.inl ⟨by omega, h2⟩
    · rename_i h
      rw [nearB_tb a D w q v]
      constructor
      · rintro ⟨h1, h2⟩
        exact ⟨by omega, h2⟩
      · rintro ⟨h1, h2⟩
        by_cases e : q = v
        · rw [e] at h2; exact absurd h2 h
        · exact ⟨by omega, h2⟩
theorem nearB_lt (a : Nat → Int32) (D w : Nat) : ∀ v, v ≤ 10 → nearB a D w v < 1024
  | 0, _ => by unfold nearB; omega
  | v + 1, h => by
    unfold nearB
    split
    · exact or_lt (nearB_lt a D w v (by omega)) (by omega)
    · exact nearB_lt a D w v (by omega)
theorem kC_tooNear (G : GP) (d : Nat) (D : Nat) (hD : D ≤ 4) (m : Mem) (a : Nat → Int32) (K : Mem → Prop) (r : RC m.1 0 a) (h : WF a) (hK : ∀ m' : Mem, (∀ w, w < tn (a 1) → m'.1 11 w = nI (nearB a D w w)) → (∀ c, c ≠ 10 → c ≠ 11 → m'.1 c = m.1 c) → K m') : Evv G (d + 3) mX2_findTooNear [.ref (ga G 2), .int (nI D)] m K := by
  have h10 := h.nw10
  refine vX2_findTooNear G d (nI D) m K ?_
  refine loopD (P := fun w => ∀ m' : Mem, (∀ x, x < w → m'.1 11 x = nI (nearB a D x x)) → (∀ c, c ≠ 10 → c ≠ 11 → m'.1 c = m.1 c) → ∀ u, Gw G (d + 3) mX2_findTooNear 2 [.ref (ga G 2), .int (nI D), .int (nI w), u] [] m' (Qv K)) (tn (a 1)) ?_ ?_ m (fun x hx => by omega) (fun _ _ _ => rfl) _
  · intro w hw hP m' e1 e2 u
    have g2 : m'.1 2 4 = nI (tn (a 1)) := by rw [e2 2 (by omega) (by omega)]; exact r.nw.trans h.nwE
    refine vX2_findTooNear_2 G d (nI D) (nI w) u m' K ⟨fun q => ?_, fun _ => ⟨in_nI (by omega) (by omega), ?_⟩⟩
    · rw [g2, le_nI (by omega) (by omega)] at q
      omega
    · rintro _ rfl
      rw [tn_nI (by omega)]
      refine loopD (P := fun v => ∀ m2 : Mem, (∀ x, x < w → m2.1 11 x = nI (nearB a D x x)) → m2.1 11 w = nI (nearB a D w v) → (∀ c, c ≠ 10 → c ≠ 11 → m2.1 c = m.1 c) → Gw G (d + 3) mX2_findTooNear 19 [.ref (ga G 2), .int (nI D), .int (nI w), .int (nI v)] [] m2 (Qv K)) w ?_ ?_ _ ?_ ?_ ?_
      · intro v hv hP2 m2 f1 f2 f3
        have rr : RC m2.1 0 a := r.fr (fun c h1 h2 h3 h4 => f3 c h3 h4)
        have hdl := distV_le h (x := w) (y := v) (by omega) (by omega)
        refine vX2_findTooNear_19 G d (nI D) (nI w) (nI v) m2 K ⟨fun q => ?_, fun _ => ?_⟩
        · rw [le_nI (by omega) (by omega)] at q
          omega
        · refine kC_between G d w v m2 a _ rr h (by omega) (by omega) (fun m3 c1 => ⟨fun q => ?_, fun q => ⟨in_nI (by omega) (by omega), in_nI (by omega) (by omega), ?_⟩⟩)
          · rw [le_nI (by omega) (by omega)] at q
            rintro _ rfl
            rw [nI_1]
            refine hP2 m3 (fun x hx => by rw [c1 11 (by omega)]; exact f1 x hx) ?_ (fun c h1 h2 => by rw [c1 c h1, f3 c h1 h2])
            rw [c1 11 (by omega), f2]
            unfold nearB
            rw [if_neg (by omega)]
            cases v <;> rfl
          · rw [le_nI (by omega) (by omega)] at q
            rintro _ rfl _ rfl
            rw [nI_1, tn_nI (by omega), c1 11 (by omega), f2, shl1_nI _ (by omega), or_nI]
            refine hP2 _ (fun x hx => by rw [wI_s, upd_n _ _ (by omega), c1 11 (by omega)]; exact f1 x hx) ?_ (fun c h1 h2 => by rw [wI_n _ _ _ h2, c1 c h1, f3 c h1 h2])
            rw [wI_s, upd_s]
            show _ = nI (if distV a w v < D then nearB a D w v ||| 1 <<< v else nearB a D w v)
            rw [if_pos (by omega)]
      · intro m2 f1 f2 f3
        refine vX2_findTooNear_19 G d (nI D) (nI w) (nI w) m2 K ⟨fun _ => ?_, fun q => absurd (Int32.le_refl _) q⟩
        rintro _ rfl
        rw [nI_1]
        refine hP m2 (fun x hx => ?_) f3 _
        by_cases e : x = w
        · rw [e]; exact f2
        · exact f1 x (by omega)
      · intro x hx
        rw [wI_s, upd_n _ _ (by omega)]
        exact e1 x hx
      · rw [wI_s, upd_s]; rfl
      · intro c h1 h2
        rw [wI_n _ _ _ h2, e2 c h1 h2]
  · intro m' e1 e2 u
    have g2 : m'.1 2 4 = nI (tn (a 1)) := by rw [e2 2 (by omega) (by omega)]; exact r.nw.trans h.nwE
    refine vX2_findTooNear_2 G d (nI D) _ u m' K ⟨fun _ => hK m' e1 e2, fun q => absurd ?_ q⟩
    rw [g2]
    exact Int32.le_refl _
theorem and_0 {x y : Nat} : x &&& y = 0 ↔ ∀ v, ¬ (x.testBit v = true ∧ y.testBit v = true) := by
  constructor
  · intro h v hv
    have : (x &&& y).testBit v = true := by rw [Nat.testBit_and, hv.1, hv.2]; rfl
    rw [h, Nat.zero_testBit] at this
    exact absurd this (by decide)
  · intro h
    apply Nat.eq_of_testBit_eq
    intro v
    rw [Nat.zero_testBit, Nat.testBit_and]
    rw [Bool.and_eq_false_iff]
    by_cases e : x.testBit v = true
    · refine Or.inr ?_
      rw [← Bool.not_eq_true]
      exact fun q => h v ⟨e, q⟩
    · exact Or.inl (by simpa using e)
theorem kC_allFar (G : GP) (d : Nat) (D s : Nat) (hs : s < 1024) (m : Mem) (a : Nat → Int32) (K : Int32 → Mem → Prop) (g2 : m.1 2 4 = nI (tn (a 1))) (h : WF a) (h11 : ∀ w, w < tn (a 1) → m.1 11 w = nI (nearB a D w w)) (hK : (farSet a D s → K 1 m) ∧ (¬ farSet a D s → K 0 m)) : Evi G d mX2_allFar [.ref (ga G 2), .int (nI s)] m K := by
  have h10 := h.nw10
  refine vX2_allFar G d (nI s) m K ?_
  have key : ∀ e w, w + e = tn (a 1) → (∀ x, x < w → ∀ v, v < x → s.testBit x = true → s.testBit v = true → D ≤ distV a x v) → Gw G d mX2_allFar 2 [.ref (ga G 2), .int (nI s), .int (nI w)] [] m (Qi K) := by
    intro e
    induction e with
    | zero =>
      intro w hw hall
      refine vX2_allFar_2 G d (nI s) (nI w) m K ⟨fun _ => hK.1 (fun x hx => hall x (by omega)), fun q => absurd ?_ q⟩
      rw [g2, show w = tn (a 1) by omega]
      exact Int32.le_refl _
    | succ e ih =>
      intro w hw hall
      have hb := nearB_lt a D w w (by omega)
      refine vX2_allFar_2 G d (nI s) (nI w) m K ⟨fun q => ?_, fun _ => ⟨fun q => ?_, fun q => ⟨in_nI (by omega) (by omega), fun q2 => ?_, fun q2 => ?_⟩⟩⟩
      · rw [g2, le_nI (by omega) (by omega)] at q
        omega
      · rw [bit_0 (by omega) (by omega)] at q
        rintro _ rfl
        rw [nI_1]
        refine ih (w + 1) (by omega) (fun x hx v hv h1 h2 => ?_)
        by_cases e : x = w
        · rw [e, q] at h1; exact absurd h1 (by decide)
        · exact hall x (by omega) v hv h1 h2
      · rw [tn_nI (by omega), h11 w (by omega), and_nI] at q2
        have q2 := (eq_nI (b := 0) (Nat.lt_of_le_of_lt Nat.and_le_right (by omega)) (by omega)).mp q2
        rw [and_0] at q2
        rintro _ rfl
        rw [nI_1]
        refine ih (w + 1) (by omega) (fun x hx v hv h1 h2 => ?_)
        by_cases e : x = w
        · subst e
          refine Nat.le_of_not_lt (fun q3 => q2 v ⟨(nearB_tb a D x v x).mpr ⟨hv, q3⟩, h2⟩)
        · exact hall x (by omega) v hv h1 h2
      · rw [bit_0 (by omega) (by omega), Bool.not_eq_false] at q
        rw [tn_nI (by omega), h11 w (by omega), and_nI] at q2
        refine hK.2 (fun hf => q2 ?_)
        refine congrArg nI (and_0.mpr (fun v hv => ?_))
        obtain ⟨h1, h2⟩ := (nearB_tb a D w v w).mp hv.1
        have := hf w (by omega) v h1 q hv.2
        omega
  exact key (tn (a 1)) 0 (by omega) (fun x hx => by omega)
theorem qX12_bits (G : GP) (d : Nat) (s : Nat) (hs : s < 1024) (m : Mem) (K : Int32 → Mem → Prop) (hK : K (nI (pop s)) m) : Evi G d mX12_bits [.int (nI s)] m K := by
  refine vX12_bits G d (nI s) m K ?_
  refine loopF (P := fun i (n : Nat) => Gw G d mX12_bits 4 [.int (nI s), .int (nI n), .int (nI i)] [] m (Qi K)) (fun k n => n + (s >>> k) % 2) 10 ?_ 10 0 0 (by omega) ?_
  · intro i n hi hP
    refine vX12_bits_4 G d (nI s) (nI n) (nI i) m K ⟨fun q => ?_, fun _ => ?_⟩
    · have q := (le_nI (a := 10) (by omega) (by omega)).mp q
      omega
    · rintro _ rfl _ rfl
      rw [shr_nI (by omega) (by omega), show (1 : Int32) = nI 1 from rfl, and_nI, nI_add, nI_add, Nat.and_one_is_mod]
      exact hP
  · exact vX12_bits_4 G d (nI s) _ (nI 10) m K ⟨fun _ => hK, fun q => absurd (by decide) q⟩
theorem shl_pow {v : Nat} (h : v ≤ 10) : (1 : Int32) <<< (nI v &&& 31) = nI (2 ^ v) := by
  rw [shl1_nI v (by omega), Nat.shiftLeft_eq, Nat.one_mul]
theorem case_apart (G : GP) (d : Nat) {TX : (Nat → Nat → Int32) → Prop} (hT : TXok TX) {n : Nat} (a0 : Int32) (m : Mem) (h : Inv TX n m.1) : Evi G (d + 5) mX11_apart [.ref (ga G 0), .int a0] m (Same G TX n (d + 5) mX12_apart [.int a0]) := by
  have r := h.2.2.1
  have hW := h.1
  generalize ha : m.1 274 = a at *
  have h10 := hW.nw10
  refine vX11_apart G d a0 m _ ⟨fun hd => ?_, fun hd => ?_⟩
  · have hd0 := hd
    obtain ⟨D, d1, d2, rfl⟩ := bd_of (lo := 1) (hi := 4) hd.1 hd.2 (by omega) (by omega)
    have hp : 2 ^ tn (a 1) ≤ 1024 := by
      have : 2 ^ tn (a 1) ≤ 2 ^ 10 := Nat.pow_le_pow_right (by omega) h10
      omega
    have hp1 : 1 ≤ 2 ^ tn (a 1) := Nat.one_le_two_pow
    have hblt : ∀ k i b, b < 1024 → i + k ≤ 1024 → fold (bestS a D) i k b < 1024 := by
      intro k
      induction k with
      | zero => intro i b hb _; exact hb
      | succ k ih =>
        intro i b hb hik
        refine ih (i + 1) _ ?_ (by omega)
        unfold bestS
        split <;> omega
    refine vX2_toldApart G d (nI D) m _ (kC_tooNear G d D d2 m a _ r hW (fun m1 t1 t2 => ?_))
    have g2 : m1.1 2 4 = nI (tn (a 1)) := by rw [t2 2 (by omega) (by omega)]; exact r.nw.trans hW.nwE
    have g4 : m1.1 274 = a := by rw [t2 274 (by omega) (by omega), ha]
    refine loopI (P := fun i (b : Nat) => ∀ u, Gw G (d + 4) mX2_toldApart 9 [.ref (ga G 2), u, .int (nI b), .int (nI i)] [] m1 (Qi (Same G TX n (d + 5) mX12_apart [.int (nI D)]))) (fun _ b => b < 1024) (bestS a D) (2 ^ tn (a 1)) ?_ (2 ^ tn (a 1) - 1) 1 0 (by omega) (by omega) (fun hb u => ?_) _
    · intro i b hi hb
      refine ⟨by unfold bestS; split <;> omega, fun hP u => ?_⟩
      have p1 := pop_le i (by omega)
      have p2 := pop_le b hb
      refine vX2_toldApart_9 G d u (nI b) (nI i) m1 _ ⟨fun q => ?_, fun _ => ?_⟩
      · rw [g2, shl_pow h10, le_nI (by omega) (by omega)] at q
        omega
      · rw [bitC_pop i (by omega), bitC_pop b hb, le_nI (by omega) (by omega)]
        refine ⟨fun q => ?_, fun q => ?_⟩
        · rintro _ rfl
          rw [nI_1]
          unfold bestS at hP
          rw [if_neg (fun c => by omega)] at hP
          exact hP _
        · refine kC_allFar G (d + 3) D i (by omega) m1 a _ g2 hW t1 ⟨fun hf => ⟨fun q2 => absurd q2 (by decide), fun _ => ?_⟩, fun hf => ⟨fun _ => ?_, fun q2 => absurd rfl q2⟩⟩
          · rintro _ rfl
            rw [nI_1]
            unfold bestS at hP
            rw [if_pos ⟨by omega, hf⟩] at hP
            exact hP _
          · rintro _ rfl
            rw [nI_1]
            unfold bestS at hP
            rw [if_neg (fun c => hf c.2)] at hP
            exact hP _
    · have hex : ((1 : Int32) <<< ((m1.1 2 4) &&& 31)) ≤ nI (2 ^ tn (a 1)) := by
        rw [g2, shl_pow h10]
        exact Int32.le_refl _
      refine vX2_toldApart_9 G d u _ _ m1 _ ⟨fun _ => ?_, fun q => absurd hex q⟩
      -- the model
      generalize hB : fold (bestS a D) 1 (2 ^ tn (a 1) - 1) 0 = B at *
      have hB0 : fold (bestS a D) 0 (2 ^ tn (a 1)) 0 = B := by
        rw [← hB]
        obtain ⟨p, hpp⟩ : ∃ p, 2 ^ tn (a 1) = p + 1 := ⟨2 ^ tn (a 1) - 1, by omega⟩
        rw [hpp]
        show fold (bestS a D) 1 p (bestS a D 0 0) = _
        have : bestS a D 0 0 = 0 := by unfold bestS; split <;> rfl
        rw [this]
        rfl
      refine vX12_apart G (d + 1) (nI D) m1 _ ⟨fun _ => ?_, fun q => absurd hd0 q⟩
      refine loopI (P := fun i (b : Nat) => ∀ m2 : Mem, (∀ c, c ≠ 287 → c ≠ 288 → c ≠ 289 → m2.1 c = m1.1 c) → ∀ u4 u5 u6, Gw G (d + 5) mX12_apart 15 [.ref (ga G 273), .int (nI D), .int (nI b), .int (nI i), u4, u5, u6] [] m2 (Qi (fun r' m2 => nI B = r' ∧ Inv TX (n + 1) m2.1))) (fun _ b => b < 1024) (bestS a D) (2 ^ tn (a 1)) ?_ (2 ^ tn (a 1)) 0 0 (by omega) (by omega) (fun hb m2 q1 u4 u5 u6 => ?_) m1 (fun _ _ _ _ => rfl) _ _ _
      · intro i b hi hb
        refine ⟨by unfold bestS; split <;> omega, fun hP m2 q1 u4 u5 u6 => ?_⟩
        have p1 := pop_le i (by omega)
        have p2 := pop_le b hb
        have x4 : m2.1 274 = a := by rw [q1 274 (by omega) (by omega) (by omega), g4]
        -- not farther: the flag is down
        have z48 : ¬ (pop b < pop i ∧ farSet a D i) → ∀ m2 : Mem, (∀ c, c ≠ 287 → c ≠ 288 → c ≠ 289 → m2.1 c = m1.1 c) → ∀ w, w ≤ tn (a 1) → ∀ u, Gw G (d + 5) mX12_apart 48 [.ref (ga G 273), .int (nI D), .int (nI b), .int (nI i), .int 0, .int (nI w), u] [] m2 (Qi (fun r' m2 => nI B = r' ∧ Inv TX (n + 1) m2.1)) := by
          intro hno m2 q1 w hw u
          have go : ∀ x5 : Int32, x5 = nI i + 1 → ∀ u4 u5 u6, Gw G (d + 5) mX12_apart 15 [.ref (ga G 273), .int (nI D), .int (nI b), .int x5, u4, u5, u6] [] m2 (Qi (fun r' m2 => nI B = r' ∧ Inv TX (n + 1) m2.1)) := by
            rintro _ rfl u4 u5 u6
            rw [nI_1]
            unfold bestS at hP
            rw [if_neg hno] at hP
            exact hP m2 q1 _ _ _
          exact vX12_apart_48 G (d + 1) (nI D) (nI b) (nI i) 0 (nI w) u m2 _ ⟨fun _ => ⟨fun _ x5 e5 => go x5 e5 _ _ _, fun c => absurd rfl c⟩, fun _ => ⟨fun _ => ⟨fun _ x5 e5 => go x5 e5 _ _ _, fun c => absurd rfl c⟩, fun c => absurd rfl c⟩⟩
        refine vX12_apart_15 G (d + 1) (nI D) (nI b) (nI i) u4 u5 u6 m2 _ ⟨fun q => ?_, fun _ => ?_⟩
        · rw [x4, hW.nwE] at q
          generalize hN : tn (a 1) = N at *
          rw [shl_pow h10, le_nI (by omega) (by omega)] at q
          omega
        · refine qX12_bits G (d + 4) i (by omega) m2 _ (qX12_bits G (d + 4) b hb m2 _ ⟨fun q => ?_, fun q => ?_⟩)
          · rw [le_nI (by omega) (by omega)] at q
            exact z48 (fun c => by omega) m2 q1 0 (by omega) _
          · rw [le_nI (by omega) (by omega)] at q
            have k48 : ∀ e w, w + e = tn (a 1) → (∀ x, x < w → ∀ v, v < x → i.testBit x = true → i.testBit v = true → D ≤ distV a x v) → ∀ m2 : Mem, (∀ c, c ≠ 287 → c ≠ 288 → c ≠ 289 → m2.1 c = m1.1 c) → ∀ u, Gw G (d + 5) mX12_apart 48 [.ref (ga G 273), .int (nI D), .int (nI b), .int (nI i), .int 1, .int (nI w), u] [] m2 (Qi (fun r' m2 => nI B = r' ∧ Inv TX (n + 1) m2.1)) := by
              intro e
              induction e with
              | zero =>
                intro w hw hall m2 q1 u
                have x4 : m2.1 274 = a := by rw [q1 274 (by omega) (by omega) (by omega), g4]
                refine vX12_apart_48 G (d + 1) (nI D) (nI b) (nI i) 1 (nI w) u m2 _ ⟨fun _ => ⟨fun c => absurd c (by decide), fun _ => ?_⟩, fun c => absurd ?_ c⟩
                · rintro _ rfl
                  rw [nI_1]
                  unfold bestS at hP
                  rw [if_pos ⟨by omega, fun x hx => hall x (by omega)⟩] at hP
                  exact hP m2 q1 _ _ _
                · rw [x4, show w = tn (a 1) by omega, ← hW.nwE]
                  exact Int32.le_refl _
              | succ e ih =>
                intro w hw hall m2 q1 u
                have x4 : m2.1 274 = a := by rw [q1 274 (by omega) (by omega) (by omega), g4]
                refine vX12_apart_48 G (d + 1) (nI D) (nI b) (nI i) 1 (nI w) u m2 _ ⟨fun c => ?_, fun _ => ⟨fun c => absurd c (by decide), fun _ => ?_⟩⟩
                · rw [x4, hW.nwE, le_nI (by omega) (by omega)] at c
                  omega
                · have k67 : ∀ f v, v + f = w → (∀ y, y < v → i.testBit w = true → i.testBit y = true → D ≤ distV a w y) → ∀ m2 : Mem, (∀ c, c ≠ 287 → c ≠ 288 → c ≠ 289 → m2.1 c = m1.1 c) → Gw G (d + 5) mX12_apart 67 [.ref (ga G 273), .int (nI D), .int (nI b), .int (nI i), .int 1, .int (nI w), .int (nI v)] [] m2 (Qi (fun r' m2 => nI B = r' ∧ Inv TX (n + 1) m2.1)) := by
                    intro f
                    induction f with
                    | zero =>
                      intro v hv hall2 m2 q1
                      refine vX12_apart_67 G (d + 1) (nI D) (nI b) (nI i) 1 (nI w) (nI v) m2 _ ⟨fun _ => ?_, fun c => absurd ((le_nI (by omega) (by omega)).mpr (by omega)) c⟩
                      rintro _ rfl
                      rw [nI_1]
                      refine ih (w + 1) (by omega) (fun x hx v hv h1 h2 => ?_) m2 q1 _
                      by_cases e : x = w
                      · subst e; exact hall2 v (by omega) h1 h2
                      · exact hall x (by omega) v hv h1 h2
                    | succ f ih2 =>
                      intro v hv hall2 m2 q1
                      have x4 : m2.1 274 = a := by rw [q1 274 (by omega) (by omega) (by omega), g4]
                      have hdl := distV_le hW (x := w) (y := v) (by omega) (by omega)
                      have skip : (i.testBit w = true → i.testBit v = true → D ≤ distV a w v) → ∀ m2 : Mem, (∀ c, c ≠ 287 → c ≠ 288 → c ≠ 289 → m2.1 c = m1.1 c) → ∀ x : Int32, x = nI v + 1 → Gw G (d + 5) mX12_apart 67 [.ref (ga G 273), .int (nI D), .int (nI b), .int (nI i), .int 1, .int (nI w), .int x] [] m2 (Qi (fun r' m2 => nI B = r' ∧ Inv TX (n + 1) m2.1)) := by
                        rintro hok m2 q1 _ rfl
                        rw [nI_1]
                        refine ih2 (v + 1) (by omega) (fun y hy h1 h2 => ?_) m2 q1
                        by_cases e : y = v
                        · subst e; exact hok h1 h2
                        · exact hall2 y (by omega) h1 h2
                      refine vX12_apart_67 G (d + 1) (nI D) (nI b) (nI i) 1 (nI w) (nI v) m2 _ ⟨fun c => ?_, fun _ => ⟨fun c => absurd c (by decide), fun _ => ⟨fun c1 => ⟨fun c2 => ?_, fun c2 => ?_⟩, fun c1 => ?_⟩⟩⟩
                      · rw [le_nI (by omega) (by omega)] at c
                        omega
                      · rw [bit_1 (by omega) (by omega)] at c1 c2
                        refine qX12_away G (d + 1) w v m2 _ (by rw [x4]; exact hW) (by rw [x4]; omega) (by rw [x4]; omega) (fun m3 y1 => ?_)
                        have y2 : ∀ c, c ≠ 287 → c ≠ 288 → c ≠ 289 → m3.1 c = m1.1 c := fun c h1 h2 h3 => by rw [y1 c h1 h2 h3, q1 c h1 h2 h3]
                        rw [x4]
                        refine ⟨fun c => ?_, fun c => skip (fun _ _ => ?_) m3 y2⟩
                        · rw [lt_nI (by omega) (by omega)] at c
                          rintro _ rfl
                          rw [nI_1]
                          have hno : ¬ (pop b < pop i ∧ farSet a D i) := fun hc => by
                            have := hc.2 w (by omega) v (by omega) c1 c2
                            omega
                          -- the flag is down: out of the inner loop
                          have dn : Gw G (d + 5) mX12_apart 67 [.ref (ga G 273), .int (nI D), .int (nI b), .int (nI i), .int 0, .int (nI w), .int (nI (v + 1))] [] m3 (Qi (fun r' m2 => nI B = r' ∧ Inv TX (n + 1) m2.1)) := by
                            have go : ∀ x : Int32, x = nI w + 1 → Gw G (d + 5) mX12_apart 48 [.ref (ga G 273), .int (nI D), .int (nI b), .int (nI i), .int 0, .int x, .int (nI (v + 1))] [] m3 (Qi (fun r' m2 => nI B = r' ∧ Inv TX (n + 1) m2.1)) := by
                              rintro _ rfl
                              rw [nI_1]
                              exact z48 hno m3 y2 (w + 1) (by omega) _
                            exact vX12_apart_67 G (d + 1) (nI D) (nI b) (nI i) 0 (nI w) (nI (v + 1)) m3 _ ⟨fun _ => go, fun _ => ⟨fun _ => go, fun c => absurd rfl c⟩⟩
                          exact dn
                        · rw [lt_nI (by omega) (by omega)] at c
                          omega
                      · rw [bit_1 (by omega) (by omega)] at c2
                        exact skip (fun _ h2 => absurd h2 c2) m2 q1
                      · rw [bit_1 (by omega) (by omega)] at c1
                        exact skip (fun h1 _ => absurd h1 c1) m2 q1
                  exact k67 w 0 (by omega) (fun y hy => by omega) m2 q1
            exact k48 (tn (a 1)) 0 (by omega) (fun x hx => by omega) m2 q1 _
      · have x4 : m2.1 274 = a := by rw [q1 274 (by omega) (by omega) (by omega), g4]
        refine vX12_apart_15 G (d + 1) (nI D) _ _ u4 u5 u6 m2 _ ⟨fun _ => ⟨?_, ?_⟩, fun q => absurd ?_ q⟩
        · rw [hB0]
        · refine h.idle.scr hT (fun c hc => ?_)
          have nn : ∀ x, Scr x → c ≠ x := fun x hx e => hc (by rw [e]; exact hx)
          rw [q1 c (nn 287 (by unfold Scr; omega)) (nn 288 (by unfold Scr; omega)) (nn 289 (by unfold Scr; omega)), t2 c (nn 10 (by unfold Scr; omega)) (nn 11 (by unfold Scr; omega))]
        · have e5 : m2.1 274 1 = nI (tn (a 1)) := by rw [x4]; exact hW.nwE
          rw [e5, shl_pow h10]
          exact Int32.le_refl _
  · refine vX12_apart G (d + 1) a0 m _ ⟨fun q => absurd q hd, fun _ => ⟨rfl, h.idle⟩⟩
