/-- a whole law, on the class's side -/
theorem qX1_says (G : GP) (d : Nat) (p0 : Nat) (hp0 : TxAt p0) (l fr ti : Nat) (m : Mem) (K : Int32 → Mem → Prop) (nm : Nat → Int) (o c : Nat → Nat) (hl : l < 3) (hf : fr < ti) (hti : ti ≤ 300)
    (h4 : m.1 (p0 + 4) l = nI fr) (h5 : m.1 (p0 + 5) l = nI ti) (hp : p0 ≠ 259 ∧ p0 ≠ 260 ∧ p0 ≠ 261) (hx : ∀ i, fr ≤ i → i < ti → m.1 (p0 + 3) i = nI (opC (o i) (c i)) ∧ ((o i = 0 → c i ≤ 9999) ∧ (o i = 1 → c i < 13)) ∧ (o i = 1 → (m.1 263 (nmC (c i))).toInt = nm (c i) ∧ bI (nm (c i))))
    (ht : tyR o fr (ti - fr) = some (1, 0)) (hK : ∀ m' : Mem, (∀ q, q ≠ 264 → m'.1 q = m.1 q) → m'.2 = m.2 → K (b2 (lawB nm o c fr ti)) m') : Evi G (d + 2) mX1_says [.ref (ga G 262), .ref (ga G p0), .int (nI l)] m K := by
  have hnB : ∀ i, i < ti - fr → nB nm (o (fr + i)) (c (fr + i)) := fun i hi => ⟨fun e => ((hx (fr + i) (by omega) (by omega)).2.1).1 e, fun e => ((hx (fr + i) (by omega) (by omega)).2.2 e).2⟩
  refine vX1_says G d p0 hp0 (nI l) m K ⟨in_nI hl (by omega), ?_⟩
  rw [tn_nI (by omega), h4]
  rintro _ rfl
  refine loopD (P := fun k => ∀ (m' : Mem) (u : Value), SV (m'.1 264) ((evR nm o c fr k).2 ++ (evR nm o c fr k).1.map b2i) → (∀ q, q ≠ 264 → m'.1 q = m.1 q) → m'.2 = m.2 → Gw G (d + 2) mX1_says 10 [.ref (ga G 262), .ref (ga G p0), .int (nI l), .int (nI ((evR nm o c fr k).1.length + (evR nm o c fr k).2.length)), .int (nI (fr + k)), u] [] m' (Qi K)) (ti - fr) ?_ ?_ m uu True.intro (fun _ _ => rfl) rfl
  · intro k hk hP m' u hS e1 e2
    obtain ⟨s, hs⟩ := tyR_pre (o := o) (fr := fr) (ti - fr - (k + 1)) (k + 1) (s := (1, 0)) (by rw [show k + 1 + (ti - fr - (k + 1)) = ti - fr by omega]; exact ht)
    obtain ⟨q, hq1, hq2⟩ := tyR_s hs
    obtain ⟨r1, r2, r3⟩ := evR_ok k hq1 (fun i hi => hnB i (by omega))
    rw [← r1, ← r2] at hq2
    obtain ⟨x1, x2, x3⟩ := hx (fr + k) (by omega) (by omega)
    have bdd : ∀ k, k ≤ ti - fr → (evR nm o c fr k).1.length + (evR nm o c fr k).2.length ≤ 60 := by
      intro k
      induction k with
      | zero => intro _; exact Nat.zero_le _
      | succ k ih =>
        intro hk
        have := ih (by omega)
        obtain ⟨s, hs⟩ := tyR_pre (o := o) (fr := fr) (ti - fr - (k + 1)) (k + 1) (s := (1, 0)) (by rw [show k + 1 + (ti - fr - (k + 1)) = ti - fr by omega]; exact ht)
        obtain ⟨z1, z2, -⟩ := evR_ok (k + 1) hs (fun i hi => hnB i (by omega))
        obtain ⟨q, hq1, hq2⟩ := tyR_s hs
        obtain ⟨r1, r2, -⟩ := evR_ok k hq1 (fun i hi => hnB i (by omega))
        rw [z1, z2]
        rcases ts_cases hq2 with ⟨-, c2, rfl⟩ | ⟨-, -, rfl⟩ | ⟨-, -, -, rfl⟩ | ⟨-, -, c2, rfl⟩ | ⟨-, -, -, rfl⟩ | ⟨-, -, -, rfl⟩ <;> simp only [] at * <;> omega
    have hb := bdd k (by omega)
    refine says_step G d p0 hp0 l (fr + k) ti (o (fr + k)) (c (fr + k)) u m' K nm (evR nm o c fr k).1 (evR nm o c fr k).2 s hl (by omega) hti ?_ ?_ x2 hq2 (by omega) r3 hS ?_ ?_
    · rw [e1 _ (by omega)]; exact h5
    · rw [e1 _ (by omega)]; exact x1
    · intro e
      rw [e1 _ (by omega)]; exact (x3 e).1
    · intro m2 u2 f1 f2 f3
      exact hP m2 u2 f1 (fun q hq => (f2 q hq).trans (e1 q hq)) (f3.trans e2)
  · intro m' u hS e1 e2
    obtain ⟨r1, r2, -⟩ := evR_ok (ti - fr) ht hnB
    have hK' := hK m' e1 e2
    unfold lawB at hK'
    generalize hE : evR nm o c fr (ti - fr) = E at *
    obtain ⟨T, V⟩ := E
    have hV : V = [] := List.eq_nil_of_length_eq_zero r2
    obtain ⟨b, W, hT⟩ := len1 (l := T) (by rw [show T.length = 1 from r1]; omega)
    have hW : W = [] := List.eq_nil_of_length_eq_zero (by have : T.length = 1 := r1; rw [hT, List.length_cons] at this; omega)
    subst hV hW hT
    have h0 : (m'.1 264 0).toInt = b2i b := hS.1
    have h0 := b2_inj h0
    have et : fr + (ti - fr) = ti := by omega
    rw [et]
    refine vX1_says_10 G d p0 hp0 (nI l) _ (nI ti) u m' K ⟨in_nI hl (by omega), fun _ => ⟨fun q => ?_, fun q => ?_⟩, fun q => ?_⟩
    · rw [h0] at q
      cases b
      · exact hK'
      · exact absurd q (by decide)
    · rw [h0] at q
      cases b
      · exact absurd rfl q
      · exact hK'
    · exfalso
      rw [tn_nI (by omega), e1 _ (by omega), h5] at q
      exact q ((le_nI (by omega) (by omega)).mpr (Nat.le_refl _))
/-! the model asks a law -/
theorem i64_0 : (0 : Int64).toInt = 0 := by decide
theorem i64_1 : (1 : Int64).toInt = 1 := by decide
theorem lc_00 : lg_cmp 0 0 = 0 := by decide
theorem twoI_3 (x y : Int) : twoI 3 x y = clipI (x + y) := if_pos rfl
theorem twoI_4 (x y : Int) : twoI 4 x y = clipI (x - y) := by unfold twoI; rw [if_neg (by omega), if_pos rfl]
theorem twoI_5 (x y : Int) : twoI 5 x y = clipI (x * y) := by unfold twoI; rw [if_neg (by omega), if_neg (by omega), if_pos rfl]
theorem twoI_6 (x y : Int) : twoI 6 x y = if y = 0 then 0 else clipI (x.tdiv y) := by unfold twoI; rw [if_neg (by omega), if_neg (by omega), if_neg (by omega), if_neg (by omega)]
theorem twoI_7 (x y : Int) : twoI 7 x y = if y < 0 then 0 else powI x (min y.toNat 99) := by unfold twoI; rw [if_neg (by omega), if_neg (by omega), if_neg (by omega), if_pos rfl]
theorem powI_s (x : Int) (n : Nat) : powI x (n + 1) = clipI (powI x n * x) := rfl
theorem powI_0 (x : Int) : powI x 0 = 1 := rfl
theorem qX12_two (G : GP) (d : Nat) (o : Nat) (x y : Int64) (m : Mem) (K : Int64 → Mem → Prop) (h3 : 3 ≤ o) (h6 : o ≤ 6) (hx : bI x.toInt) (hy : bI y.toInt) (hK : ∀ r : Int64, r.toInt = twoI o x.toInt y.toInt → K r m) : Evl G (d + 1) mX12_two [.int (nI o), .long x, .long y] m K := by
  have hd : o = 3 ∨ o = 4 ∨ o = 5 ∨ o = 6 := by omega
  refine vX12_two G d _ _ _ m K ⟨fun e => ?_, fun e => ?_, fun e => ?_, fun e => ?_⟩ <;> rcases hd with rfl | rfl | rfl | rfl <;> first | exact absurd e (by decide) | skip
  · exact hK _ (by rw [clipV_i, add64 hx hy, twoI_3])
  · exact hK _ (by rw [clipV_i, sub64 hx hy, twoI_4])
  · exact hK _ (by rw [clipV_i, mul64 hx hy, twoI_5])
  · refine ⟨fun q => ⟨fun q2 => q (by rw [q2]; exact lc_00), hK _ ?_⟩, fun q => hK _ ?_⟩
    · rw [z64] at q
      rw [clipV_i, div64 hx, twoI_6, if_neg q]
    · rw [z64] at q
      rw [twoI_6, if_pos q]
      exact i64_0
theorem qX12_power (G : GP) (d : Nat) (x y : Int64) (m : Mem) (K : Int64 → Mem → Prop) (hx : bI x.toInt) (hy : bI y.toInt) (hK : ∀ r : Int64, r.toInt = twoI 7 x.toInt y.toInt → K r m) : Evl G (d + 2) mX12_power [.long x, .long y] m K := by
  have e0 : (0 : Int64).toInt = 0 := by decide
  refine vX12_power G d x y m K ⟨fun q => ?_, fun q => ?_⟩
  · rw [lc_ge, e0] at q
    have et : twoI 7 x.toInt y.toInt = powI x.toInt (min y.toInt.toNat 99) := by
      rw [twoI_7, if_neg (by omega)]
    rw [et] at hK
    generalize hN : min y.toInt.toNat 99 = N at hK
    refine loopD (P := fun i => ∀ (p : Int64) (u1 u3 u5 : Value), p.toInt = powI x.toInt i → Gw G (d + 2) mX12_power 14 [.long x, u1, .long y, u3, .long p, u5, .int (nI i)] [] m (Ql K)) N ?_ ?_ 1 _ _ _ (by rw [powI_0]; exact i64_1)
    · intro i hi hP p u1 u3 u5 hp
      refine vX12_power_14 G d x u1 y u3 p u5 (nI i) m K ⟨fun q2 => ?_, fun _ => ⟨fun q2 => ?_, fun _ => ?_⟩⟩
      · exfalso
        have q2 := (le_nI (a := 99) (by omega) (by omega)).mp q2
        omega
      · exfalso
        rw [lc_ge, Int32.toInt_toInt64, nI_toInt (by omega)] at q2
        omega
      · have hb := powI_bd x.toInt i
        refine qX12_two G d 5 p x m _ (by omega) (by omega) (by rw [hp]; exact hb) hx (fun r hr => ?_)
        rintro _ rfl
        rw [nI_1]
        refine hP r _ _ _ ?_
        rw [hr, hp, twoI_5, powI_s]
    · intro p u1 u3 u5 hp
      refine vX12_power_14 G d x u1 y u3 p u5 (nI N) m K ⟨fun _ => hK p hp, fun q2 => ⟨fun _ => hK p hp, fun q3 => ?_⟩⟩
      exfalso
      have q2 : ¬ nI 99 ≤ nI N := q2
      rw [le_nI (by omega) (by omega)] at q2
      rw [lc_ge, Int32.toInt_toInt64, nI_toInt (by omega)] at q3
      omega
  · refine hK 0 ?_
    rw [lc_ge, e0] at q
    rw [twoI_7, if_pos (by omega)]
    exact i64_0
theorem qX12_asked (G : GP) (d : Nat) (o : Nat) (x y : Int64) (m : Mem) (K : Int32 → Mem → Prop) (h1 : 10 ≤ o) (h2 : o ≤ 15) (hK : K (b2 (askI o x.toInt y.toInt)) m) : Evi G d mX12_isAsked [.int (nI o), .long x, .long y] m K := by
  have hd : o = 10 ∨ o = 11 ∨ o = 12 ∨ o = 13 ∨ o = 14 ∨ o = 15 := by omega
  have F : ∀ P : Prop, [Decidable P] → askI o x.toInt y.toInt = decide P → ¬ P → K 0 m := fun P _ e h => by
    rw [e, decide_eq_false h] at hK; exact hK
  have T : ∀ P : Prop, [Decidable P] → askI o x.toInt y.toInt = decide P → P → K 1 m := fun P _ e h => by
    rw [e, decide_eq_true h] at hK; exact hK
  refine vX12_isAsked G d _ _ _ m K ⟨fun n10 => ⟨fun n11 => ⟨fun n12 => ⟨fun n13 => ⟨fun n14 => ?_, fun e => ?_⟩, fun e => ?_⟩, fun e => ?_⟩, fun e => ?_⟩, fun e => ?_⟩
  · rcases hd with rfl | rfl | rfl | rfl | rfl | rfl <;> first | exact absurd rfl n10 | exact absurd rfl n11 | exact absurd rfl n12 | exact absurd rfl n13 | exact absurd rfl n14 | skip
    rw [lc_eq]
    exact ⟨fun q => F (x.toInt ≠ y.toInt) rfl (by omega), fun q => T (x.toInt ≠ y.toInt) rfl (by omega)⟩
  · rcases hd with rfl | rfl | rfl | rfl | rfl | rfl <;> first | exact absurd e (by decide) | skip
    rw [lc_eq]
    exact ⟨fun q => F (x.toInt = y.toInt) rfl (by omega), fun q => T (x.toInt = y.toInt) rfl (by omega)⟩
  · rcases hd with rfl | rfl | rfl | rfl | rfl | rfl <;> first | exact absurd e (by decide) | skip
    rw [lc_lt]
    exact ⟨fun q => F (y.toInt ≤ x.toInt) rfl (by omega), fun q => T (y.toInt ≤ x.toInt) rfl (by omega)⟩
  · rcases hd with rfl | rfl | rfl | rfl | rfl | rfl <;> first | exact absurd e (by decide) | skip
    rw [lc_le]
    exact ⟨fun q => F (y.toInt < x.toInt) rfl (by omega), fun q => T (y.toInt < x.toInt) rfl (by omega)⟩
  · rcases hd with rfl | rfl | rfl | rfl | rfl | rfl <;> first | exact absurd e (by decide) | skip
    rw [lc_gt]
    exact ⟨fun q => F (x.toInt ≤ y.toInt) rfl (by omega), fun q => T (x.toInt ≤ y.toInt) rfl (by omega)⟩
  · rcases hd with rfl | rfl | rfl | rfl | rfl | rfl <;> first | exact absurd e (by decide) | skip
    rw [lc_ge]
    exact ⟨fun q => F (x.toInt < y.toInt) rfl (by omega), fun q => T (x.toInt < y.toInt) rfl (by omega)⟩
/-- what the model's run may touch -/
def FrI (m m' : Mem) : Prop := (∀ q, q ≠ 282 → m'.1 q = m.1 q) ∧ (∀ q, q ≠ 281 → m'.2.1 q = m.2.1 q) ∧ m'.2.2 = m.2.2
theorem FrI.rf (m : Mem) : FrI m m := ⟨fun _ _ => rfl, fun _ _ => rfl, rfl⟩
theorem FrI.tr {a b c : Mem} (h : FrI a b) (k : FrI b c) : FrI a c := ⟨fun q hq => (k.1 q hq).trans (h.1 q hq), fun q hq => (k.2.1 q hq).trans (h.2.1 q hq), k.2.2.trans h.2.2⟩
theorem FrI.w1 (m : Mem) (k : Nat) (v : Int32) : FrI m (wI m 282 k v) := ⟨fun q hq => wI_n _ _ _ hq, fun _ _ => rfl, rfl⟩
theorem FrI.w2 (m : Mem) (k : Nat) (v : Int64) : FrI m (wL m 281 k v) := ⟨fun q hq => rfl, fun q hq => wL_n _ _ _ hq, rfl⟩
theorem so_step (G : GP) (d : Nat) (X0 C0 i ti o c : Nat) (u1 u2 u8 u9 : Value) (m : Mem) (K : Int32 → Mem → Prop) (nm : Nat → Int) (T : List Bool) (V : List Int) (s : Nat × Nat)
    (hX : X0 + 2 < 3204) (hC : C0 + 2 * ti ≤ 3204) (hi : i < ti) (hti : ti ≤ 300) (h2 : m.1 276 (X0 + 2) = nI ti) (ho : m.1 276 (C0 + 2 * i) = nI o) (hc : m.1 276 (C0 + 2 * i + 1) = nI c) (hoc : (o = 0 → c ≤ 9999) ∧ (o = 1 → c < 13)) (ho22 : o ≤ 22) (hs : tstep o T.length V.length = some s) (hTV : T.length + V.length < 62)
    (hV : ∀ x ∈ V, bI x) (hSL : SL (m.2.1 281) V) (hSB : SB (m.1 282) T) (hnm : o = 1 → (m.1 280 c).toInt = nm c)
    (k : ∀ (m' : Mem) (u8 u9 : Value), SL (m'.2.1 281) (stp nm o c T V).2 → SB (m'.1 282) (stp nm o c T V).1 → FrI m m' → Gw G (d + 3) mX12_isSo 40 [.ref (ga G 273), uu, uu, .int (nI X0), .int (nI C0), .int (nI (stp nm o c T V).2.length), .int (nI (stp nm o c T V).1.length), .int (nI (i + 1)), u8, u9] [] m' (Qi K)) :
    Gw G (d + 3) mX12_isSo 40 [.ref (ga G 273), u1, u2, .int (nI X0), .int (nI C0), .int (nI V.length), .int (nI T.length), .int (nI i), u8, u9] [] m (Qi K) := by
  have nb0 : vp_nar .boolean 0 = 0 := by decide
  have nb1 : vp_nar .boolean 1 = 1 := by decide
  have eX : nI X0 + 2 = nI (X0 + 2) := nI_add X0 2
  have eC : nI C0 + (2 : Int32) * nI i = nI (C0 + 2 * i) := by rw [show (2 : Int32) = nI 2 from rfl, pk_mul, nI_add]
  refine vX12_isSo_40 G d u1 u2 (nI X0) (nI C0) (nI V.length) (nI T.length) (nI i) u8 u9 m K ?_
  rw [eX, eC, nI_1, tn_nI (by omega), tn_nI (by omega), tn_nI (by omega), h2, ho, hc]
  refine ⟨in_nI (by omega) (by omega), fun q => ?_, fun _ => ⟨in_nI (by omega) (by omega), ?_⟩⟩
  · exfalso
    rw [le_nI (by omega) (by omega)] at q
    omega
  rintro _ rfl
  refine ⟨in_nI (by omega) (by omega), ?_⟩
  rintro _ rfl
  rcases stp_cases (nm := nm) (v := c) hs with ⟨rfl, g2, e⟩ | ⟨rfl, g2, e⟩ | ⟨rfl, x, W, rfl, e⟩ | ⟨g1, g2, y, x, W, rfl, e⟩ | ⟨g1, g2, y, x, rfl, e⟩ | ⟨rfl, rfl, x, W, rfl, e⟩ | ⟨g1, rfl, y, x, W, rfl, e⟩
  · rw [e] at k
    refine ⟨fun q => absurd q (by decide), fun _ => ⟨fun q => absurd rfl q, fun _ => ⟨in_nI (by omega) (by omega), ?_⟩⟩⟩
    rintro _ rfl _ rfl _ rfl
    rw [nI_1, nI_1, tn_nI (by omega)]
    refine k _ _ _ ?_ hSB (FrI.w2 m _ _)
    rw [wL_s]
    exact hSL.put (by rw [Int32.toInt_toInt64]; exact nI_toInt (by have := hoc.1 rfl; omega))
  · rw [e] at k
    have hc13 := hoc.2 rfl
    refine ⟨fun q => absurd q (by decide), fun _ => ⟨fun _ => ⟨in_nI (by omega) (by omega), in_nI (by omega) (by omega), ?_⟩, fun q => absurd q (by decide)⟩⟩
    rintro _ rfl _ rfl _ rfl
    rw [nI_1, nI_1, tn_nI (by omega), tn_nI (by omega)]
    refine k _ _ _ ?_ hSB (FrI.w2 m _ _)
    rw [wL_s]
    exact hSL.put (by rw [Int32.toInt_toInt64]; exact hnm rfl)
  · rw [e] at k
    have eT : (x :: W).length = W.length + 1 := rfl
    rw [eT] at hTV ⊢
    have hxb := hV x List.mem_cons_self
    obtain ⟨l1, l2⟩ : (m.2.1 281 W.length).toInt = x ∧ SL (m.2.1 281) W := hSL
    refine ⟨fun _ => ⟨fun q => absurd rfl q, fun _ => ?_⟩, fun q => absurd (show (1 : Int32) < nI 2 by decide) q⟩
    rw [nI_pred, tn_nI (by omega)]
    refine ⟨in_nI (by omega) (by omega), in_nI (by omega) (by omega), ?_⟩
    rintro _ rfl _ rfl
    rw [nI_1]
    refine k _ _ _ ?_ hSB (FrI.w2 m _ _)
    rw [wL_s]
    refine l2.put ?_
    unfold bI at hxb
    rw [Int64.toInt_neg, l1, bm64 (by omega) (by omega)]
  · rw [e] at k
    have eT : (y :: x :: W).length = W.length + 2 := rfl
    rw [eT] at hTV ⊢
    have hyb := hV y List.mem_cons_self
    have hxb := hV x (List.mem_cons_of_mem _ List.mem_cons_self)
    obtain ⟨l3, l4, l6⟩ : (m.2.1 281 (W.length + 1)).toInt = y ∧ (m.2.1 281 W.length).toInt = x ∧ SL (m.2.1 281) W := hSL
    refine ⟨fun _ => ⟨fun _ => ⟨fun q => ?_, fun _ => ?_⟩, fun q => ?_⟩, fun q => ?_⟩
    · exfalso
      have q := (le_nI (a := 10) (by omega) (by omega)).mp q
      omega
    · rw [show W.length + 2 = W.length + 1 + 1 from rfl, pk_m1]
      rintro _ rfl
      rw [nI_pred, tn_nI (by omega), tn_nI (by omega)]
      have bx : bI (m.2.1 281 W.length).toInt := by rw [l4]; exact hxb
      have bY : bI (m.2.1 281 (W.length + 1)).toInt := by rw [l3]; exact hyb
      refine ⟨fun q => ⟨in_nI (by omega) (by omega), in_nI (by omega) (by omega), ?_⟩, fun q => ⟨in_nI (by omega) (by omega), in_nI (by omega) (by omega), ?_⟩⟩
      · have o7 : o ≠ 7 := fun z => q (by rw [z]; rfl)
        refine qX12_two G (d + 1) o _ _ m _ g1 (by omega) bx bY (fun r hr => ⟨in_nI (by omega) (by omega), ?_⟩)
        rintro _ rfl _ rfl
        rw [nI_1]
        rw [l3, l4] at hr
        refine k _ _ _ ?_ hSB (FrI.w2 m _ _)
        rw [wL_s]
        exact l6.put hr
      · have o7 : o = 7 := (eq_nI (b := 7) (by omega) (by omega)).mp q
        subst o7
        refine qX12_power G d _ _ m _ bx bY (fun r hr => ⟨in_nI (by omega) (by omega), ?_⟩)
        rintro _ rfl _ rfl
        rw [nI_1]
        rw [l3, l4] at hr
        refine k _ _ _ ?_ hSB (FrI.w2 m _ _)
        rw [wL_s]
        exact l6.put hr
    · exfalso
      have q := (eq_nI (b := 2) (by omega) (by omega)).mp q
      omega
    · exact absurd ((lt_nI (a := 1) (by omega) (by omega)).mpr (by omega)) q
  · rw [e] at k
    have eT : [y, x].length = 2 := rfl
    rw [eT] at hTV ⊢
    obtain ⟨l3, l4, -⟩ : (m.2.1 281 1).toInt = y ∧ (m.2.1 281 0).toInt = x ∧ True := hSL
    refine ⟨fun _ => ⟨fun _ => ⟨fun _ => ⟨fun q => ?_, fun _ => ?_⟩, fun q => ?_⟩, fun q => ?_⟩, fun q => ?_⟩
    · exfalso
      have q := (le_nI (a := 20) (by omega) (by omega)).mp q
      omega
    · rw [show nI 2 + (-2 : Int32) = nI 0 from rfl]
      rintro _ rfl
      rw [nI_1, tn_nI (by omega), tn_nI (by omega)]
      refine ⟨in_nI (by omega) (by omega), in_nI (by omega) (by omega), ?_⟩
      refine qX12_asked G (d + 2) o _ _ m _ g1 g2 ⟨in_nI (by omega) (by omega), ?_⟩
      rintro _ rfl _ rfl _ rfl
      rw [nI_1, nI_1, tn_nI (by omega)]
      have hb : ∀ b : Bool, vp_nar .boolean (b2 b) = b2 b := fun b => by cases b <;> decide
      rw [hb]
      refine k _ _ _ True.intro ?_ (FrI.w1 m _ _)
      rw [wI_s]
      refine hSB.put ?_
      rw [l4, show (m.2.1 281 (0 + 1)).toInt = y from l3]
    · exact absurd ((le_nI (a := 10) (by omega) (by omega)).mpr (by omega)) q
    · exfalso
      have q := (eq_nI (b := 2) (by omega) (by omega)).mp q
      omega
    · exact absurd ((lt_nI (a := 1) (by omega) (by omega)).mpr (by omega)) q
  · rw [e] at k
    have eT : (x :: W).length = W.length + 1 := rfl
    rw [eT] at hTV ⊢
    obtain ⟨l1, l2⟩ : m.1 282 W.length = b2 x ∧ SB (m.1 282) W := hSB
    refine ⟨fun _ => ⟨fun _ => ⟨fun _ => ⟨fun _ => ⟨fun q => absurd rfl q, fun _ => ?_⟩, fun q => absurd (show (20 : Int32) ≤ nI 20 by decide) q⟩, fun q => absurd (show (10 : Int32) ≤ nI 20 by decide) q⟩, fun q => absurd q (by decide)⟩, fun q => absurd (show (1 : Int32) < nI 20 by decide) q⟩
    rw [nI_pred, tn_nI (by omega), l1]
    refine ⟨in_nI (by omega) (by omega), fun q => ⟨in_nI (by omega) (by omega), ?_⟩, fun q => ⟨in_nI (by omega) (by omega), ?_⟩⟩
    · rintro _ rfl _ rfl
      rw [nI_1]
      refine k _ _ _ True.intro ?_ (FrI.w1 m _ _)
      rw [wI_s]
      refine l2.put ?_
      cases x
      · exact absurd rfl q
      · exact nb0
    · rintro _ rfl _ rfl
      rw [nI_1]
      refine k _ _ _ True.intro ?_ (FrI.w1 m _ _)
      rw [wI_s]
      refine l2.put ?_
      cases x
      · exact nb1
      · exact absurd q (by decide)
  · rw [e] at k
    have eT : (y :: x :: W).length = W.length + 2 := rfl
    rw [eT] at hTV ⊢
    obtain ⟨l3, l4, l6⟩ : m.1 282 (W.length + 1) = b2 y ∧ m.1 282 W.length = b2 x ∧ SB (m.1 282) W := hSB
    have h20 : 20 < o := by omega
    refine ⟨fun _ => ⟨fun _ => ⟨fun _ => ⟨fun _ => ⟨fun _ => ?_, fun q => ?_⟩, fun q => ?_⟩, fun q => ?_⟩, fun q => ?_⟩, fun q => ?_⟩
    · rw [show W.length + 2 = W.length + 1 + 1 from rfl, pk_m1]
      rintro _ rfl
      rw [nI_pred, tn_nI (by omega), tn_nI (by omega), l3, l4]
      have fin : ∀ (r : Int32), r = b2 (if o = 21 then x && y else x || y) → Gw G (d + 3) mX12_isSo 40 [.ref (ga G 273), uu, uu, .int (nI X0), .int (nI C0), .int (nI ([] : List Int).length), .int (nI (W.length + 1)), .int (nI (i + 1)), .int (nI o), .int (nI c)] [] (wI m 282 W.length r) (Qi K) := by
        intro r hr
        refine k _ _ _ True.intro ?_ (FrI.w1 m _ _)
        rw [wI_s]
        exact l6.put hr
      refine ⟨fun q => ⟨in_nI (by omega) (by omega), fun q2 => ⟨in_nI (by omega) (by omega), ?_⟩, fun q2 => ⟨in_nI (by omega) (by omega), fun q3 => ⟨in_nI (by omega) (by omega), ?_⟩, fun q3 => ⟨in_nI (by omega) (by omega), ?_⟩⟩⟩, fun q => ⟨in_nI (by omega) (by omega), fun q2 => ⟨in_nI (by omega) (by omega), ?_⟩, fun q2 => ⟨in_nI (by omega) (by omega), fun q3 => ⟨in_nI (by omega) (by omega), ?_⟩, fun q3 => ⟨in_nI (by omega) (by omega), ?_⟩⟩⟩⟩
      all_goals
        rintro _ rfl _ rfl
        rw [nI_1]
        refine fin _ ?_
      · have : o = 22 := by rcases g1 with rfl | rfl; exact absurd rfl q; rfl
        subst this
        cases x
        · exact absurd rfl q2
        · exact nb1
      · have : o = 22 := by rcases g1 with rfl | rfl; exact absurd rfl q; rfl
        subst this
        cases x <;> cases y <;> first | exact nb0 | exact absurd q2 (by decide) | exact absurd q3 (by decide)
      · have : o = 22 := by rcases g1 with rfl | rfl; exact absurd rfl q; rfl
        subst this
        cases x <;> cases y <;> first | exact nb1 | exact absurd q2 (by decide) | exact absurd rfl q3
      · have : o = 21 := (eq_nI (b := 21) (by omega) (by omega)).mp q
        subst this
        cases x
        · exact nb0
        · exact absurd q2 (by decide)
      · have : o = 21 := (eq_nI (b := 21) (by omega) (by omega)).mp q
        subst this
        cases x <;> cases y <;> first | exact nb0 | exact absurd rfl q2 | exact absurd q3 (by decide)
      · have : o = 21 := (eq_nI (b := 21) (by omega) (by omega)).mp q
        subst this
        cases x <;> cases y <;> first | exact nb1 | exact absurd rfl q2 | exact absurd rfl q3
    · exfalso
      have q := (eq_nI (b := 20) (by omega) (by omega)).mp q
      omega
    · exact absurd ((le_nI (a := 20) (by omega) (by omega)).mpr (by omega)) q
    · exact absurd ((le_nI (a := 10) (by omega) (by omega)).mpr (by omega)) q
    · exfalso
      have q := (eq_nI (b := 2) (by omega) (by omega)).mp q
      omega
    · exact absurd ((lt_nI (a := 1) (by omega) (by omega)).mpr (by omega)) q
theorem ev_60 {nm : Nat → Int} {o c : Nat → Nat} {fr N : Nat} (ht : tyR o fr N = some (1, 0)) (hnB : ∀ i, i < N → nB nm (o (fr + i)) (c (fr + i))) : ∀ k, k ≤ N → (evR nm o c fr k).1.length + (evR nm o c fr k).2.length ≤ 60 := by
  intro k
  induction k with
  | zero => intro _; exact Nat.zero_le _
  | succ k ih =>
    intro hk
    have := ih (by omega)
    obtain ⟨s, hs⟩ := tyR_pre (o := o) (fr := fr) (N - (k + 1)) (k + 1) (s := (1, 0)) (by rw [show k + 1 + (N - (k + 1)) = N by omega]; exact ht)
    obtain ⟨z1, z2, -⟩ := evR_ok (k + 1) hs (fun i hi => hnB i (by omega))
    obtain ⟨q, hq1, hq2⟩ := tyR_s hs
    obtain ⟨r1, r2, -⟩ := evR_ok k hq1 (fun i hi => hnB i (by omega))
    rw [z1, z2]
    rcases ts_cases hq2 with ⟨-, c2, rfl⟩ | ⟨-, -, rfl⟩ | ⟨-, -, -, rfl⟩ | ⟨-, -, c2, rfl⟩ | ⟨-, -, -, rfl⟩ | ⟨-, -, -, rfl⟩ <;> simp only [] at * <;> omega
theorem qX12_isSo (G : GP) (d : Nat) (t k fr ti : Nat) (m : Mem) (K : Int32 → Mem → Prop) (nm : Nat → Int) (o c : Nat → Nat) (ht4 : t < 4) (hk : k < 24) (hf : fr < ti) (hti : ti ≤ 300)
    (h1 : m.1 276 (801 * t + 2 + 8 * k) = nI fr) (h2 : m.1 276 (801 * t + 3 + 8 * k) = nI ti) (hx : ∀ i, fr ≤ i → i < ti → m.1 276 (801 * t + 193 + 2 * i) = nI (o i) ∧ m.1 276 (801 * t + 194 + 2 * i) = nI (c i) ∧ o i ≤ 22 ∧ ((o i = 0 → c i ≤ 9999) ∧ (o i = 1 → c i < 13)) ∧ (o i = 1 → (m.1 280 (c i)).toInt = nm (c i) ∧ bI (nm (c i))))
    (ht : tyR o fr (ti - fr) = some (1, 0)) (hK : ∀ m' : Mem, FrI m m' → K (b2 (lawB nm o c fr ti)) m') : Evi G (d + 3) mX12_isSo [.ref (ga G 273), .int (nI t), .int (nI k)] m K := by
  have hnB : ∀ i, i < ti - fr → nB nm (o (fr + i)) (c (fr + i)) := fun i hi => ⟨fun e => ((hx (fr + i) (by omega) (by omega)).2.2.2.1).1 e, fun e => ((hx (fr + i) (by omega) (by omega)).2.2.2.2 e).2⟩
  have eX : (801 : Int32) * nI t + 1 + 8 * nI k = nI (801 * t + 1 + 8 * k) := by
    rw [show (801 : Int32) = nI 801 from rfl, show (8 : Int32) = nI 8 from rfl, pk_mul, pk_mul, nI_1, nI_add]
  have eC : (801 : Int32) * nI t + 193 = nI (801 * t + 193) := by
    rw [show (801 : Int32) = nI 801 from rfl, show (193 : Int32) = nI 193 from rfl, pk_mul, nI_add]
  refine vX12_isSo G d (nI t) (nI k) m K ?_
  rw [eX, eC]
  rintro _ rfl _ rfl
  rw [nI_1, tn_nI (by omega), show 801 * t + 1 + 8 * k + 1 = 801 * t + 2 + 8 * k by omega, h1]
  refine ⟨in_nI (by omega) (by omega), ?_⟩
  rintro _ rfl
  refine loopD (P := fun k' => ∀ (m' : Mem) (u1 u2 u8 u9 : Value), SL (m'.2.1 281) (evR nm o c fr k').2 → SB (m'.1 282) (evR nm o c fr k').1 → FrI m m' → Gw G (d + 3) mX12_isSo 40 [.ref (ga G 273), u1, u2, .int (nI (801 * t + 1 + 8 * k)), .int (nI (801 * t + 193)), .int (nI (evR nm o c fr k').2.length), .int (nI (evR nm o c fr k').1.length), .int (nI (fr + k')), u8, u9] [] m' (Qi K)) (ti - fr) ?_ ?_ m _ _ uu uu True.intro True.intro (FrI.rf m)
  · intro k' hk' hP m' u1 u2 u8 u9 hS1 hS2 hF
    obtain ⟨s, hs⟩ := tyR_pre (o := o) (fr := fr) (ti - fr - (k' + 1)) (k' + 1) (s := (1, 0)) (by rw [show k' + 1 + (ti - fr - (k' + 1)) = ti - fr by omega]; exact ht)
    obtain ⟨q, hq1, hq2⟩ := tyR_s hs
    obtain ⟨r1, r2, r3⟩ := evR_ok k' hq1 (fun i hi => hnB i (by omega))
    rw [← r1, ← r2] at hq2
    obtain ⟨x1, x2, x3, x4, x5⟩ := hx (fr + k') (by omega) (by omega)
    have hb := ev_60 ht hnB k' (by omega)
    refine so_step G d (801 * t + 1 + 8 * k) (801 * t + 193) (fr + k') ti (o (fr + k')) (c (fr + k')) u1 u2 u8 u9 m' K nm (evR nm o c fr k').1 (evR nm o c fr k').2 s (by omega) (by omega) (by omega) hti ?_ ?_ ?_ x4 x3 hq2 (by omega) r3 hS1 hS2 ?_ ?_
    · rw [hF.1 _ (by omega), show 801 * t + 1 + 8 * k + 2 = 801 * t + 3 + 8 * k by omega]; exact h2
    · rw [hF.1 _ (by omega)]; exact x1
    · rw [hF.1 _ (by omega), show 801 * t + 193 + 2 * (fr + k') + 1 = 801 * t + 194 + 2 * (fr + k') by omega]; exact x2
    · intro e
      rw [hF.1 _ (by omega)]; exact (x5 e).1
    · intro m2 u8 u9 f1 f2 f3
      exact hP m2 _ _ u8 u9 f1 f2 (hF.tr f3)
  · intro m' u1 u2 u8 u9 hS1 hS2 hF
    obtain ⟨r1, r2, -⟩ := evR_ok (ti - fr) ht hnB
    have hK' := hK m' hF
    unfold lawB at hK'
    generalize hE : evR nm o c fr (ti - fr) = E at *
    obtain ⟨T, V⟩ := E
    obtain ⟨b, W, hT⟩ := len1 (l := T) (by rw [show T.length = 1 from r1]; omega)
    have hW : W = [] := List.eq_nil_of_length_eq_zero (by have : T.length = 1 := r1; rw [hT, List.length_cons] at this; omega)
    subst hW hT
    have h0 : m'.1 282 0 = b2 b := hS2.1
    have et : fr + (ti - fr) = ti := by omega
    rw [et]
    have eX : nI (801 * t + 1 + 8 * k) + 2 = nI (801 * t + 3 + 8 * k) := by rw [show (2 : Int32) = nI 2 from rfl, nI_add]; congr 1; omega
    refine vX12_isSo_40 G d u1 u2 (nI (801 * t + 1 + 8 * k)) (nI (801 * t + 193)) _ _ (nI ti) u8 u9 m' K ?_
    rw [eX, tn_nI (by omega), hF.1 _ (by omega), h2]
    refine ⟨in_nI (by omega) (by omega), fun _ => ?_, fun q => absurd ((le_nI (by omega) (by omega)).mpr (Nat.le_refl _)) q⟩
    rw [h0]
    refine ⟨?_, hK'⟩
    cases b
    · exact Or.inl rfl
    · exact Or.inr rfl
