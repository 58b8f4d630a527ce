/-! the class asks a law -/
def nmC (c : Nat) : Nat := [17, 11, 12, 7, 8, 9, 18, 3, 19, 13, 20, 21, 22].getD c 0
def opN (o : Nat) : Nat := [0, 0, 5, 43, 45, 42, 47, 94, 0, 0, 60, 3, 62, 4, 61, 35, 0, 0, 0, 0, 116, 115, 114].getD o 0
def opC (o c : Nat) : Nat := if o = 0 then 1000 + c else if o = 1 then 100 + nmC c else opN o
theorem nI_subl (k c : Nat) : nI (k + c) - nI k = nI c := by rw [sub_nI (by omega), Nat.add_sub_cancel_left]
theorem nmC_ok : ∀ c, c < 13 → 3 ≤ nmC c ∧ nmC c < 23 ∧ nmC c ≠ 14 ∧ nmC c ≠ 15 ∧ nmC c ≠ 16 := by decide +kernel
theorem add64 {x y : Int64} (hx : bI x.toInt) (hy : bI y.toInt) : (x + y).toInt = x.toInt + y.toInt := by
  unfold bI at *
  rw [Int64.toInt_add, bm64 (by omega) (by omega)]
theorem sub64 {x y : Int64} (hx : bI x.toInt) (hy : bI y.toInt) : (x - y).toInt = x.toInt - y.toInt := by
  unfold bI at *
  rw [Int64.toInt_sub, bm64 (by omega) (by omega)]
theorem mul_bd {x y : Int} (hx : bI x) (hy : bI y) : -1000000000000 ≤ x * y ∧ x * y ≤ 1000000000000 := by
  unfold bI at *
  have h1 : (x.natAbs : Int) ≤ 1000000 := by omega
  have h2 : (y.natAbs : Int) ≤ 1000000 := by omega
  have h3 : ((x * y).natAbs : Int) ≤ 1000000 * 1000000 := by
    rw [Int.natAbs_mul]
    have : x.natAbs * y.natAbs ≤ 1000000 * 1000000 := Nat.mul_le_mul (by omega) (by omega)
    omega
  omega
theorem mul64 {x y : Int64} (hx : bI x.toInt) (hy : bI y.toInt) : (x * y).toInt = x.toInt * y.toInt := by
  have := mul_bd hx hy
  rw [Int64.toInt_mul, bm64 (by omega) (by omega)]
theorem div64 {x y : Int64} (hx : bI x.toInt) : (x / y).toInt = x.toInt.tdiv y.toInt := by
  refine Int64.toInt_div_of_ne_left _ _ (fun e => ?_)
  unfold bI at hx
  rw [e] at hx
  have : Int64.minValue.toInt = -9223372036854775808 := by decide
  omega
theorem z64 {y : Int64} : lg_cmp y 0 = 0 ↔ y.toInt = 0 := by rw [lc_eq]; rfl
/-- two values joined, as the class does it -/
theorem qX1_join (G : GP) (d : Nat) (o : Nat) (x y : Int32) (m : Mem) (K : Int64 → Mem → Prop) (ho : (3 ≤ o ∧ o ≤ 6) ∨ (10 ≤ o ∧ o ≤ 15)) (hx : bI x.toInt) (hy : bI y.toInt) (hK : ∀ r : Int64, (heldV r).toInt = (if o < 10 then twoI o x.toInt y.toInt else b2i (askI o x.toInt y.toInt)) → K r m) : Evl G d mX1_joined [.int (nI (opN o)), .long x.toInt64, .long y.toInt64] m K := by
  have hx' : bI x.toInt64.toInt := by rw [Int32.toInt_toInt64]; exact hx
  have hy' : bI y.toInt64.toInt := by rw [Int32.toInt_toInt64]; exact hy
  have h0 : (heldV 0).toInt = b2i false := by decide
  have h1 : (heldV 1).toInt = b2i true := by decide
  have hd : o = 3 ∨ o = 4 ∨ o = 5 ∨ o = 6 ∨ o = 10 ∨ o = 11 ∨ o = 12 ∨ o = 13 ∨ o = 14 ∨ o = 15 := by omega
  have A : ∀ (r : Int64) (c : Bool), (askI o x.toInt y.toInt = c) → 10 ≤ o → (heldV r).toInt = b2i c → K r m := fun r c e h10 h => hK r (by rw [if_neg (by omega), e]; exact h)
  refine vX1_joined G d _ _ _ m K ⟨fun e => ?_, fun e => ?_, fun e => ?_, fun e => ?_, fun e => ?_, fun e => ?_, fun e => ?_, fun e => ?_, fun e => ?_, fun e => ?_, fun e => ?_, fun e => ?_⟩
  · rcases hd with rfl | rfl | rfl | rfl | rfl | rfl | rfl | rfl | rfl | rfl <;> first | exact absurd e (by decide) | skip
    refine ⟨fun q => A 0 false ?_ (by omega) h0, fun q => A 1 true ?_ (by omega) h1⟩
    · rw [lc_gt, Int32.toInt_toInt64, Int32.toInt_toInt64] at q
      exact decide_eq_false (by omega)
    · rw [lc_gt, Int32.toInt_toInt64, Int32.toInt_toInt64] at q
      exact decide_eq_true (by omega)
  · rcases hd with rfl | rfl | rfl | rfl | rfl | rfl | rfl | rfl | rfl | rfl <;> first | exact absurd e (by decide) | skip
    refine ⟨fun q => A 0 false ?_ (by omega) h0, fun q => A 1 true ?_ (by omega) h1⟩
    · rw [lc_lt, Int32.toInt_toInt64, Int32.toInt_toInt64] at q
      exact decide_eq_false (by omega)
    · rw [lc_lt, Int32.toInt_toInt64, Int32.toInt_toInt64] at q
      exact decide_eq_true (by omega)
  · rcases hd with rfl | rfl | rfl | rfl | rfl | rfl | rfl | rfl | rfl | rfl <;> first | exact absurd e (by decide) | skip
    refine ⟨fun q => A 0 false ?_ (by omega) h0, fun q => A 1 true ?_ (by omega) h1⟩
    · rw [lc_eq, Int32.toInt_toInt64, Int32.toInt_toInt64] at q
      exact decide_eq_false (by omega)
    · rw [lc_eq, Int32.toInt_toInt64, Int32.toInt_toInt64] at q
      exact decide_eq_true (by omega)
  · rcases hd with rfl | rfl | rfl | rfl | rfl | rfl | rfl | rfl | rfl | rfl <;> first | exact absurd e (by decide) | skip
    refine hK _ ?_
    rw [heldV_i, mul64 hx' hy', Int32.toInt_toInt64, Int32.toInt_toInt64]
    rfl
  · rcases hd with rfl | rfl | rfl | rfl | rfl | rfl | rfl | rfl | rfl | rfl <;> first | exact absurd e (by decide) | skip
    refine hK _ ?_
    rw [heldV_i, add64 hx' hy', Int32.toInt_toInt64, Int32.toInt_toInt64]
    rfl
  · rcases hd with rfl | rfl | rfl | rfl | rfl | rfl | rfl | rfl | rfl | rfl <;> first | exact absurd e (by decide) | skip
    refine ⟨fun q => ⟨fun q2 => q (by rw [q2]; decide), hK _ ?_⟩, fun q => hK _ ?_⟩
    · rw [z64, Int32.toInt_toInt64] at q
      rw [heldV_i, div64 hx', Int32.toInt_toInt64, Int32.toInt_toInt64]
      show _ = if y.toInt = 0 then 0 else clipI (x.toInt.tdiv y.toInt)
      rw [if_neg q]
    · rw [z64, Int32.toInt_toInt64] at q
      show _ = if y.toInt = 0 then 0 else clipI (x.toInt.tdiv y.toInt)
      rw [if_pos q]; decide
  · rcases hd with rfl | rfl | rfl | rfl | rfl | rfl | rfl | rfl | rfl | rfl <;> first | exact absurd e (by decide) | skip
    refine ⟨fun q => A 0 false ?_ (by omega) h0, fun q => A 1 true ?_ (by omega) h1⟩
    · rw [lc_ge, Int32.toInt_toInt64, Int32.toInt_toInt64] at q
      exact decide_eq_false (by omega)
    · rw [lc_ge, Int32.toInt_toInt64, Int32.toInt_toInt64] at q
      exact decide_eq_true (by omega)
  · rcases hd with rfl | rfl | rfl | rfl | rfl | rfl | rfl | rfl | rfl | rfl <;> first | exact absurd e (by decide) | skip
    refine ⟨fun q => A 0 false ?_ (by omega) h0, fun q => A 1 true ?_ (by omega) h1⟩
    · rw [lc_eq, Int32.toInt_toInt64, Int32.toInt_toInt64] at q
      exact decide_eq_false (by omega)
    · rw [lc_eq, Int32.toInt_toInt64, Int32.toInt_toInt64] at q
      exact decide_eq_true (by omega)
  · rcases hd with rfl | rfl | rfl | rfl | rfl | rfl | rfl | rfl | rfl | rfl <;> first | exact absurd e (by decide) | skip
    refine ⟨fun q => A 0 false ?_ (by omega) h0, fun q => A 1 true ?_ (by omega) h1⟩
    · rw [lc_le, Int32.toInt_toInt64, Int32.toInt_toInt64] at q
      exact decide_eq_false (by omega)
    · rw [lc_le, Int32.toInt_toInt64, Int32.toInt_toInt64] at q
      exact decide_eq_true (by omega)
  · rcases hd with rfl | rfl | rfl | rfl | rfl | rfl | rfl | rfl | rfl | rfl <;> exact absurd e (by decide)
  · rcases hd with rfl | rfl | rfl | rfl | rfl | rfl | rfl | rfl | rfl | rfl <;> exact absurd e (by decide)
  · rcases hd with rfl | rfl | rfl | rfl | rfl | rfl | rfl | rfl | rfl | rfl <;> first | exact absurd e (by decide) | skip
    refine hK _ ?_
    rw [heldV_i, sub64 hx' hy', Int32.toInt_toInt64, Int32.toInt_toInt64]
    rfl
theorem b2i_bd (b : Bool) : bI (b2i b) := by cases b <;> (unfold bI; decide)
theorem b2_inj {x : Int32} {b : Bool} (h : x.toInt = b2i b) : x = b2 b := Int32.toInt_inj.mp (by rw [b2_i]; exact h)
theorem qX1_joinB (G : GP) (d : Nat) (o : Nat) (x y : Bool) (m : Mem) (K : Int64 → Mem → Prop) (ho : o = 21 ∨ o = 22) (hK : ∀ r : Int64, (heldV r).toInt = b2i (if o = 21 then x && y else x || y) → K r m) : Evl G d mX1_joined [.int (nI (opN o)), .long (b2 x).toInt64, .long (b2 y).toInt64] m K := by
  refine vX1_joined G d _ _ _ m K ⟨fun e => ?_, fun e => ?_, fun e => ?_, fun e => ?_, fun e => ?_, fun e => ?_, fun e => ?_, fun e => ?_, fun e => ?_, fun e => ?_, fun e => ?_, fun e => ?_⟩ <;> rcases ho with rfl | rfl <;> first | exact absurd e (by decide) | skip
  · refine hK _ ?_
    cases x <;> cases y <;> decide
  · refine hK _ ?_
    cases x <;> cases y <;> decide
theorem qX1_power (G : GP) (d : Nat) (x y : Int32) (m : Mem) (K : Int32 → Mem → Prop) (hx : bI x.toInt) (hy : bI y.toInt) (hK : ∀ r : Int32, r.toInt = twoI 7 x.toInt y.toInt → K r m) : Evi G (d + 1) mX1_power [.int x, .int y] m K := by
  have key : ∀ (N : Nat) (u : Value), N ≤ 99 → (∀ r : Int32, r.toInt = powI x.toInt N → K r m) → Gw G (d + 1) mX1_power 37 [.int x, u, .int (nI N), .int 1, .int 0] [] m (Qi K) := by
    intro N u hN hK'
    refine loopD (P := fun i => ∀ (p : Int32) (u : Value), p.toInt = powI x.toInt i → Gw G (d + 1) mX1_power 37 [.int x, u, .int (nI N), .int p, .int (nI i)] [] m (Qi K)) N ?_ ?_ 1 u (show (1 : Int32).toInt = 1 by decide)
    · intro i hi hP p u hp
      refine vX1_power_37 G d x u (nI N) p (nI i) m K ⟨fun q => ?_, fun _ => ?_⟩
      · rw [le_nI (by omega) (by omega)] at q
        omega
      · rintro _ rfl _ rfl
        rw [nI_1]
        refine hP _ _ ?_
        have hb := powI_bd x.toInt i
        rw [heldV_i, mul64 (by rw [Int32.toInt_toInt64, hp]; exact hb) (by rw [Int32.toInt_toInt64]; exact hx), Int32.toInt_toInt64, Int32.toInt_toInt64, hp]
        rfl
    · intro p u hp
      exact vX1_power_37 G d x u (nI N) p (nI N) m K ⟨fun _ => hK' p hp, fun q => absurd ((le_nI (by omega) (by omega)).mpr (Nat.le_refl _)) q⟩
  have e0 : (0 : Int32).toInt = 0 := by decide
  refine vX1_power G d x y m K ⟨fun q => ⟨fun q2 => ?_, fun q2 => ?_⟩, fun q => ?_⟩
  · obtain ⟨n, hn, rfl⟩ := of_range (n := 99) (by omega) q q2
    have en : (nI n).toInt = (n : Int) := nI_toInt (by omega)
    have et : twoI 7 x.toInt (nI n).toInt = powI x.toInt n := by
      show (if (nI n).toInt < 0 then 0 else powI x.toInt (min (nI n).toInt.toNat 99)) = _
      rw [en, if_neg (by omega), show min (n : Int).toNat 99 = n by omega]
    rw [et] at hK
    refine ⟨fun q3 => key n _ hn hK, fun q3 => ?_⟩
    have q3 : ¬ nI n ≤ nI 22 := q3
    rw [le_nI (by omega) (by omega)] at q3
    rintro _ rfl
    have e2 : nI n - nI n / 2 * 2 = nI (n % 2) := pk_rem (d := 2) (by omega) (by omega) (by omega)
    rw [e2, show (22 : Int32) - nI (n % 2) = nI (22 - n % 2) from sub_nI (a := 22) (by omega)]
    refine key _ _ (by omega) ?_
    rw [powI_22 x.toInt (by omega)]
    exact hK
  · rintro _ rfl
    have et : twoI 7 x.toInt y.toInt = powI x.toInt 21 := by
      have hy2 : ¬ y.toInt ≤ 99 := fun z => q2 (by rw [Int32.le_iff_toInt_le]; exact z)
      show (if y.toInt < 0 then 0 else powI x.toInt (min y.toInt.toNat 99)) = _
      rw [if_neg (by omega), show min y.toInt.toNat 99 = 99 by omega]
      exact (powI_22 x.toInt (n := 99) (by omega)).symm
    rw [et] at hK
    exact key 21 _ (by omega) hK
  · refine hK 0 ?_
    have : y.toInt < 0 := by
      rw [Int32.le_iff_toInt_le, e0] at q
      omega
    show _ = (if y.toInt < 0 then 0 else powI x.toInt (min y.toInt.toNat 99))
    rw [if_pos this]
    decide
/-- one place of a law's code, on the class's side -/
theorem says_step (G : GP) (d : Nat) (p0 : Nat) (hp0 : TxAt p0) (l i ti o c : Nat) (u : Value) (m : Mem) (K : Int32 → Mem → Prop) (nm : Nat → Int) (T : List Bool) (V : List Int) (s : Nat × Nat)
    (hl : l < 3) (hi : i < ti) (hti : ti ≤ 300) (h5 : m.1 (p0 + 5) l = nI ti) (hx : m.1 (p0 + 3) i = nI (opC o c)) (ho : (o = 0 → c ≤ 9999) ∧ (o = 1 → c < 13)) (hs : tstep o T.length V.length = some s) (hTV : T.length + V.length < 62)
    (hV : ∀ x ∈ V, bI x) (hS : SV (m.1 264) (V ++ T.map b2i)) (hnm : o = 1 → (m.1 263 (nmC c)).toInt = nm c)
    (k : ∀ (m' : Mem) (u : Value), SV (m'.1 264) ((stp nm o c T V).2 ++ (stp nm o c T V).1.map b2i) → (∀ q, q ≠ 264 → m'.1 q = m.1 q) → m'.2 = m.2 → Gw G (d + 2) mX1_says 10 [.ref (ga G 262), .ref (ga G p0), .int (nI l), .int (nI ((stp nm o c T V).1.length + (stp nm o c T V).2.length)), .int (nI (i + 1)), u] [] m' (Qi K)) :
    Gw G (d + 2) mX1_says 10 [.ref (ga G 262), .ref (ga G p0), .int (nI l), .int (nI (T.length + V.length)), .int (nI i), u] [] m (Qi K) := by
  refine vX1_says_10 G d p0 hp0 (nI l) (nI (T.length + V.length)) (nI i) u m K ⟨in_nI hl (by omega), fun q => ?_, fun _ => ⟨fun q => ?_, fun _ => ⟨in_nI (by omega) (by omega), ?_⟩⟩⟩
  · exfalso
    rw [tn_nI (by omega), h5, le_nI (by omega) (by omega)] at q
    omega
  · exfalso
    have q := (le_nI (a := 64) (by omega) (by omega)).mp q
    omega
  rw [tn_nI (by omega), hx]
  rintro _ rfl
  rcases stp_cases (nm := nm) (v := c) hs with ⟨rfl, h2, e⟩ | ⟨rfl, h2, e⟩ | ⟨rfl, x, W, rfl, e⟩ | ⟨h1, h2, y, x, W, rfl, e⟩ | ⟨h1, h2, y, x, rfl, e⟩ | ⟨rfl, rfl, x, W, rfl, e⟩ | ⟨h1, rfl, y, x, W, rfl, e⟩
  · -- a number
    rw [e] at k
    have hc := ho.1 rfl
    have ex : opC 0 c = 1000 + c := rfl
    rw [ex]
    have n1 : ∀ z : Nat, z < 1000 → ¬ nI (1000 + c) = nI z := fun z hz q => by rw [eq_nI (by omega) (by omega)] at q; omega
    have n2 : ∀ z : Nat, z ≤ 1000 → ¬ nI (1000 + c) < nI z := fun z hz q => by rw [lt_nI (by omega) (by omega)] at q; omega
    refine ⟨fun q => ?_, fun _ => ⟨fun q => absurd q (n1 116 (by omega)), fun _ => ⟨fun _ => ⟨fun q => absurd q (n2 1000 (by omega)), fun _ => ⟨in_nI (by omega) (by omega), ?_⟩⟩, fun q => absurd q (n1 5 (by omega))⟩⟩⟩
    · exfalso
      rcases q with q | q | q
      · exact n1 115 (by omega) q
      · exact n1 114 (by omega) q
      · exact n2 100 (by omega) q.1
    · rintro _ rfl _ rfl _ rfl
      rw [nI_1, nI_1, tn_nI (by omega), show nI (1000 + c) - 1000 = nI c from nI_subl 1000 c]
      have := k (wI m 264 (T.length + V.length) (nI c)) (.int (nI (1000 + c))) ?_ (fun q hq => wI_n _ _ _ hq) rfl
      · have e2 : T.length + ((c : Int) :: V).length = T.length + V.length + 1 := by simp; omega
        rw [e2] at this
        exact this
      · rw [wI_s]
        have e3 : T.length + V.length = (V ++ T.map b2i).length := by simp; omega
        rw [e3]
        exact hS.put (nI_toInt (by omega))
  · -- a name
    rw [e] at k
    have hc := ho.2 rfl
    obtain ⟨c1, c2, c3, c4, c5⟩ := nmC_ok c hc
    have ex : opC 1 c = 100 + nmC c := rfl
    rw [ex]
    have hnm := hnm rfl
    refine ⟨fun q => ?_, fun _ => ⟨fun q => ?_, fun _ => ⟨fun _ => ⟨fun _ => ⟨?_, in_nI (by omega) (by omega), ?_⟩, fun q => ?_⟩, fun q => ?_⟩⟩⟩
    · exfalso
      rcases q with q | q | q
      · have q := (eq_nI (b := 115) (by omega) (by omega)).mp q; omega
      · have q := (eq_nI (b := 114) (by omega) (by omega)).mp q; omega
      · have q := (lt_nI (b := 100) (by omega) (by omega)).mp q.1; omega
    · exfalso
      have q := (eq_nI (b := 116) (by omega) (by omega)).mp q; omega
    · rw [show nI (100 + nmC c) - 100 = nI (nmC c) from nI_subl 100 (nmC c)]
      exact in_nI (by omega) (by omega)
    · rintro _ rfl _ rfl _ rfl
      rw [nI_1, nI_1, tn_nI (n := T.length + V.length) (by omega), show nI (100 + nmC c) - 100 = nI (nmC c) from nI_subl 100 (nmC c), tn_nI (by omega)]
      have := k (wI m 264 (T.length + V.length) (m.1 263 (nmC c))) (.int (nI (100 + nmC c))) ?_ (fun q hq => wI_n _ _ _ hq) rfl
      · have e2 : T.length + (nm c :: V).length = T.length + V.length + 1 := by simp; omega
        rw [e2] at this
        exact this
      · rw [wI_s]
        have e3 : T.length + V.length = (V ++ T.map b2i).length := by simp; omega
        rw [e3]
        exact hS.put hnm
    · exfalso
      have q : ¬ nI (100 + nmC c) < nI 1000 := q
      rw [lt_nI (by omega) (by omega)] at q; omega
    · exfalso
      have q := (eq_nI (b := 5) (by omega) (by omega)).mp q; omega
  · -- the minus of one
    rw [e] at k
    have ex : opC 2 c = 5 := rfl
    rw [ex]
    have eT : T.length + (x :: W).length = T.length + W.length + 1 := by simp; omega
    rw [eT] at hTV ⊢
    have hxb := hV x List.mem_cons_self
    refine ⟨fun q => absurd q (by decide), fun _ => ⟨fun q => absurd q (by decide), fun _ => ⟨fun q => absurd rfl q, fun _ => ⟨fun q => ?_, fun _ => ⟨fun _ => ?_, fun q => absurd q (by decide)⟩⟩⟩⟩⟩
    · exfalso
      have q := (le_nI (b := 0) (by omega) (by omega)).mp q
      omega
    · rw [nI_pred, nI_1, tn_nI (by omega)]
      refine ⟨in_nI (by omega) (by omega), in_nI (by omega) (by omega), ?_⟩
      rintro _ rfl _ rfl
      obtain ⟨h1, h2⟩ : (m.1 264 (W ++ T.map b2i).length).toInt = x ∧ SV (m.1 264) (W ++ T.map b2i) := hS
      have e3 : T.length + W.length = (W ++ T.map b2i).length := by simp; omega
      have := k (wI m 264 (T.length + W.length) (0 - m.1 264 (T.length + W.length))) (.int 5) ?_ (fun q hq => wI_n _ _ _ hq) rfl
      · have e2 : T.length + ((-x) :: W).length = T.length + W.length + 1 := by simp; omega
        rw [e2] at this
        exact this
      · rw [wI_s, e3]
        refine h2.put ?_
        unfold bI at hxb
        rw [Int32.toInt_sub, h1, show (0 : Int32).toInt = 0 from rfl, bm32 (by omega) (by omega)]
        omega
  · -- two values
    rw [e] at k
    have ex : opC o c = opN o := by unfold opC; rw [if_neg (by omega), if_neg (by omega)]
    rw [ex]
    have eT : T.length + (y :: x :: W).length = T.length + W.length + 2 := by simp; omega
    rw [eT] at hTV ⊢
    have hyb := hV y List.mem_cons_self
    have hxb := hV x (List.mem_cons_of_mem _ List.mem_cons_self)
    obtain ⟨h3, h4, h6⟩ : (m.1 264 (x :: (W ++ T.map b2i)).length).toInt = y ∧ (m.1 264 (W ++ T.map b2i).length).toInt = x ∧ SV (m.1 264) (W ++ T.map b2i) := hS
    have e3 : T.length + W.length = (W ++ T.map b2i).length := by simp; omega
    rw [List.length_cons, ← e3] at h3
    rw [← e3] at h4
    have hj : nI (opN o) = 115 ∨ nI (opN o) = 114 ∨ (nI (opN o) < 100 ∧ ¬ nI (opN o) = 5) := by
      have : o = 3 ∨ o = 4 ∨ o = 5 ∨ o = 6 ∨ o = 7 := by omega
      rcases this with rfl | rfl | rfl | rfl | rfl <;> decide
    refine ⟨fun _ => ⟨fun q => ?_, fun _ => ?_⟩, fun q => absurd hj q⟩
    · exfalso
      have q := (le_nI (b := 1) (by omega) (by omega)).mp q
      omega
    rw [show T.length + W.length + 2 = T.length + W.length + 1 + 1 from rfl, pk_m1]
    rintro _ rfl
    rw [nI_pred, tn_nI (by omega), tn_nI (by omega)]
    have fin : ∀ (r : Int32), r.toInt = twoI o x y → Gw G (d + 2) mX1_says 10 [.ref (ga G 262), .ref (ga G p0), .int (nI l), .int (nI (T.length + W.length + 1)), .int (nI (i + 1)), .int (nI (opN o))] [] (wI m 264 (T.length + W.length) r) (Qi K) := by
      intro r hr
      have := k (wI m 264 (T.length + W.length) r) (.int (nI (opN o))) ?_ (fun q hq => wI_n _ _ _ hq) rfl
      · have e2 : T.length + (twoI o x y :: W).length = T.length + W.length + 1 := by simp; omega
        rw [e2] at this
        exact this
      · rw [wI_s, e3]
        exact h6.put hr
    have bx : bI (m.1 264 (T.length + W.length)).toInt := by rw [h4]; exact hxb
    have bY : bI (m.1 264 (T.length + W.length + 1)).toInt := by rw [h3]; exact hyb
    refine ⟨fun q => ⟨in_nI (by omega) (by omega), in_nI (by omega) (by omega), ?_⟩, fun q => ⟨in_nI (by omega) (by omega), in_nI (by omega) (by omega), ?_⟩⟩
    · have o6 : o ≤ 6 := by
        rcases Nat.lt_or_ge o 7 with z | z
        · omega
        · have : o = 7 := by omega
          subst this
          exact absurd rfl q
      refine qX1_join G (d + 1) o _ _ m _ (Or.inl ⟨h1, o6⟩) bx bY (fun r hr => ⟨in_nI (by omega) (by omega), ?_⟩)
      rintro _ rfl _ rfl
      rw [nI_1]
      rw [if_pos (by omega), h3, h4] at hr
      exact fin _ hr
    · have o7 : o = 7 := by
        have : o = 3 ∨ o = 4 ∨ o = 5 ∨ o = 6 ∨ o = 7 := by omega
        rcases this with rfl | rfl | rfl | rfl | rfl <;> first | rfl | exact absurd q (by decide)
      subst o7
      refine qX1_power G d _ _ m _ bx bY (fun r hr => ⟨in_nI (by omega) (by omega), ?_⟩)
      rintro _ rfl _ rfl
      rw [nI_1]
      rw [h3, h4] at hr
      exact fin _ hr
  · -- asked
    rw [e] at k
    have ex : opC o c = opN o := by unfold opC; rw [if_neg (by omega), if_neg (by omega)]
    rw [ex]
    have eT : T.length + [y, x].length = T.length + 2 := by simp
    rw [eT] at hTV ⊢
    have hyb := hV y List.mem_cons_self
    have hxb := hV x (List.mem_cons_of_mem _ List.mem_cons_self)
    obtain ⟨h3, h4, h6⟩ : (m.1 264 (x :: T.map b2i).length).toInt = y ∧ (m.1 264 (T.map b2i).length).toInt = x ∧ SV (m.1 264) (T.map b2i) := hS
    have e3 : T.length = (T.map b2i).length := by simp
    rw [List.length_cons, ← e3] at h3
    rw [← e3] at h4
    have hj : nI (opN o) = 115 ∨ nI (opN o) = 114 ∨ (nI (opN o) < 100 ∧ ¬ nI (opN o) = 5) := by
      have : o = 10 ∨ o = 11 ∨ o = 12 ∨ o = 13 ∨ o = 14 ∨ o = 15 := by omega
      rcases this with rfl | rfl | rfl | rfl | rfl | rfl <;> decide
    have h94 : ¬ nI (opN o) = 94 := by
      have : o = 10 ∨ o = 11 ∨ o = 12 ∨ o = 13 ∨ o = 14 ∨ o = 15 := by omega
      rcases this with rfl | rfl | rfl | rfl | rfl | rfl <;> decide
    refine ⟨fun _ => ⟨fun q => ?_, fun _ => ?_⟩, fun q => absurd hj q⟩
    · exfalso
      have q := (le_nI (b := 1) (by omega) (by omega)).mp q
      omega
    rw [show T.length + 2 = T.length + 1 + 1 from rfl, pk_m1]
    rintro _ rfl
    rw [nI_pred, tn_nI (by omega), tn_nI (by omega)]
    have bx : bI (m.1 264 T.length).toInt := by rw [h4]; exact hxb
    have bY : bI (m.1 264 (T.length + 1)).toInt := by rw [h3]; exact hyb
    refine ⟨fun q => ⟨in_nI (by omega) (by omega), in_nI (by omega) (by omega), ?_⟩, fun q => absurd q h94⟩
    refine qX1_join G (d + 1) o _ _ m _ (Or.inr ⟨h1, h2⟩) bx bY (fun r hr => ⟨in_nI (by omega) (by omega), ?_⟩)
    rintro _ rfl _ rfl
    rw [nI_1]
    rw [if_neg (by omega), h3, h4] at hr
    have := k (wI m 264 T.length (heldV r)) (.int (nI (opN o))) ?_ (fun q hq => wI_n _ _ _ hq) rfl
    · have e2 : (askI o x y :: T).length + ([] : List Int).length = T.length + 1 := by simp
      rw [e2] at this
      exact this
    · rw [wI_s, e3]
      exact h6.put hr
  · -- not
    rw [e] at k
    have ex : opC 20 c = 116 := rfl
    rw [ex]
    have eT : (x :: W).length + ([] : List Int).length = W.length + 1 := by simp
    rw [eT] at hTV ⊢
    obtain ⟨h1, h2⟩ : (m.1 264 (W.map b2i).length).toInt = b2i x ∧ SV (m.1 264) (W.map b2i) := hS
    have e3 : W.length = (W.map b2i).length := by simp
    rw [← e3] at h1
    refine ⟨fun q => absurd q (by decide), fun _ => ⟨fun _ => ⟨fun q => ?_, fun _ => ⟨fun q => absurd rfl q, fun _ => ?_⟩⟩, fun q => absurd rfl q⟩⟩
    · exfalso
      have q := (le_nI (b := 0) (by omega) (by omega)).mp q
      omega
    · rw [nI_pred, nI_1, tn_nI (by omega)]
      refine ⟨in_nI (by omega) (by omega), in_nI (by omega) (by omega), ?_⟩
      rintro _ rfl _ rfl
      have := k (wI m 264 W.length (1 - m.1 264 W.length)) (.int 116) ?_ (fun q hq => wI_n _ _ _ hq) rfl
      · have e2 : ((!x) :: W).length + ([] : List Int).length = W.length + 1 := by simp
        rw [e2] at this
        exact this
      · rw [wI_s]
        show SV (upd (m.1 264) W.length (1 - m.1 264 W.length)) (b2i (!x) :: W.map b2i)
        rw [b2_inj h1, e3]
        refine h2.put ?_
        cases x <;> decide
  · -- and, or
    rw [e] at k
    have ex : opC o c = opN o := by unfold opC; rw [if_neg (by omega), if_neg (by omega)]
    rw [ex]
    have eT : (y :: x :: W).length + ([] : List Int).length = W.length + 2 := by simp
    rw [eT] at hTV ⊢
    obtain ⟨h3, h4, h6⟩ : (m.1 264 (b2i x :: W.map b2i).length).toInt = b2i y ∧ (m.1 264 (W.map b2i).length).toInt = b2i x ∧ SV (m.1 264) (W.map b2i) := hS
    have e3 : W.length = (W.map b2i).length := by simp
    rw [List.length_cons, ← e3] at h3
    rw [← e3] at h4
    have hj : nI (opN o) = 115 ∨ nI (opN o) = 114 ∨ (nI (opN o) < 100 ∧ ¬ nI (opN o) = 5) := by
      rcases h1 with rfl | rfl <;> decide
    have h94 : ¬ nI (opN o) = 94 := by
      rcases h1 with rfl | rfl <;> decide
    refine ⟨fun _ => ⟨fun q => ?_, fun _ => ?_⟩, fun q => absurd hj q⟩
    · exfalso
      have q := (le_nI (b := 1) (by omega) (by omega)).mp q
      omega
    rw [show W.length + 2 = W.length + 1 + 1 from rfl, pk_m1]
    rintro _ rfl
    rw [nI_pred, tn_nI (by omega), tn_nI (by omega)]
    refine ⟨fun q => ⟨in_nI (by omega) (by omega), in_nI (by omega) (by omega), ?_⟩, fun q => absurd q h94⟩
    rw [b2_inj h3, b2_inj h4]
    refine qX1_joinB G (d + 1) o x y m _ h1 (fun r hr => ⟨in_nI (by omega) (by omega), ?_⟩)
    rintro _ rfl _ rfl
    rw [nI_1]
    have := k (wI m 264 W.length (heldV r)) (.int (nI (opN o))) ?_ (fun q hq => wI_n _ _ _ hq) rfl
    · have e2 : ((if o = 21 then x && y else x || y) :: W).length + ([] : List Int).length = W.length + 1 := by simp
      rw [e2] at this
      exact this
    · rw [wI_s]
      show SV (upd (m.1 264) W.length (heldV r)) (b2i (if o = 21 then x && y else x || y) :: W.map b2i)
      rw [e3]
      exact h6.put hr
