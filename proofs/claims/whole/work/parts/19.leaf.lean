theorem zl {a b : Int32} : ¬ a < b ↔ b ≤ a := by rw [Int32.lt_iff_toInt_lt, Int32.le_iff_toInt_le]; omega
theorem zn {a b : Int32} : ¬ a ≤ b ↔ b < a := by rw [Int32.lt_iff_toInt_lt, Int32.le_iff_toInt_le]; omega
def strC (m : Mem) (w i : Int32) : Int32 := if (0 ≤ w ∧ w < m.1 2 4) ∧ (0 ≤ i ∧ i ≤ 3) then m.1 6 (w * 4 + i).toNatClampNeg else -1
def bytM (m : Mem) (k : Int32) : Int32 := if m.1 273 5 ≤ k then -1 else m.1 278 k.toNatClampNeg
def heldV (x : Int64) : Int32 := if lg_cmp x 1000000 ≤ 0 then (if 0 ≤ lg_cmp x (-1000000) then x.toInt32 else -1000000) else 1000000
def clipV (x : Int64) : Int64 := if lg_cmp x 1000000 ≤ 0 then (if 0 ≤ lg_cmp x (-1000000) then x else -1000000) else 1000000
def holdV (o : Int32) : Int32 := if o = 3 then 4 else if o = 4 then 4 else if o = 5 then 8 else if o = 35 then 4 else if o = 42 then 6 else if o = 43 then 5 else if o = 45 then 5 else if o = 47 then 6 else if o = 60 then 4 else if o = 61 then 4 else if o = 62 then 4 else if o = 94 then 7 else if o = 114 then 1 else if o = 115 then 2 else if o = 116 then 3 else 0
def rankV (o : Int32) : Int32 := if o < 40 then (if o = 22 then 1 else if o = 21 then 2 else if o = 20 then 3 else if o < 10 then (if o = 2 then 8 else if o = 7 then 7 else if o < 5 then 5 else 6) else 4) else 0
def w3V (a b c : Int32) : Int64 := ((((a.toInt64 <<< ((8 : Int32).toInt64 &&& 63)) ||| b.toInt64) <<< ((8 : Int32).toInt64 &&& 63)) ||| c.toInt64)
def w4V (a b c d : Int32) : Int64 := (w3V a b c <<< ((8 : Int32).toInt64 &&& 63)) ||| d.toInt64
def w5V (a b c d e : Int32) : Int64 := (w4V a b c d <<< ((8 : Int32).toInt64 &&& 63)) ||| e.toInt64
def w6V (a b c d e f : Int32) : Int64 := (w5V a b c d e <<< ((8 : Int32).toInt64 &&& 63)) ||| f.toInt64
def shownV (m : Mem) : Int32 := if 20 ≤ m.1 274 13 then 20 else m.1 274 13
def bitC (a : Int32) : Int32 :=
  let x1 := a - (((a.toUInt32 >>> ((1 : Int32).toUInt32 &&& Int32.toUInt32 31)).toInt32) &&& 1431655765)
  let x2 := (x1 &&& 858993459) + (((x1.toUInt32 >>> ((2 : Int32).toUInt32 &&& Int32.toUInt32 31)).toInt32) &&& 858993459)
  let x3 := (x2 + ((x2.toUInt32 >>> ((4 : Int32).toUInt32 &&& Int32.toUInt32 31)).toInt32)) &&& 252645135
  let x4 := x3 + ((x3.toUInt32 >>> ((8 : Int32).toUInt32 &&& Int32.toUInt32 31)).toInt32)
  let x5 := x4 + ((x4.toUInt32 >>> ((16 : Int32).toUInt32 &&& Int32.toUInt32 31)).toInt32)
  x5 &&& 63
theorem lc_0 {a b : Int64} : lg_cmp a b = 0 ↔ a = b := by
  unfold lg_cmp
  simp only [gt_iff_lt, Int64.lt_iff_toInt_lt, ← Int64.toInt_inj]
  repeat' split
  all_goals (constructor <;> intro hh <;> first | omega | decide | exact absurd hh (by decide))
theorem eX11_within (G : GP) (d : Nat) (a0 : Int32) (a1 : Int32) (a2 : Int32) (m : Mem) (K : Int32 → Mem → Prop) (hK : (a1 ≤ a0 ∧ a0 ≤ a2 → K 1 m) ∧ (¬ (a1 ≤ a0 ∧ a0 ≤ a2) → K 0 m)) : Evi G (d) mX11_within [.int a0, .int a1, .int a2] m K := by
  refine vX11_within G d a0 a1 a2 m K ⟨fun h => hK.2 (fun q => absurd h (zl.mpr q.1)), fun h => ⟨fun h2 => hK.2 (fun q => absurd h2 (zl.mpr q.2)), fun h2 => hK.1 ⟨zl.mp h, zl.mp h2⟩⟩⟩
theorem eX12_isIn (G : GP) (d : Nat) (a0 : Int32) (a1 : Int32) (a2 : Int32) (m : Mem) (K : Int32 → Mem → Prop) (hK : (a1 ≤ a0 ∧ a0 ≤ a2 → K 1 m) ∧ (¬ (a1 ≤ a0 ∧ a0 ≤ a2) → K 0 m)) : Evi G (d) mX12_isIn [.int a0, .int a1, .int a2] m K := by
  refine vX12_isIn G d a0 a1 a2 m K ⟨fun h => hK.2 (fun q => absurd h (zl.mpr q.1)), fun h => ⟨fun h2 => hK.2 (fun q => absurd h2 (zl.mpr q.2)), fun h2 => hK.1 ⟨zl.mp h, zl.mp h2⟩⟩⟩
theorem eX2_hasBell (G : GP) (d : Nat) (a0 : Int32) (m : Mem) (K : Int32 → Mem → Prop) (hK : (0 ≤ a0 ∧ a0 < m.1 2 0 → K 1 m) ∧ (¬ (0 ≤ a0 ∧ a0 < m.1 2 0) → K 0 m)) : Evi G (d) mX2_hasBell [.ref (ga G 2), .int a0] m K := by
  refine vX2_hasBell G d a0 m K ⟨fun h => hK.2 (fun q => absurd h (zl.mpr q.1)), fun h => ⟨fun h2 => hK.2 (fun q => absurd h2 (zn.mpr q.2)), fun h2 => hK.1 ⟨zl.mp h, zn.mp h2⟩⟩⟩
theorem eX2_hasWord (G : GP) (d : Nat) (a0 : Int32) (m : Mem) (K : Int32 → Mem → Prop) (hK : (0 ≤ a0 ∧ a0 < m.1 2 4 → K 1 m) ∧ (¬ (0 ≤ a0 ∧ a0 < m.1 2 4) → K 0 m)) : Evi G (d) mX2_hasWord [.ref (ga G 2), .int a0] m K := by
  refine vX2_hasWord G d a0 m K ⟨fun h => hK.2 (fun q => absurd h (zl.mpr q.1)), fun h => ⟨fun h2 => hK.2 (fun q => absurd h2 (zn.mpr q.2)), fun h2 => hK.1 ⟨zl.mp h, zn.mp h2⟩⟩⟩
theorem eX10_hasText (G : GP) (d : Nat) (a0 : Int32) (m : Mem) (K : Int32 → Mem → Prop) (hK : (0 ≤ a0 ∧ a0 < m.1 1 5 → K 1 m) ∧ (¬ (0 ≤ a0 ∧ a0 < m.1 1 5) → K 0 m)) : Evi G (d) mX10_hasText [.ref (ga G 1), .int a0] m K := by
  refine vX10_hasText G d a0 m K ⟨fun h => hK.2 (fun q => absurd h (zl.mpr q.1)), fun h => ⟨fun h2 => hK.2 (fun q => absurd h2 (zn.mpr q.2)), fun h2 => hK.1 ⟨zl.mp h, zn.mp h2⟩⟩⟩
theorem eX12_has (G : GP) (d : Nat) (a0 : Int32) (a1 : Int32) (m : Mem) (K : Int32 → Mem → Prop) (hK : ((a0 >>> (a1 &&& 31)) &&& 1 = 1 → K 1 m) ∧ (¬ ((a0 >>> (a1 &&& 31)) &&& 1 = 1) → K 0 m)) : Evi G (d) mX12_has [.int a0, .int a1] m K := by
  exact vX12_has G d a0 a1 m K ⟨hK.2, hK.1⟩
theorem eX0_fitsAt (G : GP) (d : Nat) (a0 : Int32) (a1 : Int32) (m : Mem) (K : Int32 → Mem → Prop) (ho : vp_in a0 25) (hK : (¬ (m.1 268 a0.toNatClampNeg >>> (a1 &&& 31)) &&& 1 = 0 → K 1 m) ∧ (¬ (¬ (m.1 268 a0.toNatClampNeg >>> (a1 &&& 31)) &&& 1 = 0) → K 0 m)) : Evi G (d) mX0_fitsAt [.ref (ga G 266), .int a0, .int a1] m K := by
  exact vX0_fitsAt G d a0 a1 m K ⟨ho, fun h => hK.2 (fun q => q h), hK.1⟩
theorem eX8_hasLaw (G : GP) (d : Nat) (c0 : Nat) (hc0 : TxAt c0) (a0 : Int32) (m : Mem) (K : Int32 → Mem → Prop) (ho : vp_in a0 3) (hK : (m.1 (c0 + 4) a0.toNatClampNeg < m.1 (c0 + 5) a0.toNatClampNeg → K 1 m) ∧ (¬ (m.1 (c0 + 4) a0.toNatClampNeg < m.1 (c0 + 5) a0.toNatClampNeg) → K 0 m)) : Evi G (d) mX8_hasLaw [.ref (ga G c0), .int a0] m K := by
  exact vX8_hasLaw G d c0 hc0 a0 m K ⟨ho, ho, fun h => hK.2 (fun q => absurd q (zl.mpr h)), fun h => hK.1 (zn.mp h)⟩
theorem eX12_isFigure (G : GP) (d : Nat) (a0 : Int32) (m : Mem) (K : Int32 → Mem → Prop) (hK : (48 ≤ a0 ∧ a0 ≤ 57 → K 1 m) ∧ (¬ (48 ≤ a0 ∧ a0 ≤ 57) → K 0 m)) : Evi G (d) mX12_isFigure [.int a0] m K := by
  refine vX12_isFigure G d a0 m K ⟨fun h => hK.2 (fun q => absurd h (zl.mpr q.1)), fun h => ⟨fun h2 => hK.2 (fun q => absurd h2 (zl.mpr q.2)), fun h2 => hK.1 ⟨zl.mp h, zl.mp h2⟩⟩⟩
theorem eX12_isLetterByte (G : GP) (d : Nat) (a0 : Int32) (m : Mem) (K : Int32 → Mem → Prop) (hK : ((97 ≤ a0 ∧ a0 ≤ 122) ∨ (65 ≤ a0 ∧ a0 ≤ 90) → K 1 m) ∧ (¬ ((97 ≤ a0 ∧ a0 ≤ 122) ∨ (65 ≤ a0 ∧ a0 ≤ 90)) → K 0 m)) : Evi G (d) mX12_isLetterByte [.int a0] m K := by
  refine vX12_isLetterByte G d a0 m K ⟨fun h => ⟨fun h2 => hK.2 ?_, fun h2 => ⟨fun h3 => hK.2 ?_, fun h3 => hK.1 (Or.inr ⟨zl.mp h2, zl.mp h3⟩)⟩⟩, fun h => ⟨fun h2 => hK.1 (Or.inl ⟨zl.mp h, h2⟩), fun h2 => ⟨fun h3 => hK.2 ?_, fun h3 => ⟨fun h4 => hK.2 ?_, fun h4 => hK.1 (Or.inr ⟨zl.mp h3, zl.mp h4⟩)⟩⟩⟩⟩
  · rintro (q | q)
    · exact zl.mpr q.1 h
    · exact zl.mpr q.1 h2
  · rintro (q | q)
    · exact zl.mpr q.1 h
    · exact zl.mpr q.2 h3
  · rintro (q | q)
    · exact h2 q.2
    · exact zl.mpr q.1 h3
  · rintro (q | q)
    · exact h2 q.2
    · exact zl.mpr q.2 h4
theorem eX12_isWord (G : GP) (d : Nat) (a0 : Int64) (m : Mem) (K : Int32 → Mem → Prop) (hK : (m.1 273 10 = 2 ∧ m.2.1 273 12 = a0 → K 1 m) ∧ (¬ (m.1 273 10 = 2 ∧ m.2.1 273 12 = a0) → K 0 m)) : Evi G (d) mX12_isWord [.ref (ga G 273), .long a0] m K := by
  refine vX12_isWord G d a0 m K ⟨fun h => hK.2 (fun q => h q.1), fun h => ⟨fun h2 => hK.2 (fun q => h2 (lc_0.mpr q.2)), fun h2 => hK.1 ⟨h, lc_0.mp h2⟩⟩⟩
theorem eX1_isJoint (G : GP) (d : Nat) (a0 : Int32) (m : Mem) (K : Int32 → Mem → Prop) (hK : (a0 = 115 ∨ a0 = 114 ∨ (a0 < 100 ∧ ¬ a0 = 5) → K 1 m) ∧ (¬ (a0 = 115 ∨ a0 = 114 ∨ (a0 < 100 ∧ ¬ a0 = 5)) → K 0 m)) : Evi G (d) mX1_isJoint [.int a0] m K := by
  refine vX1_isJoint G d a0 m K ⟨fun h => hK.1 (Or.inl h), fun h => ⟨fun h2 => hK.1 (Or.inr (Or.inl h2)), fun h2 => ⟨fun h3 => hK.2 ?_, fun h3 => ⟨fun h4 => hK.2 ?_, fun h4 => hK.1 (Or.inr (Or.inr ⟨zn.mp h3, h4⟩))⟩⟩⟩⟩
  · rintro (q | q | q)
    · exact h q
    · exact h2 q
    · exact zl.mpr h3 q.1
  · rintro (q | q | q)
    · exact h q
    · exact h2 q
    · exact q.2 h4
theorem eX12_of (G : GP) (d : Nat) (a0 : Int32) (a1 : Int32) (m : Mem) (K : Int32 → Mem → Prop) (ho : vp_in (((34 : Int32) + (9 : Int32) * a0) + a1) 5968) (hK : K (m.1 274 (((34 : Int32) + (9 : Int32) * a0) + a1).toNatClampNeg) m) : Evi G (d) mX12_of [.ref (ga G 273), .int a0, .int a1] m K := by
  exact vX12_of G d a0 a1 m K ⟨ho, hK⟩
theorem eX12_loud (G : GP) (d : Nat) (a0 : Int32) (m : Mem) (K : Int32 → Mem → Prop) (ho : vp_in ((16 : Int32) + (3 : Int32) * a0) 5968) (hK : K (m.1 274 ((16 : Int32) + (3 : Int32) * a0).toNatClampNeg) m) : Evi G (d) mX12_loud [.ref (ga G 273), .int a0] m K := by
  exact vX12_loud G d a0 m K ⟨ho, hK⟩
theorem eX12_pitch (G : GP) (d : Nat) (a0 : Int32) (m : Mem) (K : Int32 → Mem → Prop) (ho : vp_in (((16 : Int32) + (3 : Int32) * a0) + 1) 5968) (hK : K (m.1 274 (((16 : Int32) + (3 : Int32) * a0) + 1).toNatClampNeg) m) : Evi G (d) mX12_pitch [.ref (ga G 273), .int a0] m K := by
  exact vX12_pitch G d a0 m K ⟨ho, hK⟩
theorem eX12_men (G : GP) (d : Nat) (a0 : Int32) (m : Mem) (K : Int32 → Mem → Prop) (ho : vp_in (((16 : Int32) + (3 : Int32) * a0) + 2) 5968) (hK : K (m.1 274 (((16 : Int32) + (3 : Int32) * a0) + 2).toNatClampNeg) m) : Evi G (d) mX12_men [.ref (ga G 273), .int a0] m K := by
  exact vX12_men G d a0 m K ⟨ho, hK⟩
theorem eX0_cell (G : GP) (d : Nat) (a0 : Int32) (a1 : Int32) (a2 : Int32) (m : Mem) (K : Int32 → Mem → Prop) (hK : K (((a0 * 25 + a1) * 10) + a2) m) : Evi G (d) mX0_cell [.int a0, .int a1, .int a2] m K := by
  exact vX0_cell G d a0 a1 a2 m K hK
theorem eX12_wayAt (G : GP) (d : Nat) (a0 : Int32) (a1 : Int32) (a2 : Int32) (m : Mem) (K : Int32 → Mem → Prop) (hK : K (((275 : Int32) * a0 + (25 : Int32) * a1) + a2) m) : Evi G (d) mX12_wayAt [.int a0, .int a1, .int a2] m K := by
  exact vX12_wayAt G d a0 a1 a2 m K hK
theorem eX12_byteAt (G : GP) (d : Nat) (a0 : Int32) (m : Mem) (K : Int32 → Mem → Prop) (ho : (¬ m.1 273 5 ≤ a0 → vp_in a0 300)) (hK : K (bytM m a0) m) : Evi G (d) mX12_byteAt [.ref (ga G 273), .int a0] m K := by
  refine vX12_byteAt G d a0 m K ⟨fun h => ?_, fun h => ⟨ho h, ?_⟩⟩
  · unfold bytM at hK
    rw [if_pos h] at hK
    exact hK
  · unfold bytM at hK
    rw [if_neg h] at hK
    exact hK
theorem eX1_held (G : GP) (d : Nat) (a0 : Int64) (m : Mem) (K : Int32 → Mem → Prop) (hK : K (heldV a0) m) : Evi G (d) mX1_held [.long a0] m K := by
  refine vX1_held G d a0 m K ⟨fun h => ⟨fun h2 => ?_, fun h2 => ?_⟩, fun h => ?_⟩
  · unfold heldV at hK
    rw [if_pos h, if_pos h2] at hK
    exact hK
  · unfold heldV at hK
    rw [if_pos h, if_neg h2] at hK
    exact hK
  · unfold heldV at hK
    rw [if_neg h] at hK
    exact hK
theorem eX12_clip (G : GP) (d : Nat) (a0 : Int64) (m : Mem) (K : Int64 → Mem → Prop) (hK : K (clipV a0) m) : Evl G (d) mX12_clip [.long a0] m K := by
  refine vX12_clip G d a0 m K ⟨fun h => ⟨fun h2 => ?_, fun h2 => ?_⟩, fun h => ?_⟩
  · unfold clipV at hK
    rw [if_pos h, if_pos h2] at hK
    exact hK
  · unfold clipV at hK
    rw [if_pos h, if_neg h2] at hK
    exact hK
  · unfold clipV at hK
    rw [if_neg h] at hK
    exact hK
theorem eX3_holdOf (G : GP) (d : Nat) (a0 : Int32) (m : Mem) (K : Int32 → Mem → Prop) (hK : K (holdV a0) m) : Evi G (d) mX3_holdOf [.int a0] m K := by
  refine vX3_holdOf G d a0 m K ⟨fun h => by rw [h] at hK; exact hK, fun h => by rw [h] at hK; exact hK, fun h => by rw [h] at hK; exact hK, fun h => by rw [h] at hK; exact hK, fun h => by rw [h] at hK; exact hK, fun h => by rw [h] at hK; exact hK, fun h => by rw [h] at hK; exact hK, fun h => by rw [h] at hK; exact hK, fun h => by rw [h] at hK; exact hK, fun h => by rw [h] at hK; exact hK, fun h => by rw [h] at hK; exact hK, fun h => by rw [h] at hK; exact hK, fun h => by rw [h] at hK; exact hK, fun h => by rw [h] at hK; exact hK, fun h => by rw [h] at hK; exact hK, fun h => ?_⟩
  obtain ⟨h1, h2, h3, h4, h5, h6, h7, h8, h9, h10, h11, h12, h13, h14, h15⟩ := h
  unfold holdV at hK
  rw [if_neg h1, if_neg h2, if_neg h3, if_neg h4, if_neg h5, if_neg h6, if_neg h7, if_neg h8, if_neg h9, if_neg h10, if_neg h11, if_neg h12, if_neg h13, if_neg h14, if_neg h15] at hK
  exact hK
theorem eX12_rank (G : GP) (d : Nat) (a0 : Int32) (m : Mem) (K : Int32 → Mem → Prop) (hK : K (rankV a0) m) : Evi G (d) mX12_rank [.int a0] m K := by
  refine vX12_rank G d a0 m K ?_
  unfold rankV at hK
  refine ⟨fun h => ?_, fun h => by rw [if_neg h] at hK; exact hK⟩
  rw [if_pos h] at hK
  refine ⟨fun h1 => ?_, fun h1 => by rw [if_pos h1] at hK; exact hK⟩
  rw [if_neg h1] at hK
  refine ⟨fun h2 => ?_, fun h2 => by rw [if_pos h2] at hK; exact hK⟩
  rw [if_neg h2] at hK
  refine ⟨fun h3 => ?_, fun h3 => by rw [if_pos h3] at hK; exact hK⟩
  rw [if_neg h3] at hK
  refine ⟨fun h4 => ?_, fun h4 => by rw [if_neg h4] at hK; exact hK⟩
  rw [if_pos h4] at hK
  refine ⟨fun h5 => ?_, fun h5 => by rw [if_pos h5] at hK; exact hK⟩
  rw [if_neg h5] at hK
  refine ⟨fun h6 => ?_, fun h6 => by rw [if_pos h6] at hK; exact hK⟩
  rw [if_neg h6] at hK
  exact ⟨fun h7 => by rw [if_pos h7] at hK; exact hK, fun h7 => by rw [if_neg h7] at hK; exact hK⟩
theorem eX12_w2 (G : GP) (d : Nat) (a0 : Int32) (a1 : Int32) (m : Mem) (K : Int64 → Mem → Prop) (hK : K (((a0.toInt64 <<< ((8 : Int32).toInt64 &&& 63)) ||| a1.toInt64)) m) : Evl G (d) mX12_w2 [.int a0, .int a1] m K := by
  exact vX12_w2 G d a0 a1 m K hK
theorem eX12_shown (G : GP) (d : Nat)  (m : Mem) (K : Int32 → Mem → Prop) (hK : K (shownV m) m) : Evi G (d) mX12_shown [.ref (ga G 273)] m K := by
  refine vX12_shown G d m K ⟨fun h => ?_, fun h => ?_⟩
  · unfold shownV at hK
    rw [if_pos h] at hK
    exact hK
  · unfold shownV at hK
    rw [if_neg h] at hK
    exact hK
theorem eJ6_bitCount_0f7a4 (G : GP) (d : Nat) (a0 : Int32) (m : Mem) (K : Int32 → Mem → Prop) (hK : K (bitC a0) m) : Evi G (d) mJ6_bitCount_0f7a4 [.int a0] m K := by
  refine vJ6_bitCount_0f7a4 G d a0 m K ?_
  rintro _ rfl _ rfl _ rfl _ rfl _ rfl
  exact hK
theorem eX12_isBell (G : GP) (d : Nat) (a0 : Int32) (m : Mem) (K : Int32 → Mem → Prop) (hK : (0 ≤ a0 ∧ a0 ≤ m.1 274 0 - 1 → K 1 m) ∧ (¬ (0 ≤ a0 ∧ a0 ≤ m.1 274 0 - 1) → K 0 m)) : Evi G (d + 1) mX12_isBell [.ref (ga G 273), .int a0] m K := by
  refine vX12_isBell G d a0 m K (eX12_isIn G d _ _ _ m _ ⟨fun h => ⟨Or.inr rfl, hK.1 h⟩, fun h => ⟨Or.inl rfl, hK.2 h⟩⟩)
theorem eX12_isWord0 (G : GP) (d : Nat) (a0 : Int32) (m : Mem) (K : Int32 → Mem → Prop) (hK : (0 ≤ a0 ∧ a0 ≤ m.1 274 1 - 1 → K 1 m) ∧ (¬ (0 ≤ a0 ∧ a0 ≤ m.1 274 1 - 1) → K 0 m)) : Evi G (d + 1) mX12_isWord0 [.ref (ga G 273), .int a0] m K := by
  refine vX12_isWord0 G d a0 m K (eX12_isIn G d _ _ _ m _ ⟨fun h => ⟨Or.inr rfl, hK.1 h⟩, fun h => ⟨Or.inl rfl, hK.2 h⟩⟩)
theorem eX12_strokeOf (G : GP) (d : Nat) (a0 : Int32) (a1 : Int32) (m : Mem) (K : Int32 → Mem → Prop) (ho : vp_in (((34 : Int32) + (9 : Int32) * a0) + ((3 : Int32) + a1)) 5968) (hK : K (m.1 274 (((34 : Int32) + (9 : Int32) * a0) + ((3 : Int32) + a1)).toNatClampNeg) m) : Evi G (d + 1) mX12_strokeOf [.ref (ga G 273), .int a0, .int a1] m K := by
  exact vX12_strokeOf G d a0 a1 m K (eX12_of G d _ _ m _ ho hK)
theorem eX2_strokeOf (G : GP) (d : Nat) (a0 : Int32) (a1 : Int32) (m : Mem) (K : Int32 → Mem → Prop) (ho : ((0 ≤ a0 ∧ a0 < m.1 2 4) ∧ (0 ≤ a1 ∧ a1 ≤ 3) → vp_in (a0 * 4 + a1) 40)) (hK : K (strC m a0 a1) m) : Evi G (d + 1) mX2_strokeOf [.ref (ga G 2), .int a0, .int a1] m K := by
  refine vX2_strokeOf G d a0 a1 m K (eX2_hasWord G d _ m _ ⟨fun h => ⟨fun e => absurd e (by decide), fun _ => eX11_within G d _ _ _ m _ ⟨fun h2 => ⟨fun e => absurd e (by decide), fun _ => ⟨ho ⟨h, h2⟩, ?_⟩⟩, fun h2 => ⟨fun _ => ?_, fun e => absurd rfl e⟩⟩⟩, fun h => ⟨fun _ => ?_, fun e => absurd rfl e⟩⟩)
  · unfold strC at hK
    rw [if_pos ⟨h, h2⟩] at hK
    exact hK
  · unfold strC at hK
    rw [if_neg (fun q => h2 q.2)] at hK
    exact hK
  · unfold strC at hK
    rw [if_neg (fun q => h q.1)] at hK
    exact hK
theorem eX12_w3 (G : GP) (d : Nat) (a0 : Int32) (a1 : Int32) (a2 : Int32) (m : Mem) (K : Int64 → Mem → Prop) (hK : K (w3V a0 a1 a2) m) : Evl G (d + 1) mX12_w3 [.int a0, .int a1, .int a2] m K := by
  exact vX12_w3 G d a0 a1 a2 m K (eX12_w2 G d _ _ m _ hK)
theorem eX11_lowestOf (G : GP) (d : Nat) (a0 : Int32) (m : Mem) (K : Int32 → Mem → Prop) (hK : K (bitC ((a0 &&& (-a0)) - 1)) m) : Evi G (d + 1) mX11_lowestOf [.int a0] m K := by
  exact vX11_lowestOf G d a0 m K (eJ6_bitCount_0f7a4 G d _ m _ hK)
theorem eX12_w4 (G : GP) (d : Nat) (a0 : Int32) (a1 : Int32) (a2 : Int32) (a3 : Int32) (m : Mem) (K : Int64 → Mem → Prop) (hK : K (w4V a0 a1 a2 a3) m) : Evl G (d + 2) mX12_w4 [.int a0, .int a1, .int a2, .int a3] m K := by
  exact vX12_w4 G d a0 a1 a2 a3 m K (eX12_w3 G d _ _ _ m _ hK)
theorem eX12_w5 (G : GP) (d : Nat) (a0 : Int32) (a1 : Int32) (a2 : Int32) (a3 : Int32) (a4 : Int32) (m : Mem) (K : Int64 → Mem → Prop) (hK : K (w5V a0 a1 a2 a3 a4) m) : Evl G (d + 3) mX12_w5 [.int a0, .int a1, .int a2, .int a3, .int a4] m K := by
  exact vX12_w5 G d a0 a1 a2 a3 a4 m K (eX12_w4 G d _ _ _ _ m _ hK)
theorem eX12_w6 (G : GP) (d : Nat) (a0 : Int32) (a1 : Int32) (a2 : Int32) (a3 : Int32) (a4 : Int32) (a5 : Int32) (m : Mem) (K : Int64 → Mem → Prop) (hK : K (w6V a0 a1 a2 a3 a4 a5) m) : Evl G (d + 4) mX12_w6 [.int a0, .int a1, .int a2, .int a3, .int a4, .int a5] m K := by
  exact vX12_w6 G d a0 a1 a2 a3 a4 a5 m K (eX12_w5 G d _ _ _ _ _ m _ hK)
