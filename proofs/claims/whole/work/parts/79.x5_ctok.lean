/-! THE CLASS'S TOKENS -/
def CB (b : Nat → Nat) (n : Nat) (f : Nat → Nat → Int32) : Prop := f 228 0 = nI n ∧ ∀ k, k < n → f 229 k = (nI (b k)).toInt8.toInt32
theorem sB_lo : ∀ v, v < 128 → (nI v).toInt8.toInt32 = nI v := by decide +kernel
theorem sB_cmp : ∀ v, v < 256 → (((nI v).toInt8.toInt32 = 32 ↔ v = 32) ∧ ((nI v).toInt8.toInt32 = 10 ↔ v = 10) ∧ ((nI v).toInt8.toInt32 < 48 ↔ (v < 48 ∨ 128 ≤ v)) ∧ (57 < (nI v).toInt8.toInt32 ↔ (57 < v ∧ v < 128)) ∧ ((nI v).toInt8.toInt32 < 97 ↔ (v < 97 ∨ 128 ≤ v)) ∧ ((nI v).toInt8.toInt32 < 65 ↔ (v < 65 ∨ 128 ≤ v)) ∧ (90 < (nI v).toInt8.toInt32 ↔ (90 < v ∧ v < 128)) ∧ ((nI v).toInt8.toInt32 ≤ 122 ↔ (v ≤ 122 ∨ 128 ≤ v))) := by decide +kernel
theorem srt3 {c : Nat} : srt c = 3 ↔ ¬ (c = 32 ∨ c = 10) ∧ ¬ (48 ≤ c ∧ c ≤ 57) ∧ ¬ ((97 ≤ c ∧ c ≤ 122) ∨ (65 ≤ c ∧ c ≤ 90)) := by
  unfold srt
  constructor
  · intro h; revert h; repeat (first | omega | split)
  · intro h; repeat (first | omega | split)
theorem kX7_sortOf (G : GP) (d : Nat) (v : Nat) (hv : v < 256) (m : Mem) (K : Int32 → Mem → Prop) (hK : K (nI (srt v)) m) : Evi G d mX7_sortOf [.int (nI v).toInt8.toInt32] m K := by
  obtain ⟨c1, c2, c3, c4, c5, c6, c7, c8⟩ := sB_cmp v hv
  have kk : ∀ s, srt v = s → K (nI s) m := fun s e => e ▸ hK
  refine vX7_sortOf G d _ m K ?_
  rw [c1, c2, c3, c4, c5, c6, c7, c8]
  refine ⟨fun _ => kk 0 (srt0.mpr (by omega)), fun _ => ⟨fun _ => ⟨fun _ => ⟨fun _ => ⟨fun _ => kk 3 (srt3.mpr (by omega)), fun _ => ⟨fun _ => kk 3 (srt3.mpr (by omega)), fun _ => kk 2 (srt2.mpr (by omega))⟩⟩, fun _ => ⟨fun _ => kk 2 (srt2.mpr (by omega)), fun _ => ⟨fun _ => kk 3 (srt3.mpr (by omega)), fun _ => ⟨fun _ => kk 3 (srt3.mpr (by omega)), fun _ => kk 2 (srt2.mpr (by omega))⟩⟩⟩⟩, fun _ => ⟨fun _ => ⟨fun _ => ⟨fun _ => kk 3 (srt3.mpr (by omega)), fun _ => ⟨fun _ => kk 3 (srt3.mpr (by omega)), fun _ => kk 2 (srt2.mpr (by omega))⟩⟩, fun _ => ⟨fun _ => kk 2 (srt2.mpr (by omega)), fun _ => ⟨fun _ => kk 3 (srt3.mpr (by omega)), fun _ => ⟨fun _ => kk 3 (srt3.mpr (by omega)), fun _ => kk 2 (srt2.mpr (by omega))⟩⟩⟩⟩, fun _ => kk 1 (srt1.mpr (by omega))⟩⟩, fun _ => kk 0 (srt0.mpr (by omega))⟩⟩
theorem nuC_le (b : Nat → Nat) (p : Nat) : ∀ j, nuC b p j ≤ 10000
  | 0 => Nat.zero_le _
  | j + 1 => by
    have e2 : nuC b p (j + 1) = min 10000 (nuC b p j * 10 + (b (p + j) - 48)) := rfl
    rw [e2]; omega
theorem kX7_numberOf (G : GP) (d : Nat) {b : Nat → Nat} {n : Nat} (h : BT b n) (p L : Nat) (hL : p + L ≤ n) (hd : ∀ j, j < L → srt (b (p + j)) = 1) (m : Mem) (hB : CB b n m.1) (K : Int32 → Mem → Prop) (hK : K (nI (nuC b p L)) m) : Evi G (d + 1) mX7_numberOf [.ref (ga G 228), .int (nI p), .int (nI (p + L))] m K := by
  have hn := h.1
  refine vX7_numberOf G d _ _ m K ?_
  have lp : ∀ (f j : Nat) (u1 : Value), j + f = L → Gw G (d + 1) mX7_numberOf 5 [.ref (ga G 228), u1, .int (nI (p + L)), .int (nI (nuC b p j)), .int (nI (p + j))] [] m (Qi K) := by
    intro f
    induction f with
    | zero =>
      intro j u1 e
      have : j = L := by omega
      subst this
      exact vX7_numberOf_5 G d u1 _ _ _ m K ⟨fun _ => hK, fun z => absurd ((le_nI (by omega) (by omega)).mpr (Nat.le_refl _)) z⟩
    | succ f ih =>
      intro j u1 e
      have hle := nuC_le b p j
      have hc := srt1.mp (hd j (by omega))
      refine vX7_numberOf_5 G d u1 _ _ _ m K ⟨fun z => absurd ((le_nI (by omega) (by omega)).mp z) (by omega), fun _ => ⟨in_nI (by omega) (by omega), fun x1 e1 x2 e2 => ?_⟩⟩
      rw [show (nI (p + j)).toNatClampNeg = p + j from tn_nI (by omega), hB.2 (p + j) (by omega), sB_lo _ (by omega), show (10 : Int32) = nI 10 from rfl, pk_mul, nI_add, show (48 : Int32) = nI 48 from rfl, sub_nI (by omega), show (10000 : Int32) = nI 10000 from rfl, imin_nI (by omega) (by omega)] at e1
      have es : nuC b p (j + 1) = min 10000 (nuC b p j * 10 + (b (p + j) - 48)) := rfl
      rw [show min 10000 (nuC b p j * 10 + b (p + j) - 48) = nuC b p (j + 1) by rw [es]; omega] at e1
      rw [e1, e2, show nI (p + j) + 1 = nI (p + (j + 1)) from nI_add (p + j) 1]
      exact ih (j + 1) uu (by omega)
  exact lp L 0 _ (by omega)
/-- what a scan asks of the two methods that look into the constants -/
def ScS (G : GP) : Prop := ∀ (d : Nat) (b : Nat → Nat) (n : Nat), BT b n → (∀ (m : Mem) (K : Int32 → Mem → Prop) (p : Nat), p < n → srt (b p) = 3 → CB b n m.1 → K (nI (tkK b p)) m → Evi G (d + 6) mX7_symbolOf [.ref (ga G 228), .int (nI p)] m K) ∧ (∀ (m : Mem) (K : Int32 → Mem → Prop) (p L : Nat), p + L ≤ n → 0 < L → (∀ j, j < L → srt (b (p + j)) = 2) → CB b n m.1 → K (nI (kwL (ltr b p L))) m → Evi G (d + 6) mX7_keywordOf [.ref (ga G 228), .int (nI p), .int (nI L)] m K)
def enS (b : Nat → Nat) (p : Nat) : Nat := if srt (b p) = 3 then p + 1 else rnE b (srt (b p)) p
theorem kX7_tokenOf (G : GP) (d : Nat) (hG : ScS G) {b : Nat → Nat} {n : Nat} (h : BT b n) (p : Nat) (hp : p < n) (hz : ¬ srt (b p) = 0) (m : Mem) (hB : CB b n m.1) (K : Int32 → Mem → Prop) (hK : K (nI (tkK b p)) m) : Evi G (d + 7) mX7_tokenOf [.ref (ga G 228), .int (nI (srt (b p))), .int (nI p), .int (nI (enS b p))] m K := by
  have hn := h.1
  have h3 := srt_lt (b p)
  have h256 := h.2.2 p hp
  have e1 : nI (srt (b p)) = 1 ↔ srt (b p) = 1 := eq_nI (b := 1) (by omega) (by omega)
  have e2 : nI (srt (b p)) = 2 ↔ srt (b p) = 2 := eq_nI (b := 2) (by omega) (by omega)
  refine vX7_tokenOf G d _ _ _ m K ?_
  rw [e1, e2]
  refine ⟨fun n1 => ⟨fun n2 => (hG d b n h).1 m _ p hp (by omega) hB hK, fun z2 => ?_⟩, fun z1 => ?_⟩
  · have ee : enS b p = rnE b 2 p := by unfold enS; rw [if_neg (by omega), z2]
    obtain ⟨r1, r2, -, -⟩ := h.run (s := 2) (by omega) (show p ≤ n by omega)
    have r0 : p + 1 ≤ rnE b 2 p := by
      rw [rnE_s (by omega) z2]; exact (h.run (s := 2) (by omega) (show p + 1 ≤ n by omega)).1
    rw [ee, sub_nI r1]
    rw [tkK_w z2] at hK
    exact (hG d b n h).2 m _ p _ (by omega) (by omega) (h.let' (by omega)) hB hK
  · have e : tkK b p = 2 := by unfold tkK; rw [if_neg (by omega), if_pos z1]
    rw [e] at hK
    exact hK
def Tl (G : GP) (d : Nat) (l1 l2 l3 l4 : Int32) (m : Mem) (K : Mem → Prop) : Prop := ((l3 = 0) → Gw G (d + 8) mX7_scan 4 [.ref (ga G 228), .int l1, .int l4, .int l3, .int l4] [] m (Qv K)) ∧ ((¬ l3 = 0) → vp_in l1 301 ∧ ∀ m6 : Mem, m6 = wI m 231 l1.toNatClampNeg l2 → Evi G (d + 7) mX7_tokenOf [.ref (ga G 228), .int l3, .int l2, .int l4] m6 (fun r8 m7 => vp_in l1 301 ∧ ∀ m9 : Mem, m9 = wI m7 230 l1.toNatClampNeg r8 → ((¬ l3 = 1) → vp_in l1 301 ∧ ∀ m10 : Mem, m10 = wI m9 232 l1.toNatClampNeg 0 → vp_in l1 301 ∧ (((m10.1 230 l1.toNatClampNeg) = 3) → ∀ x11 : Int32, x11 = l4 + 1 → ∀ x12 : Int32, x12 = l1 + 1 → Gw G (d + 8) mX7_scan 4 [.ref (ga G 228), .int x12, .int x11, .int l3, .int x11] [] m10 (Qv K)) ∧ ((¬ (m10.1 230 l1.toNatClampNeg) = 3) → vp_in l1 301 ∧ ((¬ (m10.1 230 l1.toNatClampNeg) = 4) → ∀ x13 : Int32, x13 = l1 + 1 → Gw G (d + 8) mX7_scan 4 [.ref (ga G 228), .int x13, .int l4, .int l3, .int l4] [] m10 (Qv K)) ∧ (((m10.1 230 l1.toNatClampNeg) = 4) → ∀ x14 : Int32, x14 = l4 + 1 → ∀ x15 : Int32, x15 = l1 + 1 → Gw G (d + 8) mX7_scan 4 [.ref (ga G 228), .int x15, .int x14, .int l3, .int x14] [] m10 (Qv K)))) ∧ ((l3 = 1) → Evi G (d + 7) mX7_numberOf [.ref (ga G 228), .int l2, .int l4] m9 (fun r17 m16 => vp_in l1 301 ∧ ∀ m18 : Mem, m18 = wI m16 232 l1.toNatClampNeg r17 → vp_in l1 301 ∧ (((m18.1 230 l1.toNatClampNeg) = 3) → ∀ x19 : Int32, x19 = l4 + 1 → ∀ x20 : Int32, x20 = l1 + 1 → Gw G (d + 8) mX7_scan 4 [.ref (ga G 228), .int x20, .int x19, .int l3, .int x19] [] m18 (Qv K)) ∧ ((¬ (m18.1 230 l1.toNatClampNeg) = 3) → vp_in l1 301 ∧ ((¬ (m18.1 230 l1.toNatClampNeg) = 4) → ∀ x21 : Int32, x21 = l1 + 1 → Gw G (d + 8) mX7_scan 4 [.ref (ga G 228), .int x21, .int l4, .int l3, .int l4] [] m18 (Qv K)) ∧ (((m18.1 230 l1.toNatClampNeg) = 4) → ∀ x22 : Int32, x22 = l4 + 1 → ∀ x23 : Int32, x23 = l1 + 1 → Gw G (d + 8) mX7_scan 4 [.ref (ga G 228), .int x23, .int x22, .int l3, .int x22] [] m18 (Qv K)))))))
theorem sc27 (G : GP) (d : Nat) {b : Nat → Nat} {n : Nat} (h : BT b n) (l1 : Int32) (f : Nat) (hf : f < n) (m : Mem) (hB : CB b n m.1) (K : Mem → Prop) (hT : Tl G d l1 (nI f) (nI (srt (b f))) (nI (enS b f)) m K) : ∀ (w t : Nat), t + w = n → f < t → (srt (b f) = 3 → t = f + 1) → (srt (b f) ≠ 3 → rnE b (srt (b f)) f = rnE b (srt (b f)) t) → Gw G (d + 8) mX7_scan 27 [.ref (ga G 228), .int l1, .int (nI f), .int (nI (srt (b f))), .int (nI t)] [] m (Qv K) := by
  have hn := h.1
  have h3 := srt_lt (b f)
  have e3 : nI (srt (b f)) = 3 ↔ srt (b f) = 3 := eq_nI (b := 3) (by omega) (by omega)
  intro w
  induction w with
  | zero =>
    intro t e hft h1 h2
    have eE : enS b f = t := by
      unfold enS
      by_cases q : srt (b f) = 3
      · rw [if_pos q, h1 q]
      · rw [if_neg q, h2 q]
        exact rnE_n (fun z => by have := h.in' q z; omega)
    rw [eE] at hT
    exact vX7_scan_27 G d _ _ _ _ m K ⟨fun _ => hT, fun z => absurd (by rw [hB.1]; exact (le_nI (by omega) (by omega)).mpr (by omega)) z⟩
  | succ w ih =>
    intro t e hft h1 h2
    refine vX7_scan_27 G d _ _ _ _ m K ⟨fun z => absurd ((le_nI (a := n) (b := t) (by omega) (by omega)).mp (by rw [hB.1] at z; exact z)) (by omega), fun _ => ⟨fun z => ?_, fun z => ⟨in_nI (by omega) (by omega), ?_⟩⟩⟩
    · have q := e3.mp z
      have eE : enS b f = t := by unfold enS; rw [if_pos q, h1 q]
      rw [eE] at hT
      exact hT
    · have q : ¬ srt (b f) = 3 := fun y => z (e3.mpr y)
      rw [show (nI t).toNatClampNeg = t from tn_nI (by omega), hB.2 t (by omega)]
      have h3t := srt_lt (b t)
      have ee : nI (srt (b t)) = nI (srt (b f)) ↔ srt (b t) = srt (b f) := eq_nI (by omega) (by omega)
      refine kX7_sortOf G (d + 7) (b t) (h.2.2 t (by omega)) m _ ⟨fun y => ?_, fun y x ex => ?_⟩
      · have y2 : ¬ srt (b t) = srt (b f) := fun w => y (ee.mpr w)
        have eE : enS b f = t := by unfold enS; rw [if_neg q, h2 q]; exact rnE_n y2
        rw [eE] at hT
        exact hT
      · have y2 := ee.mp y
        rw [ex, ← nI_succ]
        exact ih (t + 1) (by omega) (by omega) (fun w => absurd w q) (fun _ => (h2 q).trans (rnE_s (by omega) y2))
