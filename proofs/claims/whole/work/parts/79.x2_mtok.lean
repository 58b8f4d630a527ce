/-! THE MODEL'S TOKENS -/
def MB (b : Nat → Nat) (n : Nat) (m : Mem) : Prop := m.1 273 5 = nI n ∧ ∀ k, k < n → m.1 278 k = nI (b k)
def byC (b : Nat → Nat) (k : Nat) : Int32 := if b k = 256 then -1 else nI (b k)
theorem w73 (m : Mem) (p : Nat) (v : Int32) : (wI m 273 p v).1 273 p = v := by rw [wI_s, upd_s]
theorem w73n (m : Mem) {p q : Nat} (v : Int32) (h : q ≠ p) : (wI m 273 p v).1 273 q = m.1 273 q := by rw [wI_s, upd_n _ _ h]
theorem lW73 (m : Mem) (v : Int64) : (wL m 273 12 v).2.1 273 12 = v := by rw [wL_s]; simp [vp_updL]
theorem MV.rf (m : Mem) : MV m m := ⟨fun _ _ => rfl, fun _ _ => rfl⟩
theorem MV.tr' {a b c : Mem} (h : MV a b) (k : MV b c) : MV a c := ⟨fun q hq => (k.1 q hq).trans (h.1 q hq), fun p hp => (k.2 p hp).trans (h.2 p hp)⟩
theorem MV.w {a b : Mem} (h : MV a b) {p : Nat} {v : Int32} (hp : 8 ≤ p ∧ p ≤ 11) : MV a (wI b 273 p v) := h.tr' ⟨fun c hc => wI_n b _ _ hc, fun q hq => w73n b v (by omega)⟩
theorem MV.wl {a b : Mem} (h : MV a b) {p : Nat} {v : Int64} : MV a (wL b 273 p v) := h.tr' ⟨fun _ _ => rfl, fun _ _ => rfl⟩
theorem BT.le {b : Nat → Nat} {n : Nat} (h : BT b n) (k : Nat) : b k ≤ 256 := by
  rcases Nat.lt_or_ge k n with q | q
  · have := h.2.2 k q; omega
  · rw [h.2.1 k q]; omega
theorem MB.at' {b : Nat → Nat} {n : Nat} {m : Mem} (hm : MB b n m) (h : BT b n) {k : Nat} (hk : k ≤ 302) : bytM m (nI k) = byC b k := by
  unfold bytM byC
  rw [hm.1]
  have e : nI n ≤ nI k ↔ n ≤ k := le_nI (by have := h.1; omega) (by omega)
  by_cases q : n ≤ k
  · rw [if_pos (e.mpr q), if_pos (h.2.1 k q)]
  · rw [if_neg (fun z => q (e.mp z)), if_neg (by have := h.2.2 k (by omega); omega), show (nI k).toNatClampNeg = k from tn_nI (by omega), hm.2 k (by omega)]
theorem MB.ok {b : Nat → Nat} {n : Nat} {m : Mem} (hm : MB b n m) (h : BT b n) {k : Nat} (hk : k ≤ 302) : ¬ m.1 273 5 ≤ nI k → vp_in (nI k) 300 := by
  rw [hm.1]
  intro z
  have e : nI n ≤ nI k ↔ n ≤ k := le_nI (by have := h.1; omega) (by omega)
  have : ¬ n ≤ k := fun y => z (e.mpr y)
  exact in_nI (by have := h.1; omega) (by omega)
theorem MB.fr {b : Nat → Nat} {n : Nat} {m m' : Mem} (hm : MB b n m) (h1 : m'.1 273 5 = m.1 273 5) (h2 : m'.1 278 = m.1 278) : MB b n m' := ⟨by rw [h1]; exact hm.1, by rw [h2]; exact hm.2⟩
theorem MB.mv {b : Nat → Nat} {n : Nat} {m m' : Mem} (h : MB b n m) (k : MV m m') : MB b n m' := h.fr (k.2 5 (by omega)) (k.1 278 (by omega))
theorem byC_eq {b : Nat → Nat} {k : Nat} {v : Nat} (hb : b k ≤ 256) (hv : v < 256) : byC b k = nI v ↔ b k = v := by
  unfold byC
  by_cases z : b k = 256
  · rw [if_pos z]
    constructor
    · intro e
      have e2 := congrArg Int32.toInt e
      rw [nI_toInt (by omega), show (-1 : Int32).toInt = -1 from rfl] at e2
      omega
    · intro e; omega
  · rw [if_neg z, eq_nI (by omega) (by omega)]
theorem byC_nn {b : Nat → Nat} {k : Nat} (hb : b k ≤ 256) : 0 ≤ byC b k ↔ b k ≠ 256 := by
  unfold byC
  by_cases z : b k = 256
  · rw [if_pos z]
    exact ⟨fun e => absurd e (by decide), fun e => absurd z e⟩
  · rw [if_neg z]
    exact ⟨fun _ => z, fun _ => (le_nI (a := 0) (by omega) (by omega)).mpr (Nat.zero_le _)⟩
theorem byC_rg {b : Nat → Nat} {k lo hi : Nat} (hb : b k ≤ 256) (hl : lo < 256) (hh : hi < 256) : (nI lo ≤ byC b k ∧ byC b k ≤ nI hi) ↔ (lo ≤ b k ∧ b k ≤ hi) := by
  unfold byC
  by_cases z : b k = 256
  · rw [if_pos z]
    constructor
    · rintro ⟨e, -⟩
      rw [Int32.le_iff_toInt_le, nI_toInt (by omega), show (-1 : Int32).toInt = -1 from rfl] at e
      omega
    · intro e; omega
  · rw [if_neg z, le_nI (by omega) (by omega), le_nI (by omega) (by omega)]
theorem byC_fig {b : Nat → Nat} {k : Nat} (hb : b k ≤ 256) : (48 ≤ byC b k ∧ byC b k ≤ 57) ↔ srt (b k) = 1 := by
  rw [srt1]; exact byC_rg (lo := 48) (hi := 57) hb (by omega) (by omega)
theorem byC_let {b : Nat → Nat} {k : Nat} (hb : b k ≤ 256) : ((97 ≤ byC b k ∧ byC b k ≤ 122) ∨ (65 ≤ byC b k ∧ byC b k ≤ 90)) ↔ srt (b k) = 2 := by
  rw [srt2]
  exact or_congr (byC_rg (lo := 97) (hi := 122) hb (by omega) (by omega)) (byC_rg (lo := 65) (hi := 90) hb (by omega) (by omega))
theorem nt85 (G : GP) (d : Nat) {b : Nat → Nat} {n : Nat} (h : BT b n) (p : Nat) : ∀ (f j : Nat) (u1 : Value) (m : Mem) (K : Mem → Prop), p + j + f = n → MB b n m → m.1 273 8 = nI (p + j) → m.1 273 11 = nI (nuM b p j) → nuM b p j < 1000000 → (∀ m', MV m m' → m'.1 273 8 = nI (rnE b 1 (p + j)) → m'.1 273 9 = m.1 273 9 → m'.1 273 10 = m.1 273 10 → m'.1 273 11 = nI (nuM b p (rnE b 1 (p + j) - p)) → K m') → Gw G (d + 1) mX12_nextToken 85 [.ref (ga G 273), u1] [] m (Qv K) := by
  intro f
  induction f with
  | zero =>
    intro j u1 m K e hB h8 h11 hlt hK
    have hz : ¬ srt (b (p + j)) = 1 := fun z => by have := h.in' (by omega) z; omega
    refine vX12_nextToken_85 G d u1 m K ?_
    rw [h8, hB.at' h (by have := h.1; omega), byC_fig (h.le _)]
    exact ⟨hB.ok h (by have := h.1; omega), fun z => absurd z hz, fun _ => hK m (MV.rf m) (by rw [rnE_n hz]; exact h8) rfl rfl (by rw [rnE_n hz, Nat.add_sub_cancel_left]; exact h11)⟩
  | succ f ih =>
    intro j u1 m K e hB h8 h11 hlt hK
    have hn := h.1
    have ok := hB.ok h (k := p + j) (by omega)
    refine vX12_nextToken_85 G d u1 m K ?_
    rw [h8, hB.at' h (by omega), byC_fig (h.le _), h11]
    by_cases hz : srt (b (p + j)) = 1
    · have hc := srt1.mp hz
      have e9 : nI (nuM b p j) ≤ 99999 ↔ nuM b p j ≤ 99999 := le_nI (b := 99999) (by omega) (by omega)
      have ec : byC b (p + j) = nI (b (p + j)) := if_neg (by omega)
      rw [e9, ec]
      have er := rnE_s (k := p + j) (by omega) hz
      have es : nuM b p (j + 1) = if 99999 < nuM b p j then nuM b p j else 10 * nuM b p j + (b (p + j) - 48) := rfl
      refine ⟨ok, fun _ => ⟨fun q => ⟨ok, fun m1 e1 m2 e2 => ?_⟩, fun q m1 e1 m2 e2 => ?_⟩, fun z => absurd hz z⟩
      · rw [if_neg (show ¬ 99999 < nuM b p j by omega)] at es
        have ev : (10 : Int32) * nI (nuM b p j) + nI (b (p + j)) - 48 = nI (nuM b p (j + 1)) := by
          rw [show (10 : Int32) = nI 10 from rfl, pk_mul, nI_add, show (48 : Int32) = nI 48 from rfl, sub_nI (by omega), es]
          congr 1; omega
        rw [ev] at e1
        have v1 : MV m m1 := by rw [e1]; exact (MV.rf m).w (by omega)
        have v2 : MV m m2 := by rw [e2]; exact v1.w (by omega)
        have n8 : m1.1 273 8 = nI (p + j) := by rw [e1, w73n _ _ (by omega), h8]
        refine ih (j + 1) uu m2 K (by omega) (hB.mv v2) (by rw [e2, w73, n8, ← Nat.add_assoc, nI_succ]) (by rw [e2, w73n _ _ (by omega), e1, w73]) (by omega) (fun m' k1 k2 k3 k4 k5 => hK m' (v2.tr' k1) (by rw [k2, er]; rfl) (by rw [k3, e2, w73n _ _ (by omega), e1, w73n _ _ (by omega)]) (by rw [k4, e2, w73n _ _ (by omega), e1, w73n _ _ (by omega)]) (by rw [k5, er]; rfl))
      · rw [if_pos (show 99999 < nuM b p j by omega)] at es
        rw [← es] at e1
        have v1 : MV m m1 := by rw [e1]; exact (MV.rf m).w (by omega)
        have v2 : MV m m2 := by rw [e2]; exact v1.w (by omega)
        have n8 : m1.1 273 8 = nI (p + j) := by rw [e1, w73n _ _ (by omega), h8]
        refine ih (j + 1) uu m2 K (by omega) (hB.mv v2) (by rw [e2, w73, n8, ← Nat.add_assoc, nI_succ]) (by rw [e2, w73n _ _ (by omega), e1, w73]) (by omega) (fun m' k1 k2 k3 k4 k5 => hK m' (v2.tr' k1) (by rw [k2, er]; rfl) (by rw [k3, e2, w73n _ _ (by omega), e1, w73n _ _ (by omega)]) (by rw [k4, e2, w73n _ _ (by omega), e1, w73n _ _ (by omega)]) (by rw [k5, er]; rfl))
    · exact ⟨ok, fun z => absurd z hz, fun _ => hK m (MV.rf m) (by rw [rnE_n hz]; exact h8) rfl rfl (by rw [rnE_n hz, Nat.add_sub_cancel_left]; exact h11)⟩
theorem nt168 (G : GP) (d : Nat) {b : Nat → Nat} {n : Nat} (h : BT b n) (p : Nat) : ∀ (f j : Nat) (u1 : Value) (m : Mem) (K : Mem → Prop), p + j + f = n → MB b n m → m.1 273 8 = nI (p + j) → (∀ i, i < j → srt (b (p + i)) = 2) → m.2.1 273 12 = Int64.ofNat (wv (ltr b p j)) → (∀ m', MV m m' → m'.1 273 8 = nI (rnE b 2 (p + j)) → m'.1 273 9 = m.1 273 9 → m'.1 273 10 = m.1 273 10 → m'.2.1 273 12 = Int64.ofNat (wv (ltr b p (rnE b 2 (p + j) - p))) → K m') → Gw G (d + 1) mX12_nextToken 168 [.ref (ga G 273), u1] [] m (Qv K) := by
  intro f
  induction f with
  | zero =>
    intro j u1 m K e hB h8 hj h12 hK
    have hz : ¬ srt (b (p + j)) = 2 := fun z => by have := h.in' (by omega) z; omega
    refine vX12_nextToken_168 G d u1 m K ?_
    rw [h8, hB.at' h (by have := h.1; omega), byC_let (h.le _)]
    exact ⟨hB.ok h (by have := h.1; omega), fun z => absurd z hz, fun _ => hK m (MV.rf m) (by rw [rnE_n hz]; exact h8) rfl rfl (by rw [rnE_n hz, Nat.add_sub_cancel_left]; exact h12)⟩
  | succ f ih =>
    intro j u1 m K e hB h8 hj h12 hK
    have hn := h.1
    have ok := hB.ok h (k := p + j) (by omega)
    refine vX12_nextToken_168 G d u1 m K ?_
    rw [h8, hB.at' h (by omega), byC_let (h.le _)]
    by_cases hz : srt (b (p + j)) = 2
    · have hc := srt2.mp hz
      have ec : byC b (p + j) = nI (b (p + j)) := if_neg (by omega)
      obtain ⟨w1, w2⟩ := wv_b (ltr_rng j hj)
      rw [ltr_len] at w2
      have e6 : lg_cmp (m.2.1 273 12 >>> ((48 : Int32).toInt64 &&& 63)) 0 = 0 ↔ j ≤ 6 := by
        rw [lc_0, h12, shr_z w1, show (0 : Int64) = Int64.ofNat 0 from rfl, lN_inj (by omega) (by omega), w2]
      rw [e6, ec]
      have er := rnE_s (k := p + j) (by omega) hz
      have es : ltr b p (j + 1) = ltr b p j ++ [b (p + j)] := rfl
      have hj' : ∀ i, i < j + 1 → srt (b (p + i)) = 2 := fun i hi => by
        by_cases q : i = j
        · rw [q]; exact hz
        · exact hj i (by omega)
      refine ⟨ok, fun _ => ⟨fun q => ⟨ok, fun m1 e1 m2 e2 => ?_⟩, fun q m1 e1 m2 e2 => ?_⟩, fun z => absurd hz z⟩
      · have hw : wv (ltr b p j) < 2 ^ 48 := by have := w2.mpr q; omega
        have ev : (m.2.1 273 12 <<< ((8 : Int32).toInt64 &&& 63)) ||| (nI (b (p + j))).toInt64 = Int64.ofNat (wv (ltr b p (j + 1))) := by
          rw [h12, es, wv_s _ (by rw [ltr_len]; exact q)]
          exact shl_or hw (by omega)
        rw [ev] at e1
        have v1 : MV m m1 := by rw [e1]; exact (MV.rf m).wl
        have v2 : MV m m2 := by rw [e2]; exact v1.w (by omega)
        have n1 : m1.1 = m.1 := by rw [e1]; rfl
        refine ih (j + 1) uu m2 K (by omega) (hB.mv v2) (by rw [e2, w73, n1, h8, ← Nat.add_assoc, nI_succ]) hj' (by rw [e2]; show m1.2.1 273 12 = _; rw [e1, lW73]) (fun m' k1 k2 k3 k4 k5 => hK m' (v2.tr' k1) (by rw [k2, er]; rfl) (by rw [k3, e2, w73n _ _ (by omega), n1]) (by rw [k4, e2, w73n _ _ (by omega), n1]) (by rw [k5, er]; rfl))
      · have ev : (1152921504606846976 : Int64) = Int64.ofNat (wv (ltr b p (j + 1))) := by
          rw [es, wv_l _ (by rw [ltr_len]; exact q)]; rfl
        rw [ev] at e1
        have v1 : MV m m1 := by rw [e1]; exact (MV.rf m).wl
        have v2 : MV m m2 := by rw [e2]; exact v1.w (by omega)
        have n1 : m1.1 = m.1 := by rw [e1]; rfl
        refine ih (j + 1) uu m2 K (by omega) (hB.mv v2) (by rw [e2, w73, n1, h8, ← Nat.add_assoc, nI_succ]) hj' (by rw [e2]; show m1.2.1 273 12 = _; rw [e1, lW73]) (fun m' k1 k2 k3 k4 k5 => hK m' (v2.tr' k1) (by rw [k2, er]; rfl) (by rw [k3, e2, w73n _ _ (by omega), n1]) (by rw [k4, e2, w73n _ _ (by omega), n1]) (by rw [k5, er]; rfl))
    · exact ⟨ok, fun z => absurd z hz, fun _ => hK m (MV.rf m) (by rw [rnE_n hz]; exact h8) rfl rfl (by rw [rnE_n hz, Nat.add_sub_cancel_left]; exact h12)⟩
