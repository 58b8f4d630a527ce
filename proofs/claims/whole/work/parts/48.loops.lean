-- ===== TAKES =====
theorem bit1 (x : Int32) : (x &&& 1 = 1) ↔ ¬ (x &&& 1 = 0) := by
  obtain ⟨j, hj, e⟩ := pk_andE x (m := 1) 1 (by decide)
  rw [e]
  have h1 : nI j = 1 ↔ j = 1 := eq_nI (a := j) (b := 1) (by omega) (by omega)
  have h0 : nI j = 0 ↔ j = 0 := eq_nI (a := j) (b := 0) (by omega) (by omega)
  rw [h1, h0]
  omega
def takesV (x : Int32) (len : Nat → Int32) (N : Nat) : Int32 := fold (fun b s => if (x >>> (nI b &&& 31)) &&& 1 = 0 then s else s + len b) 0 N 0
theorem qX11_takes (G : GP) (d : Nat) (a0 : Int32) (m : Mem) (K : Int32 → Mem → Prop) (N : Nat) (hN : m.1 2 4 = nI N) (h10 : N ≤ 10) (hK : ((0 ≤ a0 ∧ a0 ≤ (((1 : Int32) <<< (nI N &&& 31)) - 1)) → K (takesV a0 (m.1 7) N) m) ∧ (¬ (0 ≤ a0 ∧ a0 ≤ (((1 : Int32) <<< (nI N &&& 31)) - 1)) → K (-1) m)) : Evi G (d + 1) mX11_takes [.ref (ga G 0), .int a0] m K := by
  refine vX11_takes G d a0 m K ?_
  rw [hN]
  refine ⟨fun q => ?_, hK.2⟩
  have hK := hK.1 q
  have key : ∀ u0 : Value, Gw G (d + 1) mX11_takes 31 [u0, .int a0, .ref (ga G 2), .int 0, .int (nI 0)] [] m (Qi K) := by
    refine loopF (P := fun i s => ∀ u0 : Value, Gw G (d + 1) mX11_takes 31 [u0, .int a0, .ref (ga G 2), .int s, .int (nI i)] [] m (Qi K)) (fun b s => if (a0 >>> (nI b &&& 31)) &&& 1 = 0 then s else s + m.1 7 b) N ?_ N 0 0 (by omega) ?_
    · intro i s hi h u0
      refine vX11_takes_31 G d u0 a0 s (nI i) m K ⟨fun hc => ?_, fun _ => ⟨fun h2 => ?_, fun h2 => ⟨in_nI (by omega) (by omega), ?_⟩⟩⟩
      · rw [hN, le_nI (by omega) (by omega)] at hc
        omega
      · rintro _ rfl
        rw [if_pos h2] at h
        rw [nI_1]
        exact h uu
      · rintro _ rfl _ rfl
        rw [if_neg h2] at h
        rw [nI_1, tn_nI (by omega)]
        exact h uu
    · intro u0
      refine vX11_takes_31 G d u0 a0 _ (nI N) m K ⟨fun _ => hK, fun hc => absurd ?_ hc⟩
      rw [hN]
      exact (le_nI (by omega) (by omega)).mpr (Nat.le_refl _)
  exact key _
theorem qX12_takes (G : GP) (d : Nat) (a0 : Int32) (m : Mem) (K : Int32 → Mem → Prop) (N : Nat) (hN : m.1 274 1 = nI N) (h10 : N ≤ 10) (hK : ((0 ≤ a0 ∧ a0 ≤ (((1 : Int32) <<< (nI N &&& 31)) - 1)) → K (takesV a0 (fun b => m.1 274 (36 + 9 * b)) N) m) ∧ (¬ (0 ≤ a0 ∧ a0 ≤ (((1 : Int32) <<< (nI N &&& 31)) - 1)) → K (-1) m)) : Evi G (d + 1) mX12_takes [.ref (ga G 273), .int a0] m K := by
  refine vX12_takes G d a0 m K ?_
  rw [hN]
  refine ⟨fun q => ?_, hK.2⟩
  have hK := hK.1 q
  refine loopF (P := fun i s => Gw G (d + 1) mX12_takes 24 [.ref (ga G 273), .int a0, .int s, .int (nI i)] [] m (Qi K)) (fun b s => if (a0 >>> (nI b &&& 31)) &&& 1 = 0 then s else s + m.1 274 (36 + 9 * b)) N ?_ N 0 0 (by omega) ?_
  · intro i s hi h
    have e : ((34 : Int32) + (9 : Int32) * nI i) + 2 = nI (36 + 9 * i) := by
      simp only [lit, pk_mul, nI_add]
      exact congrArg nI (by omega)
    refine vX12_takes_24 G d a0 s (nI i) m K ⟨fun hc => ?_, fun _ => ⟨fun h2 => ⟨by rw [e]; exact in_nI (by omega) (by omega), ?_⟩, fun h2 => ?_⟩⟩
    · rw [hN, le_nI (by omega) (by omega)] at hc
      omega
    · rintro _ rfl _ rfl
      rw [if_neg ((bit1 _).mp h2)] at h
      rw [nI_1, e, tn_nI (by omega)]
      exact h
    · rintro _ rfl _ rfl
      rw [if_pos (Classical.not_not.mp (fun q => h2 ((bit1 _).mpr q)))] at h
      rw [nI_1, show s + 0 = s by simp]
      exact h
  · refine vX12_takes_24 G d a0 _ (nI N) m K ⟨fun _ => hK, fun hc => absurd ?_ hc⟩
    rw [hN]
    exact (le_nI (by omega) (by omega)).mpr (Nat.le_refl _)
theorem case_takes (G : GP) (d : Nat) {TX : (Nat → Nat → Int32) → Prop} {n : Nat} (a0 : Int32) (m : Mem) (h : Inv TX n m.1) : Evi G (d + 1) mX11_takes [.ref (ga G 0), .int a0] m (Same G TX n (d + 1) mX12_takes [.int a0]) := by
  have hR := h.2.2.1
  obtain ⟨e1, -, e3⟩ := h.1.nw.is (by omega)
  refine qX11_takes G d a0 m _ _ (hR.nw.trans e1) e3 ⟨fun q => ?_, fun q => ?_⟩
  · refine qX12_takes G d a0 m _ _ e1 e3 ⟨fun _ => ⟨?_, h.idle⟩, fun q2 => absurd q q2⟩
    unfold takesV
    refine fold_congr _ _ _ (fun j s h1 h2 => ?_)
    have e4 : m.1 7 j = m.1 274 (36 + 9 * j) := hR.len j (by omega)
    simp only [e4]
  · exact qX12_takes G d a0 m _ _ e1 e3 ⟨fun q2 => absurd q2 q, fun _ => ⟨rfl, h.idle⟩⟩
-- ===== PAIRS =====
def pairsV (k1 k2 : Nat → Int32) (N : Nat) : Int32 := fold (fun b s => s ||| ((1 : Int32) <<< ((((4 : Int32) * k1 b) + k2 b) &&& 31))) 0 N 0
theorem qX11_pairs (G : GP) (d : Nat) (m : Mem) (K : Int32 → Mem → Prop) (N : Nat) (v u : Nat → Nat) (hN : m.1 107 2 = nI N) (h8 : N ≤ 8) (hv : ∀ k, k < N → v k < 10 ∧ m.1 110 k = nI (v k)) (hu : ∀ k, k < N → u k < 10 ∧ m.1 111 k = nI (u k)) (hK : K (pairsV (fun b => m.1 8 (v b)) (fun b => m.1 8 (u b)) N) m) : Evi G d mX11_pairs [.ref (ga G 0)] m K := by
  refine vX11_pairs G d m K ?_
  have key : ∀ u4 u5 : Value, Gw G d mX11_pairs 12 [.ref (ga G 0), .ref (ga G 107), .int 0, .int (nI 0), u4, u5] [] m (Qi K) := by
    refine loopF (P := fun i s => ∀ u4 u5 : Value, Gw G d mX11_pairs 12 [.ref (ga G 0), .ref (ga G 107), .int s, .int (nI i), u4, u5] [] m (Qi K)) (fun b s => s ||| ((1 : Int32) <<< ((((4 : Int32) * m.1 8 (v b)) + m.1 8 (u b)) &&& 31))) N ?_ N 0 0 (by omega) ?_
    · intro i s hi h u4 u5
      refine vX11_pairs_12 G d s (nI i) u4 u5 m K ⟨fun hc => ?_, fun _ => ?_⟩
      · rw [hN, le_nI (by omega) (by omega)] at hc
        omega
      · have hv1 := hv i hi
        have hu1 := hu i hi
        rw [tn_nI (by omega), hv1.2, hu1.2, tn_nI (by omega), tn_nI (by omega)]
        refine ⟨in_nI (by omega) (by omega), in_nI (by omega) (by omega), ?_⟩
        rintro _ rfl
        refine ⟨in_nI (by omega) (by omega), in_nI (by omega) (by omega), ?_⟩
        rintro _ rfl _ rfl _ rfl
        rw [nI_1]
        exact h _ _
    · intro u4 u5
      refine vX11_pairs_12 G d _ (nI N) u4 u5 m K ⟨fun _ => hK, fun hc => absurd ?_ hc⟩
      rw [hN]
      exact (le_nI (by omega) (by omega)).mpr (Nat.le_refl _)
  exact key _ _
theorem qX12_pairs (G : GP) (d : Nat) (m : Mem) (K : Int32 → Mem → Prop) (N : Nat) (v u : Nat → Nat) (hN : m.1 274 5 = nI N) (h8 : N ≤ 8) (hv : ∀ k, k < N → v k < 10 ∧ m.1 274 (124 + 2 * k) = nI (v k)) (hu : ∀ k, k < N → u k < 10 ∧ m.1 274 (125 + 2 * k) = nI (u k)) (hK : K (pairsV (fun b => m.1 274 (34 + 9 * v b)) (fun b => m.1 274 (34 + 9 * u b)) N) m) : Evi G (d + 1) mX12_pairs [.ref (ga G 273)] m K := by
  refine vX12_pairs G d m K ?_
  refine loopF (P := fun i s => Gw G (d + 1) mX12_pairs 4 [.ref (ga G 273), .int s, .int (nI i)] [] m (Qi K)) (fun b s => s ||| ((1 : Int32) <<< ((((4 : Int32) * m.1 274 (34 + 9 * v b)) + m.1 274 (34 + 9 * u b)) &&& 31))) N ?_ N 0 0 (by omega) ?_
  · intro i s hi h
    have hv1 := hv i hi
    have hu1 := hu i hi
    have e0 : (124 : Int32) + ((2 : Int32) * nI i) = nI (124 + 2 * i) := by simp only [lit, pk_mul, nI_add]
    have e1 : nI (124 + 2 * i) + 1 = nI (125 + 2 * i) := (nI_1 _).trans (congrArg nI (by omega))
    have e2 : ∀ j : Nat, ((34 : Int32) + (9 : Int32) * nI j) + 0 = nI (34 + 9 * j) := fun j => by simp only [lit, pk_mul, nI_add, Nat.add_zero]
    refine vX12_pairs_4 G d s (nI i) m K ⟨fun hc => ?_, fun _ => ?_⟩
    · rw [hN, le_nI (by omega) (by omega)] at hc
      omega
    · rw [e0, e1, tn_nI (by omega), tn_nI (by omega), hv1.2, hu1.2, e2, e2, tn_nI (by omega), tn_nI (by omega)]
      refine ⟨in_nI (by omega) (by omega), in_nI (by omega) (by omega), in_nI (by omega) (by omega), in_nI (by omega) (by omega), ?_⟩
      rintro _ rfl _ rfl
      rw [nI_1]
      exact h
  · refine vX12_pairs_4 G d _ (nI N) m K ⟨fun _ => hK, fun hc => absurd ?_ hc⟩
    rw [hN]
    exact (le_nI (by omega) (by omega)).mpr (Nat.le_refl _)
theorem case_pairs (G : GP) (d : Nat) {TX : (Nat → Nat → Int32) → Prop} {n : Nat} (m : Mem) (h : Inv TX n m.1) : Evi G (d + 1) mX11_pairs [.ref (ga G 0)] m (Same G TX n (d + 1) mX12_pairs []) := by
  have hR := h.2.2.1
  obtain ⟨e1, -, e3⟩ := h.1.nl.is (by omega)
  obtain ⟨w1, -, w3⟩ := h.1.nw.is (by omega)
  have hv : ∀ k, k < tn (m.1 274 5) → tn (m.1 274 (124 + 2 * k)) < tn (m.1 274 1) ∧ m.1 274 (124 + 2 * k) = nI (tn (m.1 274 (124 + 2 * k))) := fun k hk => by
    obtain ⟨v, hv, e⟩ := h.1.li0 k hk
    rw [e, show tn (nI v) = v from tn_nI (by omega)]
    exact ⟨hv, rfl⟩
  have hu : ∀ k, k < tn (m.1 274 5) → tn (m.1 274 (125 + 2 * k)) < tn (m.1 274 1) ∧ m.1 274 (125 + 2 * k) = nI (tn (m.1 274 (125 + 2 * k))) := fun k hk => by
    obtain ⟨v, hv, e⟩ := h.1.li1 k hk
    rw [e, show tn (nI v) = v from tn_nI (by omega)]
    exact ⟨hv, rfl⟩
  refine qX11_pairs G (d + 1) m _ _ (fun k => tn (m.1 274 (124 + 2 * k))) (fun k => tn (m.1 274 (125 + 2 * k))) (hR.nl.trans e1) e3 (fun k hk => ⟨by have := (hv k hk).1; omega, (hR.li0 k hk).trans (hv k hk).2⟩) (fun k hk => ⟨by have := (hu k hk).1; omega, (hR.li1 k hk).trans (hu k hk).2⟩) ?_
  refine qX12_pairs G d m _ _ (fun k => tn (m.1 274 (124 + 2 * k))) (fun k => tn (m.1 274 (125 + 2 * k))) e1 e3 (fun k hk => ⟨by have := (hv k hk).1; omega, (hv k hk).2⟩) (fun k hk => ⟨by have := (hu k hk).1; omega, (hu k hk).2⟩) ⟨?_, h.idle⟩
  unfold pairsV
  refine fold_congr _ _ _ (fun j s h1 h2 => ?_)
  have a1 : m.1 8 (tn (m.1 274 (124 + 2 * j))) = m.1 274 (34 + 9 * tn (m.1 274 (124 + 2 * j))) := hR.kind _ (hv j (by omega)).1
  have a2 : m.1 8 (tn (m.1 274 (125 + 2 * j))) = m.1 274 (34 + 9 * tn (m.1 274 (125 + 2 * j))) := hR.kind _ (hu j (by omega)).1
  simp only [a1, a2]
