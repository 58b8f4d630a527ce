/-! CALLS THAT CHANGE NOTHING -/
theorem one_nI {x : Int32} {n : Nat} (hn : n < 2147483648) : (0 ≤ x ∧ x < nI n) ↔ ∃ k, k < n ∧ x = nI k := by
  constructor
  · rintro ⟨h1, h2⟩
    obtain ⟨k, hk, rfl⟩ := of_range (n := n) hn h1 (by rw [Int32.lt_iff_toInt_lt] at h2; rw [Int32.le_iff_toInt_le]; omega)
    exact ⟨k, (lt_nI (by omega) hn).mp h2, rfl⟩
  · rintro ⟨k, hk, rfl⟩
    exact ⟨nI_pos' (by omega), (lt_nI (by omega) hn).mpr hk⟩
theorem oneM_nI {x : Int32} {n : Nat} (hn : n < 2147483648) : (0 ≤ x ∧ x ≤ nI n - 1) ↔ ∃ k, k < n ∧ x = nI k := by
  rcases Nat.eq_zero_or_pos n with rfl | h
  · constructor
    · rintro ⟨h1, h2⟩
      exfalso
      rw [Int32.le_iff_toInt_le] at h1 h2
      have e : (nI 0 - 1 : Int32).toInt = -1 := by decide
      have e0 : (0 : Int32).toInt = 0 := by decide
      omega
    · rintro ⟨k, hk, _⟩
      omega
  · have e : nI n - 1 = nI (n - 1) := sub_nI (a := n) (b := 1) h
    rw [e]
    constructor
    · rintro ⟨h1, h2⟩
      obtain ⟨k, hk, rfl⟩ := of_range (n := n - 1) (by omega) h1 h2
      exact ⟨k, by omega, rfl⟩
    · rintro ⟨k, hk, rfl⟩
      exact ⟨nI_pos' (by omega), (le_nI (by omega) (by omega)).mpr (by omega)⟩
theorem oneC_nI {x : Int32} {n : Nat} (hn : n < 2147483648) : (0 ≤ x ∧ x ≤ nI n) ↔ ∃ k, k ≤ n ∧ x = nI k := by
  constructor
  · rintro ⟨h1, h2⟩
    exact of_range hn h1 h2
  · rintro ⟨k, hk, rfl⟩
    exact ⟨nI_pos' (by omega), (le_nI (by omega) hn).mpr hk⟩
abbrev Same (G : GP) (TX : (Nat → Nat → Int32) → Prop) (n D : Nat) (y : MD) (as : List Value) : Int32 → Mem → Prop := fun r m1 => Evi G D y (.ref (ga G 273) :: as) m1 (fun r' m2 => r = r' ∧ Inv TX (n + 1) m2.1)
theorem case_fault (G : GP) (d : Nat) {TX : (Nat → Nat → Int32) → Prop} {n : Nat} (a0 : Int32) (m : Mem) (h : Inv TX n m.1) : Evi G d mX11_fault [.ref (ga G 0), .int a0] m (Same G TX n d mX12_fault [.int a0]) := by
  have hf := h.2.2.2.2.2.1
  refine vX11_fault G d a0 m _ ⟨fun e => ?_, fun e => ?_, fun e => ?_⟩
  · exact vX12_fault G d a0 m _ ⟨fun q => absurd e q, fun _ => ⟨hf.fault, h.idle⟩⟩
  · exact vX12_fault G d a0 m _ ⟨fun q => ⟨fun q2 => absurd e q2, fun _ => ⟨hf.place, h.idle⟩⟩, fun q => absurd (e.symm.trans q) (by decide)⟩
  · exact vX12_fault G d a0 m _ ⟨fun q => ⟨fun q2 => ⟨rfl, h.idle⟩, fun q2 => absurd q2 e.2⟩, fun q => absurd q e.1⟩
theorem case_about (G : GP) (d : Nat) {TX : (Nat → Nat → Int32) → Prop} {n : Nat} (a0 : Int32) (m : Mem) (h : Inv TX n m.1) : Evi G (d + 1) mX11_about [.ref (ga G 0), .int a0] m (Same G TX n (d + 1) mX12_about [.int a0]) := by
  have hR := h.2.2.1
  have hT := h.2.2.2.2.1
  have hi : ∀ k, k ≤ 5 → vp_in (nI k) 5968 := fun k hk => in_nI (by omega) (by omega)
  have hk : ∀ (k : Nat) (r : Int32), k ≤ 5 → r = m.1 274 k → Same G TX n (d + 1) mX12_about [.int (nI k)] r m := fun k r hk hr =>
    vX12_about G d (nI k) m _ ⟨fun _ => ⟨hi k hk, by rw [tn_nI (by omega)]; exact ⟨hr, h.idle⟩⟩, fun q => absurd ((oneC_nI (n := 5) (by omega)).mpr ⟨k, hk, rfl⟩) q⟩
  refine vX11_about G (d + 1) a0 m _ ⟨fun e => ?_, fun e => ?_, fun e => ?_, fun e => ?_, fun e => ?_, fun e => ?_, fun e => ?_, fun e => ?_⟩
  · rw [e]; exact hk 0 _ (by omega) hR.nb
  · rw [e]; exact hk 1 _ (by omega) hR.nw
  · rw [e]; exact hk 2 _ (by omega) hR.nt
  · rw [e]; exact hk 3 _ (by omega) hR.ru
  · rw [e]; exact hk 4 _ (by omega) hR.ns
  · rw [e]; exact hk 5 _ (by omega) hR.nl
  · exact vX12_about G d a0 m _ ⟨fun q => absurd (e ▸ q) (by decide), fun q => ⟨fun q2 => absurd e q2, fun _ => ⟨hT.len, h.idle⟩⟩⟩
  · obtain ⟨e0, e1, e2, e3, e4, e5, e6⟩ := e
    refine vX12_about G d a0 m _ ⟨fun q => ?_, fun q => ⟨fun _ => ⟨rfl, h.idle⟩, fun q2 => absurd q2 e6⟩⟩
    obtain ⟨k, hk5, rfl⟩ := (oneC_nI (n := 5) (by omega)).mp q
    exfalso
    have : k = 0 ∨ k = 1 ∨ k = 2 ∨ k = 3 ∨ k = 4 ∨ k = 5 := by omega
    rcases this with rfl | rfl | rfl | rfl | rfl | rfl
    · exact e0 rfl
    · exact e1 rfl
    · exact e2 rfl
    · exact e3 rfl
    · exact e4 rfl
    · exact e5 rfl
theorem case_is (G : GP) (d : Nat) {TX : (Nat → Nat → Int32) → Prop} {n : Nat} (a0 : Int32) (m : Mem) (h : Inv TX n m.1) : Evi G (d + 1) mX11_is [.ref (ga G 0), .int a0] m (Same G TX n (d + 1) mX12_is [.int a0]) := by
  have hR := h.2.2.1
  have he : ∀ k, (8 : Int32) + nI k = nI (8 + k) := fun k => nI_add 8 k
  have hk : ∀ (k : Nat) (r : Int32), k ≤ 4 → r = m.1 274 (8 + k) → Same G TX n (d + 1) mX12_is [.int (nI k)] r m := fun k r hk hr =>
    vX12_is G d (nI k) m _ ⟨fun _ => ⟨by rw [he]; exact in_nI (by omega) (by omega), by rw [he, tn_nI (by omega)]; exact ⟨hr, h.idle⟩⟩, fun q => absurd ((oneC_nI (n := 4) (by omega)).mpr ⟨k, hk, rfl⟩) q⟩
  refine vX11_is G (d + 1) a0 m _ ⟨fun e => ?_, fun e => ?_, fun e => ?_, fun e => ?_, fun e => ?_, fun e => ?_⟩
  · rw [e]; exact hk 0 _ (by omega) hR.now.wind
  · rw [e]; exact hk 1 _ (by omega) hR.now.frost
  · rw [e]; exact hk 2 _ (by omega) hR.now.hour
  · rw [e]; exact hk 3 _ (by omega) hR.hd
  · rw [e]; exact hk 4 _ (by omega) hR.now.x
  · obtain ⟨e0, e1, e2, e3, e4⟩ := e
    refine vX12_is G d a0 m _ ⟨fun q => ?_, fun q => ⟨rfl, h.idle⟩⟩
    obtain ⟨k, hk5, rfl⟩ := (oneC_nI (n := 4) (by omega)).mp q
    exfalso
    have : k = 0 ∨ k = 1 ∨ k = 2 ∨ k = 3 ∨ k = 4 := by omega
    rcases this with rfl | rfl | rfl | rfl | rfl
    · exact e0 rfl
    · exact e1 rfl
    · exact e2 rfl
    · exact e3 rfl
    · exact e4 rfl
theorem case_rung (G : GP) (d : Nat) {TX : (Nat → Nat → Int32) → Prop} {n : Nat} (a0 : Int32) (m : Mem) (h : Inv TX n m.1) : Evi G (d + 1) mX11_rung [.ref (ga G 0), .int a0] m (Same G TX n (d + 1) mX12_rung [.int a0]) := by
  have hR := h.2.2.1
  obtain ⟨e1, -, e3⟩ := h.1.now.nr.is (by omega)
  have e2 : m.1 12 4 = m.1 274 14 := hR.now.nr
  refine vX11_rung G d a0 m _ ⟨fun q => ⟨fun q2 => ?_, fun q2 => ?_⟩, fun q => ?_⟩
  · rw [e2, e1, oneM_nI (by omega)] at q2
    obtain ⟨k, hk, rfl⟩ := q2
    refine ⟨in_nI (by omega) (by omega), vX12_rung G d (nI k) m _ ⟨fun _ => ⟨fun _ => ?_, fun q3 => absurd ?_ q3⟩, fun q3 => absurd q3 q⟩⟩
    · have he : (164 : Int32) + nI k = nI (164 + k) := nI_add 164 k
      rw [he, tn_nI (by omega), tn_nI (by omega)]
      exact ⟨in_nI (by omega) (by omega), hR.now.row k hk, h.idle⟩
    · rw [e1, oneM_nI (by omega)]
      exact ⟨k, hk, rfl⟩
  · refine vX12_rung G d a0 m _ ⟨fun _ => ⟨fun q3 => absurd ?_ q2, fun _ => ⟨rfl, h.idle⟩⟩, fun q3 => absurd q3 q⟩
    rw [e2]
    exact q3
  · exact vX12_rung G d a0 m _ ⟨fun q3 => absurd q q3, fun _ => ⟨e2, h.idle⟩⟩
theorem case_ropes (G : GP) (d : Nat) {TX : (Nat → Nat → Int32) → Prop} {n : Nat} (m : Mem) (h : Inv TX n m.1) : Evi G (d + 1) mX11_ropes [.ref (ga G 0)] m (Same G TX n (d + 1) mX12_ropes []) := by
  have hR := h.2.2.1
  obtain ⟨e1, -, e3⟩ := h.1.nb.is (by omega)
  refine cX11_ropes' G (d + 1) m _ _ (hR.nb.trans e1) e3 (cX12_ropes' G d m _ _ e1 e3 ⟨?_, h.idle⟩)
  unfold ropesV
  refine fold_congr _ _ _ (fun j s h1 h2 => ?_)
  have e4 : m.1 5 j = m.1 274 (18 + 3 * j) := hR.men j (by omega)
  have e5 : m.1 1 4 = m.1 274 11 := hR.hd
  simp only [e4, e5]
