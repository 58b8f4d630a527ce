/-! numbers, folds, loops -/
abbrev tn (x : Int32) : Nat := x.toNatClampNeg
def bd (x : Int32) (lo hi : Nat) : Prop := ∃ n : Nat, lo ≤ n ∧ n ≤ hi ∧ x = nI n
theorem tn_nI {n : Nat} (h : n < 2147483648) : (nI n).toNatClampNeg = n := nI_clamp (by omega)
theorem bd.is {x : Int32} {lo hi : Nat} (h : bd x lo hi) (hh : hi < 2147483648) : x = nI (tn x) ∧ lo ≤ tn x ∧ tn x ≤ hi := by
  obtain ⟨n, h1, h2, rfl⟩ := h
  have e : tn (nI n) = n := tn_nI (by omega)
  rw [e]
  exact ⟨rfl, h1, h2⟩
theorem lit (n : Nat) : (OfNat.ofNat n : Int32) = nI n := rfl
theorem le_nI {a b : Nat} (ha : a < 2147483648) (hb : b < 2147483648) : nI a ≤ nI b ↔ a ≤ b := nI_leI (by omega) (by omega)
theorem lt_nI {a b : Nat} (ha : a < 2147483648) (hb : b < 2147483648) : nI a < nI b ↔ a < b := nI_ltI (by omega) (by omega)
theorem eq_nI {a b : Nat} (ha : a < 2147483648) (hb : b < 2147483648) : nI a = nI b ↔ a = b := nI_eq (by omega) (by omega)
theorem in_nI {a n : Nat} (h : a < n) (hn : n < 2147483648) : vp_in (nI a) n := vp_in_nI h (by omega)
theorem sub_nI {a b : Nat} (h : b ≤ a) : nI a - nI b = nI (a - b) := pk_sub h
/-- an int between 0 and a bound is a number -/
theorem of_range {x : Int32} {n : Nat} (hn : n < 2147483648) (h0 : 0 ≤ x) (h1 : x ≤ nI n) : ∃ k : Nat, k ≤ n ∧ x = nI k := nI_of2 (nI_toInt (by omega)) (zl.mpr h0) h1
def fold {σ : Type} (f : Nat → σ → σ) : Nat → Nat → σ → σ
  | _, 0, s => s
  | i, k + 1, s => fold f (i + 1) k (f i s)
theorem fold_congr {σ : Type} {f g : Nat → σ → σ} : ∀ (k i : Nat) (s : σ), (∀ j s, i ≤ j → j < i + k → f j s = g j s) → fold f i k s = fold g i k s
  | 0, _, _, _ => rfl
  | k + 1, i, s, h => by
    show fold f (i + 1) k (f i s) = fold g (i + 1) k (g i s)
    rw [h i s (Nat.le_refl i) (by omega)]
    exact fold_congr k (i + 1) _ (fun j s h1 h2 => h j s (by omega) (by omega))
theorem loopF {σ : Type} {P : Nat → σ → Prop} (f : Nat → σ → σ) (N : Nat) (hs : ∀ i s, i < N → P (i + 1) (f i s) → P i s) : ∀ (k i : Nat) (s : σ), i + k = N → P N (fold f i k s) → P i s
  | 0, i, s, h, hP => by
    have : i = N := by omega
    subst this
    exact hP
  | k + 1, i, s, h, hP => hs i s (by omega) (loopF f N hs k (i + 1) (f i s) (by omega) hP)
theorem loopI {σ : Type} {P : Nat → σ → Prop} (I : Nat → σ → Prop) (f : Nat → σ → σ) (N : Nat) (hs : ∀ i s, i < N → I i s → I (i + 1) (f i s) ∧ (P (i + 1) (f i s) → P i s)) : ∀ (k i : Nat) (s : σ), i + k = N → I i s → (I N (fold f i k s) → P N (fold f i k s)) → P i s
  | 0, i, s, h, hI, hP => by
    have : i = N := by omega
    subst this
    exact hP hI
  | k + 1, i, s, h, hI, hP => (hs i s (by omega) hI).2 (loopI I f N hs k (i + 1) (f i s) (by omega) (hs i s (by omega) hI).1 hP)
theorem fold_inv {σ : Type} (I : Nat → σ → Prop) (f : Nat → σ → σ) (N : Nat) (hs : ∀ i s, i < N → I i s → I (i + 1) (f i s)) : ∀ (k i : Nat) (s : σ), i + k = N → I i s → I N (fold f i k s)
  | 0, i, s, h, hI => by
    have : i = N := by omega
    subst this
    exact hI
  | k + 1, i, s, h, hI => fold_inv I f N hs k (i + 1) (f i s) (by omega) (hs i s (by omega) hI)
/-- memory: reading behind a write -/
theorem wI_s (m : Mem) (c k : Nat) (v : Int32) : (wI m c k v).1 c = upd (m.1 c) k v := wA_s m c _
theorem wI_n (m : Mem) {c q : Nat} (k : Nat) (v : Int32) (h : q ≠ c) : (wI m c k v).1 q = m.1 q := wA_n m _ h
theorem upd_s (f : Nat → Int32) (k : Nat) (v : Int32) : upd f k v k = v := if_pos rfl
theorem upd_n (f : Nat → Int32) {k j : Nat} (v : Int32) (h : j ≠ k) : upd f k v j = f j := if_neg h
-- ===== a pilot: ROPES =====
def ropesV (hands : Int32) (men : Nat → Int32) (N : Nat) : Int32 := fold (fun b s => if hands < men b then s else s ||| ((1 : Int32) <<< (nI b &&& 31))) 0 N 0
theorem cX11_ropes' (G : GP) (d : Nat) (m : Mem) (K : Int32 → Mem → Prop) (N : Nat) (hN : m.1 2 0 = nI N) (h6 : N ≤ 6) (hK : K (ropesV (m.1 1 4) (m.1 5) N) m) : Evi G d mX11_ropes [.ref (ga G 0)] m K := by
  refine vX11_ropes G d m K ?_
  refine loopF (P := fun i s => Gw G d mX11_ropes 12 [.ref (ga G 0), .ref (ga G 2), .int s, .int (nI i)] [] m (Qi K)) (fun b s => if m.1 1 4 < m.1 5 b then s else s ||| ((1 : Int32) <<< (nI b &&& 31))) N ?_ N 0 0 (by omega) ?_
  · intro i s hi h
    refine vX11_ropes_12 G d s (nI i) m K ⟨fun hc => ?_, fun _ => ⟨in_nI (by omega) (by omega), fun h2 => ?_, fun h2 => ?_⟩⟩
    · rw [hN, le_nI (by omega) (by omega)] at hc
      omega
    · rintro _ rfl
      rw [tn_nI (by omega)] at h2
      rw [if_pos h2] at h
      rw [nI_1]
      exact h
    · rintro _ rfl _ rfl
      rw [tn_nI (by omega)] at h2
      rw [if_neg h2] at h
      rw [nI_1]
      exact h
  · refine vX11_ropes_12 G d _ (nI N) m K ⟨fun _ => hK, fun hc => absurd ?_ hc⟩
    rw [hN]
    exact (le_nI (by omega) (by omega)).mpr (Nat.le_refl _)
theorem cX12_ropes' (G : GP) (d : Nat) (m : Mem) (K : Int32 → Mem → Prop) (N : Nat) (hN : m.1 274 0 = nI N) (h6 : N ≤ 6) (hK : K (ropesV (m.1 274 11) (fun b => m.1 274 (18 + 3 * b)) N) m) : Evi G (d + 1) mX12_ropes [.ref (ga G 273)] m K := by
  refine vX12_ropes G d m K ?_
  refine loopF (P := fun i s => Gw G (d + 1) mX12_ropes 4 [.ref (ga G 273), .int s, .int (nI i)] [] m (Qi K)) (fun b s => if m.1 274 11 < m.1 274 (18 + 3 * b) then s else s ||| ((1 : Int32) <<< (nI b &&& 31))) N ?_ N 0 0 (by omega) ?_
  · intro i s hi h
    have e : ((16 : Int32) + (3 : Int32) * nI i) + 2 = nI (18 + 3 * i) := by
      simp only [lit, pk_mul, nI_add]
      exact congrArg nI (by omega)
    refine vX12_ropes_4 G d s (nI i) m K ⟨fun hc => ?_, fun _ => ⟨by rw [e]; exact in_nI (by omega) (by omega), fun h2 => ?_, fun h2 => ?_⟩⟩
    · rw [hN, le_nI (by omega) (by omega)] at hc
      omega
    · rintro _ rfl _ rfl
      rw [e, tn_nI (by omega)] at h2
      rw [if_pos h2] at h
      rw [nI_1, show s ||| 0 = s by simp]
      exact h
    · rintro _ rfl _ rfl
      rw [e, tn_nI (by omega)] at h2
      rw [if_neg h2] at h
      rw [nI_1]
      exact h
  · refine vX12_ropes_4 G d _ (nI N) m K ⟨fun _ => hK, fun hc => absurd ?_ hc⟩
    rw [hN]
    exact (le_nI (by omega) (by omega)).mpr (Nat.le_refl _)
