/-! sets of bits -/
theorem or_nI (a b : Nat) : nI a ||| nI b = nI (a ||| b) := by
  apply Int32.toBitVec_inj.mp
  exact (BitVec.ofNat_or).symm
theorem and_nI (a b : Nat) : nI a &&& nI b = nI (a &&& b) := by
  apply Int32.toBitVec_inj.mp
  exact (BitVec.ofNat_and).symm
theorem xor_nI (a b : Nat) : nI a ^^^ nI b = nI (a ^^^ b) := by
  apply Int32.toBitVec_inj.mp
  exact (BitVec.ofNat_xor).symm
theorem shl1_nI : ∀ v, v < 32 → (1 : Int32) <<< (nI v &&& 31) = nI (1 <<< v) := by decide +kernel
theorem shv_nI : ∀ v, v < 32 → ((nI v &&& 31).toBitVec.smod 32).toNat = v := by decide +kernel
theorem shr_nI {n v : Nat} (hn : n < 2147483648) (hv : v < 32) : nI n >>> (nI v &&& 31) = nI (n >>> v) := by
  rw [pk_shrN (by omega) _ v (shv_nI v hv), Nat.shiftRight_eq_div_pow]
theorem shl_nI {n v : Nat} (hv : v < 32) (h : n * 2 ^ v < 4294967296) : nI n <<< (nI v &&& 31) = nI (n <<< v) := by
  rw [pk_shlN _ v (shv_nI v hv) (by omega), Nat.shiftLeft_eq]
/-- the bit v of a set -/
theorem bit_nI {n v : Nat} (hn : n < 2147483648) (hv : v < 32) : (nI n >>> (nI v &&& 31)) &&& 1 = nI (if n.testBit v then 1 else 0) := by
  rw [shr_nI hn hv]
  rw [show (1 : Int32) = nI 1 from rfl, and_nI]
  congr 1
  rw [Nat.testBit, Nat.and_comm]
  have h2 : (1 &&& n >>> v) = (n >>> v) % 2 := by rw [Nat.and_comm]; exact Nat.and_one_is_mod _
  rw [h2]
  rcases Nat.mod_two_eq_zero_or_one (n >>> v) with e | e <;> simp [e]
theorem bit_1 {n v : Nat} (hn : n < 2147483648) (hv : v < 32) : (nI n >>> (nI v &&& 31)) &&& 1 = 1 ↔ n.testBit v = true := by
  rw [bit_nI hn hv]
  cases n.testBit v
  · simp; decide
  · simp; decide
theorem bit_0 {n v : Nat} (hn : n < 2147483648) (hv : v < 32) : (nI n >>> (nI v &&& 31)) &&& 1 = 0 ↔ n.testBit v = false := by
  rw [bit_nI hn hv]
  cases n.testBit v
  · simp; decide
  · simp; decide
def pop (s : Nat) : Nat := fold (fun k n => n + (s >>> k) % 2) 0 10 0
theorem bitC_pop : ∀ s, s < 1024 → bitC (nI s) = nI (pop s) := by decide +kernel
def low (s : Nat) : Nat := runV (fun k => !s.testBit k) 10 0
theorem bitC_low : ∀ s, s < 1024 → s ≠ 0 → bitC ((nI s &&& (-(nI s))) - 1) = nI (low s) := by decide +kernel
theorem pop_add : ∀ s, s < 1024 → ∀ v, v < 10 → s.testBit v = false → pop (s ||| 1 <<< v) = pop s + 1 := by decide +kernel
theorem pop_le : ∀ s, s < 1024 → pop s ≤ 10 := by decide +kernel
theorem or_lt {s v : Nat} (h : s < 1024) (hv : v < 10) : s ||| 1 <<< v < 1024 := by
  refine Nat.or_lt_two_pow (n := 10) h ?_
  rw [Nat.shiftLeft_eq, Nat.one_mul]
  exact Nat.pow_lt_pow_right (by omega) hv
theorem tb_or (s v q : Nat) : (s ||| 1 <<< v).testBit q = (s.testBit q || decide (q = v)) := by
  rw [Nat.testBit_or, Nat.testBit_shiftLeft]
  by_cases h : q = v
  · subst h; simp
  · by_cases h1 : v ≤ q
    · have : q - v ≠ 0 := by omega
      simp [h, h1, Nat.testBit_one_eq_true_iff_self_eq_zero, this]
    · simp [h, h1]
def SS (o : Nat → Nat) (j n : Nat) : Nat := fold (fun i s => s ||| 1 <<< o i) j n 0
theorem fold_app {σ : Type} (f : Nat → σ → σ) : ∀ (k i : Nat) (s : σ), fold f i (k + 1) s = f (i + k) (fold f i k s)
  | 0, i, s => rfl
  | k + 1, i, s => by
    show fold f (i + 1) (k + 1) (f i s) = _
    rw [fold_app f k (i + 1) (f i s)]
    show _ = f (i + (k + 1)) (fold f (i + 1) k (f i s))
    rw [show i + 1 + k = i + (k + 1) by omega]
theorem SS_s (o : Nat → Nat) (j n : Nat) : SS o j (n + 1) = SS o j n ||| 1 <<< o (j + n) := fold_app _ n j 0
theorem SS_lt {o : Nat → Nat} (ho : ∀ i, o i < 10) (j : Nat) : ∀ n, SS o j n < 1024
  | 0 => by unfold SS fold; omega
  | n + 1 => by rw [SS_s]; exact or_lt (SS_lt ho j n) (ho _)
theorem SS_tb (o : Nat → Nat) (j q : Nat) : ∀ n, (SS o j n).testBit q = true ↔ ∃ i, j ≤ i ∧ i < j + n ∧ o i = q
  | 0 => by
    unfold SS fold
    simp
    intro i h1 h2
    omega
  | n + 1 => by
    rw [SS_s, tb_or, Bool.or_eq_true, SS_tb o j q n, decide_eq_true_iff]
    constructor
    · rintro (⟨i, h1, h2, h3⟩ | h)
      · exact ⟨i, h1, by omega, h3⟩
      · exact ⟨j + n, by omega, by omega, h.symm⟩
    · rintro ⟨i, h1, h2, h3⟩
      by_cases e : i = j + n
      · rw [e] at h3; exact Or.inr h3.symm
      · exact Or.inl ⟨i, h1, by omega, h3⟩
theorem SS_pop {o : Nat → Nat} (ho : ∀ i, o i < 10) (j : Nat) : ∀ n, (∀ i k, j ≤ i → i < k → k < j + n → o i ≠ o k) → pop (SS o j n) = n
  | 0, _ => by unfold SS fold; decide
  | n + 1, h => by
    rw [SS_s, pop_add _ (SS_lt ho j n) _ (ho _), SS_pop ho j n (fun i k h1 h2 h3 => h i k h1 h2 (by omega))]
    rw [← Bool.not_eq_true, SS_tb]
    rintro ⟨i, h1, h2, h3⟩
    exact h i (j + n) h1 h2 (by omega) h3
/-! settles -/
def orb (f : Nat → Nat) (w : Nat) : Nat → Nat
  | 0 => w
  | i + 1 => f (orb f w i)
theorem orb_lt {f : Nat → Nat} {N w : Nat} (hf : ∀ v, v < N → f v < N) (hw : w < N) : ∀ i, orb f w i < N
  | 0 => hw
  | i + 1 => hf _ (orb_lt hf hw i)
theorem orb_add (f : Nat → Nat) (w k : Nat) : ∀ i, orb f (orb f w k) i = orb f w (k + i)
  | 0 => rfl
  | i + 1 => by
    show f (orb f (orb f w k) i) = f (orb f w (k + i))
    rw [orb_add f w k i]
theorem orb_in {f : Nat → Nat} {w T j : Nat} (hj : j < T) (he : orb f w T = orb f w j) : ∀ i, ∃ k, k < T ∧ orb f w i = orb f w k ∧ (j ≤ i → j ≤ k)
  | 0 => ⟨0, by omega, rfl, fun h => h⟩
  | i + 1 => by
    by_cases hi : i + 1 < T
    · exact ⟨i + 1, hi, rfl, fun h => h⟩
    obtain ⟨k, h1, h2, h3⟩ := orb_in hj he i
    have e : orb f w (i + 1) = orb f w (k + 1) := congrArg f h2
    by_cases hk : k + 1 < T
    · refine ⟨k + 1, hk, e, fun h => ?_⟩
      have := h3 (by omega)
      omega
    · have : k + 1 = T := by omega
      refine ⟨j, hj, by rw [e, this, he], fun _ => Nat.le_refl _⟩
