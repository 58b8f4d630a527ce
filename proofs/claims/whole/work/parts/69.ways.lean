/-! what it may have meant -/
theorem qJ7_fill (G : GP) (d : Nat) (c len : Nat) (hc : SH[c]? = some (100, len, [])) (hl : len < 2147483648) (v : Int32) (m : Mem) (K : Mem → Prop) (hK : ∀ m' : Mem, (∀ k, k < len → m'.1 c k = v) → (∀ q, q ≠ c → m'.1 q = m.1 q) → m'.2 = m.2 → K m') : Evv G d mJ7_fill_53178 [.ref (ga G c), .int v] m K := by
  refine vJ7_fill_53178 G d c len hc v m K ?_
  rintro _ rfl
  show Gw G d mJ7_fill_53178 5 [.ref (ga G c), .int v, .int 0, .int (nI len)] [] m (Qv K)
  refine loopD (P := fun i => ∀ m' : Mem, (∀ k, k < i → m'.1 c k = v) → (∀ q, q ≠ c → m'.1 q = m.1 q) → m'.2 = m.2 → Gw G d mJ7_fill_53178 5 [.ref (ga G c), .int v, .int (nI i), .int (nI len)] [] m' (Qv K)) len ?_ ?_ m (fun k hk => by omega) (fun _ _ => rfl) rfl
  · intro i hi hP m' e1 e2 e3
    refine vJ7_fill_53178_5 G d c len hc v (nI i) (nI len) m' K ⟨fun q => ?_, fun _ => ⟨in_nI (by omega) (by omega), ?_⟩⟩
    · rw [le_nI (by omega) (by omega)] at q
      omega
    · rintro _ rfl _ rfl
      rw [tn_nI (by omega), nI_1]
      refine hP _ (fun k hk => ?_) (fun q hq => by rw [wI_n _ _ _ hq, e2 q hq]) e3
      rw [wI_s]
      by_cases e : k = i
      · rw [e, upd_s]
      · rw [upd_n _ _ e]; exact e1 k (by omega)
  · intro m' e1 e2 e3
    exact vJ7_fill_53178_5 G d c len hc v (nI len) (nI len) m' K ⟨fun _ => hK m' e1 e2 e3, fun q => absurd (Int32.le_refl _) q⟩
theorem gcd_st (a b : Nat) : Nat.gcd a b = Nat.gcd b (a % b) := by
  rw [Nat.gcd_comm a b, Nat.gcd_rec b a, Nat.gcd_comm]
theorem lc0_nI {b : Nat} (h : b < 2 ^ 63) : lg_cmp (lN b) 0 = 0 ↔ b = 0 := by
  rw [lc_0, show (0 : Int64) = lN 0 from rfl, pk_lEQ h (by omega)]
theorem ne0_lN {b : Nat} (h : b < 2 ^ 63) : ¬ lN b = 0 ↔ ¬ b = 0 := by
  rw [show (0 : Int64) = lN 0 from rfl, pk_lEQ h (by omega)]
theorem qX11_gcd (G : GP) (d : Nat) (a b : Nat) (ha : a < 2 ^ 40) (hb : b < 2 ^ 40) (m : Mem) (K : Int64 → Mem → Prop) (hK : K (lN (Nat.gcd a b)) m) : Evl G d mX11_commonDivisor [.long (lN a), .long (lN b)] m K := by
  refine vX11_commonDivisor G d (lN a) (lN b) m K ?_
  have key : ∀ k i a b, a < 2 ^ 40 → b < 2 ^ k → k ≤ 40 → 2 * k + i ≤ 100 → K (lN (Nat.gcd a b)) m → ∀ u0 u1 u2 u3 u5 u7 u9 u10, Gw G d mX11_commonDivisor 9 [u0, u1, u2, u3, .long (lN a), u5, .long (lN b), u7, .int (nI i), u9, u10] [] m (Ql K) := by
    intro k
    induction k with
    | zero =>
      intro i a b ha hb _ _ hK u0 u1 u2 u3 u5 u7 u9 u10
      have : b = 0 := by omega
      subst this
      rw [Nat.gcd_zero_right] at hK
      exact vX11_commonDivisor_9 G d u0 u1 u2 u3 (lN a) u5 (lN 0) u7 (nI i) u9 u10 m K ⟨fun _ => hK, fun _ => ⟨fun _ => hK, fun q => absurd ((lc0_nI (by omega)).mpr rfl) q⟩⟩
    | succ k ih =>
      intro i a b ha hb hk hi hK u0 u1 u2 u3 u5 u7 u9 u10
      have h40 : (2 : Nat) ^ (k + 1) ≤ 2 ^ 40 := Nat.pow_le_pow_right (by omega) hk
      have hk2 : (2 : Nat) ^ (k + 1) = 2 * 2 ^ k := by rw [Nat.pow_succ]; omega
      by_cases b0 : b = 0
      · subst b0
        rw [Nat.gcd_zero_right] at hK
        exact vX11_commonDivisor_9 G d u0 u1 u2 u3 (lN a) u5 (lN 0) u7 (nI i) u9 u10 m K ⟨fun _ => hK, fun _ => ⟨fun _ => hK, fun q => absurd ((lc0_nI (by omega)).mpr rfl) q⟩⟩
      · have hr : a % b < b := Nat.mod_lt _ (by omega)
        refine vX11_commonDivisor_9 G d u0 u1 u2 u3 (lN a) u5 (lN b) u7 (nI i) u9 u10 m K ⟨fun q => ?_, fun _ => ⟨fun q => absurd ((lc0_nI (by omega)).mp q) b0, fun _ => ⟨(ne0_lN (by omega)).mpr b0, ?_⟩⟩⟩
        · have q := (le_nI (a := 100) (by omega) (by omega)).mp q
          omega
        · rw [pk_lRem (by omega) (by omega) (by omega)]
          rintro _ rfl _ rfl
          rw [nI_1]
          rw [gcd_st] at hK
          generalize a % b = r at *
          by_cases r0 : r = 0
          · subst r0
            rw [Nat.gcd_zero_right] at hK
            exact vX11_commonDivisor_9 G d _ _ _ _ (lN b) _ (lN 0) _ (nI (i + 1)) _ _ m K ⟨fun _ => hK, fun _ => ⟨fun _ => hK, fun q => absurd ((lc0_nI (by omega)).mpr rfl) q⟩⟩
          · refine vX11_commonDivisor_9 G d _ _ _ _ (lN b) _ (lN r) _ (nI (i + 1)) _ _ m K ⟨fun q => ?_, fun _ => ⟨fun q => absurd ((lc0_nI (by omega)).mp q) r0, fun _ => ⟨(ne0_lN (by omega)).mpr r0, ?_⟩⟩⟩
            · have q := (le_nI (a := 100) (by omega) (by omega)).mp q
              omega
            · rw [pk_lRem (by omega) (by omega) (by omega)]
              rintro _ rfl _ rfl
              rw [nI_1]
              rw [gcd_st] at hK
              refine ih (i + 2) r (b % r) (by omega) ?_ (by omega) (by omega) hK _ _ _ _ _ _ _ _
              have h1 : b % r < r := Nat.mod_lt _ (by omega)
              by_cases h2 : r < 2 ^ k
              · omega
              · have h3 : b % r ≤ b - r := by
                  rw [Nat.mod_eq_sub_mod (by omega)]
                  exact Nat.mod_le _ _
                omega
  exact key 40 0 a b ha hb (by omega) (by omega) hK _ _ _ _ _ _ _ _
theorem qX12_gcd (G : GP) (d : Nat) (a b : Nat) (ha : a < 2 ^ 40) (hb : b < 2 ^ 40) (m : Mem) (K : Int64 → Mem → Prop) (hK : K (lN (Nat.gcd a b)) m) : Evl G d mX12_common [.long (lN a), .long (lN b)] m K := by
  refine vX12_common G d (lN a) (lN b) m K ?_
  have key : ∀ k a b, a < 2 ^ 40 → b < 2 ^ 40 → b < k → K (lN (Nat.gcd a b)) m → ∀ u0 u1 u2 u3 u5 u7 u8 u9, Gw G d mX12_common 6 [u0, u1, u2, u3, .long (lN a), u5, .long (lN b), u7, u8, u9] [] m (Ql K) := by
    intro k
    induction k with
    | zero => intro a b _ _ h; exact absurd h (Nat.not_lt_zero _)
    | succ k ih =>
      intro a b ha hb hbk hK u0 u1 u2 u3 u5 u7 u8 u9
      by_cases b0 : b = 0
      · subst b0
        rw [Nat.gcd_zero_right] at hK
        exact vX12_common_6 G d u0 u1 u2 u3 (lN a) u5 (lN 0) u7 u8 u9 m K ⟨fun _ => hK, fun q => absurd ((lc0_nI (by omega)).mpr rfl) q⟩
      · have hr : a % b < b := Nat.mod_lt _ (by omega)
        refine vX12_common_6 G d u0 u1 u2 u3 (lN a) u5 (lN b) u7 u8 u9 m K ⟨fun q => absurd ((lc0_nI (by omega)).mp q) b0, fun _ => ⟨(ne0_lN (by omega)).mpr b0, ?_⟩⟩
        rw [pk_lRem (by omega) (by omega) (by omega)]
        rintro _ rfl
        rw [gcd_st] at hK
        generalize a % b = r at *
        exact ih b r hb (by omega) (by omega) hK _ _ _ _ _ _ _ _
  exact key (b + 1) a b ha hb (by omega) hK _ _ _ _ _ _ _ _
/-- which strokes of a word were left: run along them; the number of ways -/
def rn (h s : Nat → Int32) (n k : Nat) : Nat → Option Nat
  | 0 => some 0
  | i + 1 => match rn h s n k i with
    | none => none
    | some c => if k.testBit i then (if c = n then none else if h c = s i then some (c + 1) else none) else some c
def wl (h s : Nat → Int32) : Nat → Nat → Nat
  | 0, j => if j = 0 then 1 else 0
  | i + 1, 0 => wl h s i 0
  | i + 1, j + 1 => wl h s i (j + 1) + (if h j = s i then wl h s i j else 0)
def bc (k : Nat) : Nat → Nat
  | 0 => 0
  | i + 1 => bc k i + (if k.testBit i then 1 else 0)
theorem bc_le (k : Nat) : ∀ i, bc k i ≤ i
  | 0 => Nat.le_refl _
  | i + 1 => by
    have := bc_le k i
    unfold bc
    split <;> omega
theorem rn_bc {h s : Nat → Int32} {n k : Nat} : ∀ i j, rn h s n k i = some j → j = bc k i ∧ j ≤ n
  | 0, j, e => by
    unfold rn at e
    injection e with e
    subst e
    exact ⟨rfl, by omega⟩
  | i + 1, j, e => by
    unfold rn at e
    split at e
    · exact absurd e (by simp)
    · rename_i c hc
      obtain ⟨h1, h2⟩ := rn_bc i c hc
      unfold bc
      split at e
      · rename_i hb
        rw [if_pos hb]
        split at e
        · exact absurd e (by simp)
        · split at e
          · injection e with e
            omega
          · exact absurd e (by simp)
      · rename_i hb
        rw [if_neg hb]
        injection e with e
        omega
theorem rn_lo {h s : Nat → Int32} {n k k' : Nat} : ∀ i, (∀ b, b < i → k.testBit b = k'.testBit b) → rn h s n k i = rn h s n k' i
  | 0, _ => rfl
  | i + 1, e => by
    unfold rn
    rw [rn_lo i (fun b hb => e b (by omega)), e i (by omega)]
def sumF (f : Nat → Nat) (i n : Nat) : Nat := fold (fun k s => s + f k) i n 0
theorem fold_add (f : Nat → Nat) : ∀ (n i s : Nat), fold (fun k s => s + f k) i n s = s + sumF f i n
  | 0, i, s => by unfold sumF fold; rfl
  | n + 1, i, s => by
    show fold (fun k s => s + f k) (i + 1) n (s + f i) = s + fold (fun k s => s + f k) (i + 1) n (0 + f i)
    rw [fold_add f n (i + 1) (s + f i), fold_add f n (i + 1) (0 + f i)]
    omega
theorem sumF_s (f : Nat → Nat) (i n : Nat) : sumF f i (n + 1) = f i + sumF f (i + 1) n := by
  show fold (fun k s => s + f k) (i + 1) n (0 + f i) = _
  rw [fold_add]
  omega
theorem sumF_app (f : Nat → Nat) : ∀ (n i p : Nat), sumF f i (n + p) = sumF f i n + sumF f (i + n) p
  | 0, i, p => by
    rw [Nat.zero_add]
    show _ = 0 + _
    rw [Nat.zero_add, Nat.add_zero]
  | n + 1, i, p => by
    rw [show n + 1 + p = (n + p) + 1 by omega, sumF_s, sumF_app f n (i + 1) p, sumF_s, show i + 1 + n = i + (n + 1) by omega]
    omega
theorem sumF_congr {f g : Nat → Nat} : ∀ (n i j : Nat), (∀ k, k < n → f (i + k) = g (j + k)) → sumF f i n = sumF g j n
  | 0, i, j, _ => rfl
  | n + 1, i, j, h => by
    rw [sumF_s, sumF_s, sumF_congr n (i + 1) (j + 1) (fun k hk => by
      have := h (k + 1) (by omega)
      rw [show i + (k + 1) = i + 1 + k by omega, show j + (k + 1) = j + 1 + k by omega] at this
      exact this)]
    have := h 0 (by omega)
    rw [Nat.add_zero, Nat.add_zero] at this
    rw [this]
theorem sumF_0 : ∀ (n i : Nat), sumF (fun _ => 0) i n = 0
  | 0, _ => rfl
  | n + 1, i => by rw [sumF_s, sumF_0 n (i + 1)]
theorem tb_hi {k i : Nat} (h : k < 2 ^ i) : k.testBit i = false := Nat.testBit_lt_two_pow h
theorem tb_add {k i : Nat} (h : k < 2 ^ i) : (2 ^ i + k).testBit i = true ∧ ∀ b, b < i → (2 ^ i + k).testBit b = k.testBit b := by
  refine ⟨?_, fun b hb => ?_⟩
  · rw [Nat.testBit_two_pow_add_eq, tb_hi h]; rfl
  · rw [Nat.testBit_two_pow_add_gt hb]
theorem wl_cnt (h s : Nat → Int32) (n : Nat) : ∀ i j, j ≤ n → sumF (fun k => if rn h s n k i = some j then 1 else 0) 0 (2 ^ i) = wl h s i j
  | 0, j, hj => by
    show sumF _ 0 1 = if j = 0 then 1 else 0
    rw [sumF_s]
    show (if some 0 = some j then 1 else 0) + 0 = _
    by_cases e : j = 0
    · subst e; rfl
    · rw [if_neg (fun q => e (by injection q with q; exact q.symm)), if_neg e]
  | i + 1, j, hj => by
    rw [Nat.pow_succ, Nat.mul_comm, Nat.two_mul, sumF_app, Nat.zero_add]
    have lo : sumF (fun k => if rn h s n k (i + 1) = some j then 1 else 0) 0 (2 ^ i) = wl h s i j := by
      rw [← wl_cnt h s n i j hj]
      refine sumF_congr _ _ _ (fun k hk => ?_)
      rw [Nat.zero_add]
      have : rn h s n k (i + 1) = rn h s n k i := by
        show (match rn h s n k i with
          | none => none
          | some c => if k.testBit i then (if c = n then none else if h c = s i then some (c + 1) else none) else some c) = _
        rw [tb_hi hk]
        split
        · rename_i e; rw [e]
        · rename_i c e; rw [e]; rfl
      rw [this]
    rw [lo]
    have hi : ∀ k, k < 2 ^ i → rn h s n (2 ^ i + k) (i + 1) = match rn h s n k i with
        | none => none
        | some c => if c = n then none else if h c = s i then some (c + 1) else none := by
      intro k hk
      obtain ⟨t1, t2⟩ := tb_add hk
      show (match rn h s n (2 ^ i + k) i with
          | none => none
          | some c => if (2 ^ i + k).testBit i then (if c = n then none else if h c = s i then some (c + 1) else none) else some c) = _
      rw [rn_lo i t2, t1]
      split
      · rfl
      · rfl
    rcases j with _ | j
    · show _ = wl h s i 0
      rw [sumF_congr (g := fun _ => 0) (2 ^ i) (2 ^ i) 0 (fun k hk => ?_), sumF_0]
      · rfl
      · show (if rn h s n (2 ^ i + k) (i + 1) = some 0 then 1 else 0) = 0
        rw [hi k hk]
        refine if_neg ?_
        split
        · simp
        · split
          · simp
          · split <;> simp
    · show _ = wl h s i (j + 1) + (if h j = s i then wl h s i j else 0)
      congr 1
      by_cases e : h j = s i
      · rw [if_pos e, ← wl_cnt h s n i j (by omega)]
        refine sumF_congr _ _ _ (fun k hk => ?_)
        show (if rn h s n (2 ^ i + k) (i + 1) = some (j + 1) then 1 else 0) = (if rn h s n (0 + k) i = some j then 1 else 0)
        rw [Nat.zero_add, hi k hk]
        rcases hr : rn h s n k i with _ | c
        · simp
        · by_cases ec : c = j
          · subst ec
            have : ¬ c = n := by omega
            simp [this, e]
          · have : ¬ (some c = some j) := fun q => ec (by injection q)
            rw [if_neg this]
            refine if_neg ?_
            show ¬ (if c = n then none else if h c = s i then some (c + 1) else none) = some (j + 1)
            split
            · simp
            · split
              · intro q; injection q with q; omega
              · simp
      · rw [if_neg e]
        rw [sumF_congr (g := fun _ => 0) (2 ^ i) (2 ^ i) 0 (fun k hk => ?_), sumF_0]
        show (if rn h s n (2 ^ i + k) (i + 1) = some (j + 1) then 1 else 0) = 0
        rw [hi k hk]
        refine if_neg ?_
        rcases hr : rn h s n k i with _ | c
        · simp
        · show ¬ (if c = n then none else if h c = s i then some (c + 1) else none) = some (j + 1)
          split
          · simp
          · split
            · rename_i h2
              intro q
              injection q with q
              have : c = j := by omega
              subst this
              exact e h2
            · simp
theorem wl_le (h s : Nat → Int32) : ∀ i j, wl h s i j ≤ 2 ^ i
  | 0, j => by unfold wl; split <;> simp
  | i + 1, 0 => by
    have := wl_le h s i 0
    show wl h s i 0 ≤ _
    rw [Nat.pow_succ]; omega
  | i + 1, j + 1 => by
    have h1 := wl_le h s i (j + 1)
    have h2 := wl_le h s i j
    show wl h s i (j + 1) + (if h j = s i then wl h s i j else 0) ≤ _
    rw [Nat.pow_succ]
    split <;> omega
def prC (p L n : Nat) : Nat := fold (fun i s => s * (if i < n then 10 - p else if i < L then p else 10)) 0 4 1
def prM (p L k : Nat) : Nat := fold (fun i s => s * (if i < L then (if k.testBit i then 10 - p else p) else 10)) 0 4 1
theorem prM_C : ∀ p, p < 11 → ∀ L, L < 5 → ∀ k, k < 2 ^ L → prM p L k = prC p L (bc k L) := by decide +kernel
theorem prC_le : ∀ p, p < 11 → ∀ L, L < 5 → ∀ n, n < 5 → prC p L n ≤ 10000 := by decide +kernel
theorem fold_mul (g : Nat → Nat) : ∀ (k i x : Nat), fold (fun i s => s * g i) i k x = x * fold (fun i s => s * g i) i k 1
  | 0, i, x => by unfold fold; omega
  | k + 1, i, x => by
    show fold (fun i s => s * g i) (i + 1) k (x * g i) = x * fold (fun i s => s * g i) (i + 1) k (1 * g i)
    rw [fold_mul g k (i + 1) (x * g i), fold_mul g k (i + 1) (1 * g i), Nat.one_mul, Nat.mul_assoc]
theorem likely_sum (h s : Nat → Int32) (n p L W : Nat) (hp : p < 11) (hL : L < 5) : sumF (fun k => if rn h s n k L = some n then W * prM p L k else 0) 0 (2 ^ L) = W * (wl h s L n * prC p L n) := by
  rw [← wl_cnt h s n L n (Nat.le_refl _)]
  have : ∀ m i, i + m ≤ 2 ^ L → sumF (fun k => if rn h s n k L = some n then W * prM p L k else 0) i m = W * (sumF (fun k => if rn h s n k L = some n then 1 else 0) i m * prC p L n) := by
    intro m
    induction m with
    | zero => intro i _; show 0 = W * (0 * prC p L n); simp
    | succ m ih =>
      intro i hi
      rw [sumF_s, sumF_s, ih (i + 1) (by omega)]
      by_cases e : rn h s n i L = some n
      · rw [if_pos e, if_pos e, prM_C p hp L hL i (by omega), ← (rn_bc L n e).1, Nat.add_mul, Nat.one_mul, Nat.mul_add]
      · rw [if_neg e, if_neg e, Nat.zero_add, Nat.zero_add]
  exact this (2 ^ L) 0 (by omega)
theorem wl_0 (h s : Nat → Int32) : ∀ i j, i < j → wl h s i j = 0
  | 0, j, hj => by unfold wl; rw [if_neg (by omega)]
  | i + 1, 0, hj => by omega
  | i + 1, j + 1, hj => by
    show wl h s i (j + 1) + (if h j = s i then wl h s i j else 0) = 0
    rw [wl_0 h s i (j + 1) (by omega), wl_0 h s i j (by omega)]
    simp
