/-! THE LAWS OF A TEXT: a machine of truths and values; both sides run it -/
theorem lc_cases (x y : Int64) : (lg_cmp x y = 1 ∧ y.toInt < x.toInt) ∨ (lg_cmp x y = 0 ∧ x.toInt = y.toInt) ∨ (lg_cmp x y = -1 ∧ x.toInt < y.toInt) := by
  unfold lg_cmp
  by_cases h : x > y
  · rw [if_pos h]; exact Or.inl ⟨rfl, Int64.lt_iff_toInt_lt.mp h⟩
  · rw [if_neg h]
    by_cases e : x = y
    · rw [if_pos e]; exact Or.inr (Or.inl ⟨rfl, by rw [e]⟩)
    · rw [if_neg e]
      refine Or.inr (Or.inr ⟨rfl, ?_⟩)
      have h1 : ¬ y.toInt < x.toInt := fun q => h (Int64.lt_iff_toInt_lt.mpr q)
      have h2 : ¬ x.toInt = y.toInt := fun q => e (Int64.toInt_inj.mp q)
      omega
theorem lc_lt (x y : Int64) : lg_cmp x y < 0 ↔ x.toInt < y.toInt := by
  rcases lc_cases x y with ⟨e, h⟩ | ⟨e, h⟩ | ⟨e, h⟩ <;> rw [e] <;> constructor <;> intro q <;> first | omega | exact absurd q (by decide) | decide
theorem lc_le (x y : Int64) : lg_cmp x y ≤ 0 ↔ x.toInt ≤ y.toInt := by
  rcases lc_cases x y with ⟨e, h⟩ | ⟨e, h⟩ | ⟨e, h⟩ <;> rw [e] <;> constructor <;> intro q <;> first | omega | exact absurd q (by decide) | decide
theorem lc_eq (x y : Int64) : lg_cmp x y = 0 ↔ x.toInt = y.toInt := by
  rcases lc_cases x y with ⟨e, h⟩ | ⟨e, h⟩ | ⟨e, h⟩ <;> rw [e] <;> constructor <;> intro q <;> first | omega | exact absurd q (by decide) | decide
theorem lc_ge (x y : Int64) : 0 ≤ lg_cmp x y ↔ y.toInt ≤ x.toInt := by
  rcases lc_cases x y with ⟨e, h⟩ | ⟨e, h⟩ | ⟨e, h⟩ <;> rw [e] <;> constructor <;> intro q <;> first | omega | exact absurd q (by decide) | decide
theorem lc_gt (x y : Int64) : 0 < lg_cmp x y ↔ y.toInt < x.toInt := by
  rcases lc_cases x y with ⟨e, h⟩ | ⟨e, h⟩ | ⟨e, h⟩ <;> rw [e] <;> constructor <;> intro q <;> first | omega | exact absurd q (by decide) | decide
theorem bm64 {x : Int} (h1 : -9000000000000000000 ≤ x) (h2 : x ≤ 9000000000000000000) : x.bmod (2 ^ 64) = x := Int.bmod_eq_of_le (by omega) (by omega)
theorem bm32 {x : Int} (h1 : -2000000000 ≤ x) (h2 : x ≤ 2000000000) : x.bmod (2 ^ 32) = x := Int.bmod_eq_of_le (by omega) (by omega)
def clipI (x : Int) : Int := if 1000000 < x then 1000000 else if x < -1000000 then -1000000 else x
theorem clipI_bd (x : Int) : -1000000 ≤ clipI x ∧ clipI x ≤ 1000000 := by unfold clipI; split <;> (try split) <;> omega
theorem clipI_id {x : Int} (h : -1000000 ≤ x ∧ x ≤ 1000000) : clipI x = x := by unfold clipI; rw [if_neg (by omega), if_neg (by omega)]
theorem heldV_i (r : Int64) : (heldV r).toInt = clipI r.toInt := by
  unfold heldV clipI
  have e1 : (1000000 : Int64).toInt = 1000000 := by decide
  have e2 : (-1000000 : Int64).toInt = -1000000 := by decide
  simp only [lc_le, lc_ge, e1, e2]
  by_cases h : r.toInt ≤ 1000000
  · rw [if_pos h, if_neg (show ¬ 1000000 < r.toInt by omega)]
    by_cases h2 : -1000000 ≤ r.toInt
    · rw [if_pos h2, if_neg (show ¬ r.toInt < -1000000 by omega), Int64.toInt_toInt32, bm32 (by omega) (by omega)]
    · rw [if_neg h2, if_pos (show r.toInt < -1000000 by omega)]; decide
  · rw [if_neg h, if_pos (show 1000000 < r.toInt by omega)]; decide
theorem clipV_i (r : Int64) : (clipV r).toInt = clipI r.toInt := by
  unfold clipV clipI
  have e1 : (1000000 : Int64).toInt = 1000000 := by decide
  have e2 : (-1000000 : Int64).toInt = -1000000 := by decide
  simp only [lc_le, lc_ge, e1, e2]
  by_cases h : r.toInt ≤ 1000000
  · rw [if_pos h, if_neg (show ¬ 1000000 < r.toInt by omega)]
    by_cases h2 : -1000000 ≤ r.toInt
    · rw [if_pos h2, if_neg (show ¬ r.toInt < -1000000 by omega)]
    · rw [if_neg h2, if_pos (show r.toInt < -1000000 by omega)]; exact e2
  · rw [if_neg h, if_pos (show 1000000 < r.toInt by omega)]; exact e1
def powI (x : Int) : Nat → Int
  | 0 => 1
  | n + 1 => clipI (powI x n * x)
theorem powI_bd (x : Int) : ∀ n, -1000000 ≤ powI x n ∧ powI x n ≤ 1000000
  | 0 => by unfold powI; omega
  | n + 1 => clipI_bd _
theorem clipI_neg (x : Int) : clipI (-x) = -clipI x := by
  unfold clipI
  by_cases h1 : 1000000 < x
  · rw [if_neg (show ¬ 1000000 < -x by omega), if_pos (show -x < -1000000 by omega), if_pos h1]
  · by_cases h2 : x < -1000000
    · rw [if_pos (show 1000000 < -x by omega), if_neg h1, if_pos h2]; omega
    · rw [if_neg (show ¬ 1000000 < -x by omega), if_neg (show ¬ -x < -1000000 by omega), if_neg h1, if_neg h2]
theorem powI_neg (x : Int) : ∀ n, powI (-x) n = if n % 2 = 0 then powI x n else -powI x n
  | 0 => rfl
  | n + 1 => by
    show clipI (powI (-x) n * (-x)) = if (n + 1) % 2 = 0 then clipI (powI x n * x) else -clipI (powI x n * x)
    rw [powI_neg x n]
    by_cases h : n % 2 = 0
    · rw [if_pos h, if_neg (by omega), Int.mul_neg, clipI_neg]
    · rw [if_neg h, if_pos (by omega), Int.mul_neg, Int.neg_mul, Int.neg_neg]
theorem powI_big {x : Int} (hx : 2 ≤ x) : ∀ n : Nat, (2 : Int) ^ n ≤ powI x n ∨ powI x n = 1000000
  | 0 => Or.inl (by show (1 : Int) ≤ 1; omega)
  | n + 1 => by
    have ih := powI_big hx n
    have hp : (1 : Int) ≤ 2 ^ n := by
      have : (0 : Int) < 2 ^ n := Int.pow_pos (by omega)
      omega
    show (2 : Int) ^ (n + 1) ≤ clipI (powI x n * x) ∨ clipI (powI x n * x) = 1000000
    have h0 : 0 ≤ powI x n := by rcases ih with h | h <;> omega
    have h1 : powI x n * 2 ≤ powI x n * x := Int.mul_le_mul_of_nonneg_left hx h0
    rw [Int.pow_succ]
    unfold clipI
    by_cases q : 1000000 < powI x n * x
    · rw [if_pos q]; exact Or.inr rfl
    · rw [if_neg q, if_neg (by omega)]
      rcases ih with h | h
      · left; omega
      · omega
theorem powI_pos {x : Int} (hx : 0 ≤ x) {n : Nat} (hn : 20 ≤ n) : powI x (n + 2) = powI x n := by
  by_cases h0 : x = 0
  · subst h0
    have : ∀ k, powI 0 (k + 1) = 0 := fun k => by show clipI (powI 0 k * 0) = 0; rw [Int.mul_zero]; rfl
    obtain ⟨k, rfl⟩ : ∃ k, n = k + 1 := ⟨n - 1, by omega⟩
    rw [this (k + 2), this]
  · by_cases h1 : x = 1
    · subst h1
      have : ∀ k, powI 1 k = 1 := fun k => by
        induction k with
        | zero => rfl
        | succ k ih => show clipI (powI 1 k * 1) = 1; rw [ih]; rfl
      rw [this, this]
    · have : ∀ k, 20 ≤ k → powI x k = 1000000 := fun k hk => by
        have hb := powI_bd x k
        rcases powI_big (x := x) (by omega) k with h | h
        · have h2 : (2 : Int) ^ 20 ≤ 2 ^ k := by
            obtain ⟨j, rfl⟩ : ∃ j, k = 20 + j := ⟨k - 20, by omega⟩
            rw [Int.pow_add]
            have : (0 : Int) < 2 ^ j := Int.pow_pos (by omega)
            have h3 : (2 : Int) ^ 20 * 1 ≤ 2 ^ 20 * 2 ^ j := Int.mul_le_mul_of_nonneg_left (by omega) (by decide)
            omega
          have h4 : (2 : Int) ^ 20 = 1048576 := by decide
          omega
        · exact h
      rw [this _ (by omega), this _ hn]
theorem powI_per (x : Int) {n : Nat} (hn : 20 ≤ n) : powI x (n + 2) = powI x n := by
  by_cases h : 0 ≤ x
  · exact powI_pos h hn
  · have e : x = -(-x) := by omega
    generalize -x = y at e
    have hy : 0 ≤ y := by omega
    subst e
    rw [powI_neg, powI_neg, powI_pos hy hn, show (n + 2) % 2 = n % 2 by omega]
theorem powI_add (x : Int) {n : Nat} (hn : 20 ≤ n) : ∀ k, powI x (n + 2 * k) = powI x n
  | 0 => rfl
  | k + 1 => by rw [show n + 2 * (k + 1) = (n + 2 * k) + 2 by omega, powI_per x (by omega), powI_add x hn k]
theorem powI_22 (x : Int) {n : Nat} (hn : 22 < n) : powI x (22 - n % 2) = powI x n := by
  have e : n = (22 - n % 2) + 2 * ((n - 22 + n % 2) / 2) := by omega
  have := powI_add x (n := 22 - n % 2) (by omega) ((n - 22 + n % 2) / 2)
  rw [← e] at this
  exact this.symm
def twoI (o : Nat) (x y : Int) : Int := if o = 3 then clipI (x + y) else if o = 4 then clipI (x - y) else if o = 5 then clipI (x * y) else if o = 7 then (if y < 0 then 0 else powI x (min y.toNat 99)) else if y = 0 then 0 else clipI (x.tdiv y)
def askI (o : Nat) (x y : Int) : Bool := if o = 10 then decide (x < y) else if o = 11 then decide (x ≤ y) else if o = 12 then decide (y < x) else if o = 13 then decide (y ≤ x) else if o = 14 then decide (x = y) else decide (x ≠ y)
def bI (x : Int) : Prop := -1000000 ≤ x ∧ x ≤ 1000000
theorem twoI_bd (o : Nat) (x y : Int) : bI (twoI o x y) := by
  unfold twoI bI
  by_cases h3 : o = 3
  · rw [if_pos h3]; exact clipI_bd _
  rw [if_neg h3]
  by_cases h4 : o = 4
  · rw [if_pos h4]; exact clipI_bd _
  rw [if_neg h4]
  by_cases h5 : o = 5
  · rw [if_pos h5]; exact clipI_bd _
  rw [if_neg h5]
  by_cases h7 : o = 7
  · rw [if_pos h7]
    split
    · omega
    · exact powI_bd _ _
  rw [if_neg h7]
  split
  · omega
  · exact clipI_bd _
def b2i (b : Bool) : Int := if b then 1 else 0
def b2 (b : Bool) : Int32 := if b then 1 else 0
theorem b2_i (b : Bool) : (b2 b).toInt = b2i b := by cases b <;> decide
def stp (nm : Nat → Int) (o v : Nat) (T : List Bool) (V : List Int) : List Bool × List Int :=
  if o = 0 then (T, (v : Int) :: V)
  else if o = 1 then (T, nm v :: V)
  else if o = 2 then (match V with
    | x :: V' => (T, (-x) :: V')
    | [] => (T, V))
  else if o < 10 then (match V with
    | y :: x :: V' => (T, twoI o x y :: V')
    | _ => (T, V))
  else if o < 20 then (match V with
    | y :: x :: V' => (askI o x y :: T, V')
    | _ => (T, V))
  else if o = 20 then (match T with
    | x :: T' => ((!x) :: T', V)
    | [] => (T, V))
  else (match T with
    | y :: x :: T' => ((if o = 21 then x && y else x || y) :: T', V)
    | _ => (T, V))
def tstep (o t v : Nat) : Option (Nat × Nat) :=
  if o ≤ 1 then (if t + v < 60 then some (t, v + 1) else none)
  else if o = 2 then (if 1 ≤ v then some (t, v) else none)
  else if o ≤ 7 then (if 2 ≤ v then some (t, v - 1) else none)
  else if 10 ≤ o ∧ o ≤ 15 then (if v = 2 then some (t + 1, 0) else none)
  else if o = 20 then (if v = 0 ∧ 1 ≤ t then some (t, 0) else none)
  else if o = 21 ∨ o = 22 then (if v = 0 ∧ 2 ≤ t then some (t - 1, 0) else none)
  else none
theorem ts_cases {o t v : Nat} {s : Nat × Nat} (h : tstep o t v = some s) : (o ≤ 1 ∧ t + v < 60 ∧ s = (t, v + 1)) ∨ (o = 2 ∧ 1 ≤ v ∧ s = (t, v)) ∨ (3 ≤ o ∧ o ≤ 7 ∧ 2 ≤ v ∧ s = (t, v - 1)) ∨ (10 ≤ o ∧ o ≤ 15 ∧ v = 2 ∧ s = (t + 1, 0)) ∨ (o = 20 ∧ v = 0 ∧ 1 ≤ t ∧ s = (t, 0)) ∨ ((o = 21 ∨ o = 22) ∧ v = 0 ∧ 2 ≤ t ∧ s = (t - 1, 0)) := by
  unfold tstep at h
  by_cases h1 : o ≤ 1
  · rw [if_pos h1] at h
    split at h
    · injection h with h; exact Or.inl ⟨h1, by assumption, h.symm⟩
    · cases h
  rw [if_neg h1] at h
  by_cases h2 : o = 2
  · rw [if_pos h2] at h
    split at h
    · injection h with h; exact Or.inr (Or.inl ⟨h2, by assumption, h.symm⟩)
    · cases h
  rw [if_neg h2] at h
  by_cases h3 : o ≤ 7
  · rw [if_pos h3] at h
    split at h
    · injection h with h; exact Or.inr (Or.inr (Or.inl ⟨by omega, h3, by assumption, h.symm⟩))
    · cases h
  rw [if_neg h3] at h
  by_cases h4 : 10 ≤ o ∧ o ≤ 15
  · rw [if_pos h4] at h
    split at h
    · injection h with h; exact Or.inr (Or.inr (Or.inr (Or.inl ⟨h4.1, h4.2, by assumption, h.symm⟩)))
    · cases h
  rw [if_neg h4] at h
  by_cases h5 : o = 20
  · rw [if_pos h5] at h
    split at h
    · rename_i q; injection h with h; exact Or.inr (Or.inr (Or.inr (Or.inr (Or.inl ⟨h5, q.1, q.2, h.symm⟩))))
    · cases h
  rw [if_neg h5] at h
  by_cases h6 : o = 21 ∨ o = 22
  · rw [if_pos h6] at h
    split at h
    · rename_i q; injection h with h; exact Or.inr (Or.inr (Or.inr (Or.inr (Or.inr ⟨h6, q.1, q.2, h.symm⟩))))
    · cases h
  rw [if_neg h6] at h
  cases h
theorem len1 {α : Type} {l : List α} (h : 1 ≤ l.length) : ∃ x r, l = x :: r := by
  cases l with
  | nil => simp at h
  | cons x r => exact ⟨x, r, rfl⟩
theorem len2 {α : Type} {l : List α} (h : 2 ≤ l.length) : ∃ y x r, l = y :: x :: r := by
  obtain ⟨y, r, rfl⟩ := len1 (l := l) (by omega)
  obtain ⟨x, r, rfl⟩ := len1 (l := r) (by simp at h; omega)
  exact ⟨y, x, r, rfl⟩
/-- the shapes of a step -/
theorem stp_cases {nm : Nat → Int} {o v : Nat} {T : List Bool} {V : List Int} {s : Nat × Nat} (h : tstep o T.length V.length = some s) :
    (o = 0 ∧ T.length + V.length < 60 ∧ stp nm o v T V = (T, (v : Int) :: V)) ∨ (o = 1 ∧ T.length + V.length < 60 ∧ stp nm o v T V = (T, nm v :: V)) ∨
    (o = 2 ∧ ∃ x W, V = x :: W ∧ stp nm o v T V = (T, (-x) :: W)) ∨ (3 ≤ o ∧ o ≤ 7 ∧ ∃ y x W, V = y :: x :: W ∧ stp nm o v T V = (T, twoI o x y :: W)) ∨
    (10 ≤ o ∧ o ≤ 15 ∧ ∃ y x, V = [y, x] ∧ stp nm o v T V = (askI o x y :: T, [])) ∨ (o = 20 ∧ V = [] ∧ ∃ x W, T = x :: W ∧ stp nm o v T V = ((!x) :: W, [])) ∨
    ((o = 21 ∨ o = 22) ∧ V = [] ∧ ∃ y x W, T = y :: x :: W ∧ stp nm o v T V = ((if o = 21 then x && y else x || y) :: W, [])) := by
  rcases ts_cases h with ⟨h1, h2, -⟩ | ⟨h1, h2, -⟩ | ⟨h1, h2, h3, -⟩ | ⟨h1, h2, h3, -⟩ | ⟨h1, h2, h3, -⟩ | ⟨h1, h2, h3, -⟩
  · by_cases e : o = 0
    · exact Or.inl ⟨e, h2, by unfold stp; rw [if_pos e]⟩
    · have e1 : o = 1 := by omega
      exact Or.inr (Or.inl ⟨e1, h2, by unfold stp; rw [if_neg e, if_pos e1]⟩)
  · obtain ⟨x, W, rfl⟩ := len1 h2
    exact Or.inr (Or.inr (Or.inl ⟨h1, x, W, rfl, by unfold stp; rw [if_neg (by omega), if_neg (by omega), if_pos h1]⟩))
  · obtain ⟨y, x, W, rfl⟩ := len2 h3
    exact Or.inr (Or.inr (Or.inr (Or.inl ⟨h1, h2, y, x, W, rfl, by unfold stp; rw [if_neg (by omega), if_neg (by omega), if_neg (by omega), if_pos (by omega)]⟩)))
  · obtain ⟨y, x, W, rfl⟩ := len2 (l := V) (by omega)
    have : W = [] := List.eq_nil_of_length_eq_zero (by rw [List.length_cons, List.length_cons] at h3; omega)
    subst this
    exact Or.inr (Or.inr (Or.inr (Or.inr (Or.inl ⟨h1, h2, y, x, rfl, by unfold stp; rw [if_neg (by omega), if_neg (by omega), if_neg (by omega), if_neg (by omega), if_pos (by omega)]⟩))))
  · have : V = [] := List.eq_nil_of_length_eq_zero h2
    subst this
    obtain ⟨x, W, rfl⟩ := len1 h3
    exact Or.inr (Or.inr (Or.inr (Or.inr (Or.inr (Or.inl ⟨h1, rfl, x, W, rfl, by unfold stp; rw [if_neg (by omega), if_neg (by omega), if_neg (by omega), if_neg (by omega), if_neg (by omega), if_pos h1]⟩)))))
  · have : V = [] := List.eq_nil_of_length_eq_zero h2
    subst this
    obtain ⟨y, x, W, rfl⟩ := len2 h3
    exact Or.inr (Or.inr (Or.inr (Or.inr (Or.inr (Or.inr ⟨h1, rfl, y, x, W, rfl, by unfold stp; rw [if_neg (by omega), if_neg (by omega), if_neg (by omega), if_neg (by omega), if_neg (by omega), if_neg (by omega)]⟩)))))
theorem stp_len {nm : Nat → Int} {o v : Nat} {T : List Bool} {V : List Int} {s : Nat × Nat} (h : tstep o T.length V.length = some s) : (stp nm o v T V).1.length = s.1 ∧ (stp nm o v T V).2.length = s.2 := by
  have hc := ts_cases h
  rcases stp_cases (nm := nm) (v := v) h with ⟨h1, h2, e⟩ | ⟨h1, h2, e⟩ | ⟨h1, x, W, rfl, e⟩ | ⟨h1, h2, y, x, W, rfl, e⟩ | ⟨h1, h2, y, x, rfl, e⟩ | ⟨h1, rfl, x, W, rfl, e⟩ | ⟨h1, rfl, y, x, W, rfl, e⟩ <;> rw [e] <;> (rcases hc with ⟨c1, c2, rfl⟩ | ⟨c1, c2, rfl⟩ | ⟨c1, c2, c3, rfl⟩ | ⟨c1, c2, c3, rfl⟩ | ⟨c1, c2, c3, rfl⟩ | ⟨c1, c2, c3, rfl⟩) <;> (try omega) <;> simp
def nB (nm : Nat → Int) (o v : Nat) : Prop := (o = 0 → v ≤ 9999) ∧ (o = 1 → bI (nm v))
theorem stp_bd {nm : Nat → Int} {o v : Nat} {T : List Bool} {V : List Int} {s : Nat × Nat} (h : tstep o T.length V.length = some s) (hn : nB nm o v) (hV : ∀ x ∈ V, bI x) : ∀ x ∈ (stp nm o v T V).2, bI x := by
  rcases stp_cases (nm := nm) (v := v) h with ⟨h1, h2, e⟩ | ⟨h1, h2, e⟩ | ⟨h1, x, W, rfl, e⟩ | ⟨h1, h2, y, x, W, rfl, e⟩ | ⟨h1, h2, y, x, rfl, e⟩ | ⟨h1, rfl, x, W, rfl, e⟩ | ⟨h1, rfl, y, x, W, rfl, e⟩ <;> rw [e]
  · intro z hz
    rcases List.mem_cons.mp hz with rfl | hz
    · have := hn.1 h1; unfold bI; omega
    · exact hV z hz
  · intro z hz
    rcases List.mem_cons.mp hz with rfl | hz
    · exact hn.2 h1
    · exact hV z hz
  · intro z hz
    rcases List.mem_cons.mp hz with rfl | hz
    · have := hV x List.mem_cons_self; unfold bI at *; omega
    · exact hV z (List.mem_cons_of_mem _ hz)
  · intro z hz
    rcases List.mem_cons.mp hz with rfl | hz
    · exact twoI_bd _ _ _
    · exact hV z (List.mem_cons_of_mem _ (List.mem_cons_of_mem _ hz))
  · intro z hz; cases hz
  · intro z hz; cases hz
  · intro z hz; cases hz
def evR (nm : Nat → Int) (o v : Nat → Nat) (fr : Nat) : Nat → List Bool × List Int
  | 0 => ([], [])
  | k + 1 => stp nm (o (fr + k)) (v (fr + k)) (evR nm o v fr k).1 (evR nm o v fr k).2
def tyR (o : Nat → Nat) (fr : Nat) : Nat → Option (Nat × Nat)
  | 0 => some (0, 0)
  | k + 1 => match tyR o fr k with
    | none => none
    | some s => tstep (o (fr + k)) s.1 s.2
theorem tyR_s {o : Nat → Nat} {fr k : Nat} {s : Nat × Nat} (h : tyR o fr (k + 1) = some s) : ∃ q, tyR o fr k = some q ∧ tstep (o (fr + k)) q.1 q.2 = some s := by
  have h' : (match tyR o fr k with
    | none => none
    | some s => tstep (o (fr + k)) s.1 s.2) = some s := h
  cases e : tyR o fr k with
  | none => rw [e] at h'; cases h'
  | some q => rw [e] at h'; exact ⟨q, rfl, h'⟩
theorem tyR_pre {o : Nat → Nat} {fr : Nat} : ∀ (j k : Nat) {s : Nat × Nat}, tyR o fr (k + j) = some s → ∃ q, tyR o fr k = some q
  | 0, k, s, h => ⟨s, h⟩
  | j + 1, k, s, h => by
    obtain ⟨q, hq, -⟩ := tyR_s (k := k + j) h
    exact tyR_pre j k hq
theorem evR_ok {nm : Nat → Int} {o v : Nat → Nat} {fr : Nat} : ∀ (k : Nat) {s : Nat × Nat}, tyR o fr k = some s → (∀ i, i < k → nB nm (o (fr + i)) (v (fr + i))) → (evR nm o v fr k).1.length = s.1 ∧ (evR nm o v fr k).2.length = s.2 ∧ ∀ x ∈ (evR nm o v fr k).2, bI x
  | 0, s, h, _ => by
    injection h with h
    subst h
    exact ⟨rfl, rfl, fun x hx => by cases hx⟩
  | k + 1, s, h, hn => by
    obtain ⟨q, h1, h2⟩ := tyR_s h
    obtain ⟨i1, i2, i3⟩ := evR_ok k h1 (fun i hi => hn i (by omega))
    rw [← i1, ← i2] at h2
    have hl := stp_len (nm := nm) (v := v (fr + k)) h2
    exact ⟨hl.1, hl.2, stp_bd h2 (hn k (by omega)) i3⟩
/-- what a law says -/
def lawB (nm : Nat → Int) (o v : Nat → Nat) (fr ti : Nat) : Bool := match (evR nm o v fr (ti - fr)).1 with
  | [b] => b
  | _ => false
theorem stp_congr {nm nm' : Nat → Int} {o v : Nat} (h : o = 1 → nm v = nm' v) (T : List Bool) (V : List Int) : stp nm o v T V = stp nm' o v T V := by
  unfold stp
  by_cases e : o = 0
  · rw [if_pos e, if_pos e]
  · rw [if_neg e, if_neg e]
    by_cases e1 : o = 1
    · rw [if_pos e1, if_pos e1, h e1]
    · rw [if_neg e1, if_neg e1]
theorem evR_congr {nm nm' : Nat → Int} {o o' v v' : Nat → Nat} {fr : Nat} : ∀ k, (∀ i, i < k → o (fr + i) = o' (fr + i) ∧ v (fr + i) = v' (fr + i) ∧ (o (fr + i) = 1 → nm (v (fr + i)) = nm' (v (fr + i)))) → evR nm o v fr k = evR nm' o' v' fr k
  | 0, _ => rfl
  | k + 1, h => by
    show stp nm (o (fr + k)) (v (fr + k)) (evR nm o v fr k).1 (evR nm o v fr k).2 = stp nm' (o' (fr + k)) (v' (fr + k)) (evR nm' o' v' fr k).1 (evR nm' o' v' fr k).2
    obtain ⟨h1, h2, h3⟩ := h k (by omega)
    rw [evR_congr k (fun i hi => h i (by omega)), stp_congr h3, h1, h2]
theorem lawB_congr {nm nm' : Nat → Int} {o o' v v' : Nat → Nat} {fr ti : Nat} (h : ∀ i, fr ≤ i → i < ti → o i = o' i ∧ v i = v' i ∧ (o i = 1 → nm (v i) = nm' (v i))) : lawB nm o v fr ti = lawB nm' o' v' fr ti := by
  unfold lawB
  rw [evR_congr (ti - fr) (fun i hi => h (fr + i) (by omega) (by omega))]
theorem tyR_congr {o o' : Nat → Nat} {fr : Nat} : ∀ k, (∀ i, i < k → o (fr + i) = o' (fr + i)) → tyR o fr k = tyR o' fr k
  | 0, _ => rfl
  | k + 1, h => by
    unfold tyR
    rw [tyR_congr k (fun i hi => h i (by omega)), h k (by omega)]
/-! stacks in rows -/
def SV (g : Nat → Int32) : List Int → Prop
  | [] => True
  | x :: W => (g W.length).toInt = x ∧ SV g W
theorem SV.up {g : Nat → Int32} {k : Nat} {x : Int32} : ∀ {W : List Int}, W.length ≤ k → SV g W → SV (upd g k x) W
  | [], _, _ => True.intro
  | y :: W, h, ⟨h1, h2⟩ => ⟨by rw [upd_n _ _ (by simp at h; omega)]; exact h1, SV.up (by simp at h; omega) h2⟩
theorem SV.put {g : Nat → Int32} {x : Int32} {y : Int} {W : List Int} (h : SV g W) (hx : x.toInt = y) : SV (upd g W.length x) (y :: W) := ⟨by rw [upd_s]; exact hx, h.up (Nat.le_refl _)⟩
def SL (g : Nat → Int64) : List Int → Prop
  | [] => True
  | x :: W => (g W.length).toInt = x ∧ SL g W
theorem SL.up {g : Nat → Int64} {k : Nat} {x : Int64} : ∀ {W : List Int}, W.length ≤ k → SL g W → SL (vp_updL g k x) W
  | [], _, _ => True.intro
  | y :: W, h, ⟨h1, h2⟩ => ⟨by rw [pk_uLn (by simp at h; omega)]; exact h1, SL.up (by simp at h; omega) h2⟩
theorem SL.put {g : Nat → Int64} {x : Int64} {y : Int} {W : List Int} (h : SL g W) (hx : x.toInt = y) : SL (vp_updL g W.length x) (y :: W) := ⟨by rw [pk_uLs]; exact hx, h.up (Nat.le_refl _)⟩
def SB (g : Nat → Int32) : List Bool → Prop
  | [] => True
  | x :: W => g W.length = b2 x ∧ SB g W
theorem SB.up {g : Nat → Int32} {k : Nat} {x : Int32} : ∀ {W : List Bool}, W.length ≤ k → SB g W → SB (upd g k x) W
  | [], _, _ => True.intro
  | y :: W, h, ⟨h1, h2⟩ => ⟨by rw [upd_n _ _ (by simp at h; omega)]; exact h1, SB.up (by simp at h; omega) h2⟩
theorem SB.put {g : Nat → Int32} {x : Int32} {y : Bool} {W : List Bool} (h : SB g W) (hx : x = b2 y) : SB (upd g W.length x) (y :: W) := ⟨by rw [upd_s]; exact hx, h.up (Nat.le_refl _)⟩
