/-! changes: the small methods of both sides -/
theorem lorD_lt (V : Nat) : ∀ i, lorD V i < 1024
  | 0 => by unfold lorD; omega
  | i + 1 => by
    have e : lorD V (i + 1) = lorD V i ||| 2 ^ (V / 10 ^ i % 10) := rfl
    have h1 : 2 ^ (V / 10 ^ i % 10) < 2 ^ 10 := Nat.pow_lt_pow_right (by omega) (by omega)
    rw [e]
    exact Nat.or_lt_two_pow (n := 10) (lorD_lt V i) h1
theorem lorM_lt (n V : Nat) : ∀ i, lorM n V i < 1024
  | 0 => by unfold lorM; omega
  | i + 1 => by
    have e : lorM n V (i + 1) = lorM n V i ||| 2 ^ (V / 10 ^ (n - 1 - i) % 10) := rfl
    have h1 : 2 ^ (V / 10 ^ (n - 1 - i) % 10) < 2 ^ 10 := Nat.pow_lt_pow_right (by omega) (by omega)
    rw [e]
    exact Nat.or_lt_two_pow (n := 10) (lorM_lt n V i) h1
theorem lorM_D {n V : Nat} (h2 : 2 ≤ n) (h5 : n ≤ 5) : lorM n V n = lorD V n := by
  rcases (show n = 2 ∨ n = 3 ∨ n = 4 ∨ n = 5 by omega) with e | e | e | e <;> subst e
  · show (0 ||| 2 ^ (V / 10 ^ 1 % 10)) ||| 2 ^ (V / 10 ^ 0 % 10) = (0 ||| 2 ^ (V / 10 ^ 0 % 10)) ||| 2 ^ (V / 10 ^ 1 % 10)
    ac_rfl
  · show ((0 ||| 2 ^ (V / 10 ^ 2 % 10)) ||| 2 ^ (V / 10 ^ 1 % 10)) ||| 2 ^ (V / 10 ^ 0 % 10) = ((0 ||| 2 ^ (V / 10 ^ 0 % 10)) ||| 2 ^ (V / 10 ^ 1 % 10)) ||| 2 ^ (V / 10 ^ 2 % 10)
    ac_rfl
  · show (((0 ||| 2 ^ (V / 10 ^ 3 % 10)) ||| 2 ^ (V / 10 ^ 2 % 10)) ||| 2 ^ (V / 10 ^ 1 % 10)) ||| 2 ^ (V / 10 ^ 0 % 10) = (((0 ||| 2 ^ (V / 10 ^ 0 % 10)) ||| 2 ^ (V / 10 ^ 1 % 10)) ||| 2 ^ (V / 10 ^ 2 % 10)) ||| 2 ^ (V / 10 ^ 3 % 10)
    ac_rfl
  · show ((((0 ||| 2 ^ (V / 10 ^ 4 % 10)) ||| 2 ^ (V / 10 ^ 3 % 10)) ||| 2 ^ (V / 10 ^ 2 % 10)) ||| 2 ^ (V / 10 ^ 1 % 10)) ||| 2 ^ (V / 10 ^ 0 % 10) = ((((0 ||| 2 ^ (V / 10 ^ 0 % 10)) ||| 2 ^ (V / 10 ^ 1 % 10)) ||| 2 ^ (V / 10 ^ 2 % 10)) ||| 2 ^ (V / 10 ^ 3 % 10)) ||| 2 ^ (V / 10 ^ 4 % 10)
    ac_rfl
theorem full_nI {n : Nat} (h5 : n ≤ 5) : ((1 : Int32) <<< (nI n &&& 31)) - 1 = nI (2 ^ n - 1) := by
  rw [shl_pow (by omega), show (1 : Int32) = nI 1 from rfl, sub_nI Nat.one_le_two_pow]
theorem p2_le {n : Nat} (h5 : n ≤ 5) : 2 ^ n ≤ 32 := Nat.le_trans (Nat.pow_le_pow_right (by omega) h5) (by decide)
theorem p10_le {n : Nat} (h5 : n ≤ 5) : 10 ^ n ≤ 100000 := Nat.le_trans (Nat.pow_le_pow_right (by omega) h5) (by decide)
theorem dd_nI {V i : Nat} (hV : V < 2147483648) : nI (V / 10 ^ i) / 10 = nI (V / 10 ^ (i + 1)) ∧ nI (V / 10 ^ i) - nI (V / 10 ^ i) / 10 * 10 = nI (V / 10 ^ i % 10) := by
  have h1 : V / 10 ^ i < 2147483648 := Nat.lt_of_le_of_lt (Nat.div_le_self _ _) hV
  refine ⟨?_, rem_nI (b := 10) h1 (by omega) (by omega)⟩
  rw [Nat.pow_succ, ← Nat.div_div_eq_div_mul]
  exact pk_div (d := 10) (by omega) (by omega) (by omega)
theorem kX4_packed (G : GP) (d : Nat) {n : Nat} (h2 : 2 ≤ n) (h5 : n ≤ 5) (x : Int32) (m : Mem) (K : Int32 → Mem → Prop) (h1 : ∀ V, x = nI V → V < 10 ^ n → lorD V n = 2 ^ n - 1 → K (nI (pkD V n)) m) (h0 : (∀ V, V < 10 ^ n → lorD V n = 2 ^ n - 1 → x ≠ nI V) → K (-1) m) : Evi G d mX4_packed [.int (nI n), .int x] m K := by
  have hp := p10_le h5
  have hp2 := p2_le h5
  refine vX4_packed G d _ x m K ⟨fun z => ?_, fun z => h0 (fun V hV _ e => z ?_)⟩
  · obtain ⟨V, hV, rfl⟩ := nI_of (zl.mpr z)
    have no : ¬ (V < 10 ^ n ∧ lorD V n = 2 ^ n - 1) → K (-1) m := fun y => h0 (fun W hW hW2 e => y (by
      have := (eq_nI (a := V) (b := W) (by omega) (by omega)).mp e
      subst this
      exact ⟨hW, hW2⟩))
    have lp : ∀ (f i : Nat) (u1 u6 : Value), i + f = n → Gw G d mX4_packed 16 [.int (nI n), u1, .int (nI (V / 10 ^ i)), .int (nI (lorD V i)), .int (nI (pkD V i)), .int (nI i), u6] [] m (Qi K) := by
      intro f
      induction f with
      | zero =>
        intro i u1 u6 e
        have : i = n := by omega
        subst this
        have hd : V / 10 ^ i < 2147483648 := Nat.lt_of_le_of_lt (Nat.div_le_self _ _) (by omega)
        have e1 : nI (V / 10 ^ i) = 0 ↔ V / 10 ^ i = 0 := eq_nI (b := 0) (by omega) (by omega)
        have e2 : V / 10 ^ i = 0 ↔ V < 10 ^ i := by
          rw [Nat.div_eq_zero_iff]
          have := Nat.pow_pos (n := i) (show 0 < 10 by omega)
          omega
        have hll := lorD_lt V i
        have e3 : nI (lorD V i) = nI (2 ^ i - 1) ↔ lorD V i = 2 ^ i - 1 := eq_nI (by omega) (by omega)
        refine vX4_packed_16 G d _ u1 _ _ _ _ u6 m K ⟨fun _ => ?_, fun y => absurd ((le_nI (by omega) (by omega)).mpr (Nat.le_refl _)) y⟩
        rw [full_nI h5, e1, e2, e3]
        exact ⟨fun y => no (fun w => y w.1), fun y => ⟨fun w => no (fun q => w q.2), fun w => h1 V rfl y w⟩⟩
      | succ f ih =>
        intro i u1 u6 e
        obtain ⟨d1, d2⟩ := dd_nI (V := V) (i := i) (by omega)
        have hdg : V / 10 ^ i % 10 < 10 := Nat.mod_lt _ (by omega)
        refine vX4_packed_16 G d _ u1 _ _ _ _ u6 m K ⟨fun y => absurd ((le_nI (a := n) (b := i) (by omega) (by omega)).mp y) (by omega), fun _ x1 e1 x2 e2 x3 e3 x4 e4 x5 e5 => ?_⟩
        rw [d2] at e1
        rw [d1] at e2
        have hsh : nI (V / 10 ^ i % 10) <<< (nI (3 * i) &&& 31) = nI ((V / 10 ^ i % 10) <<< (3 * i)) := shl_nI (by omega) (by
          have h3 : 2 ^ (3 * i) ≤ 2 ^ 12 := Nat.pow_le_pow_right (by omega) (by omega)
          have h4 : V / 10 ^ i % 10 * 2 ^ (3 * i) ≤ 9 * 2 ^ 12 := Nat.mul_le_mul (by omega) h3
          omega)
        rw [e1, show (3 : Int32) * nI i = nI (3 * i) from pk_mul 3 i, hsh, or_nI] at e3
        rw [e1, shl_pow (by omega), or_nI] at e4
        rw [e2, e3, e4, e5, show nI i + 1 = nI (i + 1) from nI_add i 1]
        exact ih (i + 1) _ _ (by omega)
    have := lp n 0 (.int (nI V)) uu (by omega)
    rw [Nat.pow_zero, Nat.div_one] at this
    exact this
  · rw [e]
    exact (le_nI (a := 0) (by omega) (by omega)).mpr (Nat.zero_le _)
theorem kX4_rankOf (G : GP) (d : Nat) {n : Nat} (h5 : n ≤ 5) (row : Int32) (m : Mem) (K : Int32 → Mem → Prop) (hK : K (rnkV n row) m) : Evi G (d + 1) mX4_rankOf [.int (nI n), .int row] m K := by
  refine vX4_rankOf G d _ _ m K (fun x1 e1 x2 e2 => ?_)
  have lp : ∀ (i : Nat) (u r l4 : Int32) (u0 u5 : Value), i ≤ 5 → l4 = nI i - 1 → K (rkF row i u r) m → Gw G (d + 1) mX4_rankOf 13 [u0, .int row, .int u, .int r, .int l4, u5] [] m (Qi K) := by
    intro i
    induction i with
    | zero =>
      intro u r l4 u0 u5 _ e hk
      subst e
      exact vX4_rankOf_13 G d u0 _ _ _ _ u5 m K ⟨fun _ => hk, fun z => absurd (by decide) z⟩
    | succ i ih =>
      intro u r l4 u0 u5 hi e hk
      rw [nI_p] at e
      subst e
      refine vX4_rankOf_13 G d u0 _ _ _ _ u5 m K ⟨fun z => absurd z (neg_nI i (by omega)), fun _ x3 e3 x4 e4 x5 e5 x6 e6 => ?_⟩
      subst e3
      rw [e4, e5]
      refine ih _ _ x6 _ _ (by omega) ?_ hk
      rw [e6, Int32.sub_eq_add_neg]
  rw [e1, e2]
  exact lp n _ 0 _ _ _ h5 (by rw [show (1 : Int32) = nI 1 from rfl]) hK
theorem kX4_unpacked (G : GP) (d : Nat) {n : Nat} (h5 : n ≤ 5) (row : Int32) (m : Mem) (K : Int32 → Mem → Prop) (hK : K (upF row n 0) m) : Evi G d mX4_unpacked [.int (nI n), .int row] m K := by
  refine vX4_unpacked G d _ _ m K (fun x1 e1 => ?_)
  have lp : ∀ (i : Nat) (x l3 : Int32) (u0 : Value), i ≤ 5 → l3 = nI i - 1 → K (upF row i x) m → Gw G d mX4_unpacked 6 [u0, .int row, .int x, .int l3] [] m (Qi K) := by
    intro i
    induction i with
    | zero =>
      intro x l3 u0 _ e hk
      subst e
      exact vX4_unpacked_6 G d u0 _ _ _ m K ⟨fun _ => hk, fun z => absurd (by decide) z⟩
    | succ i ih =>
      intro x l3 u0 hi e hk
      rw [nI_p] at e
      subst e
      refine vX4_unpacked_6 G d u0 _ _ _ m K ⟨fun z => absurd z (neg_nI i (by omega)), fun _ x2 e2 x3 e3 => ?_⟩
      subst e2
      refine ih _ x3 _ (by omega) ?_ hk
      rw [e3, Int32.sub_eq_add_neg]
  exact lp n 0 x1 _ h5 e1 hK
theorem kX4_changed (G : GP) (d : Nat) (row pairs : Int32) (m : Mem) (K : Int32 → Mem → Prop) (hK : K (chV row pairs) m) : Evi G d mX4_changed [.int row, .int pairs] m K := by
  have lp : ∀ (f i : Nat) (x : Int32) (u4 : Value), i + f = 4 → K (chF row pairs f x (nI i)) m → Gw G d mX4_changed 14 [.int row, .int pairs, .int x, .int (nI i), u4] [] m (Qi K) := by
    intro f
    induction f with
    | zero =>
      intro i x u4 e hk
      have : i = 4 := by omega
      subst this
      exact vX4_changed_14 G d _ _ _ _ u4 m K ⟨fun _ => hk, fun z => absurd (by decide) z⟩
    | succ f ih =>
      intro i x u4 e hk
      have ec : chF row pairs (f + 1) x (nI i) = if ((pairs >>> (nI i &&& 31)) &&& 1) = 0 then chF row pairs f x (nI i + 1) else chF row pairs f (x ^^^ (((((row >>> (((3 : Int32) * nI i) &&& 31)) ^^^ (row >>> ((((3 : Int32) * nI i) + 3) &&& 31))) &&& 7) <<< (((3 : Int32) * nI i) &&& 31)) ||| ((((row >>> (((3 : Int32) * nI i) &&& 31)) ^^^ (row >>> ((((3 : Int32) * nI i) + 3) &&& 31))) &&& 7) <<< ((((3 : Int32) * nI i) + 3) &&& 31)))) (nI i + 1) := rfl
      rw [ec, ← nI_succ] at hk
      refine vX4_changed_14 G d _ _ _ _ u4 m K ⟨fun z => absurd ((le_nI (a := 4) (b := i) (by omega) (by omega)).mp z) (by omega), fun _ => ⟨fun z x1 e1 => ?_, fun z x2 e2 x3 e3 x4 e4 => ?_⟩⟩
      · rw [if_pos z] at hk
        rw [e1, ← nI_succ]
        exact ih (i + 1) x _ (by omega) hk
      · rw [if_neg z] at hk
        rw [e3, e4, ← nI_succ, e2]
        exact ih (i + 1) _ _ (by omega) hk
  refine vX4_changed G d _ _ m K ⟨fun z => ?_, fun z => ?_⟩
  · unfold chV at hK; rw [if_pos z] at hK
    exact lp 4 0 row _ (by omega) hK
  · unfold chV at hK; rw [if_neg z] at hK
    exact hK
theorem kX12_tens (G : GP) (d : Nat) {n : Nat} (h5 : n ≤ 5) (m : Mem) (K : Int32 → Mem → Prop) (hK : K (nI (10 ^ n)) m) : Evi G d mX12_tens [.int (nI n)] m K := by
  refine vX12_tens G d _ m K ?_
  have lp : ∀ (f i : Nat), i + f = n → Gw G d mX12_tens 4 [.int (nI n), .int (nI (10 ^ i)), .int (nI i)] [] m (Qi K) := by
    intro f
    induction f with
    | zero =>
      intro i e
      have : i = n := by omega
      subst this
      exact vX12_tens_4 G d _ _ _ m K ⟨fun _ => hK, fun y => absurd ((le_nI (by omega) (by omega)).mpr (Nat.le_refl _)) y⟩
    | succ f ih =>
      intro i e
      refine vX12_tens_4 G d _ _ _ m K ⟨fun y => absurd ((le_nI (a := n) (b := i) (by omega) (by omega)).mp y) (by omega), fun _ x1 e1 x2 e2 => ?_⟩
      rw [e1, e2, show nI (10 ^ i) * 10 = nI (10 ^ (i + 1)) from pk_mul (10 ^ i) 10, ← nI_succ]
      exact ih (i + 1) (by omega)
  exact lp n 0 (by omega)
theorem kX12_digitOf (G : GP) (d : Nat) {n V i : Nat} (h5 : n ≤ 5) (hV : V < 2147483648) (hi : i < n) (m : Mem) (K : Int32 → Mem → Prop) (hK : K (nI (V / 10 ^ (n - 1 - i) % 10)) m) : Evi G d mX12_digitOf [.int (nI V), .int (nI n), .int (nI i)] m K := by
  refine vX12_digitOf G d _ _ _ m K (fun x1 e1 => ?_)
  have lp : ∀ (f j : Nat) (u0 u1 : Value), f + j = n - 1 - i → Gw G d mX12_digitOf 7 [u0, u1, .int (nI i), .int (nI (V / 10 ^ j)), .int (nI (i + f))] [] m (Qi K) := by
    intro f
    induction f with
    | zero =>
      intro j u0 u1 e
      refine vX12_digitOf_7 G d u0 u1 _ _ _ m K ⟨fun _ => ?_, fun y => absurd ((le_nI (a := i + 0) (b := i) (by omega) (by omega)).mpr (Nat.le_refl _)) y⟩
      rw [(dd_nI (V := V) (i := j) hV).2, show j = n - 1 - i by omega]
      exact hK
    | succ f ih =>
      intro j u0 u1 e
      refine vX12_digitOf_7 G d u0 u1 _ _ _ m K ⟨fun y => absurd ((le_nI (a := i + (f + 1)) (b := i) (by omega) (by omega)).mp y) (by omega), fun _ x2 e2 x3 e3 => ?_⟩
      rw [e2, e3, (dd_nI (V := V) (i := j) hV).1, show i + (f + 1) = (i + f) + 1 by omega, pk_m1]
      exact ih (j + 1) _ _ (by omega)
  have e2 : x1 = nI (i + (n - 1 - i)) := by
    rw [e1, show n = (n - 1) + 1 by omega, nI_p]
    congr 1; omega
  rw [e2]
  have := lp (n - 1 - i) 0 (.int (nI V)) (.int (nI n)) (by omega)
  rw [Nat.pow_zero, Nat.div_one] at this
  exact this
theorem kX12_isRow (G : GP) (d : Nat) {n V : Nat} (h2 : 2 ≤ n) (h5 : n ≤ 5) (hV : V < 2147483648) (m : Mem) (K : Int32 → Mem → Prop) (h1 : lorD V n = 2 ^ n - 1 → K 1 m) (h0 : lorD V n ≠ 2 ^ n - 1 → K 0 m) : Evi G (d + 1) mX12_isRow [.int (nI V), .int (nI n)] m K := by
  have hp2 := p2_le h5
  refine vX12_isRow G d _ _ m K ?_
  have lp : ∀ (f i : Nat), i + f = n → Gw G (d + 1) mX12_isRow 4 [.int (nI V), .int (nI n), .int (nI (lorM n V i)), .int (nI i)] [] m (Qi K) := by
    intro f
    induction f with
    | zero =>
      intro i e
      have : i = n := by omega
      subst this
      have hll := lorM_lt i V i
      have e3 : nI (lorM i V i) = nI (2 ^ i - 1) ↔ lorM i V i = 2 ^ i - 1 := eq_nI (by omega) (by omega)
      refine vX12_isRow_4 G d _ _ _ _ m K ⟨fun _ => ?_, fun y => absurd ((le_nI (by omega) (by omega)).mpr (Nat.le_refl _)) y⟩
      rw [full_nI h5, e3, lorM_D h2 h5]
      exact ⟨h0, h1⟩
    | succ f ih =>
      intro i e
      have hdg : V / 10 ^ (n - 1 - i) % 10 < 10 := Nat.mod_lt _ (by omega)
      refine vX12_isRow_4 G d _ _ _ _ m K ⟨fun y => absurd ((le_nI (a := n) (b := i) (by omega) (by omega)).mp y) (by omega), fun _ => ?_⟩
      refine kX12_digitOf G d h5 hV (by omega) m _ (fun x3 e3 x4 e4 => ?_)
      rw [shl_pow (by omega), or_nI] at e3
      rw [e3, e4, ← nI_succ]
      exact ih (i + 1) (by omega)
  exact lp n 0 (by omega)
theorem kX12_isChange (G : GP) (d : Nat) {n V W : Nat} (h2 : 2 ≤ n) (h5 : n ≤ 5) (hV : V < 2147483648) (hW : W < 2147483648) (m : Mem) (K : Int32 → Mem → Prop) (h1 : icV n V W = true → K 1 m) (h0 : ¬ icV n V W = true → K 0 m) : Evi G (d + 1) mX12_isChange [.int (nI V), .int (nI W), .int (nI n)] m K := by
  refine vX12_isChange G d _ _ _ m K ?_
  have dq : ∀ (A B i j : Nat), nI (A / 10 ^ i % 10) = nI (B / 10 ^ j % 10) ↔ A / 10 ^ i % 10 = B / 10 ^ j % 10 := fun A B i j => eq_nI (by omega) (by omega)
  have evw : nI V = nI W ↔ V = W := eq_nI (by omega) (by omega)
  have lp : ∀ (f i : Nat), n ≤ i + f → i ≤ n + 1 → icF n V W f i = icF n V W n 0 → Gw G (d + 1) mX12_isChange 2 [.int (nI V), .int (nI W), .int (nI n), .int (nI i)] [] m (Qi K) := by
    have fin : ∀ i, n ≤ i → i ≤ n + 1 → icF n V W n 0 = true → Gw G (d + 1) mX12_isChange 2 [.int (nI V), .int (nI W), .int (nI n), .int (nI i)] [] m (Qi K) := fun i hi hi2 hc => by
      refine vX12_isChange_2 G d _ _ _ _ m K ⟨fun _ => ?_, fun y => absurd ((le_nI (by omega) (by omega)).mpr hi) y⟩
      rw [evw]
      refine ⟨fun y => h0 (fun z => ?_), fun y => h1 ?_⟩
      · unfold icV at z; simp [y] at z
      · unfold icV; rw [hc]; simp [y]
    intro f
    induction f with
    | zero => exact fun i e hi2 hc => fin i (by omega) hi2 hc.symm
    | succ f ih =>
      intro i e hi2 hc
      by_cases q : n ≤ i
      · refine fin i q hi2 ?_
        rw [← hc]
        unfold icF
        rw [if_pos q]
      have ec : icF n V W (f + 1) i = if n ≤ i then true else if V / 10 ^ (n - 1 - i) % 10 = W / 10 ^ (n - 1 - i) % 10 then icF n V W f (i + 1) else if i + 1 < n ∧ V / 10 ^ (n - 1 - i) % 10 = W / 10 ^ (n - 1 - (i + 1)) % 10 ∧ V / 10 ^ (n - 1 - (i + 1)) % 10 = W / 10 ^ (n - 1 - i) % 10 then icF n V W f (i + 2) else false := rfl
      rw [ec, if_neg q] at hc
      have s1 : nI i + 1 = nI (i + 1) := nI_add i 1
      have s2 : nI i + 2 = nI (i + 2) := nI_add i 2
      have bad : icF n V W n 0 = false → K 0 m := fun y => h0 (fun z => by unfold icV at z; rw [y] at z; exact absurd z (by simp))
      refine vX12_isChange_2 G d _ _ _ _ m K ⟨fun y => absurd ((le_nI (a := n) (b := i) (by omega) (by omega)).mp y) q, fun _ => ?_⟩
      refine kX12_digitOf G d h5 hV (by omega) m _ (kX12_digitOf G d h5 hW (by omega) m _ ?_)
      rw [dq, s1, s2]
      have e6 : nI n ≤ nI (i + 1) ↔ n ≤ i + 1 := le_nI (by omega) (by omega)
      rw [e6]
      refine ⟨fun ne => ?_, fun ee x14 e14 => ?_⟩
      · rw [if_neg ne] at hc
        refine ⟨fun q1 => bad ?_, fun q1 => ?_⟩
        · rw [if_neg (fun w => by omega)] at hc; exact hc.symm
        · refine kX12_digitOf G d h5 hV (by omega) m _ (kX12_digitOf G d h5 hW (by omega) m _ ?_)
          rw [dq]
          refine ⟨fun n1 => bad ?_, fun e1 => ?_⟩
          · rw [if_neg (fun w => n1 w.2.1)] at hc; exact hc.symm
          · refine kX12_digitOf G d h5 hV (by omega) m _ (kX12_digitOf G d h5 hW (by omega) m _ ?_)
            rw [dq]
            refine ⟨fun n1 => bad ?_, fun e2 x13 e13 => ?_⟩
            · rw [if_neg (fun w => n1 w.2.2)] at hc; exact hc.symm
            · rw [if_pos ⟨by omega, e1, e2⟩] at hc
              rw [e13]
              exact ih (i + 2) (by omega) (by omega) hc
      · rw [if_pos ee] at hc
        rw [e14]
        exact ih (i + 1) (by omega) (by omega) hc
  exact lp n 0 (by omega) (by omega) rfl
