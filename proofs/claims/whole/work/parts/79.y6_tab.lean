/-! ROWS: what the tables say, in one -/
def Tab (n N : Nat) (R P h : Nat → Nat) (nb : Nat → Nat → Nat) (aj : Nat → List Nat) : Prop :=
  (2 ≤ n ∧ n ≤ 5 ∧ 2 ≤ N ∧ N ≤ 120) ∧
  (∀ k, k < N → R k < 10 ^ n ∧ lorD (R k) n = 2 ^ n - 1) ∧
  (∀ k, k + 1 < N → R k < R (k + 1)) ∧
  (∀ V, V < 10 ^ n → lorD V n = 2 ^ n - 1 → ∃ k, k < N ∧ R k = V) ∧
  (∀ k, k < N → pkD (R k) n = P k ∧ P k < 32768) ∧
  (∀ k, k < N → rnkV n (nI (P k)) = nI k) ∧
  (∀ k, k < N → ∀ p, p < 2 ^ (n - 1) → 1 ≤ p → chV (nI (P k)) (nI p) = nI (P (nb k p)) ∧ nb k p < N ∧ (nb k p = k ∨ nb k p ∈ aj k)) ∧
  (∀ k, k < N → upF (nI (P k)) n 0 = nI (R k)) ∧
  (∀ k, k < N → ∀ e, e < N → (icV n (R k) (R e) = true ↔ e ∈ aj k)) ∧
  (∀ k, k < N → ∀ e, e ∈ aj k → e ≠ k ∧ e < N ∧ k ∈ aj e ∧ ∃ p, p < 2 ^ (n - 1) ∧ 1 ≤ p ∧ nb k p = e) ∧
  (∀ k, k < N → 0 < k → ∃ e, e ∈ aj k ∧ h e < h k) ∧
  (∀ t, t < N → ∀ f, f < N → t ≠ f → h t + h f < N)
theorem Tab.sz {n N : Nat} {R P h : Nat → Nat} {nb : Nat → Nat → Nat} {aj : Nat → List Nat} (T : Tab n N R P h nb aj) : 2 ≤ n ∧ n ≤ 5 ∧ 2 ≤ N ∧ N ≤ 120 := T.1
theorem Tab.rw {n N : Nat} {R P h : Nat → Nat} {nb : Nat → Nat → Nat} {aj : Nat → List Nat} (T : Tab n N R P h nb aj) : ∀ k, k < N → R k < 10 ^ n ∧ lorD (R k) n = 2 ^ n - 1 := T.2.1
theorem Tab.inc {n N : Nat} {R P h : Nat → Nat} {nb : Nat → Nat → Nat} {aj : Nat → List Nat} (T : Tab n N R P h nb aj) : ∀ k, k + 1 < N → R k < R (k + 1) := T.2.2.1
theorem Tab.all {n N : Nat} {R P h : Nat → Nat} {nb : Nat → Nat → Nat} {aj : Nat → List Nat} (T : Tab n N R P h nb aj) : ∀ V, V < 10 ^ n → lorD V n = 2 ^ n - 1 → ∃ k, k < N ∧ R k = V := T.2.2.2.1
theorem Tab.pk {n N : Nat} {R P h : Nat → Nat} {nb : Nat → Nat → Nat} {aj : Nat → List Nat} (T : Tab n N R P h nb aj) : ∀ k, k < N → pkD (R k) n = P k ∧ P k < 32768 := T.2.2.2.2.1
theorem Tab.rk {n N : Nat} {R P h : Nat → Nat} {nb : Nat → Nat → Nat} {aj : Nat → List Nat} (T : Tab n N R P h nb aj) : ∀ k, k < N → rnkV n (nI (P k)) = nI k := T.2.2.2.2.2.1
theorem Tab.ch {n N : Nat} {R P h : Nat → Nat} {nb : Nat → Nat → Nat} {aj : Nat → List Nat} (T : Tab n N R P h nb aj) : ∀ k, k < N → ∀ p, p < 2 ^ (n - 1) → 1 ≤ p → chV (nI (P k)) (nI p) = nI (P (nb k p)) ∧ nb k p < N ∧ (nb k p = k ∨ nb k p ∈ aj k) := T.2.2.2.2.2.2.1
theorem Tab.up {n N : Nat} {R P h : Nat → Nat} {nb : Nat → Nat → Nat} {aj : Nat → List Nat} (T : Tab n N R P h nb aj) : ∀ k, k < N → upF (nI (P k)) n 0 = nI (R k) := T.2.2.2.2.2.2.2.1
theorem Tab.ic {n N : Nat} {R P h : Nat → Nat} {nb : Nat → Nat → Nat} {aj : Nat → List Nat} (T : Tab n N R P h nb aj) : ∀ k, k < N → ∀ e, e < N → (icV n (R k) (R e) = true ↔ e ∈ aj k) := T.2.2.2.2.2.2.2.2.1
theorem Tab.aj {n N : Nat} {R P h : Nat → Nat} {nb : Nat → Nat → Nat} {aj : Nat → List Nat} (T : Tab n N R P h nb aj) : ∀ k, k < N → ∀ e, e ∈ aj k → e ≠ k ∧ e < N ∧ k ∈ aj e ∧ ∃ p, p < 2 ^ (n - 1) ∧ 1 ≤ p ∧ nb k p = e := T.2.2.2.2.2.2.2.2.2.1
theorem Tab.hh {n N : Nat} {R P h : Nat → Nat} {nb : Nat → Nat → Nat} {aj : Nat → List Nat} (T : Tab n N R P h nb aj) : ∀ k, k < N → 0 < k → ∃ e, e ∈ aj k ∧ h e < h k := T.2.2.2.2.2.2.2.2.2.2.1
theorem Tab.hb {n N : Nat} {R P h : Nat → Nat} {nb : Nat → Nat → Nat} {aj : Nat → List Nat} (T : Tab n N R P h nb aj) : ∀ t, t < N → ∀ f, f < N → t ≠ f → h t + h f < N := T.2.2.2.2.2.2.2.2.2.2.2
theorem ct_get {l : List Nat} {v : Nat} (h : l.contains v = true) : ∃ k, k < l.length ∧ l.getD k 0 = v := by
  have hm : v ∈ l := by simpa using h
  obtain ⟨k, hk, e⟩ := List.getElem_of_mem hm
  exact ⟨k, hk, by rw [List.getD_eq_getElem?_getD, List.getElem?_eq_getElem hk, e]; rfl⟩
theorem pw_lt {d n : Nat} (h : 2 ^ d ≤ 2 ^ n - 1) : d < n := by
  rcases Nat.lt_or_ge d n with q | q
  · exact q
  · have h1 := Nat.pow_le_pow_right (show 0 < 2 by omega) q
    have h2 := Nat.one_le_two_pow (n := n)
    omega
theorem tb2_all (V : Nat) (hV : V < 10 ^ 2) (hl : lorD V 2 = 2 ^ 2 - 1) : ∃ k, k < 2 ∧ rR2.getD k 0 = V := by
  have e : lorD V 2 = ((0 ||| 2 ^ (V / 1 % 10)) ||| 2 ^ (V / 10 % 10)) := rfl
  have hle : ((0 ||| 2 ^ (V / 1 % 10)) ||| 2 ^ (V / 10 % 10)) ≤ 2 ^ 2 - 1 := by rw [← e, hl]; exact Nat.le_refl _
  have g1 : V / 10 % 10 < 2 := pw_lt (Nat.le_trans Nat.right_le_or hle)
  have r1 := Nat.le_trans Nat.left_le_or hle
  have g0 : V / 1 % 10 < 2 := pw_lt (Nat.le_trans Nat.right_le_or r1)
  have k := tb2_v (1 * (V / 1 % 10) + 2 * (V / 10 % 10)) (by omega)
  rw [(show ∀ a b : Nat, a < 2 → b < 2 → (1 * a + 2 * b) % 2 = a by intros; omega) _ _ g0 g1] at k
  rw [(show ∀ a b : Nat, a < 2 → b < 2 → (1 * a + 2 * b) / 2 % 2 = b by intros; omega) _ _ g0 g1] at k
  rw [← e, hl, show V / 1 % 10 + 10 * (V / 10 % 10) = V by omega] at k
  rcases k with k | k
  · exact absurd rfl k
  · exact ct_get k
theorem tab2 : Tab 2 2 (fun k => rR2.getD k 0) (fun k => rP2.getD k 0) (fun k => rH2.getD k 0) (fun k p => (rB2.getD k []).getD p 0) (fun k => rA2.getD k []) := by
  refine ⟨by omega, tb2_r, fun k hk => tb2_i k (by omega), tb2_all, tb2_p, tb2_k, fun k hk p hp h1 => ?_, tb2_u, fun k hk e he => ?_, fun k hk e he => ?_, fun k hk h0 => ?_, fun t ht f hf hn => ?_⟩
  · rcases tb2_c k hk p hp with q | q
    · omega
    · exact q
  · rw [tb2_a k hk e he]; simp
  · obtain ⟨q1, q2, q3, p, q4, q5, q6⟩ := tb2_s k hk e he
    exact ⟨q1, q2, q3, p, q4, by omega, q6⟩
  · rcases tb2_h k hk with q | q
    · omega
    · exact q
  · rcases tb2_b t ht f hf with q | q
    · exact absurd q hn
    · exact q
theorem tb3_all (V : Nat) (hV : V < 10 ^ 3) (hl : lorD V 3 = 2 ^ 3 - 1) : ∃ k, k < 6 ∧ rR3.getD k 0 = V := by
  have e : lorD V 3 = (((0 ||| 2 ^ (V / 1 % 10)) ||| 2 ^ (V / 10 % 10)) ||| 2 ^ (V / 100 % 10)) := rfl
  have hle : (((0 ||| 2 ^ (V / 1 % 10)) ||| 2 ^ (V / 10 % 10)) ||| 2 ^ (V / 100 % 10)) ≤ 2 ^ 3 - 1 := by rw [← e, hl]; exact Nat.le_refl _
  have g2 : V / 100 % 10 < 3 := pw_lt (Nat.le_trans Nat.right_le_or hle)
  have r2 := Nat.le_trans Nat.left_le_or hle
  have g1 : V / 10 % 10 < 3 := pw_lt (Nat.le_trans Nat.right_le_or r2)
  have r1 := Nat.le_trans Nat.left_le_or r2
  have g0 : V / 1 % 10 < 3 := pw_lt (Nat.le_trans Nat.right_le_or r1)
  have k := tb3_v (1 * (V / 1 % 10) + 3 * (V / 10 % 10) + 9 * (V / 100 % 10)) (by omega)
  rw [(show ∀ a b c : Nat, a < 3 → b < 3 → c < 3 → (1 * a + 3 * b + 9 * c) % 3 = a by intros; omega) _ _ _ g0 g1 g2] at k
  rw [(show ∀ a b c : Nat, a < 3 → b < 3 → c < 3 → (1 * a + 3 * b + 9 * c) / 3 % 3 = b by intros; omega) _ _ _ g0 g1 g2] at k
  rw [(show ∀ a b c : Nat, a < 3 → b < 3 → c < 3 → (1 * a + 3 * b + 9 * c) / 9 % 3 = c by intros; omega) _ _ _ g0 g1 g2] at k
  rw [← e, hl, show V / 1 % 10 + 10 * (V / 10 % 10) + 100 * (V / 100 % 10) = V by omega] at k
  rcases k with k | k
  · exact absurd rfl k
  · exact ct_get k
theorem tab3 : Tab 3 6 (fun k => rR3.getD k 0) (fun k => rP3.getD k 0) (fun k => rH3.getD k 0) (fun k p => (rB3.getD k []).getD p 0) (fun k => rA3.getD k []) := by
  refine ⟨by omega, tb3_r, fun k hk => tb3_i k (by omega), tb3_all, tb3_p, tb3_k, fun k hk p hp h1 => ?_, tb3_u, fun k hk e he => ?_, fun k hk e he => ?_, fun k hk h0 => ?_, fun t ht f hf hn => ?_⟩
  · rcases tb3_c k hk p hp with q | q
    · omega
    · exact q
  · rw [tb3_a k hk e he]; simp
  · obtain ⟨q1, q2, q3, p, q4, q5, q6⟩ := tb3_s k hk e he
    exact ⟨q1, q2, q3, p, q4, by omega, q6⟩
  · rcases tb3_h k hk with q | q
    · omega
    · exact q
  · rcases tb3_b t ht f hf with q | q
    · exact absurd q hn
    · exact q
theorem tb4_all (V : Nat) (hV : V < 10 ^ 4) (hl : lorD V 4 = 2 ^ 4 - 1) : ∃ k, k < 24 ∧ rR4.getD k 0 = V := by
  have e : lorD V 4 = ((((0 ||| 2 ^ (V / 1 % 10)) ||| 2 ^ (V / 10 % 10)) ||| 2 ^ (V / 100 % 10)) ||| 2 ^ (V / 1000 % 10)) := rfl
  have hle : ((((0 ||| 2 ^ (V / 1 % 10)) ||| 2 ^ (V / 10 % 10)) ||| 2 ^ (V / 100 % 10)) ||| 2 ^ (V / 1000 % 10)) ≤ 2 ^ 4 - 1 := by rw [← e, hl]; exact Nat.le_refl _
  have g3 : V / 1000 % 10 < 4 := pw_lt (Nat.le_trans Nat.right_le_or hle)
  have r3 := Nat.le_trans Nat.left_le_or hle
  have g2 : V / 100 % 10 < 4 := pw_lt (Nat.le_trans Nat.right_le_or r3)
  have r2 := Nat.le_trans Nat.left_le_or r3
  have g1 : V / 10 % 10 < 4 := pw_lt (Nat.le_trans Nat.right_le_or r2)
  have r1 := Nat.le_trans Nat.left_le_or r2
  have g0 : V / 1 % 10 < 4 := pw_lt (Nat.le_trans Nat.right_le_or r1)
  have k := tb4_v (1 * (V / 1 % 10) + 4 * (V / 10 % 10) + 16 * (V / 100 % 10) + 64 * (V / 1000 % 10)) (by omega)
  rw [(show ∀ a b c d : Nat, a < 4 → b < 4 → c < 4 → d < 4 → (1 * a + 4 * b + 16 * c + 64 * d) % 4 = a by intros; omega) _ _ _ _ g0 g1 g2 g3] at k
  rw [(show ∀ a b c d : Nat, a < 4 → b < 4 → c < 4 → d < 4 → (1 * a + 4 * b + 16 * c + 64 * d) / 4 % 4 = b by intros; omega) _ _ _ _ g0 g1 g2 g3] at k
  rw [(show ∀ a b c d : Nat, a < 4 → b < 4 → c < 4 → d < 4 → (1 * a + 4 * b + 16 * c + 64 * d) / 16 % 4 = c by intros; omega) _ _ _ _ g0 g1 g2 g3] at k
  rw [(show ∀ a b c d : Nat, a < 4 → b < 4 → c < 4 → d < 4 → (1 * a + 4 * b + 16 * c + 64 * d) / 64 % 4 = d by intros; omega) _ _ _ _ g0 g1 g2 g3] at k
  rw [← e, hl, show V / 1 % 10 + 10 * (V / 10 % 10) + 100 * (V / 100 % 10) + 1000 * (V / 1000 % 10) = V by omega] at k
  rcases k with k | k
  · exact absurd rfl k
  · exact ct_get k
theorem tab4 : Tab 4 24 (fun k => rR4.getD k 0) (fun k => rP4.getD k 0) (fun k => rH4.getD k 0) (fun k p => (rB4.getD k []).getD p 0) (fun k => rA4.getD k []) := by
  refine ⟨by omega, tb4_r, fun k hk => tb4_i k (by omega), tb4_all, tb4_p, tb4_k, fun k hk p hp h1 => ?_, tb4_u, fun k hk e he => ?_, fun k hk e he => ?_, fun k hk h0 => ?_, fun t ht f hf hn => ?_⟩
  · rcases tb4_c k hk p hp with q | q
    · omega
    · exact q
  · rw [tb4_a k hk e he]; simp
  · obtain ⟨q1, q2, q3, p, q4, q5, q6⟩ := tb4_s k hk e he
    exact ⟨q1, q2, q3, p, q4, by omega, q6⟩
  · rcases tb4_h k hk with q | q
    · omega
    · exact q
  · rcases tb4_b t ht f hf with q | q
    · exact absurd q hn
    · exact q
theorem tb5_all (V : Nat) (hV : V < 10 ^ 5) (hl : lorD V 5 = 2 ^ 5 - 1) : ∃ k, k < 120 ∧ rR5.getD k 0 = V := by
  have e : lorD V 5 = (((((0 ||| 2 ^ (V / 1 % 10)) ||| 2 ^ (V / 10 % 10)) ||| 2 ^ (V / 100 % 10)) ||| 2 ^ (V / 1000 % 10)) ||| 2 ^ (V / 10000 % 10)) := rfl
  have hle : (((((0 ||| 2 ^ (V / 1 % 10)) ||| 2 ^ (V / 10 % 10)) ||| 2 ^ (V / 100 % 10)) ||| 2 ^ (V / 1000 % 10)) ||| 2 ^ (V / 10000 % 10)) ≤ 2 ^ 5 - 1 := by rw [← e, hl]; exact Nat.le_refl _
  have g4 : V / 10000 % 10 < 5 := pw_lt (Nat.le_trans Nat.right_le_or hle)
  have r4 := Nat.le_trans Nat.left_le_or hle
  have g3 : V / 1000 % 10 < 5 := pw_lt (Nat.le_trans Nat.right_le_or r4)
  have r3 := Nat.le_trans Nat.left_le_or r4
  have g2 : V / 100 % 10 < 5 := pw_lt (Nat.le_trans Nat.right_le_or r3)
  have r2 := Nat.le_trans Nat.left_le_or r3
  have g1 : V / 10 % 10 < 5 := pw_lt (Nat.le_trans Nat.right_le_or r2)
  have r1 := Nat.le_trans Nat.left_le_or r2
  have g0 : V / 1 % 10 < 5 := pw_lt (Nat.le_trans Nat.right_le_or r1)
  have k := tb5_v (V / 1 % 10) g0 (1 * (V / 10 % 10) + 5 * (V / 100 % 10) + 25 * (V / 1000 % 10) + 125 * (V / 10000 % 10)) (by omega)
  rw [(show ∀ b c d e : Nat, b < 5 → c < 5 → d < 5 → e < 5 → (1 * b + 5 * c + 25 * d + 125 * e) % 5 = b by intros; omega) _ _ _ _ g1 g2 g3 g4] at k
  rw [(show ∀ b c d e : Nat, b < 5 → c < 5 → d < 5 → e < 5 → (1 * b + 5 * c + 25 * d + 125 * e) / 5 % 5 = c by intros; omega) _ _ _ _ g1 g2 g3 g4] at k
  rw [(show ∀ b c d e : Nat, b < 5 → c < 5 → d < 5 → e < 5 → (1 * b + 5 * c + 25 * d + 125 * e) / 25 % 5 = d by intros; omega) _ _ _ _ g1 g2 g3 g4] at k
  rw [(show ∀ b c d e : Nat, b < 5 → c < 5 → d < 5 → e < 5 → (1 * b + 5 * c + 25 * d + 125 * e) / 125 % 5 = e by intros; omega) _ _ _ _ g1 g2 g3 g4] at k
  rw [← e, hl, show V / 1 % 10 + 10 * (V / 10 % 10) + 100 * (V / 100 % 10) + 1000 * (V / 1000 % 10) + 10000 * (V / 10000 % 10) = V by omega] at k
  rcases k with k | k
  · exact absurd rfl k
  · exact ct_get k
theorem tab5 : Tab 5 120 (fun k => rR5.getD k 0) (fun k => rP5.getD k 0) (fun k => rH5.getD k 0) (fun k p => (rB5.getD k []).getD p 0) (fun k => rA5.getD k []) := by
  refine ⟨by omega, tb5_r, fun k hk => tb5_i k (by omega), tb5_all, tb5_p, tb5_k, fun k hk p hp h1 => ?_, tb5_u, fun k hk e he => ?_, fun k hk e he => ?_, fun k hk h0 => ?_, fun t ht f hf hn => ?_⟩
  · rcases tb5_c k hk p hp with q | q
    · omega
    · exact q
  · rw [tb5_a k hk e he]; simp
  · obtain ⟨q1, q2, q3, p, q4, q5, q6⟩ := tb5_s k hk e he
    exact ⟨q1, q2, q3, p, q4, by omega, q6⟩
  · rcases tb5_h k hk with q | q
    · omega
    · exact q
  · rcases tb5_b t ht f hf with q | q
    · exact absurd q hn
    · exact q
/-- every n has its tables -/
theorem tab_ex {n : Nat} (h2 : 2 ≤ n) (h5 : n ≤ 5) : ∃ (N : Nat) (R P h : Nat → Nat) (nb : Nat → Nat → Nat) (aj : Nat → List Nat), Tab n N R P h nb aj := by
  rcases (show n = 2 ∨ n = 3 ∨ n = 4 ∨ n = 5 by omega) with e | e | e | e <;> subst e
  · exact ⟨_, _, _, _, _, _, tab2⟩
  · exact ⟨_, _, _, _, _, _, tab3⟩
  · exact ⟨_, _, _, _, _, _, tab4⟩
  · exact ⟨_, _, _, _, _, _, tab5⟩
def Lv (aj : Nat → List Nat) (N t : Nat) : Nat → Nat → Prop
  | 0, x => x = t
  | r + 1, x => Lv aj N t r x ∨ ∃ j, j < N ∧ Lv aj N t r j ∧ x ∈ aj j
theorem Lv.mono {aj : Nat → List Nat} {N t r x : Nat} (h : Lv aj N t r x) : ∀ s, Lv aj N t (r + s) x
  | 0 => h
  | s + 1 => Or.inl (Lv.mono h s)
def Dst (N t : Nat) (aj : Nat → List Nat) (δ : Nat → Nat) : Prop := (∀ x, x < N → (δ x = 0 ↔ x = t)) ∧ (∀ j x, j < N → x < N → x ∈ aj j → δ x ≤ δ j + 1) ∧ (∀ x, x < N → x ≠ t → ∃ j, j < N ∧ x ∈ aj j ∧ δ x = δ j + 1) ∧ ∀ x, x < N → δ x < N
theorem Tab.dist {n N : Nat} {R P h : Nat → Nat} {nb : Nat → Nat → Nat} {aj : Nat → List Nat} (T : Tab n N R P h nb aj) {t : Nat} (ht : t < N) : ∃ δ : Nat → Nat, Dst N t aj δ := by
  have dn : ∀ s r y, y < N → h y ≤ s → Lv aj N t r y → Lv aj N t (r + s) 0 := by
    intro s
    induction s with
    | zero =>
      intro r y hy hh hL
      by_cases q : y = 0
      · subst q; exact hL
      · obtain ⟨e, e1, e2⟩ := T.hh y hy (by omega)
        omega
    | succ s ih =>
      intro r y hy hh hL
      by_cases q : y = 0
      · subst q; exact hL.mono _
      · obtain ⟨e, e1, e2⟩ := T.hh y hy (by omega)
        rw [show r + (s + 1) = (r + 1) + s by omega]
        exact ih (r + 1) e (T.aj y hy e e1).2.1 (by omega) (Or.inr ⟨y, hy, hL, e1⟩)
  have up : ∀ s r f, f < N → h f ≤ s → Lv aj N t r 0 → Lv aj N t (r + s) f := by
    intro s
    induction s with
    | zero =>
      intro r y hy hh hL
      by_cases q : y = 0
      · subst q; exact hL
      · obtain ⟨e, e1, e2⟩ := T.hh y hy (by omega)
        omega
    | succ s ih =>
      intro r y hy hh hL
      by_cases q : y = 0
      · subst q; exact hL.mono _
      · obtain ⟨e, e1, e2⟩ := T.hh y hy (by omega)
        obtain ⟨-, e3, e4, -⟩ := T.aj y hy e e1
        exact Or.inr ⟨e, e3, ih r e e3 (by omega) hL, e4⟩
  have ex : ∀ x, x < N → Lv aj N t (h t + h x) x := fun x hx => up (h x) (h t) x hx (Nat.le_refl _) (by have := dn (h t) 0 t ht (Nat.le_refl _) rfl; rw [Nat.zero_add] at this; exact this)
  have hv : ∀ x, ∃ r, x < N → (Lv aj N t r x ∧ ∀ s, s < r → ¬ Lv aj N t s x) := fun x => by
    by_cases hx : x < N
    · obtain ⟨r, h1, h2⟩ := pk_least (fun r => Lv aj N t r x) ⟨_, ex x hx⟩
      exact ⟨r, fun _ => ⟨h1, h2⟩⟩
    · exact ⟨0, fun z => absurd z hx⟩
  obtain ⟨δ, hδ⟩ := Classical.axiomOfChoice hv
  have mn : ∀ x s, x < N → Lv aj N t s x → δ x ≤ s := fun x s hx hL => by
    rcases Nat.lt_or_ge s (δ x) with q | q
    · exact absurd hL ((hδ x hx).2 s q)
    · exact q
  have p0 : ∀ x, x < N → (δ x = 0 ↔ x = t) := fun x hx => by
    constructor
    · intro e
      have := (hδ x hx).1
      rw [e] at this
      exact this
    · intro e
      have := mn x 0 hx e
      omega
  have p1 : ∀ j x, j < N → x < N → x ∈ aj j → δ x ≤ δ j + 1 := fun j x hj hx hA => mn x (δ j + 1) hx (Or.inr ⟨j, hj, (hδ j hj).1, hA⟩)
  refine ⟨δ, p0, p1, fun x hx hne => ?_, fun x hx => ?_⟩
  · have h0 : δ x ≠ 0 := fun z => hne ((p0 x hx).mp z)
    obtain ⟨r, hr⟩ : ∃ r, δ x = r + 1 := ⟨δ x - 1, by omega⟩
    have hL := (hδ x hx).1
    rw [hr] at hL
    rcases hL with hL | ⟨j, hj, hL, hA⟩
    · have := mn x r hx hL; omega
    · have h1 := mn j r hj hL
      have h2 := p1 j x hj hx hA
      exact ⟨j, hj, hA, by omega⟩
  · by_cases e : x = t
    · rw [(p0 x hx).mpr e]; have := T.sz; omega
    · have h1 := mn x _ hx (ex x hx)
      have h2 := T.hb t ht x hx (fun z => e z.symm)
      omega
