/-! changes: the class's search -/
theorem m1_nI {v : Nat} (h : v < 2147483648) : nI v ≠ -1 := fun e => by
  have e2 := congrArg Int32.toInt e
  rw [nI_toInt (by omega), show (-1 : Int32).toInt = -1 from rfl] at e2
  omega
def cntN (g : Nat → Int32) : Nat → Nat
  | 0 => 0
  | k + 1 => cntN g k + if g k = -1 then 0 else 1
theorem cntN_le (g : Nat → Int32) : ∀ k, cntN g k ≤ k
  | 0 => Nat.le_refl _
  | k + 1 => by
    have := cntN_le g k
    have e : cntN g (k + 1) = cntN g k + if g k = -1 then 0 else 1 := rfl
    rw [e]
    split <;> omega
theorem cntN_lt (g : Nat → Int32) {x : Nat} (hx : g x = -1) : ∀ k, x < k → cntN g k < k
  | 0, h => absurd h (Nat.not_lt_zero x)
  | k + 1, h => by
    have e : cntN g (k + 1) = cntN g k + if g k = -1 then 0 else 1 := rfl
    rw [e]
    by_cases q : x = k
    · rw [← q, if_pos hx]
      have := cntN_le g x
      omega
    · have := cntN_lt g hx k (by omega)
      split <;> omega
theorem cntN_up (g : Nat → Int32) {x : Nat} {v : Int32} (hx : g x = -1) (hv : v ≠ -1) : ∀ k, cntN (upd g x v) k = cntN g k + if x < k then 1 else 0
  | 0 => by rw [if_neg (Nat.not_lt_zero x)]; rfl
  | k + 1 => by
    have e : cntN (upd g x v) (k + 1) = cntN (upd g x v) k + if upd g x v k = -1 then 0 else 1 := rfl
    have e2 : cntN g (k + 1) = cntN g k + if g k = -1 then 0 else 1 := rfl
    rw [e, e2, cntN_up g hx hv k]
    by_cases q : x = k
    · subst q
      rw [upd_s, if_neg hv, if_pos hx, if_neg (Nat.lt_irrefl x), if_pos (by omega)]
    · rw [upd_n _ _ (fun z => q z.symm)]
      by_cases q2 : x < k
      · rw [if_pos q2, if_pos (show x < k + 1 by omega)]; omega
      · rw [if_neg q2, if_neg (show ¬ x < k + 1 by omega)]; omega
theorem cntN_0 {g : Nat → Int32} : ∀ k, (∀ x, x < k → g x = -1) → cntN g k = 0
  | 0, _ => rfl
  | k + 1, h => by
    have e : cntN g (k + 1) = cntN g k + if g k = -1 then 0 else 1 := rfl
    rw [e, if_pos (h k (by omega)), cntN_0 k (fun x hx => h x (by omega))]
def upd' (u : Nat → Nat) (k v : Nat) : Nat → Nat := fun q => if q = k then v else u q
/-- the queue, at head i -/
def CQ (N : Nat) (P δ : Nat → Nat) (aj : Nat → List Nat) (i Q lev : Nat) (u : Nat → Nat) (f : Nat → Nat → Int32) : Prop :=
  i ≤ Q ∧ Q = cntN (f 237) N ∧
  (∀ q, q < Q → u q < N ∧ f 236 q = nI (P (u q)) ∧ f 237 (u q) = nI (δ (u q))) ∧
  (∀ x, x < N → f 237 x ≠ -1 → ∃ q, q < Q ∧ u q = x) ∧
  (∀ a b, a ≤ b → b < Q → δ (u a) ≤ δ (u b)) ∧
  (∀ a, a < i → ∀ x, x ∈ aj (u a) → f 237 x ≠ -1) ∧
  (∀ a, a < i → δ (u a) ≤ lev) ∧ (∀ a, i ≤ a → a < Q → lev ≤ δ (u a)) ∧ (∀ a, a < Q → δ (u a) ≤ lev + 1) ∧
  (∀ x, x < N → δ x ≤ lev → f 237 x ≠ -1)
theorem CQ.cnt {N : Nat} {P δ : Nat → Nat} {aj : Nat → List Nat} {i Q lev : Nat} {u : Nat → Nat} {f : Nat → Nat → Int32} (c : CQ N P δ aj i Q lev u f) : Q ≤ N := by
  rw [c.2.1]; exact cntN_le _ _
/-- what stands when the search has ended -/
def CDn (N : Nat) (δ : Nat → Nat) (s : Nat) (g : Nat → Int32) : Prop := g s = nI (δ s) ∧ (∀ x, x < N → g x = -1 ∨ g x = nI (δ x)) ∧ ∀ x, x < N → δ x < δ s → g x = nI (δ x)
section CSearch
variable {n N : Nat} {R P h : Nat → Nat} {nb : Nat → Nat → Nat} {aj : Nat → List Nat} {t : Nat} {δ : Nat → Nat}
theorem CQ.all (T : Tab n N R P h nb aj) (D : Dst N t aj δ) {Q lev : Nat} {u : Nat → Nat} {f : Nat → Nat → Int32} (c : CQ N P δ aj Q Q lev u f) : ∀ k x, x < N → δ x ≤ k → f 237 x ≠ -1 := by
  obtain ⟨c1, c2, c3, c4, c5, c6, c7, c8, c9, c10⟩ := c
  obtain ⟨d0, d1, d2, d3⟩ := D
  intro k
  induction k with
  | zero => exact fun x hx hk => c10 x hx (by omega)
  | succ k ih =>
    intro x hx hk
    by_cases q : x = t
    · exact c10 x hx (by have := (d0 x hx).mpr q; omega)
    · obtain ⟨j, hj, j1, j2⟩ := d2 x hx q
      obtain ⟨b, b1, b2⟩ := c4 j hj (ih j hj (by omega))
      rw [← b2] at j1
      exact c6 b b1 x j1
theorem CQ.out (T : Tab n N R P h nb aj) (D : Dst N t aj δ) {i Q lev s : Nat} {u : Nat → Nat} {f : Nat → Nat → Int32} (c : CQ N P δ aj i Q lev u f) (hs : s < N) (he : f 237 s ≠ -1 ∨ i = Q) : CDn N δ s (f 237) := by
  have hs1 : f 237 s ≠ -1 := by
    rcases he with he | he
    · exact he
    · subst he; exact c.all T D (δ s) s hs (Nat.le_refl _)
  obtain ⟨c1, c2, c3, c4, c5, c6, c7, c8, c9, c10⟩ := c
  have val : ∀ x, x < N → f 237 x ≠ -1 → f 237 x = nI (δ x) := fun x hx hne => by
    obtain ⟨q, q1, q2⟩ := c4 x hx hne
    rw [← q2]; exact (c3 q q1).2.2
  refine ⟨val s hs hs1, fun x hx => ?_, fun x hx hlt => val x hx (c10 x hx ?_)⟩
  · by_cases q : f 237 x = -1
    · exact Or.inl q
    · exact Or.inr (val x hx q)
  · obtain ⟨q, q1, q2⟩ := c4 s hs hs1
    have := c9 q q1
    rw [q2] at this
    omega
/-- the level of the head -/
theorem CQ.lev (D : Dst N t aj δ) {i Q lev : Nat} {u : Nat → Nat} {f : Nat → Nat → Int32} (c : CQ N P δ aj i Q lev u f) (hi : i < Q) : CQ N P δ aj i Q (δ (u i)) u f := by
  obtain ⟨c1, c2, c3, c4, c5, c6, c7, c8, c9, c10⟩ := c
  have h1 := c8 i (Nat.le_refl _) hi
  have h2 := c9 i hi
  refine ⟨c1, c2, c3, c4, c5, c6, fun a ha => Nat.le_trans (c7 a ha) h1, fun a h3 h4 => c5 i a h3 h4, fun a ha => by have := c9 a ha; omega, fun x hx hd => ?_⟩
  by_cases q : δ x ≤ lev
  · exact c10 x hx q
  · obtain ⟨d0, d1, d2, d3⟩ := D
    have e1 : δ x = lev + 1 := by omega
    have e2 : x ≠ t := fun z => by have := (d0 x hx).mpr z; omega
    obtain ⟨j, hj, j1, j2⟩ := d2 x hx e2
    obtain ⟨b, b1, b2⟩ := c4 j hj (c10 j hj (by omega))
    have hb : b < i := by
      rcases Nat.lt_or_ge b i with q3 | q3
      · exact q3
      · have := c5 i b q3 b1
        rw [b2] at this
        omega
    rw [← b2] at j1
    exact c6 b hb x j1
/-- one more in the queue -/
theorem CQ.add (T : Tab n N R P h nb aj) (D : Dst N t aj δ) {i Q p : Nat} {u : Nat → Nat} {f g : Nat → Nat → Int32} (c : CQ N P δ aj i Q (δ (u i)) u f) (hi : i < Q) (hp : p < 2 ^ (n - 1)) (hp1 : 1 ≤ p) (hx : f 237 (nb (u i) p) = -1) (g1 : g 236 = upd (f 236) Q (nI (P (nb (u i) p)))) (g2 : g 237 = upd (f 237) (nb (u i) p) (nI (δ (u i) + 1))) : CQ N P δ aj i (Q + 1) (δ (upd' u Q (nb (u i) p) i)) (upd' u Q (nb (u i) p)) g := by
  have hQ := c.cnt
  have hN := T.sz
  obtain ⟨c1, c2, c3, c4, c5, c6, c7, c8, c9, c10⟩ := c
  obtain ⟨d0, d1, d2, d3⟩ := D
  have hui := (c3 i hi).1
  obtain ⟨t1, t2, t3⟩ := T.ch (u i) hui p hp hp1
  generalize nb (u i) p = x at *
  have hd := d3 (u i) hui
  have xne : ∀ q, q < Q → u q ≠ x := fun q hq e => by
    have h1 := (c3 q hq).2.2
    rw [e, hx] at h1
    exact m1_nI (by have := d3 x t2; omega) h1.symm
  have hA : x ∈ aj (u i) := by
    rcases t3 with e | e
    · exact absurd e.symm (xne i hi)
    · exact e
  have hδ : δ x = δ (u i) + 1 := by
    have h1 := d1 (u i) x hui t2 hA
    have h2 : ¬ δ x ≤ δ (u i) := fun z => c10 x t2 z hx
    omega
  have uo : ∀ q, q < Q → upd' u Q x q = u q := fun q hq => if_neg (by omega)
  have un : upd' u Q x Q = x := if_pos rfl
  have v1 : nI (δ (u i) + 1) ≠ -1 := m1_nI (by omega)
  have keep : ∀ y, f 237 y ≠ -1 → g 237 y ≠ -1 := fun y hy => by
    rw [g2]
    by_cases q : y = x
    · rw [q, upd_s]; exact v1
    · rw [upd_n _ _ q]; exact hy
  rw [uo i hi]
  refine ⟨by omega, ?_, fun q hq => ?_, fun y hy hne => ?_, fun a b hab hb => ?_, fun a ha y hy => ?_, fun a ha => ?_, fun a ha hb => ?_, fun a ha => ?_, fun y hy hle => keep y (c10 y hy hle)⟩
  · rw [g2, cntN_up _ hx v1, if_pos t2, ← c2]
  · by_cases e : q = Q
    · rw [e, un, g1, g2, upd_s, upd_s, hδ]
      exact ⟨t2, rfl, rfl⟩
    · obtain ⟨a1, a2, a3⟩ := c3 q (by omega)
      rw [uo q (by omega), g1, g2, upd_n _ _ e, upd_n _ _ (xne q (by omega))]
      exact ⟨a1, a2, a3⟩
  · by_cases e : y = x
    · exact ⟨Q, by omega, by rw [un, e]⟩
    · rw [g2, upd_n _ _ e] at hne
      obtain ⟨q, q1, q2⟩ := c4 y hy hne
      exact ⟨q, by omega, by rw [uo q q1]; exact q2⟩
  · by_cases e : b = Q
    · rw [e, un, hδ]
      by_cases e2 : a = Q
      · rw [e2, un, hδ]; exact Nat.le_refl _
      · rw [uo a (by omega)]; exact c9 a (by omega)
    · rw [uo b (by omega), uo a (by omega)]; exact c5 a b hab (by omega)
  · rw [uo a (by omega)] at hy
    exact keep y (c6 a ha y hy)
  · rw [uo a (by omega)]; exact c7 a ha
  · by_cases e : a = Q
    · rw [e, un, hδ]; omega
    · rw [uo a (by omega)]; exact c8 a ha (by omega)
  · by_cases e : a = Q
    · rw [e, un, hδ]; exact Nat.le_refl _
    · rw [uo a (by omega)]; exact c9 a (by omega)
end CSearch
