/-! the class reads a text: clear, scan, clauses -/
theorem kX8_clear (G : GP) (d t0 : Nat) (m : Mem) (K : Mem → Prop) (ht : t0 < 4) (hK : ∀ m', (∀ c, ¬ (238 + 6 * t0 ≤ c ∧ c ≤ 243 + 6 * t0) → m'.1 c = m.1 c) → m'.1 (238 + 6 * t0) 0 = 0 → m'.1 (238 + 6 * t0) 4 = 0 → m'.1 (238 + 6 * t0) 5 = 0 → (∀ l, l < 3 → m'.1 (238 + 6 * t0 + 4) l = 0 ∧ m'.1 (238 + 6 * t0 + 5) l = 0) → m'.2.2 = m.2.2 → K m') : Evv G (d + 1) mX8_clear [.ref (ga G (238 + 6 * t0))] m K := by
  have hx := tx_all t0 ht
  refine vX8_clear G d (238 + 6 * t0) hx m K (fun m1 em1 m2 em2 m3 em3 => ?_)
  have b0 : m3.1 (238 + 6 * t0) = upd (upd (upd (m.1 (238 + 6 * t0)) 0 0) 4 0) 5 0 := by rw [em3, wI_s, em2, wI_s, em1, wI_s]
  have bo : ∀ c, c ≠ 238 + 6 * t0 → m3.1 c = m.1 c := fun c h => by rw [em3, wI_n _ _ _ h, em2, wI_n _ _ _ h, em1, wI_n _ _ _ h]
  refine qJ7_fill G d (238 + 6 * t0 + 4) 3 hx.2.2.2.2.1 (by omega) 0 m3 _ (fun m4 f1 f2 f3 => ?_)
  refine qJ7_fill G d (238 + 6 * t0 + 5) 3 hx.2.2.2.2.2 (by omega) 0 m4 _ (fun m5 g1 g2 g3 => hK m5 (fun c h => ?_) ?_ ?_ ?_ (fun l hl => ⟨?_, g1 l hl⟩) ?_)
  · rw [g2 c (by omega), f2 c (by omega), bo c (by omega)]
  · rw [g2 _ (by omega), f2 _ (by omega), b0, upd_n _ _ (by omega), upd_n _ _ (by omega), upd_s]
  · rw [g2 _ (by omega), f2 _ (by omega), b0, upd_n _ _ (by omega), upd_s]
  · rw [g2 _ (by omega), f2 _ (by omega), b0, upd_s]
  · rw [g2 _ (by omega)]; exact f1 l hl
  · rw [g3, f3, em3, em2, em1]; rfl
