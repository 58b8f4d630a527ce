/-! the class reads a text: clear, scan, clauses -/
theorem kX8_clear (G : GP) (d t0 : Nat) (m : Mem) (K : Mem → Prop) (ht : t0 < 4) (hK : ∀ m', (∀ c, ¬ (238 + 6 * t0 ≤ c ∧ c ≤ 243 + 6 * t0) → m'.1 c = m.1 c) → m'.1 (238 + 6 * t0) 0 = 0 → m'.1 (238 + 6 * t0) 4 = 0 → m'.1 (238 + 6 * t0) 5 = 0 → (∀ l, l < 3 → m'.1 (238 + 6 * t0 + 4) l = 0 ∧ m'.1 (238 + 6 * t0 + 5) l = 0) → m'.2.2 = m.2.2 → K m') : Evv G (d + 1) mX8_clear [.ref (ga G (238 + 6 * t0))] m K := by
  have hx := tx_all t0 ht
  refine vX8_clear G d (238 + 6 * t0) hx m K (fun m1 em1 m2 em2 m3 em3 => ?_)
  have b0 : m3.1 (238 + 6 * t0) = upd (upd (upd (m.1 (238 + 6 * t0)) 0 0) 4 0) 5 0 := by rw [em3, wI_s, em2, wI_s, em1, wI_s]
  have bo : ∀ c, c ≠ 238 + 6 * t0 → m3.1 c = m.1 c := fun c h => by rw [em3, wI_n _ _ _ h, em2, wI_n _ _ _ h, em1, wI_n _ _ _ h]
  refine qJ7_fill G d (238 + 6 * t0 + 4) 3 hx.2.2.2.2.1 (by omega) 0 m3 _ (fun m4 f1 f2 f3 => ?_)
  refine qJ7_fill G d (238 + 6 * t0 + 5) 3 hx.2.2.2.2.2 (by omega) 0 m4 _ (fun m5 g1 g2 g3 => hK m5 (fun c h => ?_) ?_ ?_ ?_ (fun l hl => ⟨?_, g1 l hl⟩) ?_)
  · rw [g2 c (by omega), f2 c (by omega), bo c (by omega)]
  · rw [g2 _ (by omega), f2 _ (by omega), b0, upd_n _ _ (by omega), upd_n _ _ (by omega), upd_s]
  · rw [g2 _ (by omega), f2 _ (by omega), b0, upd_n _ _ (by omega), upd_s]
  · rw [g2 _ (by omega), f2 _ (by omega), b0, upd_s]
  · rw [g2 _ (by omega)]; exact f1 l hl
  · rw [g3, f3, em3, em2, em1]; rfl
theorem kX3_reads (G : GP) {kd nm st : Nat → Nat} {cnt : Nat} (d t0 : Nat) (m : Mem) (K : Int32 → Mem → Prop) (ht : t0 < 4) (hS : ∀ (m3 : Mem) (K3 : Mem → Prop), m3.1 228 = m.1 228 → m3.1 229 = m.1 229 → (∀ m4, TB kd nm st cnt m4.1 → (∀ c, ¬ (230 ≤ c ∧ c ≤ 232) → m4.1 c = m3.1 c) → m4.2.2 = m3.2.2 → K3 m4) → Evv G (d + 8) mX7_scan [.ref (ga G 228)] m3 K3) (hK : ∀ e j C' cls' lw' m1, txP kd nm cnt 25 0 [] [] (fun _ => (0, 0)) = (e, j, C', cls', lw') → ((e = 0 ∧ CX kd nm st cnt t0 j C' cls' lw' m1) ∨ (0 < e ∧ e ≤ 7 ∧ m1.1 233 0 = nI e ∧ m1.1 233 1 = nI (st j))) → (∀ c, ¬ (230 ≤ c ∧ c ≤ 234) → ¬ (238 + 6 * t0 ≤ c ∧ c ≤ 243 + 6 * t0) → m1.1 c = m.1 c) → K (if e = 0 then 1 else 0) (wI m1 228 0 0)) : Evi G (d + 9) mX3_reads [.ref (ga G 233), .ref (ga G (238 + 6 * t0))] m K := by
  refine vX3_reads G d (238 + 6 * t0) (tx_all t0 ht) m K ⟨by omega, fun m1 em1 t2 et2 => ?_⟩
  have r1 : m1.2.2 233 3 = 238 + 6 * t0 := by rw [em1, wR_s]; unfold va_up; simp
  rw [r1] at et2
  subst et2
  refine ⟨by omega, tx_all t0 ht, kX8_clear G (d + 7) t0 m1 _ ht (fun m3 g1 g2 g3 g4 g5 g6 => ?_)⟩
  have i1 : m1.1 = m.1 := by rw [em1]; rfl
  rw [i1] at g1
  refine hS m3 _ (g1 228 (by omega)) (g1 229 (by omega)) (fun m4 b1 b2 b3 m5 em5 m6 em6 m7 em7 m8 em8 => ?_)
  have a7 : m7.1 230 = m4.1 230 := by rw [em7, wI_n _ _ _ (by omega), em6, wI_n _ _ _ (by omega), em5, wI_n _ _ _ (by omega)]
  have c3 : m8.1 233 = upd (upd (upd (upd (m4.1 233) 0 0) 1 (-1)) 4 0) 5 (m4.1 230 0) := by rw [em8, wI_s, a7, em7, wI_s, em6, wI_s, em5, wI_s]
  have co : ∀ c, c ≠ 233 → m8.1 c = m4.1 c := fun c h => by rw [em8, wI_n _ _ _ h, em7, wI_n _ _ _ h, em6, wI_n _ _ _ h, em5, wI_n _ _ _ h]
  have ct : ∀ c, 238 + 6 * t0 ≤ c → c ≤ 243 + 6 * t0 → m8.1 c = m3.1 c := fun c h1 h2 => by rw [co c (by omega), b2 c (by omega)]
  have hcb := b1.2.1
  have hX : CX kd nm st cnt t0 0 [] [] (fun _ => (0, 0)) m8 := by
    refine ⟨⟨b1.fr (fun c h1 h2 => co c (by omega)), ?_, ⟨?_, ?_⟩, ?_, ?_, ⟨?_, fun k hk => (by cases hk)⟩, ⟨Or.inl ?_, fun _ k hk => (by cases hk)⟩⟩, ?_, fun k hk => (by cases hk), fun l hl => ?_, Nat.zero_le _, Nat.zero_le _, Nat.zero_le _⟩
    · rw [show m8.2.2 = m4.2.2 by rw [em8, em7, em6, em5]; rfl, b3, g6]; exact r1
    · rw [c3, upd_n _ _ (by omega), upd_n _ _ (by omega), upd_n _ _ (by omega), upd_s]
    · rw [c3, upd_n _ _ (by omega), upd_n _ _ (by omega), upd_s]
    · rw [c3, upd_n _ _ (by omega), upd_s]; rfl
    · rw [c3, upd_s]; exact (b1.2.2.1 0 (by omega)).1
    · rw [ct _ (by omega) (by omega), g4]; rfl
    · rw [ct _ (by omega) (by omega), g3]
    · rw [ct _ (by omega) (by omega), g2]; rfl
    · rw [ct _ (by omega) (by omega), ct _ (by omega) (by omega)]
      exact ⟨(g5 l hl).1, (g5 l hl).2, by show 0 ≤ 300; omega, by show 0 ≤ 300; omega⟩
  refine kX3_text G d t0 ht 25 0 [] [] (fun _ => (0, 0)) _ m8 K rfl hX (fun e j C' cls' lw' m9 q1 q2 q3 => hK e j C' cls' lw' m9 q1 q2 (fun c h1 h2 => ?_))
  rw [q3.1 c (by omega) (by omega) (by omega), co c (by omega), b2 c (by omega), g1 c (by omega)]
