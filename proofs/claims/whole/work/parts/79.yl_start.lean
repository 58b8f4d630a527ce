/-! THE START IS WELL MADE -/
theorem WF_start : WF aA0 := by
  have a0 : tn (aA0 0) = 0 := by decide
  have a1 : tn (aA0 1) = 0 := by decide
  have a4 : tn (aA0 4) = 0 := by decide
  have a5 : tn (aA0 5) = 0 := by decide
  have no : ∀ {P : Prop} {k n : Nat}, n = 0 → k < n → P := fun h1 h2 => absurd h2 (by omega)
  refine ⟨⟨0, by omega, by omega, rfl⟩, ⟨0, by omega, by omega, rfl⟩, ⟨0, by omega, by omega, rfl⟩, Or.inl rfl, ⟨0, by omega, by omega, rfl⟩, ⟨0, by omega, by omega, rfl⟩, fun t ht => ?_, ⟨9, by omega, by omega, rfl⟩, fun b hb => no a0 hb, fun b hb => no a0 hb, fun b hb => no a0 hb, fun w hw => no a1 hw, fun w hw => no a1 hw, fun w hw => no a1 hw, fun w k hw => no a1 hw, fun w k hw => no a1 hw, fun w hw => no a1 hw, fun w hw => no a1 hw, fun k hk => no a5 hk, fun k hk => no a5 hk, fun t k ht hk => ?_, ?_, fun i hi => no a4 hi, fun i hi => no a4 hi, fun i hi => ?_⟩
  · rcases (show t = 0 ∨ t = 1 by omega) with e | e <;> subst e <;> exact ⟨0, by omega, by omega, rfl⟩
  · rcases (show t = 0 ∨ t = 1 by omega) with e | e <;> subst e
    · exact no (show tn (aA0 (6 + 0)) = 0 by decide) hk
    · exact no (show tn (aA0 (6 + 1)) = 0 by decide) hk
  · exact ⟨⟨2, by omega, by omega, rfl⟩, ⟨0, by omega, by omega, rfl⟩, ⟨0, by omega, by omega, rfl⟩, ⟨101, by omega, by omega, rfl⟩, ⟨0, by omega, by omega, rfl⟩, ⟨0, by omega, by omega, rfl⟩, fun k hk => no (show tn (aA0 (12 + 2)) = 0 by decide) hk⟩
  · rw [a4] at hi; omega
theorem RC_start0 {f : Nat → Nat → Int32} (hf : ∀ q, q < 293 → q ≠ 274 → q ≠ 275 → f q = iM q) : RC f 0 aA0 := by
  have zr : ∀ (q : Nat) {kd len : Nat} {refs : List Nat}, q < 273 → SH[q]? = some (kd, len, refs) → (kd ≠ 3 ∧ kd ≠ 5 ∧ kd ≠ 10 ∧ kd ≠ 12) → f q = fun _ => 0 := fun q kd len refs h1 h2 h3 => by
    rw [hf q (by omega) (by omega) (by omega), iM_of h2]; unfold iC; rw [if_neg h3.1, if_neg h3.2.1, if_neg h3.2.2.1, if_neg h3.2.2.2]
  have w1 : f (1) = iC 10 := by rw [hf 1 (by omega) (by omega) (by omega), iM_of sh_1]
  have s12 : f (12) = iC 5 := by rw [hf 12 (by omega) (by omega) (by omega), iM_of sh_12]
  have a0 : tn (aA0 0) = 0 := by decide
  have a1 : tn (aA0 1) = 0 := by decide
  have a4 : tn (aA0 4) = 0 := by decide
  have a5 : tn (aA0 5) = 0 := by decide
  have a13 : tn (aA0 13) = 0 := by decide
  have a14 : tn (aA0 14) = 0 := by decide
  have no : ∀ {P : Prop} {k n : Nat}, n = 0 → k < n → P := fun h1 h2 => absurd h2 (by omega)
  refine ⟨?_, ?_, fun b hb => no a0 hb, fun b hb => no a0 hb, fun b hb => no a0 hb, fun w hw => no a1 hw, fun w hw => no a1 hw, fun w hw => no a1 hw, fun w k hw => no a1 hw, fun w hw => no a1 hw, fun w hw => no a1 hw, ?_, fun k hk => no a5 hk, fun k hk => no a5 hk, fun t ht => ?_, fun t k ht hk => ?_, ?_, ?_, ?_, ⟨?_, ?_, ?_, ?_, ?_, fun k hk => no a14 hk, ?_, fun i j hi => ?_⟩, ?_, fun i hi => ?_, 0, by omega, ?_, fun i hi => no a4 hi⟩
  · show f 2 0 = _; rw [zr 2 (by omega) sh_2 (by decide)]; rfl
  · show f 2 4 = _; rw [zr 2 (by omega) sh_2 (by decide)]; rfl
  · show f 107 2 = _; rw [zr 107 (by omega) sh_107 (by decide)]; rfl
  · show f 112 t = _
    rw [zr 112 (by omega) sh_112 (by decide)]
    rcases (show t = 0 ∨ t = 1 by omega) with e | e <;> subst e <;> rfl
  · rcases (show t = 0 ∨ t = 1 by omega) with e | e <;> subst e
    · exact no (show tn (aA0 (6 + 0)) = 0 by decide) hk
    · exact no (show tn (aA0 (6 + 1)) = 0 by decide) hk
  · show f 1 4 = _; rw [w1]; rfl
  · show f 1 5 = _; rw [w1]; rfl
  · show f 1 6 = _; rw [w1]; rfl
  · show f 12 0 = _; rw [s12]; rfl
  · show f 12 1 = _; rw [s12]; rfl
  · show f 12 2 = _; rw [s12]; rfl
  · show f 12 3 = _; rw [s12]; rfl
  · show f 12 4 = _; rw [s12]; rfl
  · show f 12 6 = nI (min (tn (aA0 13)) 20); rw [s12, a13]; rfl
  · exact absurd hi (by rw [show 12 + 1 = 13 from rfl, a13]; omega)
  · show f 15 0 = _; rw [zr 15 (by omega) sh_15 (by decide)]; rfl
  · have e : f (17 + 3 * i) = iC 5 := by rw [hf _ (by omega) (by omega) (by omega), iM_of (se_15 i hi).1]
    show bd (f (17 + 3 * i) 4) 0 24 ∧ bd (f (17 + 3 * i) 6) 0 20
    rw [e]
    exact ⟨⟨0, by omega, by omega, rfl⟩, ⟨0, by omega, by omega, rfl⟩⟩
  · show f 15 1 = _; rw [zr 15 (by omega) sh_15 (by decide)]; rfl
theorem RC_start113 {f : Nat → Nat → Int32} (hf : ∀ q, q < 293 → q ≠ 274 → q ≠ 275 → f q = iM q) : RC f 113 aA0 := by
  have zr : ∀ (q : Nat) {kd len : Nat} {refs : List Nat}, q < 273 → SH[q]? = some (kd, len, refs) → (kd ≠ 3 ∧ kd ≠ 5 ∧ kd ≠ 10 ∧ kd ≠ 12) → f q = fun _ => 0 := fun q kd len refs h1 h2 h3 => by
    rw [hf q (by omega) (by omega) (by omega), iM_of h2]; unfold iC; rw [if_neg h3.1, if_neg h3.2.1, if_neg h3.2.2.1, if_neg h3.2.2.2]
  have w1 : f (114) = iC 10 := by rw [hf 114 (by omega) (by omega) (by omega), iM_of sh_114]
  have s12 : f (125) = iC 5 := by rw [hf 125 (by omega) (by omega) (by omega), iM_of sh_125]
  have a0 : tn (aA0 0) = 0 := by decide
  have a1 : tn (aA0 1) = 0 := by decide
  have a4 : tn (aA0 4) = 0 := by decide
  have a5 : tn (aA0 5) = 0 := by decide
  have a13 : tn (aA0 13) = 0 := by decide
  have a14 : tn (aA0 14) = 0 := by decide
  have no : ∀ {P : Prop} {k n : Nat}, n = 0 → k < n → P := fun h1 h2 => absurd h2 (by omega)
  refine ⟨?_, ?_, fun b hb => no a0 hb, fun b hb => no a0 hb, fun b hb => no a0 hb, fun w hw => no a1 hw, fun w hw => no a1 hw, fun w hw => no a1 hw, fun w k hw => no a1 hw, fun w hw => no a1 hw, fun w hw => no a1 hw, ?_, fun k hk => no a5 hk, fun k hk => no a5 hk, fun t ht => ?_, fun t k ht hk => ?_, ?_, ?_, ?_, ⟨?_, ?_, ?_, ?_, ?_, fun k hk => no a14 hk, ?_, fun i j hi => ?_⟩, ?_, fun i hi => ?_, 0, by omega, ?_, fun i hi => no a4 hi⟩
  · show f 115 0 = _; rw [zr 115 (by omega) sh_115 (by decide)]; rfl
  · show f 115 4 = _; rw [zr 115 (by omega) sh_115 (by decide)]; rfl
  · show f 220 2 = _; rw [zr 220 (by omega) sh_220 (by decide)]; rfl
  · show f 225 t = _
    rw [zr 225 (by omega) sh_225 (by decide)]
    rcases (show t = 0 ∨ t = 1 by omega) with e | e <;> subst e <;> rfl
  · rcases (show t = 0 ∨ t = 1 by omega) with e | e <;> subst e
    · exact no (show tn (aA0 (6 + 0)) = 0 by decide) hk
    · exact no (show tn (aA0 (6 + 1)) = 0 by decide) hk
  · show f 114 4 = _; rw [w1]; rfl
  · show f 114 5 = _; rw [w1]; rfl
  · show f 114 6 = _; rw [w1]; rfl
  · show f 125 0 = _; rw [s12]; rfl
  · show f 125 1 = _; rw [s12]; rfl
  · show f 125 2 = _; rw [s12]; rfl
  · show f 125 3 = _; rw [s12]; rfl
  · show f 125 4 = _; rw [s12]; rfl
  · show f 125 6 = nI (min (tn (aA0 13)) 20); rw [s12, a13]; rfl
  · exact absurd hi (by rw [show 12 + 1 = 13 from rfl, a13]; omega)
  · show f 128 0 = _; rw [zr 128 (by omega) sh_128 (by decide)]; rfl
  · have e : f (130 + 3 * i) = iC 5 := by rw [hf _ (by omega) (by omega) (by omega), iM_of (se_128 i hi).1]
    show bd (f (130 + 3 * i) 4) 0 24 ∧ bd (f (130 + 3 * i) 6) 0 20
    rw [e]
    exact ⟨⟨0, by omega, by omega, rfl⟩, ⟨0, by omega, by omega, rfl⟩⟩
  · show f 128 1 = _; rw [zr 128 (by omega) sh_128 (by decide)]; rfl
theorem Inv_start {f : Nat → Nat → Int32} (hf : ∀ q, q < 293 → q ≠ 274 → q ≠ 275 → f q = iM q) (h4 : f 274 = aA0) (h5 : f 275 = aA0) : Inv TXc 0 f := by
  have m3 : f 273 = iC 12 := by rw [hf 273 (by omega) (by omega) (by omega), iM_of sh_273]
  have r3 : f 233 = iC 3 := by rw [hf 233 (by omega) (by omega) (by omega), iM_of sh_233]
  have w1 : f 1 = iC 10 := by rw [hf 1 (by omega) (by omega) (by omega), iM_of sh_1]
  have t8 : f 228 = fun _ => 0 := by rw [hf 228 (by omega) (by omega) (by omega), iM_of sh_228]; rfl
  have g5 : f 265 = fun _ => 0 := by rw [hf 265 (by omega) (by omega) (by omega), iM_of sh_265]; rfl
  have a2 : tn (aA0 2) = 0 := by decide
  refine ⟨by rw [h4]; exact WF_start, by rw [h5]; exact WF_start, by rw [h4]; exact RC_start0 hf, by rw [h5]; exact RC_start113 hf, ⟨?_, ?_, fun k hk => ?_⟩, ⟨?_, ?_⟩, ⟨?_, fun t ht => ?_, ?_, ?_, ?_, fun p x w q1 q2 q3 q4 => ?_⟩, ?_, ?_⟩
  · rw [t8, m3]; rfl
  · rw [m3]; exact ⟨0, by omega, by omega, rfl⟩
  · rw [m3] at hk; exact absurd hk (Nat.not_lt_zero k)
  · rw [r3, m3]; rfl
  · rw [r3, m3]; rfl
  · rw [h4, h5]; exact Nat.le_refl _
  · rw [h4, a2] at ht; omega
  · rw [w1, h4]; rfl
  · rw [w1]; exact ⟨0, by omega, by omega, rfl⟩
  · rw [w1]; exact Or.inl rfl
  · rw [g5] at q4; exact absurd rfl q4
  · rw [h4, show tn (aA0 13) = 0 by decide]; omega
  · rw [h5, show tn (aA0 13) = 0 by decide]; omega
