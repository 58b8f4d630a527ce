/-! a text that was read on both sides is alike -/
theorem TT_of {t0 : Nat} {C : List (Nat × Nat)} {cls : List (Nat × List Nat)} {lw : Nat → Nat × Nat} {m : Mem} (hw : LawW C cls lw) (h24 : cls.length ≤ 24) (hC : C.length ≤ 300) (c0 : m.1 (238 + 6 * t0) 0 = nI cls.length) (cr : CR t0 cls m) (cl : CLw t0 lw m) (cc : CCl t0 C m) (ca : ACl t0 C m) (m0 : m.1 276 (801 * t0) = nI cls.length) (mr : MRw t0 cls lw (m.1 276)) (cm : CM t0 C (m.1 276)) : TT m.1 t0 := by
  have val : ∀ k, k < cls.length → 3 ≤ (clG cls k).1 → ∀ q, q < ar (clG cls k).1 → q < 6 ∧ m.1 276 (801 * t0 + 2 + 8 * k + q) = vAt (clG cls k).2 q := by
    intro k hk h3 q hq
    have hle : ar (clG cls k).1 ≤ 6 := by
      unfold ar
      repeat (first | omega | split)
    refine ⟨by omega, ?_⟩
    obtain ⟨-, -, hQ⟩ := mr k hk
    by_cases e : (clG cls k).1 = 4
    · exact (hQ h3).1 e q (by omega)
    · have hl := (hw.2 k hk).2.1 h3 e
      rw [(hQ h3).2 e q (by omega)]
      unfold vAt
      rw [if_pos (by omega)]
  refine ⟨cls.length, h24, c0, m0, fun k hk => ?_, fun l hl => ?_⟩
  · obtain ⟨w1, w2, w3⟩ := hw.2 k hk
    refine ⟨(clG cls k).1, w1, (mr k hk).1, (cr k hk).1, fun h3 i hi => ?_, fun h9 => ?_⟩
    · obtain ⟨v1, v2⟩ := val k hk h3 i hi
      rw [(cr k hk).2 h3 i v1, v2]
    · have h3 : 3 ≤ (clG cls k).1 := by omega
      have hl := w2 h3 (by omega)
      have ha : ar (clG cls k).1 = 1 := by rw [h9]; rfl
      obtain ⟨v1, v2⟩ := val k hk h3 0 (by omega)
      have v2 : m.1 276 (801 * t0 + 2 + 8 * k) = vAt (clG cls k).2 0 := v2
      obtain ⟨b1, b2⟩ := w3 h9
      refine ⟨(clG cls k).2.getD 0 0, b1, b2, ?_⟩
      rw [v2]
      unfold vAt
      rw [if_pos (by omega)]
  · obtain ⟨l1, l2, l3, l4⟩ := cl l hl
    rcases hw.1 l hl with ⟨a1, a2, a3, a4, k, k1, k2, k3⟩ | ⟨a1, a2⟩
    · have a1' : (lw l).1 < (lw l).2 := a1
      have ro : ∀ i, (lw l).1 ≤ i → i < (lw l).2 → oF m.1 t0 i = oL C i ∧ vF m.1 t0 i = vL C i := fun i h1 h2 => by
        obtain ⟨b1, b2, -⟩ := a4 i h1 h2
        obtain ⟨q1, q2⟩ := cm i (by omega)
        unfold oF vF
        rw [q1, q2]
        exact ⟨tn_nI (by omega), tn_nI (by omega)⟩
      refine Or.inl ⟨k, (lw l).1, (lw l).2, k1, ?_, fun j hj z => ?_, a1', l4, ?_, ?_, l1, l2, ?_, fun i h1 h2 => ?_⟩
      · rw [(mr k k1).1, k2]
      · rw [(mr j (by omega)).1] at z
        have := (hw.2 j (by omega)).1
        exact k3 j hj ((eq_nI (by omega) (by omega)).mp z)
      · have := ((mr k k1).2.1 (by omega)).2.1
        rw [k2] at this
        exact this
      · have := ((mr k k1).2.1 (by omega)).2.2
        rw [k2] at this
        exact this
      · rw [tyR_congr (o' := oL C) _ (fun i hi => (ro _ (by omega) (by omega)).1)]
        exact a3
      · obtain ⟨r1, r2⟩ := ro i h1 h2
        obtain ⟨b1, b2, b3⟩ := a4 i h1 h2
        obtain ⟨q1, q2⟩ := cm i (by omega)
        unfold OpAt
        rw [r1, r2]
        exact ⟨cc.2 i (by omega), q1, q2, b1, fun _ => b2, b3, fun z => ca.2 z i (by omega)⟩
    · refine Or.inr ⟨fun k hk z => ?_, ?_⟩
      · rw [(mr k hk).1] at z
        have := (hw.2 k hk).1
        exact a2 k hk ((eq_nI (by omega) (by omega)).mp z)
      · rw [l1, l2, a1]
        decide
