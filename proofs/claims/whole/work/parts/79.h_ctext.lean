/-! the class reads a text: clause by clause -/
def txP (kd nm : Nat → Nat) (cnt : Nat) : Nat → Nat → List (Nat × Nat) → List (Nat × List Nat) → (Nat → Nat × Nat) → Nat × Nat × List (Nat × Nat) × List (Nat × List Nat) × (Nat → Nat × Nat)
  | 0, i, C, cls, lw => (6, i, C, cls, lw)
  | f + 1, i, C, cls, lw => if kd i = 1 then (0, i, C, cls, lw) else if (clP kd nm cnt lw cls.length i C).1 ≠ 0 then ((clP kd nm cnt lw cls.length i C).1, (clP kd nm cnt lw cls.length i C).2.1, C, cls, lw) else txP kd nm cnt f (clP kd nm cnt lw cls.length i C).2.1 (clP kd nm cnt lw cls.length i C).2.2.2 (cls ++ [(kd i - 100, (clP kd nm cnt lw cls.length i C).2.2.1)]) (lwU lw (kd i - 100) C.length (clP kd nm cnt lw cls.length i C).2.2.2.length)
theorem clP_24 (kd nm : Nat → Nat) (cnt : Nat) (lw : Nat → Nat × Nat) (i : Nat) (C : List (Nat × Nat)) : (clP kd nm cnt lw 24 i C).1 ≠ 0 := by
  unfold clP
  by_cases h1 : kd i < 100 ∨ 110 < kd i
  · rw [if_pos h1]; exact (by show (1 : Nat) ≠ 0; decide)
  rw [if_neg h1]
  by_cases h2 : kd i < 103 ∧ (lw (kd i - 100)).1 < (lw (kd i - 100)).2
  · rw [if_pos h2]; exact (by show (4 : Nat) ≠ 0; decide)
  rw [if_neg h2, if_pos (Nat.le_refl _)]
  exact (by show (6 : Nat) ≠ 0; decide)
theorem kX3_text (G : GP) {kd nm st : Nat → Nat} {cnt : Nat} (d t0 : Nat) (ht : t0 < 4) : ∀ (f i : Nat) (C : List (Nat × Nat)) (cls : List (Nat × List Nat)) (lw : Nat → Nat × Nat) (u : Value) (m : Mem) (K : Int32 → Mem → Prop), cls.length + f = 25 → CX kd nm st cnt t0 i C cls lw m → (∀ e j C' cls' lw' m1, txP kd nm cnt f i C cls lw = (e, j, C', cls', lw') → ((e = 0 ∧ CX kd nm st cnt t0 j C' cls' lw' m1) ∨ (0 < e ∧ e ≤ 7 ∧ m1.1 233 0 = nI e ∧ m1.1 233 1 = nI (st j))) → FTx t0 m m1 → K (if e = 0 then 1 else 0) (wI m1 228 0 0)) → Gw G (d + 9) mX3_reads 49 [.ref (ga G 233), u, .int (nI cls.length)] [] m (Qi K)
  | 0, i, C, cls, lw, u, m, K, hf, h, hK => by
    have := h.2.2.2.2.2.2
    omega
  | f + 1, i, C, cls, lw, u, m, K, hf, h, hK => by
    have h24 := h.2.2.2.2.2.2
    have hi := h.2.2.2.2.1
    have h' := h
    obtain ⟨⟨c1, c2, c3, c4, c5, c6, c7⟩, hn, hR, hW, -, hCi, -⟩ := h
    have hcb := c1.2.1
    have hrg := (c1.2.2.1 i hi).2.2
    have e24 : (24 : Int32) < nI cls.length ↔ 24 < cls.length := lt_nI (a := 24) (by omega) (by omega)
    have e1 : nI (kd i) = 1 ↔ kd i = 1 := eq_nI (b := 1) (by omega) (by omega)
    have q233 : ∀ mm : Mem, (wI mm 228 0 0).1 233 = mm.1 233 := fun mm => wI_n mm _ _ (by omega)
    refine vX3_reads_49 G d u _ m K ?_
    rw [e24, c5, e1]
    refine ⟨fun z => by omega, fun _ => ⟨fun z => absurd c3.1 z, fun _ => ⟨fun z m11 em => ?_, fun z => ?_⟩⟩⟩
    · subst em
      rw [q233]
      have eq : txP kd nm cnt (f + 1) i C cls lw = (0, i, C, cls, lw) := by
        unfold txP
        rw [if_pos z]
      exact ⟨fun y => absurd c3.1 y, fun _ => hK 0 i C cls lw m eq (Or.inl ⟨rfl, h'⟩) (FTx.rf t0 m)⟩
    · have en : nI cls.length + 1 = nI (cls.length + 1) := nI_add cls.length 1
      refine kX3_readClause G (d + 3) t0 i C cls lw m _ ht h' z (fun e j V C' m1 q1 q2 q3 x13 ex => ?_)
      rw [ex, en]
      rcases q2 with ⟨z0, zX⟩ | ⟨z0, z7, z1, z2⟩
      · subst z0
        have eq : txP kd nm cnt (f + 1) i C cls lw = txP kd nm cnt f j C' (cls ++ [(kd i - 100, V)]) (lwU lw (kd i - 100) C.length C'.length) := by
          show (if kd i = 1 then _ else _) = _
          rw [if_neg z, q1]
          rfl
        have hl : (cls ++ [(kd i - 100, V)]).length = cls.length + 1 := by rw [List.length_append]; rfl
        have := kX3_text G d t0 ht f j C' (cls ++ [(kd i - 100, V)]) (lwU lw (kd i - 100) C.length C'.length) uu m1 K (by omega) zX (fun e2 j2 C2 cls2 lw2 m2 r1 r2 r3 => hK e2 j2 C2 cls2 lw2 m2 (eq.trans r1) r2 (q3.tr r3))
        rw [hl] at this
        exact this
      · have eq : txP kd nm cnt (f + 1) i C cls lw = (e, j, C, cls, lw) := by
          show (if kd i = 1 then _ else _) = _
          rw [if_neg z, q1]
          show (if e ≠ 0 then _ else _) = _
          rw [if_pos (by omega)]
        have ne : ¬ nI e = 0 := fun y => by
          have := (eq_nI (b := 0) (by omega) (by omega)).mp y
          omega
        have fin := hK e j C cls lw m1 eq (Or.inr ⟨z0, z7, z1, z2⟩) q3
        rw [if_neg (by omega)] at fin
        refine vX3_reads_49 G d uu _ m1 K ⟨fun _ m9 em => ?_, fun _ => ⟨fun _ m9 em => ?_, fun y => absurd y (by rw [z1]; exact ne)⟩⟩
        · subst em
          rw [q233, z1]
          exact ⟨fun _ => fin, fun y => absurd y ne⟩
        · subst em
          rw [q233, z1]
          exact ⟨fun _ => fin, fun y => absurd y ne⟩
