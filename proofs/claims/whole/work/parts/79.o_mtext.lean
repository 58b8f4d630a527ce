/-! the model reads a text, clause by clause -/
theorem qX12_text (G : GP) {kd nm st : Nat → Nat} {cnt : Nat} {T : Nat → Mem → Prop} (H : TokM G kd nm st cnt T) (d t0 : Nat) (ht : t0 < 4) : ∀ (f i : Nat) (C : List (Nat × Nat)) (cls : List (Nat × List Nat)) (lw : Nat → Nat × Nat) (u : Value) (m : Mem) (K : Int32 → Mem → Prop), cls.length + f = 25 → MYs T cnt t0 i C cls lw m → Wc cls → (∀ e j C' cls' lw' m', txP kd nm cnt f i C cls lw = (e, j, C', cls', lw') → e ≤ 7 → T j m' → FM t0 m m' → (e = 0 → MYs T cnt t0 j C' cls' lw' m' ∧ Wc cls') → K (nI e) m') → Gw G (d + 11) mX12_readText 43 [.ref (ga G 273), u] [] m (Qi K)
  | 0, i, C, cls, lw, u, m, K, hf, h, hw, hK => by
    have := h.2.2.2.2.2.2.2.2.2
    omega
  | f + 1, i, C, cls, lw, u, m, K, hf, h, hw, hK => by
    have hk := H.tk h.1
    refine vX12_readText_43 G d u m K ⟨fun z => ?_, fun z => ?_⟩
    · have k1 := hk.fin.mp z
      have eq : txP kd nm cnt (f + 1) i C cls lw = (0, i, C, cls, lw) := by
        unfold txP
        rw [if_pos k1]
      exact hK 0 i C cls lw m eq (by omega) h.1 (FM.rf t0 m) (fun _ => ⟨h, hw⟩)
    · have k1 : ¬ kd i = 1 := fun y => z (hk.fin.mpr y)
      refine qX12_clause G H d t0 i C cls lw m _ ht h hw k1 (fun e j V C' m1 q1 q2 q3 q4 q5 => ?_)
      rw [nz_nI q2]
      refine ⟨fun z0 => ?_, fun z0 => hK e j C cls lw m1 ?_ q2 q3 q4 (fun y => absurd y z0)⟩
      · subst z0
        obtain ⟨r1, r2⟩ := q5 rfl
        have eq : txP kd nm cnt (f + 1) i C cls lw = txP kd nm cnt f j C' (cls ++ [(kd i - 100, V)]) (lwU lw (kd i - 100) C.length C'.length) := by
          show (if kd i = 1 then _ else _) = _
          rw [if_neg k1, q1]
          rfl
        have hl : (cls ++ [(kd i - 100, V)]).length = cls.length + 1 := by rw [List.length_append]; rfl
        exact qX12_text G H d t0 ht f j C' _ _ _ m1 K (by omega) r1 r2 (fun e2 j2 C2 cls2 lw2 m2 s1 s2 s3 s4 s5 => hK e2 j2 C2 cls2 lw2 m2 (eq.trans s1) s2 s3 (q4.tr s4) s5)
      · show (if kd i = 1 then _ else _) = _
        rw [if_neg k1, q1]
        show (if e ≠ 0 then _ else _) = _
        rw [if_pos z0]
/-! what holds of a text that was read -/
def LawW (C : List (Nat × Nat)) (cls : List (Nat × List Nat)) (lw : Nat → Nat × Nat) : Prop := (∀ l, l < 3 → ((seen lw l ∧ (lw l).2 ≤ C.length ∧ tyR (oL C) (lw l).1 ((lw l).2 - (lw l).1) = some (1, 0) ∧ (∀ i, (lw l).1 ≤ i → i < (lw l).2 → oL C i ≤ 22 ∧ vL C i ≤ 9999 ∧ (oL C i = 1 → nmOK l (vL C i))) ∧ ∃ k, k < cls.length ∧ (clG cls k).1 = l ∧ ∀ j, j < k → (clG cls j).1 ≠ l) ∨ (lw l = (0, 0) ∧ ∀ k, k < cls.length → (clG cls k).1 ≠ l))) ∧ ∀ k, k < cls.length → (clG cls k).1 ≤ 10 ∧ (3 ≤ (clG cls k).1 → (clG cls k).1 ≠ 4 → (clG cls k).2.length = ar (clG cls k).1) ∧ ((clG cls k).1 = 9 → 1 ≤ (clG cls k).2.getD 0 0 ∧ (clG cls k).2.getD 0 0 ≤ 60)
