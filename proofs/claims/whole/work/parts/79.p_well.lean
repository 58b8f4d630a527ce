/-! a text that was read is well made -/
theorem stI_1ok {kd nm : Nat → Nat} {a : Nat} {r : Nat × Nat × List Nat} (h : (stI kd nm 1 a 0 r).1 = 0) : r.1 = 0 ∧ (stI kd nm 1 a 0 r).2.2 = r.2.2 := ⟨(stI_l1 kd nm a 0 r).2 h, (stI_l1 kd nm a 0 r).1⟩
theorem bodP_ok {kd nm : Nat → Nat} {s i : Nat} (hs : 3 ≤ s ∧ s ≤ 10) (h : (bodP kd nm s (0, i, [])).1 = 0) : (s ≠ 4 → (bodP kd nm s (0, i, [])).2.2.length = ar s) ∧ (s = 9 → 1 ≤ (bodP kd nm s (0, i, [])).2.2.getD 0 0 ∧ (bodP kd nm s (0, i, [])).2.2.getD 0 0 ≤ 60) := by
  have l0 : ((0, i, []) : Nat × Nat × List Nat).2.2.length = 0 := rfl
  have one : ∀ a b : Nat, (stI kd nm 0 a b (0, i, [])).1 = 0 → (stI kd nm 0 a b (0, i, [])).2.2.length = 1 := fun a b e => by
    have := ((stI_l0 kd nm a b (0, i, [])).2 e).2
    omega
  have hd : s = 3 ∨ s = 4 ∨ s = 5 ∨ s = 6 ∨ s = 7 ∨ s = 8 ∨ s = 9 ∨ s = 10 := by omega
  rcases hd with rfl | rfl | rfl | rfl | rfl | rfl | rfl | rfl
  · refine ⟨fun _ => ?_, fun z => absurd z (by decide)⟩
    have h : (stI kd nm 0 1 9 (stI kd nm 1 112 0 (stI kd nm 0 0 9 (stI kd nm 1 111 0 (stI kd nm 0 1 9 (0, i, [])))))).1 = 0 := h
    show (stI kd nm 0 1 9 (stI kd nm 1 112 0 (stI kd nm 0 0 9 (stI kd nm 1 111 0 (stI kd nm 0 1 9 (0, i, [])))))).2.2.length = 3
    obtain ⟨a1, a2⟩ := (stI_l0 kd nm 1 9 _).2 h
    obtain ⟨b1, b2⟩ := stI_1ok a1
    obtain ⟨c1, c2⟩ := (stI_l0 kd nm 0 9 _).2 b1
    obtain ⟨d1, d2⟩ := stI_1ok c1
    have e := one 1 9 d1
    rw [a2, b2, c2, d2, e]
  · exact ⟨fun z => absurd rfl z, fun z => absurd z (by decide)⟩
  · exact ⟨fun _ => one 0 5 h, fun z => absurd z (by decide)⟩
  · exact ⟨fun _ => one 0 9 h, fun z => absurd z (by decide)⟩
  · exact ⟨fun _ => one 0 9 h, fun z => absurd z (by decide)⟩
  · exact ⟨fun _ => one 0 9 h, fun z => absurd z (by decide)⟩
  · refine ⟨fun _ => one 1 60 h, fun _ => ?_⟩
    have h : (stI kd nm 0 1 60 (0, i, [])).1 = 0 := h
    show 1 ≤ (stI kd nm 0 1 60 (0, i, [])).2.2.getD 0 0 ∧ (stI kd nm 0 1 60 (0, i, [])).2.2.getD 0 0 ≤ 60
    unfold stI at h ⊢
    rw [if_neg (fun y => y rfl), if_pos rfl] at h ⊢
    by_cases h2 : kd i ≠ 2
    · rw [if_pos h2] at h; exact absurd h (show ¬ ((1 : Nat) = 0) by decide)
    · rw [if_neg h2] at h ⊢
      by_cases h3 : 1 ≤ nm i ∧ nm i ≤ 60
      · rw [if_pos h3]; exact h3
      · rw [if_neg h3] at h; exact absurd h (show ¬ ((2 : Nat) = 0) by decide)
  · exact ⟨fun _ => rfl, fun z => absurd z (by decide)⟩
theorem LawW.num {C : List (Nat × Nat)} {cls : List (Nat × List Nat)} {lw : Nat → Nat × Nat} (h : LawW C cls lw) {s : Nat} {V : List Nat} (hs : 3 ≤ s ∧ s ≤ 10) (hl : s ≠ 4 → V.length = ar s) (h9 : s = 9 → 1 ≤ V.getD 0 0 ∧ V.getD 0 0 ≤ 60) : LawW C (cls ++ [(s, V)]) lw := by
  refine ⟨fun l hl3 => ?_, fun k hk => ?_⟩
  · rcases h.1 l hl3 with ⟨a1, a2, a3, a4, k, k1, k2, k3⟩ | ⟨a1, a2⟩
    · refine Or.inl ⟨a1, a2, a3, a4, k, by rw [List.length_append]; omega, ?_, fun j hj => ?_⟩
      · rw [clG_app, if_neg (by omega)]; exact k2
      · rw [clG_app, if_neg (by omega)]; exact k3 j hj
    · refine Or.inr ⟨a1, fun k hk => ?_⟩
      rw [List.length_append, List.length_singleton] at hk
      rw [clG_app]
      by_cases e : k = cls.length
      · rw [if_pos e]; show s ≠ l; omega
      · rw [if_neg e]; exact a2 k (by omega)
  · rw [List.length_append, List.length_singleton] at hk
    rw [clG_app]
    by_cases e : k = cls.length
    · rw [if_pos e]; exact ⟨hs.2, fun _ => hl, h9⟩
    · rw [if_neg e]; exact h.2 k (by omega)
theorem LawW.law {C C' : List (Nat × Nat)} {cls : List (Nat × List Nat)} {lw : Nat → Nat × Nat} (h : LawW C cls lw) {s : Nat} (hs : s < 3) (hn : ¬ seen lw s) (hE : Ext C C') (hT : TyS C' C.length 1 0) (hC : COK s C.length C') : LawW C' (cls ++ [(s, [])]) (lwU lw s C.length C'.length) := by
  have hl := hE.len
  refine ⟨fun l hl3 => ?_, fun k hk => ?_⟩
  · by_cases e : l = s
    · subst e
      have el : lwU lw l C.length C'.length l = (C.length, C'.length) := if_pos ⟨hs, rfl⟩
      have hno : ∀ k, k < cls.length → (clG cls k).1 ≠ l := by
        rcases h.1 l hl3 with z | z
        · exact absurd z.1 hn
        · exact z.2
      unfold seen
      rw [el]
      refine Or.inl ⟨hT.pos, Nat.le_refl _, hT.2, fun i h1 h2 => hC i h1 h2, cls.length, by rw [List.length_append, List.length_singleton]; omega, ?_, fun j hj => ?_⟩
      · rw [clG_app, if_pos rfl]
      · rw [clG_app, if_neg (by omega)]; exact hno j hj
    · have el : lwU lw s C.length C'.length l = lw l := if_neg (fun y => e y.2)
      unfold seen
      rw [el]
      rcases h.1 l hl3 with ⟨a1, a2, a3, a4, k, k1, k2, k3⟩ | ⟨a1, a2⟩
      · have a1' : (lw l).1 < (lw l).2 := a1
        refine Or.inl ⟨a1, by omega, ?_, fun i h1 h2 => ?_, k, by rw [List.length_append]; omega, ?_, fun j hj => ?_⟩
        · rw [tyR_congr (o' := oL C) _ (fun i hi => (hE.get (by omega)).1)]; exact a3
        · rw [(hE.get (by omega)).1, (hE.get (by omega)).2]; exact a4 i h1 h2
        · rw [clG_app, if_neg (by omega)]; exact k2
        · rw [clG_app, if_neg (by omega)]; exact k3 j hj
      · refine Or.inr ⟨a1, fun k hk => ?_⟩
        rw [List.length_append, List.length_singleton] at hk
        rw [clG_app]
        by_cases ek : k = cls.length
        · rw [if_pos ek]; show s ≠ l; omega
        · rw [if_neg ek]; exact a2 k (by omega)
  · rw [List.length_append, List.length_singleton] at hk
    rw [clG_app]
    by_cases e : k = cls.length
    · rw [if_pos e]
      exact ⟨by show s ≤ 10; omega, fun z => absurd z (by show ¬ 3 ≤ s; omega), fun z => absurd z (by show ¬ s = 9; omega)⟩
    · rw [if_neg e]; exact h.2 k (by omega)
theorem clP_ok {kd nm : Nat → Nat} {cnt i j : Nat} {C C' : List (Nat × Nat)} {cls : List (Nat × List Nat)} {lw : Nat → Nat × Nat} {V : List Nat} (h : LawW C cls lw) (hC : C.length ≤ i) (e : clP kd nm cnt lw cls.length i C = (0, j, V, C')) : LawW C' (cls ++ [(kd i - 100, V)]) (lwU lw (kd i - 100) C.length C'.length) ∧ C'.length ≤ j := by
  unfold clP at e
  by_cases h1 : kd i < 100 ∨ 110 < kd i
  · rw [if_pos h1] at e; cases e
  rw [if_neg h1] at e
  by_cases h2 : kd i < 103 ∧ (lw (kd i - 100)).1 < (lw (kd i - 100)).2
  · rw [if_pos h2] at e; cases e
  rw [if_neg h2] at e
  by_cases h3 : 24 ≤ cls.length
  · rw [if_pos h3] at e; cases e
  rw [if_neg h3] at e
  generalize hs : kd i - 100 = s at e h2
  by_cases h4 : kd i < 103
  · rw [if_pos h4] at e
    generalize hq : lawP s kd nm (cnt + 1 - (i + 1)) (i + 1) [] C true = q at e
    obtain ⟨a, b, D⟩ := q
    by_cases h5 : a = 0 ∧ kd b = 59
    · rw [if_pos h5] at e
      injection e with e1 e2
      injection e2 with e2 e3
      injection e3 with e3 e4
      have e4 : D = C' := e4
      have e2 : b + 1 = j := e2
      subst e4 e3
      rw [h5.1] at hq
      obtain ⟨y1, y2, y3, y4, y5⟩ := lawP_C (by omega) (by omega) hq
      exact ⟨h.law (by omega) (fun z => h2 ⟨h4, z⟩) y2 y3 y4, by omega⟩
    · rw [if_neg h5] at e
      injection e with e1 e2
      by_cases h6 : a = 0
      · rw [if_pos h6] at e1; cases e1
      · rw [if_neg h6] at e1; exact absurd e1 h6
  · rw [if_neg h4] at e
    injection e with e1 e2
    injection e2 with e2 e3
    injection e3 with e3 e4
    subst e4
    obtain ⟨z1, z2⟩ := stI_1ok e1
    obtain ⟨w1, w2⟩ := bodP_ok (s := s) (by omega) z1
    rw [z2] at e3
    rw [e3] at w1 w2
    have lwe : lwU lw s C.length C.length = lw := by
      funext l
      exact if_neg (by omega)
    rw [lwe]
    have m1 := bodP_m kd nm s (0, i + 1, [])
    have m2 := stI_m kd nm 1 59 0 (bodP kd nm s (0, i + 1, []))
    have m1 : i + 1 ≤ (bodP kd nm s (0, i + 1, [])).2.1 := m1
    exact ⟨h.num (by omega) w1 w2, by omega⟩
theorem txP_ok {kd nm : Nat → Nat} {cnt : Nat} : ∀ (f i : Nat) (C : List (Nat × Nat)) (cls : List (Nat × List Nat)) (lw : Nat → Nat × Nat) (j : Nat) (C' : List (Nat × Nat)) (cls' : List (Nat × List Nat)) (lw' : Nat → Nat × Nat), LawW C cls lw → C.length ≤ i → txP kd nm cnt f i C cls lw = (0, j, C', cls', lw') → LawW C' cls' lw'
  | 0, i, C, cls, lw, j, C', cls', lw', h, hC, e => by
    unfold txP at e
    cases e
  | f + 1, i, C, cls, lw, j, C', cls', lw', h, hC, e => by
    unfold txP at e
    by_cases h1 : kd i = 1
    · rw [if_pos h1] at e
      injection e with e1 e2
      injection e2 with e2 e3
      injection e3 with e3 e4
      injection e4 with e4 e5
      subst e3 e4 e5
      exact h
    rw [if_neg h1] at e
    generalize hq : clP kd nm cnt lw cls.length i C = q at e
    obtain ⟨a, b, V, D⟩ := q
    by_cases h2 : a ≠ 0
    · rw [if_pos h2] at e
      injection e with e1 e2
      exact absurd e1 h2
    · rw [if_neg h2] at e
      have a0 : a = 0 := by omega
      subst a0
      obtain ⟨y1, y2⟩ := clP_ok h hC hq
      exact txP_ok f b D _ _ j C' cls' lw' y1 y2 e
