/-! the class's clauses: bodies -/
def belP (kd nm : Nat → Nat) : Nat → Nat → Nat × Nat × List Nat → Nat × Nat × List Nat
  | 0, _, r => r
  | f + 1, n, r => if r.1 ≠ 0 then r else if kd r.2.1 ≠ 2 then r else if n = 4 then (if nm r.2.1 ≤ 5 then (7, r.2.1, r.2.2) else (2, r.2.1, r.2.2)) else belP kd nm f (n + 1) (stI kd nm 0 0 5 r)
def bodP (kd nm : Nat → Nat) (s : Nat) (r : Nat × Nat × List Nat) : Nat × Nat × List Nat :=
  if s = 3 then stI kd nm 0 1 9 (stI kd nm 1 112 0 (stI kd nm 0 0 9 (stI kd nm 1 111 0 (stI kd nm 0 1 9 r))))
  else if s = 4 then belP kd nm 4 1 (stI kd nm 0 0 5 (stI kd nm 1 58 0 (stI kd nm 0 0 99 (stI kd nm 1 113 0 (stI kd nm 0 0 3 r)))))
  else if s = 5 then stI kd nm 0 0 5 r else if s = 9 then stI kd nm 0 1 60 r else if s = 10 then r else stI kd nm 0 0 9 r
theorem stI_l0 (kd nm : Nat → Nat) (a b : Nat) (r : Nat × Nat × List Nat) : (stI kd nm 0 a b r).2.2.length ≤ r.2.2.length + 1 ∧ ((stI kd nm 0 a b r).1 = 0 → r.1 = 0 ∧ (stI kd nm 0 a b r).2.2.length = r.2.2.length + 1) := by
  unfold stI
  by_cases h : r.1 ≠ 0
  · rw [if_pos h]
    exact ⟨by omega, fun z => absurd z h⟩
  · rw [if_neg h, if_pos rfl]
    by_cases h2 : kd r.2.1 ≠ 2
    · rw [if_pos h2]
      exact ⟨by show r.2.2.length ≤ _; omega, fun z => absurd z (show ¬ ((1 : Nat) = 0) by decide)⟩
    · rw [if_neg h2]
      by_cases h3 : a ≤ nm r.2.1 ∧ nm r.2.1 ≤ b
      · rw [if_pos h3]
        refine ⟨?_, fun _ => ⟨by omega, ?_⟩⟩ <;> simp
      · rw [if_neg h3]
        exact ⟨by show r.2.2.length ≤ _; omega, fun z => absurd z (show ¬ ((2 : Nat) = 0) by decide)⟩
theorem stI_l1 (kd nm : Nat → Nat) (a b : Nat) (r : Nat × Nat × List Nat) : (stI kd nm 1 a b r).2.2 = r.2.2 ∧ ((stI kd nm 1 a b r).1 = 0 → r.1 = 0) := by
  unfold stI
  by_cases h : r.1 ≠ 0
  · rw [if_pos h]
    exact ⟨rfl, fun z => z⟩
  · rw [if_neg h, if_neg (by decide)]
    by_cases h2 : kd r.2.1 = a
    · rw [if_pos h2]; exact ⟨rfl, fun _ => by omega⟩
    · rw [if_neg h2]; exact ⟨rfl, fun _ => by omega⟩
theorem kX3_bells (G : GP) {kd nm st : Nat → Nat} {cnt : Nat} (d t0 k : Nat) (C : List (Nat × Nat)) (ht : t0 < 4) (hk : k < 24) : ∀ (f n : Nat) (r : Nat × Nat × List Nat) (m : Mem) (K : Mem → Prop), n + f = 5 → 1 ≤ n → r.2.2.length ≤ n + 2 → RR kd nm st cnt t0 k C r m → (∀ m', RR kd nm st cnt t0 k C (belP kd nm f n r) m' → FN t0 k m m' → K m') → Gw G (d + 2) mX3_readBells 8 [.ref (ga G 233), .int (nI n)] [] m (Qv K)
  | 0, n, r, m, K, hn, h1, hV, h, hK => by
    have : n = 5 := by omega
    subst this
    exact vX3_readBells_8 G d _ m K ⟨fun _ => hK m h (FN.rf t0 k m), fun z => absurd (by decide) z⟩
  | f + 1, n, r, m, K, hn, h1, hV, h, hK => by
    have e4 : (4 : Int32) < nI n ↔ 4 < n := lt_nI (a := 4) (by omega) (by omega)
    have q4 : nI n = 4 ↔ n = 4 := eq_nI (b := 4) (by omega) (by omega)
    have en : nI n + 1 = nI (n + 1) := nI_add n 1
    refine vX3_readBells_8 G d _ m K ?_
    rw [e4, q4]
    refine ⟨fun z => by omega, fun _ => ?_⟩
    obtain ⟨e, i, V⟩ := r
    have hV : V.length ≤ n + 2 := hV
    have h' := h
    rcases h with ⟨h0, hN⟩ | ⟨h0, h7, hf, hp⟩
    · have h0 : e = 0 := h0
      subst h0
      have hN : NS kd nm st cnt t0 k i V C m := hN
      obtain ⟨hc, hn2, hn3, hn4, hi⟩ := hN
      obtain ⟨c1, c2, c3, c4, c5, c6, c7⟩ := hc
      have hcb := c1.2.1
      have hrg := (c1.2.2.1 i hi).2.2
      have et : (nI i).toNatClampNeg = i := tn_nI (by omega)
      have e2 : nI (kd i) = 2 ↔ kd i = 2 := eq_nI (b := 2) (by omega) (by omega)
      have eb : belP kd nm (f + 1) n (0, i, V) = if kd i ≠ 2 then (0, i, V) else if n = 4 then (if nm i ≤ 5 then (7, i, V) else (2, i, V)) else belP kd nm f (n + 1) (stI kd nm 0 0 5 (0, i, V)) := by
        show (if ((0 : Nat)) ≠ 0 then (0, i, V) else _) = _
        rw [if_neg (by decide)]
      rw [c5, e2, c4, et]
      refine ⟨fun z => absurd c3.1 z, fun _ => ⟨fun z => hK m (by rw [eb, if_pos z]; exact h') (FN.rf t0 k m), fun z => ?_⟩⟩
      obtain ⟨n1, n2⟩ := c1.2.2.2 i hi z
      rw [if_neg (fun y => y z)] at eb
      refine ⟨fun y => ?_, fun y => ⟨in_nI (by omega) (by omega), ?_⟩⟩
      · rw [if_neg y] at eb
        refine kX3_number G d t0 k 0 5 C (0, i, V) m _ ht hk (by omega) (fun _ _ _ _ => by show V.length < 6; omega) h' (fun m1 g1 g2 x3 ex => ?_)
        rw [ex, en]
        have hl := (stI_l0 kd nm 0 5 (0, i, V)).1
        have hl : (stI kd nm 0 0 5 (0, i, V)).2.2.length ≤ V.length + 1 := hl
        refine kX3_bells G d t0 k C ht hk f (n + 1) _ m1 K (by omega) (by omega) (by omega) g1 (fun m2 j1 j2 => hK m2 (by rw [eb]; exact j1) (g2.tr j2))
      · subst y
        have hf0 : f = 0 := by omega
        subst hf0
        rw [if_pos rfl] at eb
        have e6 : (6 : Int32) ≤ nI (nm i) ↔ 6 ≤ nm i := le_nI (a := 6) (by omega) (by omega)
        rw [n1, e6]
        have last : ∀ (r : Nat × Nat × List Nat) (mm : Mem), RR kd nm st cnt t0 k C r mm → r = belP kd nm 1 4 (0, i, V) → FN t0 k m mm → Gw G (d + 2) mX3_readBells 8 [.ref (ga G 233), .int (nI (4 + 1))] [] mm (Qv K) := by
          intro r mm g1 g2 g3
          exact vX3_readBells_8 G d _ mm K ⟨fun _ => hK mm (by rw [← g2]; exact g1) g3, fun z => absurd (by decide) z⟩
        refine ⟨fun y => ?_, fun y => ?_⟩
        · have es : stI kd nm 0 0 5 (0, i, V) = (2, i, V) := by
            unfold stI
            rw [if_neg (fun y => y rfl), if_pos rfl, if_neg (fun w => w z), if_neg (show ¬ (0 ≤ nm i ∧ nm i ≤ 5) by omega)]
          refine kX3_number G d t0 k 0 5 C (0, i, V) m _ ht hk (by omega) (fun _ _ _ w => by have w : nm i ≤ 5 := w; omega) h' (fun m1 g1 g2 x3 ex => ?_)
          rw [ex, en]
          refine last _ m1 g1 ?_ g2
          rw [eb, es, if_neg (by omega)]
        · refine kX3_fail2 G (d + 1) i 7 m _ c1 c4 hi (fun m1 g1 g2 g3 g4 => ?_)
          have hR : RR kd nm st cnt t0 k C (7, i, V) m1 := Or.inr ⟨by show 0 < 7; omega, by show 7 ≤ 7; omega, g1, g2⟩
          refine kX3_number G d t0 k 0 5 C (7, i, V) m1 _ ht hk (by omega) (fun w => absurd w (show ¬ ((7 : Nat) = 0) by decide)) hR (fun m2 j1 j2 x3 ex => ?_)
          rw [ex, en]
          have es : stI kd nm 0 0 5 (7, i, V) = (7, i, V) := by
            unfold stI
            rw [if_pos (show (7 : Nat) ≠ 0 by decide)]
          rw [es] at j1
          refine last _ m2 j1 ?_ ((FN.w3 g3 g4 ht).tr j2)
          rw [eb, if_pos (by omega)]
    · have h0 : 0 < e := h0
      have h7 : e ≤ 7 := h7
      have eb : belP kd nm (f + 1) n (e, i, V) = (e, i, V) := by
        show (if e ≠ 0 then (e, i, V) else _) = _
        rw [if_pos (by omega)]
      refine ⟨fun _ => hK m (by rw [eb]; exact h') (FN.rf t0 k m), fun z => ?_⟩
      rw [hf] at z
      have : e = 0 := (eq_nI (b := 0) (by omega) (by omega)).mp z
      omega
theorem kX3_readNumbers (G : GP) {kd nm st : Nat → Nat} {cnt : Nat} (d t0 k s i : Nat) (C : List (Nat × Nat)) (m : Mem) (K : Mem → Prop) (ht : t0 < 4) (hk : k < 24) (hs : 3 ≤ s ∧ s ≤ 10) (h : NS kd nm st cnt t0 k i [] C m) (hK : ∀ m', RR kd nm st cnt t0 k C (bodP kd nm s (0, i, [])) m' → FN t0 k m m' → K m') : Evv G (d + 3) mX3_readNumbers [.ref (ga G 233), .int (nI (100 + s))] m K := by
  have hR : RR kd nm st cnt t0 k C (0, i, []) m := Or.inl ⟨rfl, h⟩
  have l0 : ((0, i, []) : Nat × Nat × List Nat).2.2.length = 0 := rfl
  have eq : ∀ a : Nat, a < 200 → (nI (100 + s) = nI a ↔ 100 + s = a) := fun a ha => eq_nI (by omega) (by omega)
  generalize ((0, i, []) : Nat × Nat × List Nat) = r at hR l0 hK
  have one : ∀ a b : Nat, a ≤ b → b ≤ 1000 → bodP kd nm s r = stI kd nm 0 a b r → Evv G (d + 2) mX3_number [.ref (ga G 233), .int (nI a), .int (nI b)] m (fun m' => K m') := fun a b h1 h2 e => by
    refine kX3_number G (d + 1) t0 k a b C r m _ ht hk ⟨h1, h2⟩ (fun _ _ _ _ => by omega) hR (fun m' g1 g2 => hK m' (by rw [e]; exact g1) g2)
  refine vX3_readNumbers G d _ m K ⟨fun q => ?_, fun q => ?_, fun q => ?_, fun q => ?_, fun q => ?_, fun q => ?_, fun q => ?_, fun q => ?_⟩
  · have e : s = 3 := by have := (eq 103 (by omega)).mp q; omega
    subst e
    have a1 := (stI_l0 kd nm 1 9 r).1
    have a2 := (stI_l1 kd nm 111 0 (stI kd nm 0 1 9 r)).1
    have a3 := (stI_l0 kd nm 0 9 (stI kd nm 1 111 0 (stI kd nm 0 1 9 r))).1
    have a4 := (stI_l1 kd nm 112 0 (stI kd nm 0 0 9 (stI kd nm 1 111 0 (stI kd nm 0 1 9 r)))).1
    refine kX3_number G (d + 1) t0 k 1 9 C r m _ ht hk (by omega) (fun _ _ _ _ => by omega) hR (fun m1 g1 f1 => ?_)
    refine kX3_pass G (d + 1) t0 k 111 C _ m1 _ ht (by omega) g1 (fun m2 g2 f2 => ?_)
    refine kX3_number G (d + 1) t0 k 0 9 C _ m2 _ ht hk (by omega) (fun _ _ _ _ => by rw [a2]; omega) g2 (fun m3 g3 f3 => ?_)
    refine kX3_pass G (d + 1) t0 k 112 C _ m3 _ ht (by omega) g3 (fun m4 g4 f4 => ?_)
    refine kX3_number G (d + 1) t0 k 1 9 C _ m4 _ ht hk (by omega) (fun _ _ _ _ => by rw [a4]; rw [a2] at a3; omega) g4 (fun m5 g5 f5 => hK m5 g5 ((((f1.tr f2).tr f3).tr f4).tr f5))
  · have e : s = 4 := by have := (eq 104 (by omega)).mp q; omega
    subst e
    have a1 := (stI_l0 kd nm 0 3 r).1
    have a2 := (stI_l1 kd nm 113 0 (stI kd nm 0 0 3 r)).1
    have a3 := (stI_l0 kd nm 0 99 (stI kd nm 1 113 0 (stI kd nm 0 0 3 r))).1
    have a4 := (stI_l1 kd nm 58 0 (stI kd nm 0 0 99 (stI kd nm 1 113 0 (stI kd nm 0 0 3 r)))).1
    have a5 := (stI_l0 kd nm 0 5 (stI kd nm 1 58 0 (stI kd nm 0 0 99 (stI kd nm 1 113 0 (stI kd nm 0 0 3 r))))).1
    rw [a2] at a3
    rw [a4] at a5
    refine kX3_number G (d + 1) t0 k 0 3 C r m _ ht hk (by omega) (fun _ _ _ _ => by omega) hR (fun m1 g1 f1 => ?_)
    refine kX3_pass G (d + 1) t0 k 113 C _ m1 _ ht (by omega) g1 (fun m2 g2 f2 => ?_)
    refine kX3_number G (d + 1) t0 k 0 99 C _ m2 _ ht hk (by omega) (fun _ _ _ _ => by rw [a2]; omega) g2 (fun m3 g3 f3 => ?_)
    refine kX3_pass G (d + 1) t0 k 58 C _ m3 _ ht (by omega) g3 (fun m4 g4 f4 => ?_)
    refine vX3_readBells G d m4 _ (kX3_number G d t0 k 0 5 C _ m4 _ ht hk (by omega) (fun _ _ _ _ => by rw [a4]; omega) g4 (fun m5 g5 f5 => ?_))
    refine kX3_bells G d t0 k C ht hk 4 1 _ m5 _ rfl (by omega) (by omega) g5 (fun m6 g6 f6 => hK m6 g6 (((((f1.tr f2).tr f3).tr f4).tr f5).tr f6))
  · have e : s = 5 := by have := (eq 105 (by omega)).mp q; omega
    subst e
    exact one 0 5 (by omega) (by omega) rfl
  · have e : s = 6 := by have := (eq 106 (by omega)).mp q; omega
    subst e
    exact one 0 9 (by omega) (by omega) rfl
  · have e : s = 7 := by have := (eq 107 (by omega)).mp q; omega
    subst e
    exact one 0 9 (by omega) (by omega) rfl
  · have e : s = 8 := by have := (eq 108 (by omega)).mp q; omega
    subst e
    exact one 0 9 (by omega) (by omega) rfl
  · have e : s = 9 := by have := (eq 109 (by omega)).mp q; omega
    subst e
    exact one 1 60 (by omega) (by omega) rfl
  · have e : s = 10 := by
      obtain ⟨q3, q4, q5, q6, q7, q8, q9⟩ := q
      have n3 : ¬ 100 + s = 103 := fun z => q3 ((eq 103 (by omega)).mpr z)
      have n4 : ¬ 100 + s = 104 := fun z => q4 ((eq 104 (by omega)).mpr z)
      have n5 : ¬ 100 + s = 105 := fun z => q5 ((eq 105 (by omega)).mpr z)
      have n6 : ¬ 100 + s = 106 := fun z => q6 ((eq 106 (by omega)).mpr z)
      have n7 : ¬ 100 + s = 107 := fun z => q7 ((eq 107 (by omega)).mpr z)
      have n8 : ¬ 100 + s = 108 := fun z => q8 ((eq 108 (by omega)).mpr z)
      have n9 : ¬ 100 + s = 109 := fun z => q9 ((eq 109 (by omega)).mpr z)
      omega
    subst e
    exact hK m hR (FN.rf t0 k m)
