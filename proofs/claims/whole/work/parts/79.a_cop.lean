/-! the class reads a law: operators -/
theorem hold_t : ∀ t, t < 123 → t ≠ 5 → holdV (nI t) = nI (if boT t ≠ 0 then rk (boT t) else if t = 116 then 3 else 0) := by decide +kernel
theorem pnC_t : ∀ t, t < 123 → boT t ≠ 0 → pnC (boT t) = t ∧ t ≠ 41 ∧ t ≠ 1 := by decide +kernel
theorem rop_a (G : GP) (d : Nat) (m : Mem) (K : Mem → Prop) (h : Int32) (hh : holdV (m.1 233 5) = h) (hx : h = 5 ∨ h = 6 ∨ h = 7) (h41 : ¬ m.1 233 5 = 41) (h12 : m.1 233 12 = 0 ∨ m.1 233 12 = 1) (hK : ∀ m12 : Mem, m12 = wI m 233 12 (m.1 233 12) → Gw G (d + 2) mX3_readOperator 165 [.ref (ga G 233), .int h, .int 0, .int 0] [] m12 (Qv K)) : Evv G (d + 2) mX3_readOperator [.ref (ga G 233)] m K := by
  have n : ∀ k : Int32, k = 0 ∨ k = 1 ∨ k = 2 ∨ k = 3 ∨ k = 4 → ¬ h = k := by
    rintro k (rfl | rfl | rfl | rfl | rfl) <;> rcases hx with rfl | rfl | rfl <;> decide
  refine vX3_readOperator G d m K (fun x1 ex1 => ?_)
  rw [hh] at ex1
  subst ex1
  refine ⟨fun z => absurd z (n 1 (by decide)), fun _ => ⟨fun _ => ?_, fun z => absurd z (n 2 (by decide))⟩⟩
  refine vX3_readOperator_24 G d _ _ _ m K ⟨fun z => absurd rfl z, fun _ => ⟨fun _ => ?_, fun z => absurd z (n 4 (by decide))⟩⟩
  refine vX3_readOperator_39 G d _ _ _ m K ⟨fun _ => ⟨fun z => absurd z (n 0 (by decide)), fun _ => ⟨fun _ => ?_, fun z => absurd z (n 3 (by decide))⟩⟩, fun z => absurd z h41⟩
  refine vX3_readOperator_114 G d _ _ _ m K ⟨fun _ => ?_, fun z => absurd rfl z⟩
  exact vX3_readOperator_141 G d _ _ _ m K ⟨fun _ => ⟨h12, hK⟩, fun z => absurd rfl z⟩
theorem rop_c (G : GP) (d : Nat) (m : Mem) (K : Mem → Prop) (hh : holdV (m.1 233 5) = 4) (h41 : ¬ m.1 233 5 = 41) (hf : (0 < m.1 233 9 ∨ ¬ 0 = m.1 233 12) → Evv G (d + 1) mX3_fail [.ref (ga G 233), .int 1] m (fun m' => K m')) (hk : ¬ 0 < m.1 233 9 → 0 = m.1 233 12 → ∀ m12 : Mem, m12 = wI m 233 12 1 → Gw G (d + 2) mX3_readOperator 165 [.ref (ga G 233), .int 4, .int 0, .int 1] [] m12 (Qv K)) : Evv G (d + 2) mX3_readOperator [.ref (ga G 233)] m K := by
  refine vX3_readOperator G d m K (fun x1 ex1 => ?_)
  rw [hh] at ex1
  subst ex1
  refine ⟨fun z => absurd z (by decide), fun _ => ⟨fun _ => ?_, fun z => absurd z (by decide)⟩⟩
  refine vX3_readOperator_24 G d _ _ _ m K ⟨fun z => absurd rfl z, fun _ => ⟨fun z => absurd rfl z, fun _ => ?_⟩⟩
  refine vX3_readOperator_39 G d _ _ _ m K ⟨fun _ => ⟨fun z => absurd z (by decide), fun _ => ⟨fun _ => ?_, fun z => absurd z (by decide)⟩⟩, fun z => absurd z h41⟩
  refine vX3_readOperator_114 G d _ _ _ m K ⟨fun z => absurd z (by decide), fun _ => ⟨fun q => hf (Or.inl q), fun q => ⟨fun y => ?_, fun y => hf (Or.inr y)⟩⟩⟩
  exact vX3_readOperator_141 G d _ _ _ m K ⟨fun z => absurd z (by decide), fun _ => ⟨fun z => absurd rfl z, fun _ => hk q y⟩⟩
theorem rop_j (G : GP) (d : Nat) (m : Mem) (K : Mem → Prop) (h : Int32) (hh : holdV (m.1 233 5) = h) (hx : h = 1 ∨ h = 2) (h41 : ¬ m.1 233 5 = 41) (hf : (0 < m.1 233 9 ∨ ¬ 1 = m.1 233 12) → Evv G (d + 1) mX3_fail [.ref (ga G 233), .int 1] m (fun m' => K m')) (hk : ¬ 0 < m.1 233 9 → 1 = m.1 233 12 → ∀ m12 : Mem, m12 = wI m 233 12 0 → Gw G (d + 2) mX3_readOperator 165 [.ref (ga G 233), .int h, .int 1, .int 1] [] m12 (Qv K)) : Evv G (d + 2) mX3_readOperator [.ref (ga G 233)] m K := by
  have n : ∀ k : Int32, k = 0 ∨ k = 3 → ¬ h = k := by
    rintro k (rfl | rfl) <;> rcases hx with rfl | rfl <;> decide
  refine vX3_readOperator G d m K (fun x1 ex1 => ?_)
  rw [hh] at ex1
  subst ex1
  have go : Gw G (d + 2) mX3_readOperator 24 [.ref (ga G 233), .int x1, .int 1, uu] [] m (Qv K) := by
    refine vX3_readOperator_24 G d _ _ _ m K ⟨fun _ => ?_, fun z => absurd z (by decide)⟩
    refine vX3_readOperator_39 G d _ _ _ m K ⟨fun _ => ⟨fun z => absurd z (n 0 (by decide)), fun _ => ⟨fun _ => ?_, fun z => absurd z (n 3 (by decide))⟩⟩, fun z => absurd z h41⟩
    refine vX3_readOperator_114 G d _ _ _ m K ⟨fun z => absurd z (by decide), fun _ => ⟨fun q => hf (Or.inl q), fun q => ⟨fun y => ?_, fun y => hf (Or.inr y)⟩⟩⟩
    exact vX3_readOperator_141 G d _ _ _ m K ⟨fun z => absurd z (by decide), fun _ => ⟨fun _ => hk q y, fun z => absurd z (by decide)⟩⟩
  refine ⟨fun _ => go, fun z1 => ⟨fun z2 => ?_, fun _ => go⟩⟩
  rcases hx with z | z
  · exact absurd z z1
  · exact absurd z z2
theorem rop_0 (G : GP) (d : Nat) (m : Mem) (K : Mem → Prop) (h : Int32) (hh : holdV (m.1 233 5) = h) (hx : h = 0 ∨ h = 3) (hf : ¬ (m.1 233 5 = 41 ∧ ¬ m.1 233 9 ≤ 0) → Evv G (d + 1) mX3_fail [.ref (ga G 233), .int 1] m (fun m' => K m')) (hp : m.1 233 5 = 41 → ¬ m.1 233 9 ≤ 0 → Evv G (d + 1) mX3_settle [.ref (ga G 233), .int 1] m (fun m6 => ∀ m7 : Mem, m7 = wI m6 233 9 ((m6.1 233 9) - 1) → ∀ m8 : Mem, m8 = wI m7 233 8 ((m7.1 233 8) - 1) → ∀ m9 : Mem, m9 = wI m8 233 7 (imax 0 ((m8.1 233 7) - 1)) → K m9)) : Evv G (d + 2) mX3_readOperator [.ref (ga G 233)] m K := by
  have n : ∀ k : Int32, k = 1 ∨ k = 2 ∨ k = 4 → ¬ h = k := by
    rintro k (rfl | rfl | rfl) <;> rcases hx with rfl | rfl <;> decide
  refine vX3_readOperator G d m K (fun x1 ex1 => ?_)
  rw [hh] at ex1
  subst ex1
  refine ⟨fun z => absurd z (n 1 (by decide)), fun _ => ⟨fun _ => ?_, fun z => absurd z (n 2 (by decide))⟩⟩
  refine vX3_readOperator_24 G d _ _ _ m K ⟨fun z => absurd rfl z, fun _ => ⟨fun _ => ?_, fun z => absurd z (n 4 (by decide))⟩⟩
  refine vX3_readOperator_39 G d _ _ _ m K ⟨fun q => ⟨fun _ => hf (fun z => q z.1), fun z0 => ⟨fun z3 => ?_, fun _ => hf (fun z => q z.1)⟩⟩, fun q => ⟨fun b => ⟨fun _ => hf (fun z => z.2 b), fun z0 => ⟨fun z3 => ?_, fun _ => hf (fun z => z.2 b)⟩⟩, fun b => hp q b⟩⟩
  · rcases hx with z | z
    · exact absurd z z0
    · exact absurd z z3
  · rcases hx with z | z
    · exact absurd z z0
    · exact absurd z z3
def NoP (C : List (Nat × Nat)) : Prop := ∀ k, k < C.length → ¬ (oL C k = 1 ∧ vL C k = 12)
theorem NoP_stl {r : Nat} (hr : 1 ≤ r) : ∀ {S : List Nat} {C : List (Nat × Nat)}, GS S → NoP C → NoP (stl r S C).2
  | [], C, _, h => h
  | o :: S, C, hG, h => by
    by_cases e : r ≤ rk o
    · have h1 : stl r (o :: S) C = stl r S (C ++ [(o, 0)]) := if_pos e
      rw [h1]
      refine NoP_stl hr hG.1 (fun k hk => ?_)
      rw [List.length_append, List.length_singleton] at hk
      by_cases ek : k = C.length
      · subst ek
        rw [(oL_last C (o, 0)).1]
        have := hG.2.1
        unfold opIn at this
        omega
      · rw [(oL_app (by omega)).1, (oL_app (by omega)).2]
        exact h k (by omega)
    · have h1 : stl r (o :: S) C = (o :: S, C) := if_neg e
      rw [h1]
      exact h
/-- an operator that joins two is put -/
theorem op165 (G : GP) {kd nm st : Nat → Nat} {cnt : Nat} (d t0 i o : Nat) (S : List Nat) (C : List (Nat × Nat)) (b : Bool) (u : Value) (m mm : Mem) (K : Mem → Prop) (ht : t0 < 4) (hi : i < cnt) (h : CS kd nm st cnt t0 i S C false m) (hB : Bn i S C) (ho : opIn o) (hb : isB o = true) (hO : isO o = false) (ek : kd i = pnC o) (h10 : 10 ≤ o → hasP S = false) (fq : FQ m mm) (e34 : mm.1 234 = m.1 234) (hp : ∀ p, p ≠ 12 → mm.1 233 p = m.1 233 p) (e12 : mm.1 233 12 = (if cmpF (o :: (stl (rk o) S C).1) then 1 else 0)) (ea : askS (o :: (stl (rk o) S C).1) = b) (hK : ∀ m', CS kd nm st cnt t0 i (o :: (stl (rk o) S C).1) (stl (rk o) S C).2 true m' → Bn (i + 1) (o :: (stl (rk o) S C).1) (stl (rk o) S C).2 → FC t0 m m' → K m') : Gw G (d + 2) mX3_readOperator 165 [.ref (ga G 233), .int (nI (rk o)), .int (if b then 1 else 0), u] [] mm (Qv K) := by
  obtain ⟨c1, c2, c3, c4, c5, c6, c7, c8, c9, c10, c11, c12, c13, c14⟩ := h
  have hc := c1.2.1
  obtain ⟨hG, h8, hlen⟩ := hB
  have h45 := GS_len hG h8
  have hr8 := rk_le ho
  have hr1 : 1 ≤ rk o ∧ rk o ≠ 7 := by
    rcases op_cases ho with rfl | rfl | rfl | rfl | rfl | rfl | rfl | rfl | rfl | rfl | rfl | rfl | rfl | rfl | rfl | rfl <;> first | decide | exact absurd hb (by decide)
  obtain ⟨g1, g2, g3, g4, g5⟩ := stl_GS (l := rk o) (C := C) hG
  have gh := hasP_stl (l := rk o) (S := S) (C := C) hr1.1
  have gn := nP_stl (r := rk o) (S := S) (C := C) hr1.1
  have hN := fun z => NoP_stl (r := rk o) (S := S) (C := C) hr1.1 hG (c14.2 z)
  generalize hZ : stl (rk o) S C = Z at g1 g2 g3 g4 g5 gh gn e12 ea hK hN
  obtain ⟨S1, C1⟩ := Z
  have g1 : GS S1 := g1
  have g2 : opS S1 ≤ opS S := g2
  have g3 : S1.length ≤ S.length := g3
  have g4 : C1.length + S1.length = C.length + S.length := g4
  have g5 : S1 = [] ∨ topR S1 < rk o := g5
  have gh : hasP S1 = hasP S := gh
  have gn : nP S1 = nP S := gn
  have e12 : mm.1 233 12 = (if cmpF (o :: S1) then 1 else 0) := e12
  have ea : askS (o :: S1) = b := ea
  have hg : GS (o :: S1) := push_b g1 ho hb g5 (fun z => by rw [gh]; exact h10 z)
  have hop : opS (o :: S1) = opS S1 := by
    show opS S1 + (if isO o then 1 else 0) = opS S1
    rw [hO]; rfl
  have o40 : o ≠ 40 := fun z => by rw [z] at hb; exact absurd hb (by decide)
  have hnp : nP (o :: S1) = nP S1 := by
    show nP S1 + (if o = 40 then 1 else 0) = nP S1
    rw [if_neg o40, Nat.add_zero]
  have hK : ∀ m', CS kd nm st cnt t0 i (o :: S1) C1 true m' → Bn (i + 1) (o :: S1) C1 → FC t0 m m' → K m' := hK
  refine vX3_readOperator_165 G d _ _ u mm K ⟨by cases b <;> decide, fun m15 em15 m16 em16 => ?_⟩
  have b3 : m16.1 233 = upd (upd (mm.1 233) 11 (if b then 1 else 0)) 10 1 := by rw [em16, wI_s, em15, wI_s]
  have f16 : FQ m m16 := fq.tr (by rw [em16, em15]; exact (FQ.w3 mm _ _).tr (FQ.w3 _ _ _))
  have b4 : m16.1 234 = m.1 234 := by rw [em16, wI_n _ _ _ (by omega), em15, wI_n _ _ _ (by omega), e34]
  have bp : ∀ p, p ≠ 10 → p ≠ 11 → p ≠ 12 → m16.1 233 p = m.1 233 p := fun p h1 h2 h3 => by rw [b3, upd_n _ _ h1, upd_n _ _ h2]; exact hp p h3
  have e7 : ¬ nI (rk o) = 7 := fun z => hr1.2 ((eq_nI (b := 7) (by omega) (by omega)).mp z)
  refine ⟨fun _ => ?_, fun z => absurd z e7⟩
  refine kX3_settle G d t0 (rk o) ht (by omega) S C m16 _ hG h8 (by rw [f16.2]; exact c2) ((bp 7 (by omega) (by omega) (by omega)).trans c6) ((bp 8 (by omega) (by omega) (by omega)).trans c7) (by rw [b4]; exact c12) (f16.ccl c13) (by omega) (fun m17 k1 k2 k3 k4 k5 => ?_)
  rw [hZ] at k1 k2 k3 k4
  have k1 : m17.1 233 7 = nI S1.length := k1
  have k2 : m17.1 233 8 = nI (opS S1) := k2
  have k3 : PC S1 (m17.1 234) := k3
  have k4 : CCl t0 C1 m17 := k4
  have q5 : m17.1 233 5 = nI (pnC o) := by rw [k5.2.2.1 5 (by omega) (by omega), bp 5 (by omega) (by omega) (by omega), c5, ek]
  rw [q5]
  refine kX3_putWaiting G (d + 1) o S1 m17 _ k1 (by omega) k3 (fun m18 j1 j2 j3 j4 => ?_)
  have jp : ∀ p, p ≠ 7 → p ≠ 8 → p ≠ 10 → p ≠ 11 → p ≠ 12 → m18.1 233 p = m.1 233 p := fun p h1 h2 h3 h4 h5 => by rw [j3 p h1, k5.2.2.1 p h1 h2, bp p h3 h4 h5]
  have fc : FC t0 m m18 := ((FQ.fc (t0 := t0) f16).tr k5.fc).tr (FQ.fc (t0 := t0) j4)
  have a4 : m17.1 (238 + 6 * t0) 4 = m.1 (238 + 6 * t0) 4 := by rw [k5.2.1 4 (by omega), f16.1 _ (by omega) (by omega)]
  refine hK m18 ⟨fc.tb c1, by rw [fc.2.2]; exact c2, ⟨(jp 0 (by omega) (by omega) (by omega) (by omega) (by omega)).trans c3.1, (jp 1 (by omega) (by omega) (by omega) (by omega) (by omega)).trans c3.2⟩, (jp 4 (by omega) (by omega) (by omega) (by omega) (by omega)).trans c4, (jp 5 (by omega) (by omega) (by omega) (by omega) (by omega)).trans c5, by rw [List.length_cons]; exact j1, by rw [j3 8 (by omega), k2, hop], by rw [jp 9 (by omega) (by omega) (by omega) (by omega) (by omega), c8, hnp, gn], ?_, fun _ => ?_, ?_, j2, j4.ccl k4, j4.acl ?_⟩ ⟨hg, by omega, by rw [List.length_cons]; omega⟩ fc
  · rw [j3 10 (by omega), k5.2.2.1 10 (by omega) (by omega), b3, upd_s]; rfl
  · rw [j3 11 (by omega), k5.2.2.1 11 (by omega) (by omega), b3, upd_n _ _ (by omega), upd_s, ea]
  · rw [j3 12 (by omega), k5.2.2.1 12 (by omega) (by omega), b3, upd_n _ _ (by omega), upd_n _ _ (by omega)]; exact e12
  · unfold ACl
    rw [a4]
    exact ⟨c14.1, fun z => hN z⟩
