/-! the class's own pile and code -/
def pnC (o : Nat) : Nat := if o = 40 then 40 else opN o
def PC : List Nat → (Nat → Int32) → Prop
  | [], _ => True
  | o :: S, g => g S.length = nI (pnC o) ∧ PC S g
theorem PC.fr : ∀ {S : List Nat} {g g' : Nat → Int32}, PC S g → (∀ k, k < S.length → g' k = g k) → PC S g'
  | [], _, _, _, _ => True.intro
  | o :: S, g, g', h, e => ⟨(e _ (by rw [List.length_cons]; omega)).trans h.1, PC.fr h.2 (fun k hk => e k (by rw [List.length_cons]; omega))⟩
def nP : List Nat → Nat
  | [] => 0
  | o :: S => nP S + (if o = 40 then 1 else 0)
theorem nP_has : ∀ (S : List Nat), (0 < nP S ↔ hasP S = true)
  | [] => by simp [nP, hasP]
  | o :: S => by
    have ih := nP_has S
    unfold nP
    unfold hasP at ih ⊢
    rw [List.contains_cons, Bool.or_eq_true]
    by_cases e : o = 40
    · subst e; simp
    · have : (40 == o) = false := by rw [beq_eq_false_iff_ne]; omega
      rw [if_neg e, this, Nat.add_zero, ih]
      simp
theorem nP_op : ∀ (S : List Nat), nP S ≤ opS S
  | [] => Nat.le_refl _
  | o :: S => by
    have ih := nP_op S
    unfold nP opS
    by_cases e : o = 40
    · subst e
      rw [if_pos rfl, if_pos (show isO 40 = true from rfl)]
      omega
    · rw [if_neg e]; omega
/-- compared already, whatever is open -/
def cmpF : List Nat → Bool
  | [] => false
  | o :: S => if 4 < rk o ∨ o = 40 then cmpF S else decide (rk o = 4)
theorem cmpF_c (o : Nat) (S : List Nat) : cmpF (o :: S) = if 4 < rk o ∨ o = 40 then cmpF S else decide (rk o = 4) := rfl
theorem cmpF_S : ∀ {S : List Nat}, hasP S = false → cmpF S = cmpS S
  | [], _ => rfl
  | o :: S, h => by
    have h2 : hasP S = false ∧ o ≠ 40 := by
      unfold hasP at h ⊢
      rw [List.contains_cons, Bool.or_eq_false_iff] at h
      refine ⟨h.2, fun z => ?_⟩
      rw [z] at h
      exact absurd h.1 (by decide)
    rw [cmpF_c]
    unfold cmpS
    by_cases e : 4 < rk o
    · rw [if_pos (Or.inl e), if_pos e]; exact cmpF_S h2.1
    · rw [if_neg e, if_neg (fun z => z.elim e h2.2)]
theorem cmpF_5 {r : Nat} (hr : 5 ≤ r) : ∀ {S : List Nat} {C : List (Nat × Nat)}, cmpF (stl r S C).1 = cmpF S
  | [], _ => rfl
  | o :: S, C => by
    by_cases e : r ≤ rk o
    · have h1 : stl r (o :: S) C = stl r S (C ++ [(o, 0)]) := if_pos e
      rw [h1, cmpF_5 hr, cmpF_c, if_pos (Or.inl (by omega))]
    · have h1 : stl r (o :: S) C = (o :: S, C) := if_neg e
      rw [h1]
theorem cmpF_P : ∀ {S : List Nat} {C : List (Nat × Nat)}, GS S → hasP S = true → cmpF (stl 1 S C).1 = cmpF S
  | [], _, _, h => by cases h
  | o :: S, C, hG, h => by
    by_cases e : 1 ≤ rk o
    · have h1 : stl 1 (o :: S) C = stl 1 S (C ++ [(o, 0)]) := if_pos e
      have o40 : o ≠ 40 := fun z => by
        rw [z] at e
        exact absurd e (by decide)
      have hS : hasP S = true := by
        unfold hasP at h ⊢
        rw [List.contains_cons, Bool.or_eq_true] at h
        rcases h with z | z
        · exact absurd (by simpa using z) (fun y : 40 = o => o40 y.symm)
        · exact z
      have h10 : ¬ (10 ≤ o ∧ o < 40) := fun z => by
        have := hG.2.2.2.1 z
        rw [hS] at this; cases this
      have h5 : 4 < rk o := by
        rcases op_cases hG.2.1 with rfl | rfl | rfl | rfl | rfl | rfl | rfl | rfl | rfl | rfl | rfl | rfl | rfl | rfl | rfl | rfl <;> first | decide | omega
      rw [h1, cmpF_P hG.1 hS, cmpF_c, if_pos (Or.inl h5)]
    · have h1 : stl 1 (o :: S) C = (o :: S, C) := if_neg e
      rw [h1]
theorem nP_stl {r : Nat} (hr : 1 ≤ r) : ∀ {S : List Nat} {C : List (Nat × Nat)}, nP (stl r S C).1 = nP S
  | [], _ => rfl
  | o :: S, C => by
    by_cases e : r ≤ rk o
    · have h1 : stl r (o :: S) C = stl r S (C ++ [(o, 0)]) := if_pos e
      have o40 : o ≠ 40 := fun z => by
        rw [z] at e
        have : rk 40 = 0 := rfl
        omega
      rw [h1, nP_stl hr]
      unfold nP
      rw [if_neg o40, Nat.add_zero]
      cases S <;> rfl
    · have h1 : stl r (o :: S) C = (o :: S, C) := if_neg e
      rw [h1]
def CCl (t0 : Nat) (C : List (Nat × Nat)) (m : Mem) : Prop := m.1 (238 + 6 * t0) 5 = nI C.length ∧ ∀ k, k < C.length → m.1 (238 + 6 * t0 + 3) k = nI (opC (oL C k) (vL C k))
def ACl (t0 : Nat) (C : List (Nat × Nat)) (m : Mem) : Prop := (m.1 (238 + 6 * t0) 4 = 0 ∨ m.1 (238 + 6 * t0) 4 = 1) ∧ (m.1 (238 + 6 * t0) 4 = 0 → ∀ k, k < C.length → ¬ (oL C k = 1 ∧ vL C k = 12))
/-- an emit's frame -/
def FE (t0 : Nat) (m m' : Mem) : Prop := (∀ c, c ≠ 238 + 6 * t0 → c ≠ 238 + 6 * t0 + 3 → m'.1 c = m.1 c) ∧ (∀ p, p ≠ 5 → m'.1 (238 + 6 * t0) p = m.1 (238 + 6 * t0) p) ∧ m'.2.2 = m.2.2
theorem kX8_emit (G : GP) (d t0 : Nat) (x : Nat × Nat) (C : List (Nat × Nat)) (m : Mem) (K : Mem → Prop) (ht : t0 < 4) (h : CCl t0 C m) (hC : C.length < 300) (hK : ∀ m', CCl t0 (C ++ [x]) m' → FE t0 m m' → K m') : Evv G d mX8_emit [.ref (ga G (238 + 6 * t0)), .int (nI (opC x.1 x.2))] m K := by
  have e2 : (nI C.length).toNatClampNeg = C.length := tn_nI (by omega)
  refine vX8_emit G d (238 + 6 * t0) (tx_all t0 ht) _ m K ?_
  rw [h.1, e2]
  refine ⟨fun z => ?_, fun _ => ⟨in_nI (by omega) (by omega), fun m1 em1 m2 em2 => ?_⟩⟩
  · have := (le_nI (a := 300) (by omega) (by omega)).mp z
    omega
  have a1 : m1.1 (238 + 6 * t0) = m.1 (238 + 6 * t0) := by rw [em1]; exact wI_n m _ _ (by omega)
  rw [a1, h.1, show (1 : Int32) = nI 1 from rfl, nI_add] at em2
  have c0 : m2.1 (238 + 6 * t0) = upd (m.1 (238 + 6 * t0)) 5 (nI (C.length + 1)) := by rw [em2, wI_s, a1]
  have c3 : m2.1 (238 + 6 * t0 + 3) = upd (m.1 (238 + 6 * t0 + 3)) C.length (nI (opC x.1 x.2)) := by rw [em2, wI_n m1 _ _ (by omega), em1, wI_s]
  refine hK m2 ⟨?_, fun k hk => ?_⟩ ⟨fun c h1 h2 => by rw [em2, wI_n m1 _ _ h1, em1, wI_n m _ _ h2], fun p hp => by rw [c0, upd_n _ _ hp], by rw [em2, em1]; rfl⟩
  · rw [c0, upd_s, List.length_append, List.length_singleton]
  · rw [List.length_append, List.length_singleton] at hk
    rw [c3]
    by_cases e : k = C.length
    · subst e
      rw [(oL_last C x).1, (oL_last C x).2, upd_s]
    · rw [(oL_app (by omega)).1, (oL_app (by omega)).2, upd_n _ _ (by omega)]
      exact h.2 k (by omega)
theorem hdV : ∀ {o : Nat}, opIn o → holdV (nI (pnC o)) = nI (rk o) := by
  intro o h
  rcases op_cases h with rfl | rfl | rfl | rfl | rfl | rfl | rfl | rfl | rfl | rfl | rfl | rfl | rfl | rfl | rfl | rfl <;> decide
/-- what a settling changes -/
def FS (t0 : Nat) (m m' : Mem) : Prop := (∀ c, c ≠ 233 → c ≠ 238 + 6 * t0 → c ≠ 238 + 6 * t0 + 3 → m'.1 c = m.1 c) ∧ (∀ p, p ≠ 5 → m'.1 (238 + 6 * t0) p = m.1 (238 + 6 * t0) p) ∧ (∀ p, p ≠ 7 → p ≠ 8 → m'.1 233 p = m.1 233 p) ∧ m'.2.2 = m.2.2
theorem FS.rf (t0 : Nat) (m : Mem) : FS t0 m m := ⟨fun _ _ _ _ => rfl, fun _ _ => rfl, fun _ _ _ => rfl, rfl⟩
theorem FS.tr {t0 : Nat} {a b c : Mem} (h : FS t0 a b) (k : FS t0 b c) : FS t0 a c := ⟨fun q h1 h2 h3 => (k.1 q h1 h2 h3).trans (h.1 q h1 h2 h3), fun p hp => (k.2.1 p hp).trans (h.2.1 p hp), fun p h1 h2 => (k.2.2.1 p h1 h2).trans (h.2.2.1 p h1 h2), k.2.2.2.trans h.2.2.2⟩
theorem FE.fs {t0 : Nat} (ht : t0 < 4) {m m' : Mem} (h : FE t0 m m') : FS t0 m m' := ⟨fun c _ h1 h2 => h.1 c h1 h2, h.2.1, fun p _ _ => by rw [h.1 233 (by omega) (by omega)], h.2.2⟩
theorem kX3_settle_0 (G : GP) (d t0 r : Nat) (ht : t0 < 4) (hr : 1 ≤ r ∧ r ≤ 8) : ∀ (S : List Nat) (C : List (Nat × Nat)) (u : Value) (m : Mem) (K : Mem → Prop), GS S → opS S ≤ 8 → m.2.2 233 3 = 238 + 6 * t0 → m.1 233 7 = nI S.length → m.1 233 8 = nI (opS S) → PC S (m.1 234) → CCl t0 C m → C.length + S.length ≤ 300 → (∀ m', m'.1 233 7 = nI (stl r S C).1.length → m'.1 233 8 = nI (opS (stl r S C).1) → PC (stl r S C).1 (m'.1 234) → CCl t0 (stl r S C).2 m' → FS t0 m m' → K m') → Gw G (d + 1) mX3_settle 0 [.ref (ga G 233), .int (nI r), u] [] m (Qv K)
  | [], C, u, m, K, hG, h8, hr3, h7, ho, hP, hC, hl, hK => by
    refine vX3_settle_0 G d _ u m K ⟨fun _ => hK m h7 ho hP hC (FS.rf t0 m), fun z => absurd ?_ z⟩
    rw [h7]
    exact (le_nI (b := 0) (by omega) (by omega)).mpr (Nat.le_refl _)
  | o :: S, C, u, m, K, hG, h8, hr3, h7, ho, hP, hC, hl, hK => by
    have h45 := GS_len hG h8
    rw [List.length_cons] at hl h45
    have h7' := h7
    rw [List.length_cons] at h7
    have hoI := hG.2.1
    have e2 : (nI S.length).toNatClampNeg = S.length := tn_nI (by omega)
    refine vX3_settle_0 G d _ u m K ⟨fun z => ?_, fun _ => ?_⟩
    · rw [h7] at z
      have := (le_nI (b := 0) (by omega) (by omega)).mp z
      omega
    rw [h7, nI_p, e2, hP.1, hdV hoI]
    have er : nI (rk o) < nI r ↔ rk o < r := by
      have := rk_le hoI
      exact lt_nI (by omega) (by omega)
    rw [er]
    refine ⟨in_nI (by omega) (by omega), fun z => ?_, fun z m1 em1 => ?_⟩
    · have hs : stl r (o :: S) C = (o :: S, C) := if_neg (by omega)
      rw [hs] at hK
      exact hK m h7' ho hP hC (FS.rf t0 m)
    have hs : stl r (o :: S) C = stl r S (C ++ [(o, 0)]) := if_pos (by omega)
    rw [hs] at hK
    have a3 : m1.1 233 = upd (m.1 233) 7 (nI S.length) := by rw [em1, wI_s]
    have ao : ∀ c, c ≠ 233 → m1.1 c = m.1 c := fun c hc => by rw [em1]; exact wI_n m _ _ hc
    have f1 : FS t0 m m1 := ⟨fun c h1 _ _ => ao c h1, fun p _ => by rw [ao _ (by omega)], fun p h1 _ => by rw [a3, upd_n _ _ h1], by rw [em1]; rfl⟩
    have b8 : m1.1 233 8 = nI (opS (o :: S)) := by rw [a3, upd_n _ _ (by omega)]; exact ho
    have hC1 : CCl t0 C m1 := by
      unfold CCl
      rw [ao _ (by omega), ao _ (by omega)]
      exact hC
    have r1 : m1.2.2 233 3 = 238 + 6 * t0 := by rw [em1]; exact hr3
    have b7 : m1.1 233 7 = nI S.length := by rw [a3, upd_s]
    rw [b7, e2, ao 234 (by omega), hP.1]
    have hne : o ≠ 40 := fun z' => by
      rw [z'] at z
      have : rk 40 = 0 := rfl
      omega
    have hpn : pnC o = opC o 0 := by
      rcases op_cases hoI with rfl | rfl | rfl | rfl | rfl | rfl | rfl | rfl | rfl | rfl | rfl | rfl | rfl | rfl | rfl | rfl <;> first | rfl | exact absurd rfl hne
    have hop : opS (o :: S) = opS S + (if isO o then 1 else 0) := rfl
    refine ⟨in_nI (by omega) (by omega), fun x2 ex2 => ?_⟩
    have go : ∀ mm : Mem, mm.1 233 7 = nI S.length → mm.1 233 8 = nI (opS S) → mm.2.2 233 3 = 238 + 6 * t0 → FS t0 m mm → CCl t0 C mm → ∀ t4 : Nat, mm.2.2 233 3 = t4 → t4 ≠ 0 ∧ TxAt t4 ∧ Evv G d mX8_emit [.ref (ga G t4), .int x2] mm (fun m5 => Gw G (d + 1) mX3_settle 0 [.ref (ga G 233), .int (nI r), .int x2] [] m5 (Qv K)) := by
      intro mm c7 c8 cr cf cC t4 et4
      rw [cr] at et4
      subst et4
      refine ⟨by omega, tx_all t0 ht, ?_⟩
      rw [ex2, hpn]
      refine kX8_emit G d t0 (o, 0) C mm _ ht cC (by omega) (fun m5 g1 g2 => ?_)
      have g3 : m5.1 233 = mm.1 233 := g2.1 233 (by omega) (by omega)
      refine kX3_settle_0 G d t0 r ht hr S _ _ m5 K hG.1 (by omega) (by rw [g2.2.2]; exact cr) (by rw [g3]; exact c7) (by rw [g3]; exact c8) ?_ g1 (by rw [List.length_append, List.length_singleton]; omega) (fun m' q1 q2 q3 q4 q5 => hK m' q1 q2 q3 q4 ((cf.tr (g2.fs ht)).tr q5))
      rw [g2.1 234 (by omega) (by omega), cf.1 234 (by omega) (by omega) (by omega)]
      exact hP.2
    have dn : isO o = true → ∀ m3, m3 = wI m1 233 8 (m1.1 233 8 - 1) → ∀ t4 : Nat, m3.2.2 233 3 = t4 → t4 ≠ 0 ∧ TxAt t4 ∧ Evv G d mX8_emit [.ref (ga G t4), .int x2] m3 (fun m5 => Gw G (d + 1) mX3_settle 0 [.ref (ga G 233), .int (nI r), .int x2] [] m5 (Qv K)) := by
      intro hO m3 em3
      rw [hO, if_pos rfl] at hop
      rw [b8, hop, nI_p] at em3
      have c3 : m3.1 233 = upd (m1.1 233) 8 (nI (opS S)) := by rw [em3, wI_s]
      have co : ∀ c, c ≠ 233 → m3.1 c = m1.1 c := fun c hc => by rw [em3]; exact wI_n m1 _ _ hc
      refine go m3 (by rw [c3, upd_n _ _ (by omega)]; exact b7) (by rw [c3, upd_s]) (by rw [em3]; exact r1) (f1.tr ⟨fun c h1 _ _ => co c h1, fun p _ => by rw [co _ (by omega)], fun p _ h2 => by rw [c3, upd_n _ _ h2], by rw [em3]; rfl⟩) ?_
      unfold CCl
      rw [co _ (by omega), co _ (by omega)]
      exact hC1
    have o41 := opIn_lt hoI
    have q116 : x2 = 116 → o = 20 := fun e => by
      rw [ex2] at e
      rcases op_cases hoI with rfl | rfl | rfl | rfl | rfl | rfl | rfl | rfl | rfl | rfl | rfl | rfl | rfl | rfl | rfl | rfl <;> first | rfl | exact absurd e (by decide)
    have q5 : x2 = 5 → o = 2 := fun e => by
      rw [ex2] at e
      rcases op_cases hoI with rfl | rfl | rfl | rfl | rfl | rfl | rfl | rfl | rfl | rfl | rfl | rfl | rfl | rfl | rfl | rfl <;> first | rfl | exact absurd e (by decide)
    have q94 : x2 = 94 → o = 7 := fun e => by
      rw [ex2] at e
      rcases op_cases hoI with rfl | rfl | rfl | rfl | rfl | rfl | rfl | rfl | rfl | rfl | rfl | rfl | rfl | rfl | rfl | rfl <;> first | rfl | exact absurd e (by decide)
    refine ⟨fun e m3 em3 => dn (by rw [q116 e]; rfl) m3 em3, fun n116 => ⟨fun e m3 em3 => dn (by rw [q5 e]; rfl) m3 em3, fun n5 => ⟨fun n94 => ?_, fun e m3 em3 => dn (by rw [q94 e]; rfl) m3 em3⟩⟩⟩
    have hO : isO o = false := by
      rw [ex2] at n116 n5 n94
      rcases op_cases hoI with rfl | rfl | rfl | rfl | rfl | rfl | rfl | rfl | rfl | rfl | rfl | rfl | rfl | rfl | rfl | rfl <;> first | rfl | exact absurd rfl hne | exact absurd rfl n116 | exact absurd rfl n5 | exact absurd rfl n94
    rw [hO, if_neg (by decide), Nat.add_zero] at hop
    exact go m1 b7 (by rw [b8, hop]) r1 f1 hC1
theorem kX3_settle (G : GP) (d t0 r : Nat) (ht : t0 < 4) (hr : 1 ≤ r ∧ r ≤ 8) (S : List Nat) (C : List (Nat × Nat)) (m : Mem) (K : Mem → Prop) (hG : GS S) (h8 : opS S ≤ 8) (hr3 : m.2.2 233 3 = 238 + 6 * t0) (h7 : m.1 233 7 = nI S.length) (ho : m.1 233 8 = nI (opS S)) (hP : PC S (m.1 234)) (hC : CCl t0 C m) (hl : C.length + S.length ≤ 300) (hK : ∀ m', m'.1 233 7 = nI (stl r S C).1.length → m'.1 233 8 = nI (opS (stl r S C).1) → PC (stl r S C).1 (m'.1 234) → CCl t0 (stl r S C).2 m' → FS t0 m m' → K m') : Evv G (d + 1) mX3_settle [.ref (ga G 233), .int (nI r)] m K :=
  vX3_settle G d _ m K (kX3_settle_0 G d t0 r ht hr S C _ m K hG h8 hr3 h7 ho hP hC hl hK)
