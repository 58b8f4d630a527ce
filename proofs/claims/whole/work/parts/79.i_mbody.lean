/-! the model's clauses: bodies -/
theorem stI_abs {kd nm : Nat → Nat} {k a b : Nat} {r : Nat × Nat × List Nat} (h : r.1 ≠ 0) : stI kd nm k a b r = r := if_pos h
def MN (t0 k : Nat) (V : List Nat) (g : Nat → Int32) : Prop := ∀ q, q < V.length → g (801 * t0 + 2 + 8 * k + q) = nI (V.getD q 0)
def MNp (t0 k : Nat) (V : List Nat) (g : Nat → Int32) : Prop := ∀ q, q < 6 → g (801 * t0 + 2 + 8 * k + q) = vAt V q
/-- what reading the numbers of clause k changes -/
def FB (t0 k : Nat) (m m' : Mem) : Prop := (∀ c, c ≠ 273 → c ≠ 276 → m'.1 c = m.1 c) ∧ (∀ p, ¬ (8 ≤ p ∧ p ≤ 11) → m'.1 273 p = m.1 273 p) ∧ ∀ p, p < 801 * t0 + 2 + 8 * k ∨ 801 * t0 + 8 + 8 * k ≤ p → m'.1 276 p = m.1 276 p
theorem FB.rf (t0 k : Nat) (m : Mem) : FB t0 k m m := ⟨fun _ _ _ => rfl, fun _ _ => rfl, fun _ _ => rfl⟩
theorem FB.tr {t0 k : Nat} {a b c : Mem} (h : FB t0 k a b) (j : FB t0 k b c) : FB t0 k a c := ⟨fun q h1 h2 => (j.1 q h1 h2).trans (h.1 q h1 h2), fun p hp => (j.2.1 p hp).trans (h.2.1 p hp), fun p hp => (j.2.2 p hp).trans (h.2.2 p hp)⟩
theorem MV.fb {t0 k : Nat} {m m' : Mem} (h : MV m m') : FB t0 k m m' := ⟨fun c h1 _ => h.1 c h1, fun p hp => h.p hp, fun p _ => by rw [h.1 276 (by omega)]⟩
theorem MX.fb {t0 k q : Nat} {v : Int32} {m m' : Mem} (h : MX (801 * t0 + 2 + 8 * k + q) v m m') (hq : q < 6) : FB t0 k m m' := ⟨h.1, h.2.1, fun p hp => by rw [h.2.2, upd_n _ _ (by omega)]⟩
theorem MN.push {t0 k x : Nat} {V : List Nat} {g : Nat → Int32} (h : MN t0 k V g) : MN t0 k (V ++ [x]) (upd g (801 * t0 + 2 + 8 * k + V.length) (nI x)) := by
  intro q hq
  rw [List.length_append, List.length_singleton] at hq
  have e := vAt_app (V := V) (x := x) (q := q)
  unfold vAt at e
  rw [List.length_append, List.length_singleton, if_pos hq] at e
  rw [e]
  by_cases h1 : q = V.length
  · rw [if_pos h1, h1, upd_s]
  · rw [if_neg h1, if_pos (by omega), upd_n _ _ (by omega)]
    exact h q (by omega)
theorem MNp.push {t0 k x : Nat} {V : List Nat} {g : Nat → Int32} (h : MNp t0 k V g) : MNp t0 k (V ++ [x]) (upd g (801 * t0 + 2 + 8 * k + V.length) (nI x)) := by
  intro q hq
  rw [vAt_app]
  by_cases h1 : q = V.length
  · rw [if_pos h1, h1, upd_s]
  · rw [if_neg h1, upd_n _ _ (by omega)]
    exact h q hq
/-- a number of a clause -/
theorem mfig (G : GP) {kd nm st : Nat → Nat} {cnt : Nat} {T : Nat → Mem → Prop} (H : TokM G kd nm st cnt T) (d t0 k i lo hi : Nat) (V : List Nat) (m : Mem) (K : Int32 → Mem → Prop) (ht : t0 < 4) (hk : k < 24) (hV : V.length < 6) (hhi : hi ≤ 1000) (hlo : lo ≤ hi) (hT : T i m) (hK : ∀ r m', r = stI kd nm 0 lo hi (0, i, V) → r.1 ≤ 7 → T r.2.1 m' → FB t0 k m m' → (r.1 = 0 → r.2.2 = V ++ [nm i] ∧ m'.1 276 = upd (m.1 276) (801 * t0 + 2 + 8 * k + V.length) (nI (nm i))) → K (nI r.1) m') : Evi G (d + 2) mX12_figure [.ref (ga G 273), .int (nI (801 * t0 + 2 + 8 * k + V.length)), .int (nI lo), .int (nI hi)] m K := by
  refine qX12_figure G H d i _ lo hi m K (by omega) hhi hlo hT (fun a b c m' g1 g2 => ?_) (fun a => ?_) (fun a b => ?_)
  · have e : stI kd nm 0 lo hi (0, i, V) = (0, i + 1, V ++ [nm i]) := by
      unfold stI
      rw [if_neg (fun y => y rfl), if_pos rfl, if_neg (fun w => w a), if_pos ⟨b, c⟩]
    exact hK (0, i + 1, V ++ [nm i]) m' e.symm (by show 0 ≤ 7; omega) g2 (g1.fb hV) (fun _ => ⟨rfl, g1.2.2⟩)
  · have e : stI kd nm 0 lo hi (0, i, V) = (1, i, V) := by
      unfold stI
      rw [if_neg (fun y => y rfl), if_pos rfl, if_pos a]
    exact hK (1, i, V) m e.symm (by show 1 ≤ 7; omega) hT (FB.rf t0 k m) (fun z => absurd z (show ¬ ((1 : Nat) = 0) by decide))
  · have e : stI kd nm 0 lo hi (0, i, V) = (2, i, V) := by
      unfold stI
      rw [if_neg (fun y => y rfl), if_pos rfl, if_neg (fun w => w a), if_neg b]
    exact hK (2, i, V) m e.symm (by show 2 ≤ 7; omega) hT (FB.rf t0 k m) (fun z => absurd z (show ¬ ((2 : Nat) = 0) by decide))
theorem mword (G : GP) {kd nm st : Nat → Nat} {cnt : Nat} {T : Nat → Mem → Prop} (H : TokM G kd nm st cnt T) (d t0 k i lo hi t : Nat) (w : Int64) (V : List Nat) (m : Mem) (K : Int32 → Mem → Prop) (ht : t0 < 4) (hk : k < 24) (hV : V.length < 6) (hhi : hi ≤ 1000) (hlo : lo ≤ hi) (h1 : t ≠ 1) (hT : T i m) (hw : isW m w ↔ kd i = t) (hK : ∀ r m', r = stI kd nm 0 lo hi (stI kd nm 1 t 0 (0, i, V)) → r.1 ≤ 7 → T r.2.1 m' → FB t0 k m m' → (r.1 = 0 → ∃ x, r.2.2 = V ++ [x] ∧ m'.1 276 = upd (m.1 276) (801 * t0 + 2 + 8 * k + V.length) (nI x)) → K (nI r.1) m') : Evi G (d + 3) mX12_worded [.ref (ga G 273), .long w, .int (nI (801 * t0 + 2 + 8 * k + V.length)), .int (nI lo), .int (nI hi)] m K := by
  refine vX12_worded G d _ _ _ _ m K ⟨fun q => ?_, fun q => ?_⟩
  · have kt := hw.mp q
    have e : stI kd nm 1 t 0 (0, i, V) = (0, i + 1, V) := by
      unfold stI
      rw [if_neg (fun y => y rfl), if_neg (by decide), if_pos kt]
    rw [e] at hK
    refine H.nx hT (by omega) (fun m1 v1 hT1 => ?_)
    refine mfig G H d t0 k (i + 1) lo hi V m1 _ ht hk hV hhi hlo hT1 (fun r m' g1 g2 g3 g4 g5 => hK r m' g1 g2 g3 (v1.fb.tr g4) (fun z => ⟨nm (i + 1), (g5 z).1, ?_⟩))
    rw [(g5 z).2, v1.1 276 (by omega)]
  · have kt : ¬ kd i = t := fun z => q (hw.mpr z)
    have e : stI kd nm 1 t 0 (0, i, V) = (1, i, V) := by
      unfold stI
      rw [if_neg (fun y => y rfl), if_neg (by decide), if_neg kt]
    have e2 : stI kd nm 0 lo hi (1, i, V) = (1, i, V) := stI_abs (show (1 : Nat) ≠ 0 by decide)
    rw [e, e2] at hK
    exact hK (1, i, V) m rfl (by show 1 ≤ 7; omega) hT (FB.rf t0 k m) (fun z => absurd z (show ¬ ((1 : Nat) = 0) by decide))
theorem nz_nI {e : Nat} (h : e ≤ 7) : nI e = 0 ↔ e = 0 := eq_nI (b := 0) (by omega) (by omega)
theorem qX12_bellClause (G : GP) {kd nm st : Nat → Nat} {cnt : Nat} {T : Nat → Mem → Prop} (H : TokM G kd nm st cnt T) (d t0 k i : Nat) (m : Mem) (K : Int32 → Mem → Prop) (ht : t0 < 4) (hk : k < 24) (hT : T i m) (hK : ∀ r m', r = bodP kd nm 3 (0, i, []) → r.1 ≤ 7 → T r.2.1 m' → FB t0 k m m' → (r.1 = 0 → MN t0 k r.2.2 (m'.1 276)) → K (nI r.1) m') : Evi G (d + 4) mX12_bellClause [.ref (ga G 273), .int (nI (801 * t0 + 1 + 8 * k))] m K := by
  have e1 : nI (801 * t0 + 1 + 8 * k) + 1 = nI (801 * t0 + 2 + 8 * k + 0) := by rw [show (1 : Int32) = nI 1 from rfl, nI_add]; congr 1; omega
  have e2 : nI (801 * t0 + 1 + 8 * k) + 2 = nI (801 * t0 + 2 + 8 * k + 1) := by rw [show (2 : Int32) = nI 2 from rfl, nI_add]; congr 1; omega
  have e3 : nI (801 * t0 + 1 + 8 * k) + 3 = nI (801 * t0 + 2 + 8 * k + 2) := by rw [show (3 : Int32) = nI 3 from rfl, nI_add]; congr 1; omega
  refine vX12_bellClause G d _ m K ?_
  rw [e1, e2, e3]
  have hb : bodP kd nm 3 (0, i, []) = stI kd nm 0 1 9 (stI kd nm 1 112 0 (stI kd nm 0 0 9 (stI kd nm 1 111 0 (stI kd nm 0 1 9 (0, i, []))))) := rfl
  refine mfig G H (d + 1) t0 k i 1 9 [] m _ ht hk (by decide) (by omega) (by omega) hT (fun r1 m1 q1 q2 q3 q4 q5 => ?_)
  rw [← q1] at hb
  obtain ⟨a1, j1, V1⟩ := r1
  have q2 : a1 ≤ 7 := q2
  have q3 : T j1 m1 := q3
  rw [nz_nI q2]
  refine ⟨fun z => ⟨fun y => absurd y z, fun _ => hK (a1, j1, V1) m1 ?_ q2 q3 q4 (fun y => absurd y z)⟩, fun z => ?_⟩
  · rw [hb, stI_abs (r := (a1, j1, V1)) z, stI_abs (r := (a1, j1, V1)) z, stI_abs (r := (a1, j1, V1)) z, stI_abs (r := (a1, j1, V1)) z]
  subst z
  obtain ⟨p1, p2⟩ := q5 rfl
  have p1 : V1 = [nm i] := p1
  have n1 : MN t0 k V1 (m1.1 276) := by
    rw [p1, p2]
    exact MN.push (V := []) (fun q hq => by cases hq)
  have l1 : V1.length = 1 := by rw [p1]; rfl
  have W := mword G H d t0 k j1 0 9 111 (w5V 112 105 116 99 104) V1 m1
  rw [l1] at W
  refine W _ ht hk (by omega) (by omega) (by omega) (by decide) q3 (H.tk q3).pitch (fun r2 m2 s1 s2 s3 s4 s5 => ?_)
  rw [← s1] at hb
  obtain ⟨a2, j2, V2⟩ := r2
  have s2 : a2 ≤ 7 := s2
  have s3 : T j2 m2 := s3
  rw [nz_nI s2]
  refine ⟨fun z => ?_, fun z => hK (a2, j2, V2) m2 (by rw [hb, stI_abs (r := (a2, j2, V2)) z, stI_abs (r := (a2, j2, V2)) z]) s2 s3 (q4.tr s4) (fun y => absurd y z)⟩
  subst z
  obtain ⟨x2, p3, p4⟩ := s5 rfl
  have p3 : V2 = V1 ++ [x2] := p3
  have n2 : MN t0 k V2 (m2.1 276) := by
    have := n1.push (x := x2)
    rw [l1] at this
    rw [p3, p4]
    exact this
  have l2 : V2.length = 2 := by rw [p3, List.length_append, l1]; rfl
  have W := mword G H d t0 k j2 1 9 112 (w3V 109 101 110) V2 m2
  rw [l2] at W
  refine W _ ht hk (by omega) (by omega) (by omega) (by decide) s3 (H.tk s3).men (fun r3 m3 u1 u2 u3 u4 u5 => hK r3 m3 (by rw [hb]; exact u1) u2 u3 ((q4.tr s4).tr u4) (fun z => ?_))
  obtain ⟨x3, p5, p6⟩ := u5 z
  have := n2.push (x := x3)
  rw [l2] at this
  rw [p5, p6]
  exact this
