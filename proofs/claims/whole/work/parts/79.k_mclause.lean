/-! the model's clauses, whole -/
def MQs (t0 k s : Nat) (V : List Nat) (g : Nat → Int32) : Prop := (s = 4 → MNp t0 k V g) ∧ (s ≠ 4 → MN t0 k V g)
theorem qX12_body (G : GP) {kd nm st : Nat → Nat} {cnt : Nat} {T : Nat → Mem → Prop} (H : TokM G kd nm st cnt T) (d t0 k s i : Nat) (m : Mem) (K : Int32 → Mem → Prop) (ht : t0 < 4) (hk : k < 24) (hs : 3 ≤ s ∧ s ≤ 10) (hT : T i m) (hK : ∀ r m', r = bodP kd nm s (0, i, []) → r.1 ≤ 7 → T r.2.1 m' → FB t0 k m m' → (r.1 = 0 → MQs t0 k s r.2.2 (m'.1 276)) → K (nI r.1) m') : Evi G (d + 9) mX12_body [.ref (ga G 273), .int (nI s), .int (nI (801 * t0 + 1 + 8 * k))] m K := by
  have e1 : nI (801 * t0 + 1 + 8 * k) + 1 = nI (801 * t0 + 2 + 8 * k + 0) := by rw [show (1 : Int32) = nI 1 from rfl, nI_add]; congr 1; omega
  have eq : ∀ a : Nat, a < 200 → (nI s = nI a ↔ s = a) := fun a ha => eq_nI (by omega) (by omega)
  have lt2 : (2 : Int32) < nI s := (lt_nI (a := 2) (by omega) (by omega)).mpr (by omega)
  have one : ∀ a b : Nat, a ≤ b → b ≤ 1000 → s ≠ 4 → bodP kd nm s (0, i, []) = stI kd nm 0 a b (0, i, []) → Evi G (d + 8) mX12_figure [.ref (ga G 273), .int (nI (801 * t0 + 2 + 8 * k + 0)), .int (nI a), .int (nI b)] m (fun r' m' => K r' m') := fun a b h1 h2 h4 e => by
    refine mfig G H (d + 6) t0 k i a b [] m _ ht hk (by decide) h2 h1 hT (fun r m' q1 q2 q3 q4 q5 => hK r m' (by rw [e]; exact q1) q2 q3 q4 (fun z => ⟨fun y => absurd y h4, fun _ => ?_⟩))
    obtain ⟨p1, p2⟩ := q5 z
    rw [p1, p2]
    exact MN.push (V := []) (fun q hq => by cases hq)
  refine vX12_body G d _ _ m K ?_
  rw [e1]
  refine ⟨fun q => ?_, fun q => ?_, fun q => ?_, fun q => ⟨fun _ => ?_, fun z => absurd lt2 z⟩, fun q => ⟨fun _ => ?_, fun z => absurd lt2 z⟩, fun q => ⟨fun _ => ?_, fun z => absurd lt2 z⟩, fun q => ?_, fun q => ?_, fun q => ?_⟩
  · have e : s = 3 := (eq 3 (by omega)).mp q
    subst e
    exact qX12_bellClause G H (d + 4) t0 k i m _ ht hk hT (fun r m' q1 q2 q3 q4 q5 => hK r m' q1 q2 q3 q4 (fun z => ⟨fun y => absurd y (by decide), fun _ => q5 z⟩))
  · have e : s = 4 := (eq 4 (by omega)).mp q
    subst e
    exact qX12_wordClause G H (d + 4) t0 k i m _ ht hk hT (fun r m' q1 q2 q3 q4 q5 => hK r m' q1 q2 q3 q4 (fun z => ⟨fun _ => q5 z, fun y => absurd rfl y⟩))
  · have e : s = 5 := (eq 5 (by omega)).mp q
    subst e
    exact one 0 5 (by omega) (by omega) (by decide) rfl
  · have e : s = 6 := (eq 6 (by omega)).mp q
    subst e
    exact one 0 9 (by omega) (by omega) (by decide) rfl
  · have e : s = 7 := (eq 7 (by omega)).mp q
    subst e
    exact one 0 9 (by omega) (by omega) (by decide) rfl
  · have e : s = 8 := (eq 8 (by omega)).mp q
    subst e
    exact one 0 9 (by omega) (by omega) (by decide) rfl
  · have e : s = 9 := (eq 9 (by omega)).mp q
    subst e
    exact one 1 60 (by omega) (by omega) (by decide) rfl
  · have e : s = 10 := (eq 10 (by omega)).mp q
    subst e
    exact hK (0, i, []) m rfl (by show 0 ≤ 7; omega) hT (FB.rf t0 k m) (fun _ => ⟨fun y => absurd y (by decide), fun _ q hq => by cases hq⟩)
  · exfalso
    obtain ⟨q3, q4, q5, q6, q7, q8, q9, q10⟩ := q
    have n3 : ¬ s = 3 := fun z => q3 ((eq 3 (by omega)).mpr z)
    have n4 : ¬ s = 4 := fun z => q4 ((eq 4 (by omega)).mpr z)
    have n5 : ¬ s = 5 := fun z => q5 ((eq 5 (by omega)).mpr z)
    have n6 : ¬ s = 6 := fun z => q6 ((eq 6 (by omega)).mpr z)
    have n7 : ¬ s = 7 := fun z => q7 ((eq 7 (by omega)).mpr z)
    have n8 : ¬ s = 8 := fun z => q8 ((eq 8 (by omega)).mpr z)
    have n9 : ¬ s = 9 := fun z => q9 ((eq 9 (by omega)).mpr z)
    have n10 : ¬ s = 10 := fun z => q10 ((eq 10 (by omega)).mpr z)
    omega
theorem onc_1 : ∀ M, M < 8 → ∀ s, s < 3 → (((nI M) >>> ((nI s) &&& 31)) &&& 1 = 1 ↔ M.testBit s = true) := by decide +kernel
theorem onc_2 : ∀ M, M < 8 → ∀ s, s < 3 → (nI M ||| ((1 : Int32) <<< ((nI s) &&& 31)) = nI (M ||| (1 <<< s)) ∧ M ||| (1 <<< s) < 8 ∧ ∀ l, l < 3 → ((M ||| (1 <<< s)).testBit l = (M.testBit l || decide (l = s)))) := by decide +kernel
def seen (lw : Nat → Nat × Nat) (l : Nat) : Prop := (lw l).1 < (lw l).2
def OnM (lw : Nat → Nat × Nat) (x : Int32) : Prop := ∃ M, M < 8 ∧ x = nI M ∧ ∀ l, l < 3 → (M.testBit l = true ↔ seen lw l)
theorem OnM.is {lw : Nat → Nat × Nat} {x : Int32} (h : OnM lw x) {s : Nat} (hs : s < 3) : ((x >>> ((nI s) &&& 31)) &&& 1 = 1 ↔ seen lw s) := by
  obtain ⟨M, h1, h2, h3⟩ := h
  rw [h2, onc_1 M h1 s hs]
  exact h3 s hs
theorem OnM.up {lw : Nat → Nat × Nat} {x : Int32} (h : OnM lw x) {s a b : Nat} (hs : s < 3) (hab : a < b) : OnM (lwU lw s a b) (x ||| ((1 : Int32) <<< ((nI s) &&& 31))) := by
  obtain ⟨M, h1, h2, h3⟩ := h
  obtain ⟨e1, e2, e3⟩ := onc_2 M h1 s hs
  refine ⟨M ||| (1 <<< s), e2, by rw [h2]; exact e1, fun l hl => ?_⟩
  rw [e3 l hl, Bool.or_eq_true, decide_eq_true_iff, h3 l hl]
  unfold seen
  by_cases e : l = s
  · have : lwU lw s a b l = (a, b) := if_pos ⟨hs, e⟩
    rw [this]
    exact ⟨fun _ => hab, fun _ => Or.inr e⟩
  · have : lwU lw s a b l = lw l := if_neg (fun y => e y.2)
    rw [this]
    exact ⟨fun z => z.elim id (fun y => absurd y e), Or.inl⟩
/-- the model's rows of clauses -/
def MRw (t0 : Nat) (cls : List (Nat × List Nat)) (lw : Nat → Nat × Nat) (g : Nat → Int32) : Prop := ∀ k, k < cls.length → g (801 * t0 + 1 + 8 * k) = nI (clG cls k).1 ∧ ((clG cls k).1 < 3 → seen lw (clG cls k).1 ∧ g (801 * t0 + 2 + 8 * k) = nI (lw (clG cls k).1).1 ∧ g (801 * t0 + 3 + 8 * k) = nI (lw (clG cls k).1).2) ∧ (3 ≤ (clG cls k).1 → MQs t0 k (clG cls k).1 (clG cls k).2 g)
/-- the model between two clauses -/
def MYs (T : Nat → Mem → Prop) (cnt t0 i : Nat) (C : List (Nat × Nat)) (cls : List (Nat × List Nat)) (lw : Nat → Nat × Nat) (m : Mem) : Prop := T i m ∧ m.1 273 13 = nI (801 * t0) ∧ m.1 273 14 = nI C.length ∧ OnM lw (m.1 273 20) ∧ CM t0 C (m.1 276) ∧ m.1 276 (801 * t0) = nI cls.length ∧ MRw t0 cls lw (m.1 276) ∧ i ≤ cnt ∧ C.length ≤ i ∧ cls.length ≤ 24
theorem MRw.fr {t0 : Nat} {cls : List (Nat × List Nat)} {lw : Nat → Nat × Nat} {g g' : Nat → Int32} (h : MRw t0 cls lw g) (hl : ∀ k, k < cls.length → 3 ≤ (clG cls k).1 → (clG cls k).2.length ≤ 6) (e : ∀ p, 801 * t0 + 1 ≤ p → p < 801 * t0 + 1 + 8 * cls.length → g' p = g p) : MRw t0 cls lw g' := by
  intro k hk
  obtain ⟨h1, h2, h3⟩ := h k hk
  refine ⟨(e _ (by omega) (by omega)).trans h1, fun z => ⟨(h2 z).1, (e _ (by omega) (by omega)).trans (h2 z).2.1, (e _ (by omega) (by omega)).trans (h2 z).2.2⟩, fun z => ⟨fun y q hq => ?_, fun y q hq => ?_⟩⟩
  · rw [e _ (by omega) (by omega)]; exact (h3 z).1 y q hq
  · have := hl k hk z
    rw [e _ (by omega) (by omega)]; exact (h3 z).2 y q hq
