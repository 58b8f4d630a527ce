/-! READING A LAW: what it comes to, by tokens -/
def rk (o : Nat) : Nat := [0, 0, 8, 5, 5, 6, 6, 7, 0, 0, 4, 4, 4, 4, 4, 4, 0, 0, 0, 0, 3, 2, 1].getD o 0
def isO (o : Nat) : Bool := o == 2 || o == 7 || o == 20 || o == 40
/-- those that are open -/
def opS : List Nat → Nat
  | [] => 0
  | o :: S => opS S + (if isO o then 1 else 0)
def hasP (S : List Nat) : Bool := S.contains 40
/-- compared already -/
def cmpS : List Nat → Bool
  | [] => false
  | o :: S => if 4 < rk o then cmpS S else decide (rk o = 4)
def askS : List Nat → Bool
  | [] => true
  | o :: S => !hasP (o :: S) && decide (1 ≤ rk o ∧ rk o ≤ 3)
def stl (l : Nat) : List Nat → List (Nat × Nat) → List Nat × List (Nat × Nat)
  | [], C => ([], C)
  | o :: S, C => if l ≤ rk o then stl l S (C ++ [(o, 0)]) else (o :: S, C)
theorem stl_stl {l k : Nat} (h : l ≤ k) : ∀ (S : List Nat) (C : List (Nat × Nat)), stl l (stl k S C).1 (stl k S C).2 = stl l S C
  | [], C => rfl
  | o :: S, C => by
    by_cases e : k ≤ rk o
    · have h1 : stl k (o :: S) C = stl k S (C ++ [(o, 0)]) := if_pos e
      have h2 : stl l (o :: S) C = stl l S (C ++ [(o, 0)]) := if_pos (show l ≤ rk o by omega)
      rw [h1, h2]
      exact stl_stl h S _
    · have h1 : stl k (o :: S) C = (o :: S, C) := if_neg e
      rw [h1]
def boT (t : Nat) : Nat := if t = 43 then 3 else if t = 45 then 4 else if t = 42 then 5 else if t = 47 then 6 else if t = 94 then 7 else if t = 60 then 10 else if t = 3 then 11 else if t = 62 then 12 else if t = 4 then 13 else if t = 61 then 14 else if t = 35 then 15 else if t = 115 then 21 else if t = 114 then 22 else 0
/-- which name a token is; 13: none -/
def nmT (t : Nat) : Nat := if t = 117 then 0 else if t = 111 then 1 else if t = 112 then 2 else if t = 107 then 3 else if t = 108 then 4 else if t = 109 then 5 else if t = 118 then 6 else if t = 103 then 7 else if t = 119 then 8 else if t = 113 then 9 else if t = 120 then 10 else if t = 121 then 11 else if t = 122 then 12 else 13
def nmB (l v : Nat) : Bool := if v < 8 then decide (l = 0) else if v < 10 then decide (l ≠ 0) else decide (l = 1)
def lawP (l : Nat) (kd nm : Nat → Nat) : Nat → Nat → List Nat → List (Nat × Nat) → Bool → Nat × Nat × List (Nat × Nat)
  | 0, i, _, C, _ => (1, i, C)
  | f + 1, i, S, C, true =>
    if kd i = 2 then (if 9999 < nm i then (2, i, C) else lawP l kd nm f (i + 1) (stl 8 S (C ++ [(0, nm i)])).1 (stl 8 S (C ++ [(0, nm i)])).2 false)
    else if kd i = 40 then (if 8 ≤ opS S then (3, i, C) else lawP l kd nm f (i + 1) (40 :: S) C true)
    else if kd i = 45 then (if 8 ≤ opS S then (3, i, C) else lawP l kd nm f (i + 1) (2 :: S) C true)
    else if kd i = 116 then (if askS S then (if 8 ≤ opS S then (3, i, C) else lawP l kd nm f (i + 1) (20 :: S) C true) else (1, i, C))
    else if nmT (kd i) = 13 then (1, i, C)
    else if nmB l (nmT (kd i)) then lawP l kd nm f (i + 1) (stl 8 S (C ++ [(1, nmT (kd i))])).1 (stl 8 S (C ++ [(1, nmT (kd i))])).2 false
    else (5, i, C)
  | f + 1, i, S, C, false =>
    if 3 ≤ boT (kd i) ∧ boT (kd i) ≤ 6 then lawP l kd nm f (i + 1) (boT (kd i) :: (stl (rk (boT (kd i))) S C).1) (stl (rk (boT (kd i))) S C).2 true
    else if boT (kd i) = 7 then (if 8 ≤ opS S then (3, i, C) else lawP l kd nm f (i + 1) (7 :: S) C true)
    else if hasP S then (if kd i = 41 then lawP l kd nm f (i + 1) (stl 8 (stl 1 S C).1.tail (stl 1 S C).2).1 (stl 8 (stl 1 S C).1.tail (stl 1 S C).2).2 false else (1, i, C))
    else if cmpS S then (if boT (kd i) = 21 ∨ boT (kd i) = 22 then lawP l kd nm f (i + 1) (boT (kd i) :: (stl (rk (boT (kd i))) S C).1) (stl (rk (boT (kd i))) S C).2 true else (0, i, (stl 1 S C).2))
    else if 10 ≤ boT (kd i) then (if boT (kd i) ≤ 15 then lawP l kd nm f (i + 1) (boT (kd i) :: (stl 4 S C).1) (stl 4 S C).2 true else (1, i, C)) else (1, i, C)
/-! what holds of the row of those that wait -/
def isB (o : Nat) : Bool := (decide (3 ≤ o ∧ o ≤ 6) || decide (10 ≤ o ∧ o ≤ 15)) || decide (o = 21 ∨ o = 22)
def opIn (o : Nat) : Prop := (2 ≤ o ∧ o ≤ 7) ∨ (10 ≤ o ∧ o ≤ 15) ∨ (20 ≤ o ∧ o ≤ 22) ∨ o = 40
def topR : List Nat → Nat
  | [] => 0
  | o :: _ => rk o
/-- the row is as it should be: by whom each may stand -/
def GS : List Nat → Prop
  | [] => True
  | o :: S => GS S ∧ opIn o ∧ (isB o = true → topR S < rk o) ∧ (10 ≤ o ∧ o < 40 → hasP S = false) ∧ (o = 20 → topR S ≤ 3)
def nbS : List Nat → Nat
  | [] => 0
  | o :: S => nbS S + (if isB o then 1 else 0)
def hR5 (o : Nat) : Nat := if isB o then (if rk o = 1 then 1 else if rk o = 2 then 2 else if rk o = 4 then 3 else if rk o = 5 then 4 else 5) else 0
def topH : List Nat → Nat
  | [] => 0
  | o :: _ => hR5 o
theorem op_cases {o : Nat} (h : opIn o) : o = 2 ∨ o = 3 ∨ o = 4 ∨ o = 5 ∨ o = 6 ∨ o = 7 ∨ o = 10 ∨ o = 11 ∨ o = 12 ∨ o = 13 ∨ o = 14 ∨ o = 15 ∨ o = 20 ∨ o = 21 ∨ o = 22 ∨ o = 40 := by
  unfold opIn at h; omega
theorem opIn_rk : ∀ o, o < 41 → opIn o → (isO o = false → isB o = true) ∧ (isO o = true → isB o = false) ∧ rk o ≤ 8 := by
  intro o _ h
  rcases op_cases h with rfl | rfl | rfl | rfl | rfl | rfl | rfl | rfl | rfl | rfl | rfl | rfl | rfl | rfl | rfl | rfl <;> decide
theorem hR5_le (o : Nat) : hR5 o ≤ 5 := by
  unfold hR5
  split
  · split
    · omega
    · split
      · omega
      · split
        · omega
        · split <;> omega
  · omega
theorem hR5_mono : ∀ p o, opIn p → opIn o → isB o = true → rk p < rk o → hR5 p < hR5 o := by
  intro p o hp ho
  rcases op_cases hp with rfl | rfl | rfl | rfl | rfl | rfl | rfl | rfl | rfl | rfl | rfl | rfl | rfl | rfl | rfl | rfl <;> rcases op_cases ho with rfl | rfl | rfl | rfl | rfl | rfl | rfl | rfl | rfl | rfl | rfl | rfl | rfl | rfl | rfl | rfl <;> decide
theorem opIn_lt {o : Nat} (h : opIn o) : o < 41 := by unfold opIn at h; omega
theorem GS_nb : ∀ {S : List Nat}, GS S → nbS S ≤ 5 * opS S + topH S ∧ S.length = nbS S + opS S
  | [], _ => ⟨Nat.le_refl _, rfl⟩
  | o :: S, ⟨h1, h2, h3, _⟩ => by
    obtain ⟨i1, i2⟩ := GS_nb h1
    obtain ⟨c1, c2, -⟩ := opIn_rk o (opIn_lt h2) h2
    unfold nbS opS
    rw [List.length_cons]
    cases ho : isO o
    · have hb := c1 ho
      rw [hb]
      refine ⟨?_, by simp; omega⟩
      have : topH S < hR5 o := by
        cases S with
        | nil =>
          show 0 < hR5 o
          rcases op_cases h2 with rfl | rfl | rfl | rfl | rfl | rfl | rfl | rfl | rfl | rfl | rfl | rfl | rfl | rfl | rfl | rfl <;> first | decide | exact absurd hb (by decide)
        | cons p S => exact hR5_mono p o h1.2.1 h2 hb (h3 hb)
      show nbS S + (if true = true then 1 else 0) ≤ 5 * (opS S + (if false = true then 1 else 0)) + hR5 o
      simp
      omega
    · have hb := c2 ho
      rw [hb]
      refine ⟨?_, by simp; omega⟩
      have : topH S ≤ 5 := by
        cases S with
        | nil => exact Nat.zero_le _
        | cons p S => exact hR5_le p
      show nbS S + (if false = true then 1 else 0) ≤ 5 * (opS S + (if true = true then 1 else 0)) + hR5 o
      simp
      omega
theorem GS_len {S : List Nat} (h : GS S) (h8 : opS S ≤ 8) : S.length ≤ 53 ∧ nbS S ≤ 45 := by
  obtain ⟨h1, h2⟩ := GS_nb h
  have : topH S ≤ 5 := by
    cases S with
    | nil => exact Nat.zero_le _
    | cons p S => exact hR5_le p
  omega
theorem GS_tail {o : Nat} {S : List Nat} (h : GS (o :: S)) : GS S := h.1
theorem stl_GS {l : Nat} : ∀ {S : List Nat} {C : List (Nat × Nat)}, GS S → GS (stl l S C).1 ∧ opS (stl l S C).1 ≤ opS S ∧ (stl l S C).1.length ≤ S.length ∧ (stl l S C).2.length + (stl l S C).1.length = C.length + S.length ∧ ((stl l S C).1 = [] ∨ topR (stl l S C).1 < l)
  | [], C, _ => ⟨True.intro, Nat.le_refl _, Nat.le_refl _, rfl, Or.inl rfl⟩
  | o :: S, C, h => by
    unfold stl
    by_cases e : l ≤ rk o
    · rw [if_pos e]
      obtain ⟨a1, a2, a3, a4, a5⟩ := stl_GS (l := l) (C := C ++ [(o, 0)]) h.1
      refine ⟨a1, ?_, ?_, ?_, a5⟩
      · have : opS S ≤ opS (o :: S) := Nat.le_add_right _ _
        omega
      · rw [List.length_cons]; omega
      · rw [a4]; simp; omega
    · rw [if_neg e]
      exact ⟨h, Nat.le_refl _, Nat.le_refl _, rfl, Or.inr (by show rk o < l; omega)⟩
/-! the code that comes of it is well made -/
def tS : List Nat → Nat
  | [] => 0
  | o :: S => tS S + (if o = 21 ∨ o = 22 then 1 else 0)
def vS : List Nat → Nat
  | [] => 0
  | o :: S => vS S + (if (3 ≤ o ∧ o ≤ 7) ∨ (10 ≤ o ∧ o ≤ 15) then 1 else 0)
theorem tv_le : ∀ {S : List Nat}, GS S → tS S + vS S ≤ nbS S + opS S
  | [], _ => Nat.le_refl _
  | o :: S, h => by
    have ih := tv_le h.1
    rcases op_cases h.2.1 with rfl | rfl | rfl | rfl | rfl | rfl | rfl | rfl | rfl | rfl | rfl | rfl | rfl | rfl | rfl | rfl <;> (unfold tS vS nbS opS; simp [isB, isO]; omega)
def oL (C : List (Nat × Nat)) (i : Nat) : Nat := (C.getD i (0, 0)).1
def vL (C : List (Nat × Nat)) (i : Nat) : Nat := (C.getD i (0, 0)).2
theorem oL_app {C : List (Nat × Nat)} {x : Nat × Nat} {i : Nat} (h : i < C.length) : oL (C ++ [x]) i = oL C i ∧ vL (C ++ [x]) i = vL C i := by
  unfold oL vL
  simp only [List.getD_eq_getElem?_getD, List.getElem?_append_left h, and_self]
theorem oL_last (C : List (Nat × Nat)) (x : Nat × Nat) : oL (C ++ [x]) C.length = x.1 ∧ vL (C ++ [x]) C.length = x.2 := by
  unfold oL vL
  simp only [List.getD_eq_getElem?_getD, List.getElem?_append_right (Nat.le_refl _), Nat.sub_self]
  exact ⟨rfl, rfl⟩
def TyS (C : List (Nat × Nat)) (fr t v : Nat) : Prop := fr ≤ C.length ∧ tyR (oL C) fr (C.length - fr) = some (t, v)
theorem TyS.emit {C : List (Nat × Nat)} {fr t v : Nat} {s : Nat × Nat} (h : TyS C fr t v) {o x : Nat} (hs : tstep o t v = some s) : TyS (C ++ [(o, x)]) fr s.1 s.2 := by
  obtain ⟨h1, h2⟩ := h
  refine ⟨by simp; omega, ?_⟩
  rw [List.length_append, show C.length + [(o, x)].length - fr = (C.length - fr) + 1 by simp; omega]
  unfold tyR
  rw [tyR_congr (o' := oL C) _ (fun i hi => (oL_app (by omega)).1), h2]
  show tstep (oL (C ++ [(o, x)]) (fr + (C.length - fr))) t v = some (s.1, s.2)
  rw [show fr + (C.length - fr) = C.length by omega, (oL_last C (o, x)).1]
  exact hs
theorem vS_c (o : Nat) (S : List Nat) : vS (o :: S) = vS S + (if (3 ≤ o ∧ o ≤ 7) ∨ (10 ≤ o ∧ o ≤ 15) then 1 else 0) := rfl
/-- below what is compared there are truths alone -/
theorem low_v : ∀ {S : List Nat}, GS S → hasP S = false → topR S ≤ 3 → vS S = 0
  | [], _, _, _ => rfl
  | o :: S, h, hp, ht => by
    have hp' : hasP S = false := by
      unfold hasP at hp ⊢
      rw [List.contains_cons, Bool.or_eq_false_iff] at hp
      exact hp.2
    have ht : rk o ≤ 3 := ht
    have hb := h.2.2.1
    have h20 := h.2.2.2.2
    rcases op_cases h.2.1 with rfl | rfl | rfl | rfl | rfl | rfl | rfl | rfl | rfl | rfl | rfl | rfl | rfl | rfl | rfl | rfl <;> first | exact absurd ht (by decide) | skip
    · rw [vS_c, if_neg (by omega)]
      exact low_v h.1 hp' (h20 rfl)
    · rw [vS_c, if_neg (by omega)]
      exact low_v h.1 hp' (by have : topR S < 2 := hb rfl; omega)
    · rw [vS_c, if_neg (by omega)]
      exact low_v h.1 hp' (by have : topR S < 1 := hb rfl; omega)
    · exact absurd hp (by simp [hasP])
/-- truths settle -/
theorem stl_T {l fr : Nat} : ∀ {S : List Nat} {C : List (Nat × Nat)}, GS S → vS S = 0 → (∀ o ∈ S, 20 ≤ o ∧ o ≤ 22) → TyS C fr (tS S + 1) 0 → TyS (stl l S C).2 fr (tS (stl l S C).1 + 1) 0 ∧ vS (stl l S C).1 = 0
  | [], C, _, _, _, hT => ⟨hT, rfl⟩
  | o :: S, C, h, hv, ha, hT => by
    by_cases e : l ≤ rk o
    · have h1 : stl l (o :: S) C = stl l S (C ++ [(o, 0)]) := if_pos e
      rw [h1]
      have ho := ha o List.mem_cons_self
      have hv' : vS S = 0 := by unfold vS at hv; omega
      refine stl_T h.1 hv' (fun p hp => ha p (List.mem_cons_of_mem _ hp)) ?_
      have : o = 20 ∨ o = 21 ∨ o = 22 := by omega
      rcases this with rfl | rfl | rfl
      · have hT : TyS C fr (tS S + 0 + 1) 0 := hT
        exact hT.emit (s := (tS S + 1, 0)) (by unfold tstep; simp)
      · have hT : TyS C fr (tS S + 1 + 1) 0 := hT
        exact hT.emit (s := (tS S + 1, 0)) (by unfold tstep; simp)
      · have hT : TyS C fr (tS S + 1 + 1) 0 := hT
        exact hT.emit (s := (tS S + 1, 0)) (by unfold tstep; simp)
    · have h1 : stl l (o :: S) C = (o :: S, C) := if_neg e
      rw [h1]
      exact ⟨hT, hv⟩
theorem low_all : ∀ {S : List Nat}, GS S → hasP S = false → topR S ≤ 3 → ∀ o ∈ S, 20 ≤ o ∧ o ≤ 22
  | [], _, _, _, o, ho => by cases ho
  | p :: S, h, hp, ht, o, ho => by
    have hp' : hasP S = false := by
      unfold hasP at hp ⊢
      rw [List.contains_cons, Bool.or_eq_false_iff] at hp
      exact hp.2
    have ht : rk p ≤ 3 := ht
    have hb := h.2.2.1
    have h20 := h.2.2.2.2
    have key : (20 ≤ p ∧ p ≤ 22) ∧ topR S ≤ 3 := by
      rcases op_cases h.2.1 with rfl | rfl | rfl | rfl | rfl | rfl | rfl | rfl | rfl | rfl | rfl | rfl | rfl | rfl | rfl | rfl <;> first | exact absurd ht (by decide) | skip
      · exact ⟨by omega, h20 rfl⟩
      · exact ⟨by omega, by have : topR S < 2 := hb rfl; omega⟩
      · exact ⟨by omega, by have : topR S < 1 := hb rfl; omega⟩
      · exact absurd hp (by simp [hasP])
    rcases List.mem_cons.mp ho with rfl | ho
    · exact key.1
    · exact low_all h.1 hp' key.2 o ho
/-- values settle; nothing is compared in it -/
theorem stl_V {l fr : Nat} (hl : 1 ≤ l) : ∀ {S : List Nat} {C : List (Nat × Nat)}, GS S → (5 ≤ l ∨ hasP S = true ∨ (cmpS S = false ∧ 4 ≤ l)) → TyS C fr (tS S) (vS S + 1) → TyS (stl l S C).2 fr (tS (stl l S C).1) (vS (stl l S C).1 + 1)
  | [], C, _, _, hT => hT
  | o :: S, C, h, hc, hT => by
    by_cases e : l ≤ rk o
    · have h1 : stl l (o :: S) C = stl l S (C ++ [(o, 0)]) := if_pos e
      rw [h1]
      have hb := h.2.2.1
      have hq := h.2.2.2.1
      have hP : ∀ p : Nat, p ≠ 40 → hasP (p :: S) = true → hasP S = true := fun p hp z => by
        unfold hasP at z ⊢
        rw [List.contains_cons, Bool.or_eq_true] at z
        rcases z with z | z
        · exact absurd (by simpa using z) (fun y : 40 = p => hp y.symm)
        · exact z
      have go : 5 ≤ rk o → (5 ≤ l ∨ hasP S = true ∨ (cmpS S = false ∧ 4 ≤ l)) := fun h5 => by
        rcases hc with z | z | ⟨z, z4⟩
        · exact Or.inl z
        · exact Or.inr (Or.inl (hP o (fun y => by rw [y] at h5; exact absurd h5 (by decide)) z))
        · refine Or.inr (Or.inr ⟨?_, z4⟩)
          unfold cmpS at z
          rw [if_pos (by omega)] at z
          exact z
      have h5 : 5 ≤ rk o := by
        rcases Nat.lt_or_ge (rk o) 5 with y | y
        · exfalso
          rcases hc with z | z | ⟨z, z4⟩
          · omega
          · by_cases x : o = 40
            · rw [x] at e
              have : rk 40 = 0 := rfl
              omega
            · have h10 : 10 ≤ o ∧ o < 40 := by
                rcases op_cases h.2.1 with rfl | rfl | rfl | rfl | rfl | rfl | rfl | rfl | rfl | rfl | rfl | rfl | rfl | rfl | rfl | rfl <;> first | omega | exact absurd y (by decide)
              have := hq h10
              rw [hP o x z] at this
              cases this
          · unfold cmpS at z
            rw [if_neg (by omega), decide_eq_true (by omega)] at z
            cases z
        · exact y
      rcases op_cases h.2.1 with rfl | rfl | rfl | rfl | rfl | rfl | rfl | rfl | rfl | rfl | rfl | rfl | rfl | rfl | rfl | rfl
      · refine stl_V hl h.1 (go (by decide)) ?_
        have hT : TyS C fr (tS S + 0) (vS S + 0 + 1) := hT
        exact hT.emit (s := (tS S, vS S + 1)) (by unfold tstep; simp)
      · refine stl_V hl h.1 (go (by decide)) ?_
        have hT : TyS C fr (tS S + 0) (vS S + 1 + 1) := hT
        exact hT.emit (s := (tS S, vS S + 1)) (by unfold tstep; simp)
      · refine stl_V hl h.1 (go (by decide)) ?_
        have hT : TyS C fr (tS S + 0) (vS S + 1 + 1) := hT
        exact hT.emit (s := (tS S, vS S + 1)) (by unfold tstep; simp)
      · refine stl_V hl h.1 (go (by decide)) ?_
        have hT : TyS C fr (tS S + 0) (vS S + 1 + 1) := hT
        exact hT.emit (s := (tS S, vS S + 1)) (by unfold tstep; simp)
      · refine stl_V hl h.1 (go (by decide)) ?_
        have hT : TyS C fr (tS S + 0) (vS S + 1 + 1) := hT
        exact hT.emit (s := (tS S, vS S + 1)) (by unfold tstep; simp)
      · refine stl_V hl h.1 (go (by decide)) ?_
        have hT : TyS C fr (tS S + 0) (vS S + 1 + 1) := hT
        exact hT.emit (s := (tS S, vS S + 1)) (by unfold tstep; simp)
      all_goals exact absurd h5 (by decide)
    · have h1 : stl l (o :: S) C = (o :: S, C) := if_neg e
      rw [h1]
      exact hT
/-- values settle, then what is compared, then truths -/
theorem stl_W {l fr : Nat} (hl : l ≤ 4) : ∀ {S : List Nat} {C : List (Nat × Nat)}, GS S → hasP S = false → cmpS S = true → TyS C fr (tS S) (vS S + 1) → TyS (stl l S C).2 fr (tS (stl l S C).1 + 1) 0 ∧ vS (stl l S C).1 = 0
  | [], C, _, _, hc, _ => by cases hc
  | o :: S, C, h, hp, hc, hT => by
    have hp' : hasP S = false := by
      unfold hasP at hp ⊢
      rw [List.contains_cons, Bool.or_eq_false_iff] at hp
      exact hp.2
    have hb := h.2.2.1
    have h4 : 4 ≤ rk o := by
      unfold cmpS at hc
      by_cases z : 4 < rk o
      · omega
      · rw [if_neg z] at hc
        have := of_decide_eq_true hc
        omega
    have h1 : stl l (o :: S) C = stl l S (C ++ [(o, 0)]) := if_pos (by omega)
    rw [h1]
    by_cases h5 : 4 < rk o
    · have hc' : cmpS S = true := by
        unfold cmpS at hc
        rw [if_pos h5] at hc
        exact hc
      refine stl_W hl h.1 hp' hc' ?_
      rcases op_cases h.2.1 with rfl | rfl | rfl | rfl | rfl | rfl | rfl | rfl | rfl | rfl | rfl | rfl | rfl | rfl | rfl | rfl <;> first | exact absurd h5 (by decide) | skip
      · have hT : TyS C fr (tS S + 0) (vS S + 0 + 1) := hT
        exact hT.emit (s := (tS S, vS S + 1)) (by unfold tstep; simp)
      all_goals
        have hT : TyS C fr (tS S + 0) (vS S + 1 + 1) := hT
        exact hT.emit (s := (tS S, vS S + 1)) (by unfold tstep; simp)
    · have h10 : 10 ≤ o ∧ o ≤ 15 := by
        rcases op_cases h.2.1 with rfl | rfl | rfl | rfl | rfl | rfl | rfl | rfl | rfl | rfl | rfl | rfl | rfl | rfl | rfl | rfl <;> first | omega | exact absurd h4 (by decide) | exact absurd (by decide) h5
      have ht : topR S ≤ 3 := by
        have hB : isB o = true := by unfold isB; simp [h10]
        have := hb hB
        omega
      have hv := low_v h.1 hp' ht
      have e1 : tS (o :: S) = tS S := by
        show tS S + (if o = 21 ∨ o = 22 then 1 else 0) = _
        rw [if_neg (by omega)]; rfl
      have e2 : vS (o :: S) = 1 := by rw [vS_c, hv, if_pos (Or.inr h10)]
      rw [e1, e2] at hT
      refine stl_T h.1 hv (low_all h.1 hp' ht) (hT.emit (s := (tS S + 1, 0)) ?_)
      unfold tstep
      rw [if_neg (by omega), if_neg (by omega), if_neg (by omega), if_pos h10, if_pos rfl]
theorem hasP_stl {l : Nat} (hl : 1 ≤ l) : ∀ {S : List Nat} {C : List (Nat × Nat)}, hasP (stl l S C).1 = hasP S
  | [], _ => rfl
  | o :: S, C => by
    by_cases e : l ≤ rk o
    · have h1 : stl l (o :: S) C = stl l S (C ++ [(o, 0)]) := if_pos e
      rw [h1, hasP_stl hl]
      unfold hasP
      rw [List.contains_cons]
      have : (40 == o) = false := by
        rw [beq_eq_false_iff_ne]
        intro z
        rw [← z] at e
        have : rk 40 = 0 := rfl
        omega
      rw [this, Bool.false_or]
    · have h1 : stl l (o :: S) C = (o :: S, C) := if_neg e
      rw [h1]
