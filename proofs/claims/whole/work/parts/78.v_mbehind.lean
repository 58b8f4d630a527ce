/-! the model behind a value; the law whole -/
def bwP (S : List Nat) (t : Nat) : Nat := if 3 ≤ boT t ∧ boT t ≤ 7 then boT t else if hasP S then 0 else if cmpS S then (if boT t = 21 ∨ boT t = 22 then boT t else 0) else if 10 ≤ boT t ∧ boT t ≤ 15 then boT t else 0
theorem boT_no {t : Nat} (h1 : t ≠ 43) (h2 : t ≠ 45) (h3 : t ≠ 42) (h4 : t ≠ 47) (h5 : t ≠ 94) : ¬ (3 ≤ boT t ∧ boT t ≤ 7) := by
  unfold boT
  rw [if_neg h1, if_neg h2, if_neg h3, if_neg h4, if_neg h5]
  repeat (first | omega | split)
theorem boT_ao (t : Nat) : (boT t = 21 ↔ t = 115) ∧ (boT t = 22 ↔ t = 114) := by
  unfold boT
  repeat (first | omega | split)
theorem boT_cm {t : Nat} (h1 : t ≠ 60) (h2 : t ≠ 3) (h3 : t ≠ 62) (h4 : t ≠ 4) (h5 : t ≠ 61) (h6 : t ≠ 35) : ¬ (10 ≤ boT t ∧ boT t ≤ 15) := by
  unfold boT
  rw [if_neg h1, if_neg h2, if_neg h3, if_neg h4, if_neg h5, if_neg h6]
  repeat (first | omega | split)
theorem qX12_compareOf (G : GP) {kd nm st : Nat → Nat} {cnt : Nat} {T : Nat → Mem → Prop} (H : TokM G kd nm st cnt T) (d i : Nat) (m : Mem) (K : Int32 → Mem → Prop) (hT : T i m) (h1 : 10 ≤ boT (kd i) ∧ boT (kd i) ≤ 15 → K (nI (boT (kd i))) m) (h0 : ¬ (10 ≤ boT (kd i) ∧ boT (kd i) ≤ 15) → K (-1) m) : Evi G d mX12_compareOf [.ref (ga G 273)] m K := by
  have hk := H.tk hT
  have A : ∀ v t : Nat, kd i = t → boT t = v → 10 ≤ v ∧ v ≤ 15 → K (nI v) m := fun v t e1 e2 hv => by
    rw [e1, e2] at h1
    exact h1 hv
  refine vX12_compareOf G d m K ⟨fun a1 => ⟨fun a2 => ⟨fun a3 => ⟨fun a4 => ⟨fun a5 => ⟨fun a6 => h0 ?_, fun b => A 15 35 ((hk.sym (k := 35) (by omega)).mp b) rfl (by omega)⟩, fun b => A 14 61 ((hk.sym (k := 61) (by omega)).mp b) rfl (by omega)⟩, fun b => A 13 4 (hk.ge.mp b) rfl (by omega)⟩, fun b => A 12 62 ((hk.sym (k := 62) (by omega)).mp b) rfl (by omega)⟩, fun b => A 11 3 (hk.le.mp b) rfl (by omega)⟩, fun b => A 10 60 ((hk.sym (k := 60) (by omega)).mp b) rfl (by omega)⟩
  exact boT_cm (fun z => a1 ((hk.sym (k := 60) (by omega)).mpr z)) (fun z => a2 (hk.le.mpr z)) (fun z => a3 ((hk.sym (k := 62) (by omega)).mpr z)) (fun z => a4 (hk.ge.mpr z)) (fun z => a5 ((hk.sym (k := 61) (by omega)).mpr z)) (fun z => a6 ((hk.sym (k := 35) (by omega)).mpr z))
theorem qX12_betweenOf (G : GP) {kd nm st : Nat → Nat} {cnt : Nat} {T : Nat → Mem → Prop} (H : TokM G kd nm st cnt T) (d i : Nat) (S : List Nat) (m : Mem) (K : Int32 → Mem → Prop) (hT : T i m) (hG : GS S) (hl : S.length ≤ 60) (h17 : m.1 273 17 = nI S.length) (hP : PL S (m.1 279)) (h1 : bwP S (kd i) ≠ 0 → K (nI (bwP S (kd i))) m) (h0 : bwP S (kd i) = 0 → K (-1) m) : Evi G (d + 2) mX12_betweenOf [.ref (ga G 273)] m K := by
  have hk := H.tk hT
  have A : ∀ v t : Nat, kd i = t → boT t = v → 3 ≤ v ∧ v ≤ 7 → K (nI v) m := fun v t e1 e2 hv => by
    have e : bwP S (kd i) = v := by
      unfold bwP
      rw [e1, e2, if_pos hv]
    rw [e] at h1
    exact h1 (by omega)
  refine vX12_betweenOf G d m K ⟨fun a1 => ⟨fun a2 => ⟨fun a3 => ⟨fun a4 => ⟨fun a5 => ?_, fun b => A 7 94 ((hk.sym (k := 94) (by omega)).mp b) rfl (by omega)⟩, fun b => A 6 47 ((hk.sym (k := 47) (by omega)).mp b) rfl (by omega)⟩, fun b => A 5 42 ((hk.sym (k := 42) (by omega)).mp b) rfl (by omega)⟩, fun b => A 4 45 ((hk.sym (k := 45) (by omega)).mp b) rfl (by omega)⟩, fun b => A 3 43 ((hk.sym (k := 43) (by omega)).mp b) rfl (by omega)⟩
  have hn := boT_no (t := kd i) (fun z => a1 ((hk.sym (k := 43) (by omega)).mpr z)) (fun z => a2 ((hk.sym (k := 45) (by omega)).mpr z)) (fun z => a3 ((hk.sym (k := 42) (by omega)).mpr z)) (fun z => a4 ((hk.sym (k := 47) (by omega)).mpr z)) (fun z => a5 ((hk.sym (k := 94) (by omega)).mpr z))
  have eb : bwP S (kd i) = if hasP S then 0 else if cmpS S then (if boT (kd i) = 21 ∨ boT (kd i) = 22 then boT (kd i) else 0) else if 10 ≤ boT (kd i) ∧ boT (kd i) ≤ 15 then boT (kd i) else 0 := if_neg hn
  rw [eb] at h1 h0
  have hao := boT_ao (kd i)
  refine qX12_isOpen G (d + 1) S m _ hG hl h17 hP (fun y => ⟨fun z => absurd z (by decide), fun _ => h0 (if_pos y)⟩) (fun y => ⟨fun _ => ?_, fun z => absurd rfl z⟩)
  rw [y] at h1 h0
  simp only [Bool.false_eq_true, if_false] at h1 h0
  refine qX12_isCompared G d S m _ hG hl h17 hP (fun c => ⟨fun _ => ⟨fun w => ?_, fun w => ⟨fun w2 => ?_, fun w2 => ?_⟩⟩, fun z => absurd z (by decide)⟩) (fun c => ⟨fun z => absurd rfl z, fun _ => ?_⟩)
  · rw [c] at h1
    simp only [if_true] at h1
    have e : boT (kd i) = 21 := hao.1.mpr (hk.and_.mp w)
    rw [e] at h1
    exact h1 (by decide)
  · rw [c] at h1
    simp only [if_true] at h1
    have e : boT (kd i) = 22 := hao.2.mpr (hk.or_.mp w2)
    rw [e] at h1
    exact h1 (by decide)
  · rw [c] at h0
    simp only [if_true] at h0
    refine h0 (if_neg ?_)
    rintro (z | z)
    · exact w (hk.and_.mpr (hao.1.mp z))
    · exact w2 (hk.or_.mpr (hao.2.mp z))
  · rw [c] at h1 h0
    simp only [Bool.false_eq_true, if_false] at h1 h0
    refine qX12_compareOf G H (d + 1) i m _ hT (fun z => ?_) (fun z => h0 (if_neg z))
    rw [if_pos z] at h1
    exact h1 (by omega)
/-- the equation of a law behind a value -/
theorem lawP_f (l : Nat) (kd nm : Nat → Nat) (f i : Nat) (S : List Nat) (C : List (Nat × Nat)) : lawP l kd nm (f + 1) i S C false = (if bwP S (kd i) = 7 then (if 8 ≤ opS S then (3, i, C) else lawP l kd nm f (i + 1) (7 :: S) C true) else if bwP S (kd i) ≠ 0 then lawP l kd nm f (i + 1) (bwP S (kd i) :: (stl (rk (bwP S (kd i))) S C).1) (stl (rk (bwP S (kd i))) S C).2 true else if hasP S then (if kd i = 41 then lawP l kd nm f (i + 1) (stl 8 (stl 1 S C).1.tail (stl 1 S C).2).1 (stl 8 (stl 1 S C).1.tail (stl 1 S C).2).2 false else (1, i, C)) else if cmpS S then (0, i, (stl 1 S C).2) else (1, i, C)) := by
  have hb := boT_in (kd i)
  have e0 : lawP l kd nm (f + 1) i S C false = (if 3 ≤ boT (kd i) ∧ boT (kd i) ≤ 6 then lawP l kd nm f (i + 1) (boT (kd i) :: (stl (rk (boT (kd i))) S C).1) (stl (rk (boT (kd i))) S C).2 true
    else if boT (kd i) = 7 then (if 8 ≤ opS S then (3, i, C) else lawP l kd nm f (i + 1) (7 :: S) C true)
    else if hasP S then (if kd i = 41 then lawP l kd nm f (i + 1) (stl 8 (stl 1 S C).1.tail (stl 1 S C).2).1 (stl 8 (stl 1 S C).1.tail (stl 1 S C).2).2 false else (1, i, C))
    else if cmpS S then (if boT (kd i) = 21 ∨ boT (kd i) = 22 then lawP l kd nm f (i + 1) (boT (kd i) :: (stl (rk (boT (kd i))) S C).1) (stl (rk (boT (kd i))) S C).2 true else (0, i, (stl 1 S C).2))
    else if 10 ≤ boT (kd i) then (if boT (kd i) ≤ 15 then lawP l kd nm f (i + 1) (boT (kd i) :: (stl 4 S C).1) (stl 4 S C).2 true else (1, i, C)) else (1, i, C)) := rfl
  rw [e0]
  unfold bwP
  generalize boT (kd i) = o at hb
  by_cases k1 : 3 ≤ o ∧ o ≤ 6
  · rw [if_pos k1, if_pos (show 3 ≤ o ∧ o ≤ 7 by omega), if_neg (show ¬ o = 7 by omega), if_pos (show o ≠ 0 by omega)]
  rw [if_neg k1]
  by_cases k7 : o = 7
  · rw [if_pos k7, if_pos (show 3 ≤ o ∧ o ≤ 7 by omega), if_pos k7]
  rw [if_neg k7, if_neg (show ¬ (3 ≤ o ∧ o ≤ 7) by omega)]
  cases hp : hasP S
  · simp only [Bool.false_eq_true, if_false]
    cases hc : cmpS S
    · simp only [Bool.false_eq_true, if_false]
      by_cases k10 : 10 ≤ o
      · by_cases k15 : o ≤ 15
        · have hr : rk o = 4 := by
            have : o = 10 ∨ o = 11 ∨ o = 12 ∨ o = 13 ∨ o = 14 ∨ o = 15 := by omega
            rcases this with rfl | rfl | rfl | rfl | rfl | rfl <;> rfl
          rw [if_pos k10, if_pos k15, if_pos (show 10 ≤ o ∧ o ≤ 15 by omega), if_neg k7, if_pos (show o ≠ 0 by omega), hr]
        · rw [if_pos k10, if_neg k15, if_neg (show ¬ (10 ≤ o ∧ o ≤ 15) by omega), if_neg (by decide), if_neg (by decide)]
      · rw [if_neg k10, if_neg (show ¬ (10 ≤ o ∧ o ≤ 15) by omega), if_neg (by decide), if_neg (by decide)]
    · simp only [if_true]
      by_cases k2 : o = 21 ∨ o = 22
      · rw [if_pos k2, if_pos k2, if_neg k7, if_pos (show o ≠ 0 by omega)]
      · rw [if_neg k2, if_neg k2, if_neg (by decide), if_neg (by decide)]
  · simp only [if_true]
    rw [if_neg (show ¬ ((0 : Nat) = 7) by decide), if_neg (show ¬ ((0 : Nat) ≠ 0) by decide)]
theorem bwP_ok {S : List Nat} {t : Nat} (h : bwP S t ≠ 0) : opIn (bwP S t) ∧ (bwP S t ≠ 7 → isB (bwP S t) = true ∧ isO (bwP S t) = false) ∧ (10 ≤ bwP S t → hasP S = false) ∧ t ≠ 1 := by
  have hb := boT_in t
  have h1 : boT 1 = 0 := rfl
  have key : boT t = bwP S t ∧ (10 ≤ bwP S t → hasP S = false) := by
    unfold bwP at h ⊢
    by_cases k1 : 3 ≤ boT t ∧ boT t ≤ 7
    · rw [if_pos k1]
      exact ⟨rfl, fun z => by omega⟩
    rw [if_neg k1] at h ⊢
    cases hp : hasP S
    · rw [hp] at h
      simp only [Bool.false_eq_true, if_false] at h ⊢
      refine ⟨?_, fun _ => trivial⟩
      cases hc : cmpS S
      · rw [hc] at h
        simp only [Bool.false_eq_true, if_false] at h ⊢
        by_cases k2 : 10 ≤ boT t ∧ boT t ≤ 15
        · rw [if_pos k2]
        · rw [if_neg k2] at h; exact absurd rfl h
      · rw [hc] at h
        simp only [if_true] at h ⊢
        by_cases k2 : boT t = 21 ∨ boT t = 22
        · rw [if_pos k2]
        · rw [if_neg k2] at h; exact absurd rfl h
    · rw [hp] at h
      simp only [if_true] at h
      exact absurd rfl h
  obtain ⟨e, hp⟩ := key
  generalize hv : bwP S t = v at h e hp
  rw [e] at hb
  refine ⟨by unfold opIn; omega, fun h7 => ?_, hp, fun z => by rw [z] at e; omega⟩
  have : v = 3 ∨ v = 4 ∨ v = 5 ∨ v = 6 ∨ v = 10 ∨ v = 11 ∨ v = 12 ∨ v = 13 ∨ v = 14 ∨ v = 15 ∨ v = 21 ∨ v = 22 := by omega
  rcases this with rfl | rfl | rfl | rfl | rfl | rfl | rfl | rfl | rfl | rfl | rfl | rfl <;> decide
