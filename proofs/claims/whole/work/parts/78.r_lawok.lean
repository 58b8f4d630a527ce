def COK (l fr : Nat) (C : List (Nat × Nat)) : Prop := ∀ i, fr ≤ i → i < C.length → oL C i ≤ 22 ∧ (vL C i ≤ 9999) ∧ (oL C i = 1 → nmOK l (vL C i))
theorem COK.emit {l fr : Nat} {C : List (Nat × Nat)} (h : COK l fr C) {x : Nat × Nat} (hx : x.1 ≤ 22 ∧ (x.2 ≤ 9999) ∧ (x.1 = 1 → nmOK l x.2)) : COK l fr (C ++ [x]) := by
  intro i h1 h2
  rw [List.length_append, List.length_singleton] at h2
  by_cases e : i = C.length
  · subst e
    rw [(oL_last C x).1, (oL_last C x).2]
    exact hx
  · rw [(oL_app (by omega)).1, (oL_app (by omega)).2]
    exact h i h1 (by omega)
def Ext (C C' : List (Nat × Nat)) : Prop := ∃ D, C' = C ++ D
theorem Ext.rf (C : List (Nat × Nat)) : Ext C C := ⟨[], (List.append_nil C).symm⟩
theorem Ext.tr {A B C : List (Nat × Nat)} (h : Ext A B) (k : Ext B C) : Ext A C := by
  obtain ⟨D, rfl⟩ := h
  obtain ⟨E, rfl⟩ := k
  exact ⟨D ++ E, List.append_assoc _ _ _⟩
theorem Ext.e1 (C : List (Nat × Nat)) (x : Nat × Nat) : Ext C (C ++ [x]) := ⟨[x], rfl⟩
theorem Ext.len {A B : List (Nat × Nat)} (h : Ext A B) : A.length ≤ B.length := by
  obtain ⟨D, rfl⟩ := h
  simp
theorem Ext.get {A B : List (Nat × Nat)} (h : Ext A B) {i : Nat} (hi : i < A.length) : oL B i = oL A i ∧ vL B i = vL A i := by
  obtain ⟨D, rfl⟩ := h
  unfold oL vL
  simp only [List.getD_eq_getElem?_getD, List.getElem?_append_left hi, and_self]
theorem stl_C {l fr k : Nat} (hl : 1 ≤ l) : ∀ {S : List Nat} {C : List (Nat × Nat)}, GS S → COK k fr C → COK k fr (stl l S C).2 ∧ Ext C (stl l S C).2
  | [], C, _, h => ⟨h, Ext.rf C⟩
  | o :: S, C, h, hC => by
    by_cases e : l ≤ rk o
    · have h1 : stl l (o :: S) C = stl l S (C ++ [(o, 0)]) := if_pos e
      rw [h1]
      have ho : 2 ≤ o ∧ o ≤ 22 := by
        have : o ≠ 40 := fun z => by
          rw [z] at e
          have : rk 40 = 0 := rfl
          omega
        have := h.2.1
        unfold opIn at this
        omega
      obtain ⟨a1, a2⟩ := stl_C (k := k) (fr := fr) hl h.1 (hC.emit (x := (o, 0)) ⟨ho.2, (by show 0 ≤ 9999; omega), fun z => absurd z (by show o ≠ 1; omega)⟩)
      exact ⟨a1, (Ext.e1 C _).tr a2⟩
    · have h1 : stl l (o :: S) C = (o :: S, C) := if_neg e
      rw [h1]
      exact ⟨hC, Ext.rf C⟩
theorem nmT_le (t : Nat) : nmT t ≤ 13 := by
  unfold nmT
  repeat (first | omega | split)
theorem nmB_ok {l v : Nat} (h : nmB l v = true) (hl : l < 3) (hv : v ≤ 12) : nmOK l v := by
  unfold nmB at h
  unfold nmOK
  by_cases h1 : v < 8
  · rw [if_pos h1] at h
    have := of_decide_eq_true h
    omega
  · rw [if_neg h1] at h
    by_cases h2 : v < 10
    · rw [if_pos h2] at h
      have := of_decide_eq_true h
      omega
    · rw [if_neg h2] at h
      have := of_decide_eq_true h
      omega
theorem boT_in (t : Nat) : boT t = 0 ∨ (3 ≤ boT t ∧ boT t ≤ 7) ∨ (10 ≤ boT t ∧ boT t ≤ 15) ∨ boT t = 21 ∨ boT t = 22 := by
  unfold boT
  repeat (first | omega | split)
theorem stl_8 {S : List Nat} {C : List (Nat × Nat)} {fr : Nat} (h : GS S) (hT : TyS C fr (tS S) (vS S + 1)) : TyS (stl 8 S C).2 fr (tS (stl 8 S C).1) (vS (stl 8 S C).1 + 1) := stl_V (by omega) h (Or.inl (by omega)) hT
theorem push_b {S : List Nat} {o : Nat} (h : GS S) (ho : opIn o) (hB : isB o = true) (ht : S = [] ∨ topR S < rk o) (hp : 10 ≤ o → hasP S = false) : GS (o :: S) := by
  refine ⟨h, ho, fun _ => ?_, fun z => hp z.1, fun z => ?_⟩
  · rcases ht with rfl | ht
    · show 0 < rk o
      rcases op_cases ho with rfl | rfl | rfl | rfl | rfl | rfl | rfl | rfl | rfl | rfl | rfl | rfl | rfl | rfl | rfl | rfl <;> first | decide | exact absurd hB (by decide)
    · exact ht
  · rw [z] at hB; exact absurd hB (by decide)
theorem lawP_ok {l fr : Nat} {kd nm : Nat → Nat} (hl : l < 3) : ∀ (f i : Nat) (S : List Nat) (C : List (Nat × Nat)) (w : Bool) (j : Nat) (C' : List (Nat × Nat)), GS S → opS S ≤ 8 → TyS C fr (tS S) (vS S + if w then 0 else 1) → COK l fr C → C.length + S.length ≤ i → lawP l kd nm f i S C w = (0, j, C') → i ≤ j ∧ Ext C C' ∧ TyS C' fr 1 0 ∧ COK l fr C' ∧ C'.length ≤ j
  | 0, i, S, C, w, j, C', _, _, _, _, _, e => by
    unfold lawP at e
    cases e
  | f + 1, i, S, C, true, j, C', h1, h2, h3, h4, h5, e => by
    have hT : TyS C fr (tS S) (vS S) := h3
    have h45 := GS_len h1 h2
    have htv := tv_le h1
    have val : ∀ x : Nat × Nat, x.1 ≤ 1 → (x.1 ≤ 22 ∧ (x.2 ≤ 9999) ∧ (x.1 = 1 → nmOK l x.2)) → lawP l kd nm f (i + 1) (stl 8 S (C ++ [x])).1 (stl 8 S (C ++ [x])).2 false = (0, j, C') → i ≤ j ∧ Ext C C' ∧ TyS C' fr 1 0 ∧ COK l fr C' ∧ C'.length ≤ j := by
      intro x hx hok e
      have hT1 : TyS (C ++ [x]) fr (tS S) (vS S + 1) := hT.emit (o := x.1) (x := x.2) (s := (tS S, vS S + 1)) (by unfold tstep; rw [if_pos hx, if_pos (by omega)])
      obtain ⟨g1, g2, g3, g4, g5⟩ := stl_GS (l := 8) (C := C ++ [x]) h1
      obtain ⟨c1, c2⟩ := stl_C (l := 8) (k := l) (fr := fr) (by omega) h1 (h4.emit hok)
      rw [List.length_append, List.length_singleton] at g4
      obtain ⟨r1, r2, r3⟩ := lawP_ok hl f (i + 1) _ _ false j C' g1 (by omega) (stl_8 h1 hT1) c1 (by omega) e
      exact ⟨by omega, ((Ext.e1 C x).tr c2).tr r2, r3⟩
    have opn : ∀ o : Nat, opIn o → isB o = false → isO o = true → (10 ≤ o ∧ o < 40 → hasP S = false) → (o = 20 → topR S ≤ 3) → tS (o :: S) = tS S → vS (o :: S) = vS S → opS S < 8 → lawP l kd nm f (i + 1) (o :: S) C true = (0, j, C') → i ≤ j ∧ Ext C C' ∧ TyS C' fr 1 0 ∧ COK l fr C' ∧ C'.length ≤ j := by
      intro o ho hb hO hp h20 et ev h8 e
      have g : GS (o :: S) := ⟨h1, ho, fun z => (by rw [hb] at z; cases z), hp, h20⟩
      obtain ⟨r1, r2, r3⟩ := lawP_ok hl f (i + 1) (o :: S) C true j C' g (by show opS S + (if isO o then 1 else 0) ≤ 8; rw [hO]; simp; omega) (by rw [et, ev]; exact hT) h4 (by rw [List.length_cons]; omega) e
      exact ⟨by omega, r2, r3⟩
    unfold lawP at e
    by_cases k2 : kd i = 2
    · rw [if_pos k2] at e
      by_cases q : 9999 < nm i
      · rw [if_pos q] at e; cases e
      · rw [if_neg q] at e
        exact val (0, nm i) (by show 0 ≤ 1; omega) ⟨by show 0 ≤ 22; omega, (by show nm i ≤ 9999; omega), fun z => (by cases z)⟩ e
    rw [if_neg k2] at e
    by_cases k40 : kd i = 40
    · rw [if_pos k40] at e
      by_cases q : 8 ≤ opS S
      · rw [if_pos q] at e; cases e
      · rw [if_neg q] at e
        exact opn 40 (by unfold opIn; omega) rfl rfl (fun z => by omega) (fun z => by omega) rfl rfl (by omega) e
    rw [if_neg k40] at e
    by_cases k45 : kd i = 45
    · rw [if_pos k45] at e
      by_cases q : 8 ≤ opS S
      · rw [if_pos q] at e; cases e
      · rw [if_neg q] at e
        exact opn 2 (by unfold opIn; omega) rfl rfl (fun z => by omega) (fun z => by omega) rfl rfl (by omega) e
    rw [if_neg k45] at e
    by_cases k116 : kd i = 116
    · rw [if_pos k116] at e
      by_cases qa : askS S = true
      · rw [if_pos qa] at e
        by_cases q : 8 ≤ opS S
        · rw [if_pos q] at e; cases e
        · rw [if_neg q] at e
          have hh : hasP S = false ∧ topR S ≤ 3 := by
            cases S with
            | nil => exact ⟨rfl, Nat.zero_le _⟩
            | cons p S =>
              unfold askS at qa
              rw [Bool.and_eq_true] at qa
              have a1 := qa.1
              have a2 := of_decide_eq_true qa.2
              refine ⟨?_, a2.2⟩
              cases z : hasP (p :: S)
              · rfl
              · rw [z] at a1; cases a1
          exact opn 20 (by unfold opIn; omega) rfl rfl (fun _ => hh.1) (fun _ => hh.2) rfl rfl (by omega) e
      · rw [if_neg qa] at e; cases e
    rw [if_neg k116] at e
    by_cases kn : nmT (kd i) = 13
    · rw [if_pos kn] at e; cases e
    rw [if_neg kn] at e
    by_cases kb : nmB l (nmT (kd i)) = true
    · rw [if_pos kb] at e
      have := nmT_le (kd i)
      exact val (1, nmT (kd i)) (by show 1 ≤ 1; omega) ⟨by show 1 ≤ 22; omega, (by show nmT (kd i) ≤ 9999; omega), fun _ => nmB_ok kb hl (by omega)⟩ e
    · rw [if_neg kb] at e; cases e
  | f + 1, i, S, C, false, j, C', h1, h2, h3, h4, h5, e => by
    have hT : TyS C fr (tS S) (vS S + 1) := h3
    unfold lawP at e
    have hbo := boT_in (kd i)
    generalize boT (kd i) = o at e hbo
    by_cases k1 : 3 ≤ o ∧ o ≤ 6
    · rw [if_pos k1] at e
      have hr : 5 ≤ rk o := by
        have : o = 3 ∨ o = 4 ∨ o = 5 ∨ o = 6 := by omega
        rcases this with rfl | rfl | rfl | rfl <;> decide
      obtain ⟨g1, g2, g3, g4, g5⟩ := stl_GS (l := rk o) (C := C) h1
      obtain ⟨c1, c2⟩ := stl_C (l := rk o) (k := l) (fr := fr) (C := C) (by omega) h1 h4
      have hV := stl_V (l := rk o) (by omega) h1 (Or.inl hr) hT
      have hB : isB o = true := by unfold isB; simp [k1]
      have hO : isO o = false := by
        have : o = 3 ∨ o = 4 ∨ o = 5 ∨ o = 6 := by omega
        rcases this with rfl | rfl | rfl | rfl <;> decide
      have g := push_b g1 (by unfold opIn; omega) hB g5 (fun z => by omega)
      obtain ⟨r1, r2, r3⟩ := lawP_ok hl f (i + 1) _ _ true j C' g (by show opS _ + (if isO o then 1 else 0) ≤ 8; rw [hO]; simp; omega) (by
        rw [vS_c, if_pos (Or.inl (by omega))]
        show TyS _ fr (tS _ + (if o = 21 ∨ o = 22 then 1 else 0)) _
        rw [if_neg (by omega)]
        exact hV) c1 (by rw [List.length_cons]; omega) e
      exact ⟨by omega, c2.tr r2, r3⟩
    rw [if_neg k1] at e
    by_cases k7 : o = 7
    · rw [if_pos k7] at e
      by_cases q : 8 ≤ opS S
      · rw [if_pos q] at e; cases e
      · rw [if_neg q] at e
        have g : GS (7 :: S) := ⟨h1, by unfold opIn; omega, fun z => (by cases z), fun z => by omega, fun z => by omega⟩
        obtain ⟨r1, r2, r3⟩ := lawP_ok hl f (i + 1) (7 :: S) C true j C' g (by show opS S + 1 ≤ 8; omega) hT h4 (by rw [List.length_cons]; omega) e
        exact ⟨by omega, r2, r3⟩
    rw [if_neg k7] at e
    by_cases kp : hasP S = true
    · rw [if_pos kp] at e
      by_cases k41 : kd i = 41
      · rw [if_pos k41] at e
        obtain ⟨g1, g2, g3, g4, g5⟩ := stl_GS (l := 1) (C := C) h1
        obtain ⟨c1, c2⟩ := stl_C (l := 1) (k := l) (fr := fr) (C := C) (by omega) h1 h4
        have hV := stl_V (l := 1) (by omega) h1 (Or.inr (Or.inl kp)) hT
        have hP1 : hasP (stl 1 S C).1 = true := by rw [hasP_stl (by omega)]; exact kp
        generalize hZ : stl 1 S C = Z at e g1 g2 g3 g4 g5 c1 c2 hV hP1
        obtain ⟨S1, C1⟩ := Z
        cases S1 with
        | nil => cases hP1
        | cons p S2 =>
          have hp40 : p = 40 := by
            have : rk p < 1 := by rcases g5 with z | z; cases z; exact z
            rcases op_cases g1.2.1 with rfl | rfl | rfl | rfl | rfl | rfl | rfl | rfl | rfl | rfl | rfl | rfl | rfl | rfl | rfl | rfl <;> first | rfl | exact absurd this (by decide)
          subst hp40
          have hV2 : TyS C1 fr (tS S2) (vS S2 + 1) := hV
          obtain ⟨a1, a2, a3, a4, a5⟩ := stl_GS (l := 8) (C := C1) g1.1
          obtain ⟨b1, b2⟩ := stl_C (l := 8) (k := l) (fr := fr) (C := C1) (by omega) g1.1 c1
          have hop : opS S2 ≤ opS (40 :: S2) := Nat.le_add_right _ _
          have g4 : C1.length + (S2.length + 1) = C.length + S.length := g4
          have g2 : opS (40 :: S2) ≤ opS S := g2
          obtain ⟨r1, r2, r3⟩ := lawP_ok hl f (i + 1) _ _ false j C' a1 (by omega) (stl_8 g1.1 hV2) b1 (by omega) e
          exact ⟨by omega, (c2.tr b2).tr r2, r3⟩
      · rw [if_neg k41] at e; cases e
    rw [if_neg kp] at e
    have kp : hasP S = false := by cases z : hasP S; rfl; exact absurd z kp
    by_cases kc : cmpS S = true
    · rw [if_pos kc] at e
      by_cases k2 : o = 21 ∨ o = 22
      · rw [if_pos k2] at e
        have hr : rk o ≤ 2 ∧ 1 ≤ rk o := by rcases k2 with rfl | rfl <;> decide
        obtain ⟨g1, g2, g3, g4, g5⟩ := stl_GS (l := rk o) (C := C) h1
        obtain ⟨c1, c2⟩ := stl_C (l := rk o) (k := l) (fr := fr) (C := C) (by omega) h1 h4
        obtain ⟨hW, hv0⟩ := stl_W (l := rk o) (by omega) h1 kp kc hT
        have hB : isB o = true := by rcases k2 with rfl | rfl <;> decide
        have hO : isO o = false := by rcases k2 with rfl | rfl <;> decide
        have g := push_b g1 (by unfold opIn; omega) hB g5 (fun _ => by rw [hasP_stl (by omega)]; exact kp)
        obtain ⟨r1, r2, r3⟩ := lawP_ok hl f (i + 1) _ _ true j C' g (by show opS _ + (if isO o then 1 else 0) ≤ 8; rw [hO]; simp; omega) (by
          rw [vS_c, if_neg (by omega), hv0]
          show TyS _ fr (tS _ + (if o = 21 ∨ o = 22 then 1 else 0)) _
          rw [if_pos k2]
          exact hW) c1 (by rw [List.length_cons]; omega) e
        exact ⟨by omega, c2.tr r2, r3⟩
      · rw [if_neg k2] at e
        injection e with e1 e2
        injection e2 with e2 e3
        subst e2 e3
        obtain ⟨g1, g2, g3, g4, g5⟩ := stl_GS (l := 1) (C := C) h1
        obtain ⟨c1, c2⟩ := stl_C (l := 1) (k := l) (fr := fr) (C := C) (by omega) h1 h4
        obtain ⟨hW, hv0⟩ := stl_W (l := 1) (by omega) h1 kp kc hT
        have hP1 : hasP (stl 1 S C).1 = false := by rw [hasP_stl (by omega)]; exact kp
        have hS : (stl 1 S C).1 = [] := by
          rcases g5 with z | z
          · exact z
          · generalize (stl 1 S C).1 = S1 at g1 z hP1
            cases S1 with
            | nil => rfl
            | cons p S2 =>
              exfalso
              have z : rk p < 1 := z
              rcases op_cases g1.2.1 with rfl | rfl | rfl | rfl | rfl | rfl | rfl | rfl | rfl | rfl | rfl | rfl | rfl | rfl | rfl | rfl <;> first | exact absurd z (by decide) | exact absurd hP1 (by simp [hasP])
        rw [hS] at hW
        exact ⟨Nat.le_refl _, c2, hW, c1, by omega⟩
    · rw [if_neg kc] at e
      have kc : cmpS S = false := by cases z : cmpS S; rfl; exact absurd z kc
      by_cases k10 : 10 ≤ o
      · rw [if_pos k10] at e
        by_cases k15 : o ≤ 15
        · rw [if_pos k15] at e
          have hr : rk o = 4 := by
            have : o = 10 ∨ o = 11 ∨ o = 12 ∨ o = 13 ∨ o = 14 ∨ o = 15 := by omega
            rcases this with rfl | rfl | rfl | rfl | rfl | rfl <;> rfl
          obtain ⟨g1, g2, g3, g4, g5⟩ := stl_GS (l := 4) (C := C) h1
          obtain ⟨c1, c2⟩ := stl_C (l := 4) (k := l) (fr := fr) (C := C) (by omega) h1 h4
          have hV := stl_V (l := 4) (by omega) h1 (Or.inr (Or.inr ⟨kc, Nat.le_refl _⟩)) hT
          have hB : isB o = true := by unfold isB; simp [k10, k15]
          have hO : isO o = false := by
            have : o = 10 ∨ o = 11 ∨ o = 12 ∨ o = 13 ∨ o = 14 ∨ o = 15 := by omega
            rcases this with rfl | rfl | rfl | rfl | rfl | rfl <;> decide
          have g := push_b g1 (by unfold opIn; omega) hB (by rw [hr]; exact g5) (fun _ => by rw [hasP_stl (by omega)]; exact kp)
          obtain ⟨r1, r2, r3⟩ := lawP_ok hl f (i + 1) _ _ true j C' g (by show opS _ + (if isO o then 1 else 0) ≤ 8; rw [hO]; simp; omega) (by
            rw [vS_c, if_pos (Or.inr ⟨k10, k15⟩)]
            show TyS _ fr (tS _ + (if o = 21 ∨ o = 22 then 1 else 0)) _
            rw [if_neg (by omega)]
            exact hV) c1 (by rw [List.length_cons]; omega) e
          exact ⟨by omega, c2.tr r2, r3⟩
        · rw [if_neg k15] at e; cases e
      · rw [if_neg k10] at e; cases e
