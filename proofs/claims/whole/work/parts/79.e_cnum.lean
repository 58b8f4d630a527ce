/-! the class's clauses: numbers -/
def stI (kd nm : Nat → Nat) (k a b : Nat) (r : Nat × Nat × List Nat) : Nat × Nat × List Nat := if r.1 ≠ 0 then r else if k = 0 then (if kd r.2.1 ≠ 2 then (1, r.2.1, r.2.2) else if a ≤ nm r.2.1 ∧ nm r.2.1 ≤ b then (0, r.2.1 + 1, r.2.2 ++ [nm r.2.1]) else (2, r.2.1, r.2.2)) else if kd r.2.1 = a then (0, r.2.1 + 1, r.2.2) else (1, r.2.1, r.2.2)
def vAt (V : List Nat) (q : Nat) : Int32 := if q < V.length then nI (V.getD q 0) else -1
theorem vAt_app {V : List Nat} {x q : Nat} : vAt (V ++ [x]) q = if q = V.length then nI x else vAt V q := by
  unfold vAt
  rw [List.length_append, List.length_singleton]
  by_cases e : q = V.length
  · subst e
    rw [if_pos (by omega), if_pos rfl, List.getD_eq_getElem?_getD, List.getElem?_append_right (Nat.le_refl _), Nat.sub_self]
    rfl
  · rw [if_neg e]
    by_cases h : q < V.length
    · rw [if_pos (by omega), if_pos h, List.getD_eq_getElem?_getD, List.getElem?_append_left h, ← List.getD_eq_getElem?_getD]
    · rw [if_neg (by omega), if_neg h]
def NS (kd nm st : Nat → Nat) (cnt t0 k i : Nat) (V : List Nat) (C : List (Nat × Nat)) (m : Mem) : Prop := CK kd nm st cnt t0 i C m ∧ m.1 (238 + 6 * t0) 0 = nI (k + 1) ∧ m.1 (238 + 6 * t0) 1 = nI (6 * k + V.length) ∧ (∀ q, q < 6 → m.1 (238 + 6 * t0 + 2) (6 * k + q) = vAt V q) ∧ i ≤ cnt
/-- what reading numbers changes -/
def FN (t0 k : Nat) (m m' : Mem) : Prop := (∀ c, c ≠ 233 → c ≠ 238 + 6 * t0 → c ≠ 238 + 6 * t0 + 2 → m'.1 c = m.1 c) ∧ (∀ p, p ≠ 1 → m'.1 (238 + 6 * t0) p = m.1 (238 + 6 * t0) p) ∧ (∀ p, p < 6 * k ∨ 6 * k + 6 ≤ p → m'.1 (238 + 6 * t0 + 2) p = m.1 (238 + 6 * t0 + 2) p) ∧ m'.2.2 = m.2.2
theorem FN.rf (t0 k : Nat) (m : Mem) : FN t0 k m m := ⟨fun _ _ _ _ => rfl, fun _ _ => rfl, fun _ _ => rfl, rfl⟩
theorem FN.tr {t0 k : Nat} {a b c : Mem} (h : FN t0 k a b) (j : FN t0 k b c) : FN t0 k a c := ⟨fun q h1 h2 h3 => (j.1 q h1 h2 h3).trans (h.1 q h1 h2 h3), fun p hp => (j.2.1 p hp).trans (h.2.1 p hp), fun p hp => (j.2.2.1 p hp).trans (h.2.2.1 p hp), j.2.2.2.trans h.2.2.2⟩
theorem FN.w3 {t0 k : Nat} {m m' : Mem} (hc : ∀ c, c ≠ 233 → m'.1 c = m.1 c) (hr : m'.2.2 = m.2.2) (ht : t0 < 4) : FN t0 k m m' := ⟨fun c h1 _ _ => hc c h1, fun p _ => by rw [hc _ (by omega)], fun p _ => by rw [hc _ (by omega)], hr⟩
/-- how far the reading came -/
def RR (kd nm st : Nat → Nat) (cnt t0 k : Nat) (C : List (Nat × Nat)) (r : Nat × Nat × List Nat) (m : Mem) : Prop := (r.1 = 0 ∧ NS kd nm st cnt t0 k r.2.1 r.2.2 C m) ∨ (0 < r.1 ∧ r.1 ≤ 7 ∧ m.1 233 0 = nI r.1 ∧ m.1 233 1 = nI (st r.2.1))
theorem kX3_fail2 (G : GP) {kd nm st : Nat → Nat} {cnt : Nat} (d i e : Nat) (m : Mem) (K : Mem → Prop) (hT : TB kd nm st cnt m.1) (h4 : m.1 233 4 = nI i) (hi : i ≤ cnt) (hK : ∀ m', m'.1 233 0 = nI e → m'.1 233 1 = nI (st i) → (∀ c, c ≠ 233 → m'.1 c = m.1 c) → m'.2.2 = m.2.2 → K m') : Evv G d mX3_fail [.ref (ga G 233), .int (nI e)] m K := by
  have hc := hT.2.1
  have e2 : (nI i).toNatClampNeg = i := tn_nI (by omega)
  refine vX3_fail G d _ m K (fun m1 em1 => ?_)
  have a3 : m1.1 233 = upd (m.1 233) 0 (nI e) := by rw [em1, wI_s]
  have a1 : m1.1 231 = m.1 231 := by rw [em1]; exact wI_n m _ _ (by omega)
  rw [a3, upd_n _ _ (show 4 ≠ 0 by omega), h4, e2, a1, (hT.2.2.1 i hi).2.1]
  refine ⟨in_nI (by omega) (by omega), fun m2 em2 => hK m2 ?_ ?_ (fun c h => ?_) ?_⟩
  · rw [em2, wI_s, upd_n _ _ (by omega), a3, upd_s]
  · rw [em2, wI_s, upd_s]
  · rw [em2, wI_n _ _ _ h, em1, wI_n _ _ _ h]
  · rw [em2, em1]; rfl
theorem CK.lt {kd nm st : Nat → Nat} {cnt t0 i : Nat} {C : List (Nat × Nat)} {m : Mem} (h : CK kd nm st cnt t0 i C m) (hi : i ≤ cnt) (hk : kd i ≠ 1) : i < cnt := by
  rcases Nat.lt_or_ge i cnt with q | q
  · exact q
  · have : i = cnt := by omega
    have e1 := h.1.1
    rw [← this] at e1
    exact absurd e1 hk
theorem CK.adv {kd nm st : Nat → Nat} {cnt t0 i : Nat} {C : List (Nat × Nat)} {m m' : Mem} (h : CK kd nm st cnt t0 i C m) (a4 : m'.1 233 4 = nI (i + 1)) (a5 : m'.1 233 5 = nI (kd (i + 1))) (hp : ∀ p, p ≠ 4 → p ≠ 5 → m'.1 233 p = m.1 233 p) (hc : ∀ c, c ≠ 233 → m'.1 c = m.1 c) (hr : m'.2.2 = m.2.2) : CK kd nm st cnt t0 (i + 1) C m' := by
  obtain ⟨c1, c2, c3, c4, c5, c6, c7⟩ := h
  have fq : FQ m m' := ⟨fun c h1 _ => hc c h1, hr⟩
  exact ⟨c1.fr (fun c h1 h2 => hc c (by omega)), by rw [hr]; exact c2, ⟨(hp 0 (by omega) (by omega)).trans c3.1, (hp 1 (by omega) (by omega)).trans c3.2⟩, a4, a5, fq.ccl c6, fq.acl c7⟩
theorem NS.adv {kd nm st : Nat → Nat} {cnt t0 k i : Nat} {V : List Nat} {C : List (Nat × Nat)} {m m' : Mem} (h : NS kd nm st cnt t0 k i V C m) (ht : t0 < 4) (hi : i < cnt) (a4 : m'.1 233 4 = nI (i + 1)) (a5 : m'.1 233 5 = nI (kd (i + 1))) (hp : ∀ p, p ≠ 4 → p ≠ 5 → m'.1 233 p = m.1 233 p) (hc : ∀ c, c ≠ 233 → m'.1 c = m.1 c) (hr : m'.2.2 = m.2.2) : NS kd nm st cnt t0 k (i + 1) V C m' := by
  obtain ⟨h1, h2, h3, h4, h5⟩ := h
  refine ⟨h1.adv a4 a5 hp hc hr, ?_, ?_, ?_, hi⟩
  · rw [hc _ (by omega)]; exact h2
  · rw [hc _ (by omega)]; exact h3
  · rw [hc _ (by omega)]; exact h4
theorem kX3_pass (G : GP) {kd nm st : Nat → Nat} {cnt : Nat} (d t0 k a : Nat) (C : List (Nat × Nat)) (r : Nat × Nat × List Nat) (m : Mem) (K : Mem → Prop) (ht : t0 < 4) (ha : a < 200 ∧ a ≠ 1) (h : RR kd nm st cnt t0 k C r m) (hK : ∀ m', RR kd nm st cnt t0 k C (stI kd nm 1 a 0 r) m' → FN t0 k m m' → K m') : Evv G (d + 1) mX3_pass [.ref (ga G 233), .int (nI a)] m K := by
  obtain ⟨e, i, V⟩ := r
  rcases h with ⟨h0, hN⟩ | ⟨h0, h7, hf, hp⟩
  · have h0 : e = 0 := h0
    subst h0
    have hN : NS kd nm st cnt t0 k i V C m := hN
    have hc := hN.1
    obtain ⟨c1, c2, c3, c4, c5, c6, c7⟩ := hc
    have hi := hN.2.2.2.2
    have hcb := c1.2.1
    have hrg := (c1.2.2.1 i hi).2.2
    refine vX3_pass G d _ m K ⟨fun _ => ?_, fun z => absurd c3.1 z⟩
    have ea : nI (kd i) = nI a ↔ kd i = a := eq_nI (by omega) (by omega)
    rw [c5, ea]
    refine ⟨fun q => ?_, fun q => kX3_fail2 G d i 1 m _ c1 c4 hi (fun m' g1 g2 g3 g4 => hK m' (Or.inr ?_) (FN.w3 g3 g4 ht))⟩
    · have hlt := hN.1.lt hi (by omega)
      refine kX3_advance G d i m _ c1 c4 hlt (fun m' a4 a5 ap ac ar => hK m' (Or.inl ?_) (FN.w3 ac ar ht))
      have : stI kd nm 1 a 0 (0, i, V) = (0, i + 1, V) := by
        unfold stI
        rw [if_neg (fun y => y rfl), if_neg (by decide), if_pos q]
      rw [this]
      exact ⟨rfl, hN.adv ht hlt a4 a5 ap ac ar⟩
    · have : stI kd nm 1 a 0 (0, i, V) = (1, i, V) := by
        unfold stI
        rw [if_neg (fun y => y rfl), if_neg (by decide), if_neg q]
      rw [this]
      exact ⟨Nat.one_pos, by show 1 ≤ 7; omega, g1, g2⟩
  · have h0 : 0 < e := h0
    have h7 : e ≤ 7 := h7
    refine vX3_pass G d _ m K ⟨fun z => ?_, fun _ => hK m (Or.inr ?_) (FN.rf t0 k m)⟩
    · rw [hf] at z
      have : e = 0 := (eq_nI (b := 0) (by omega) (by omega)).mp z
      omega
    · have : stI kd nm 1 a 0 (e, i, V) = (e, i, V) := by
        unfold stI
        rw [if_pos (show e ≠ 0 by omega)]
      rw [this]
      exact ⟨h0, h7, hf, hp⟩
theorem kX3_number (G : GP) {kd nm st : Nat → Nat} {cnt : Nat} (d t0 k a b : Nat) (C : List (Nat × Nat)) (r : Nat × Nat × List Nat) (m : Mem) (K : Mem → Prop) (ht : t0 < 4) (hk : k < 24) (ha : a ≤ b ∧ b ≤ 1000) (hV : r.1 = 0 → kd r.2.1 = 2 → a ≤ nm r.2.1 → nm r.2.1 ≤ b → r.2.2.length < 6) (h : RR kd nm st cnt t0 k C r m) (hK : ∀ m', RR kd nm st cnt t0 k C (stI kd nm 0 a b r) m' → FN t0 k m m' → K m') : Evv G (d + 1) mX3_number [.ref (ga G 233), .int (nI a), .int (nI b)] m K := by
  obtain ⟨e, i, V⟩ := r
  rcases h with ⟨h0, hN⟩ | ⟨h0, h7, hf, hp⟩
  · have h0 : e = 0 := h0
    subst h0
    have hN : NS kd nm st cnt t0 k i V C m := hN
    have hN' := hN
    obtain ⟨hc, hn2, hn3, hn4, hi⟩ := hN
    have hc' := hc
    obtain ⟨c1, c2, c3, c4, c5, c6, c7⟩ := hc
    have hcb := c1.2.1
    have hrg := (c1.2.2.1 i hi).2.2
    have et : (nI i).toNatClampNeg = i := tn_nI (by omega)
    refine vX3_number G d _ _ m K ⟨fun _ => ?_, fun z => absurd c3.1 z⟩
    have e2 : nI (kd i) = 2 ↔ kd i = 2 := eq_nI (b := 2) (by omega) (by omega)
    rw [c5, e2, c4, et]
    refine ⟨fun q => ⟨in_nI (by omega) (by omega), ?_⟩, fun q => kX3_fail2 G d i 1 m _ c1 c4 hi (fun m' g1 g2 g3 g4 => hK m' (Or.inr ?_) (FN.w3 g3 g4 ht))⟩
    · obtain ⟨n1, n2⟩ := c1.2.2.2 i hi q
      have e3 : nI a ≤ nI (nm i) ↔ a ≤ nm i := le_nI (by omega) (by omega)
      have e4 : nI (nm i) ≤ nI b ↔ nm i ≤ b := le_nI (by omega) (by omega)
      rw [n1, e3, e4]
      refine ⟨fun z t1 et1 => ?_, fun z => kX3_fail2 G d i 2 m _ c1 c4 hi (fun m' g1 g2 g3 g4 => hK m' (Or.inr ?_) (FN.w3 g3 g4 ht))⟩
      · have hV : V.length < 6 := hV rfl q z.1 z.2
        rw [c2] at et1
        subst et1
        refine ⟨by omega, tx_all t0 ht, in_nI (by omega) (by omega), ?_⟩
        have t6 : nI (k + 1) * 6 = nI (6 * (k + 1)) := by rw [show (6 : Int32) = nI 6 from rfl, pk_mul]; congr 1; omega
        have t7 : (nI (6 * k + V.length)).toNatClampNeg = 6 * k + V.length := tn_nI (by omega)
        refine vX8_tell G d (238 + 6 * t0) (tx_all t0 ht) _ m _ ?_
        rw [hn2, hn3, t6, t7]
        refine ⟨fun y => ?_, fun _ => ⟨in_nI (by omega) (by omega), fun m1 em1 m2 em2 => ?_⟩⟩
        · have := (le_nI (by omega) (by omega)).mp y
          omega
        have a0 : m1.1 (238 + 6 * t0) = m.1 (238 + 6 * t0) := by rw [em1]; exact wI_n m _ _ (by omega)
        rw [a0, hn3, show (1 : Int32) = nI 1 from rfl, nI_add] at em2
        have b0 : m2.1 (238 + 6 * t0) = upd (m.1 (238 + 6 * t0)) 1 (nI (6 * k + V.length + 1)) := by rw [em2, wI_s, a0]
        have b2 : m2.1 (238 + 6 * t0 + 2) = upd (m.1 (238 + 6 * t0 + 2)) (6 * k + V.length) (nI (nm i)) := by rw [em2, wI_n _ _ _ (by omega), em1, wI_s]
        have bo : ∀ c, c ≠ 238 + 6 * t0 → c ≠ 238 + 6 * t0 + 2 → m2.1 c = m.1 c := fun c h1 h2 => by rw [em2, wI_n _ _ _ h1, em1, wI_n _ _ _ h2]
        have br : m2.2.2 = m.2.2 := by rw [em2, em1]; rfl
        have fn : FN t0 k m m2 := ⟨fun c _ h1 h2 => bo c h1 h2, fun p hp => by rw [b0, upd_n _ _ hp], fun p hp => by rw [b2, upd_n _ _ (by omega)], br⟩
        have hN2 : NS kd nm st cnt t0 k i (V ++ [nm i]) C m2 := by
          refine ⟨⟨c1.fr (fun c h1 h2 => bo c (by omega) (by omega)), by rw [br]; exact c2, by rw [bo 233 (by omega) (by omega)]; exact c3, by rw [bo 233 (by omega) (by omega)]; exact c4, by rw [bo 233 (by omega) (by omega)]; exact c5, ?_, ?_⟩, ?_, ?_, fun q hq => ?_, hi⟩
          · unfold CCl
            rw [b0, upd_n _ _ (by omega), bo _ (by omega) (by omega)]
            exact c6
          · unfold ACl
            rw [b0, upd_n _ _ (by omega)]
            exact c7
          · rw [b0, upd_n _ _ (by omega)]; exact hn2
          · rw [b0, upd_s, List.length_append, List.length_singleton]; rfl
          · rw [b2, vAt_app]
            by_cases ev : q = V.length
            · rw [if_pos ev, ev, upd_s]
            · rw [if_neg ev, upd_n _ _ (by omega)]; exact hn4 q hq
        have hlt := hc'.lt hi (by omega)
        refine kX3_advance G d i m2 _ hN2.1.1 hN2.1.2.2.2.1 hlt (fun m' a4 a5 ap ac ar => hK m' (Or.inl ?_) (fn.tr (FN.w3 ac ar ht)))
        have : stI kd nm 0 a b (0, i, V) = (0, i + 1, V ++ [nm i]) := by
          unfold stI
          rw [if_neg (fun y => y rfl), if_pos rfl, if_neg (fun y => y q), if_pos z]
        rw [this]
        exact ⟨rfl, hN2.adv ht hlt a4 a5 ap ac ar⟩
      · have : stI kd nm 0 a b (0, i, V) = (2, i, V) := by
          unfold stI
          rw [if_neg (fun y => y rfl), if_pos rfl, if_neg (fun y => y q), if_neg z]
        rw [this]
        exact ⟨by show 0 < 2; omega, by show 2 ≤ 7; omega, g1, g2⟩
    · have : stI kd nm 0 a b (0, i, V) = (1, i, V) := by
        unfold stI
        rw [if_neg (fun y => y rfl), if_pos rfl, if_pos q]
      rw [this]
      exact ⟨Nat.one_pos, by show 1 ≤ 7; omega, g1, g2⟩
  · have h0 : 0 < e := h0
    have h7 : e ≤ 7 := h7
    refine vX3_number G d _ _ m K ⟨fun z => ?_, fun _ => hK m (Or.inr ?_) (FN.rf t0 k m)⟩
    · rw [hf] at z
      have : e = 0 := (eq_nI (b := 0) (by omega) (by omega)).mp z
      omega
    · have : stI kd nm 0 a b (e, i, V) = (e, i, V) := by
        unfold stI
        rw [if_pos (show e ≠ 0 by omega)]
      rw [this]
      exact ⟨h0, h7, hf, hp⟩
