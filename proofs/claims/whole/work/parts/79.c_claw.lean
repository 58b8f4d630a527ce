/-! the class's law, whole -/
def FD (t0 l : Nat) (m m' : Mem) : Prop := (∀ c, c ≠ 233 → c ≠ 234 → c ≠ 238 + 6 * t0 → c ≠ 238 + 6 * t0 + 3 → c ≠ 238 + 6 * t0 + 5 → m'.1 c = m.1 c) ∧ (∀ p, p ≠ l → m'.1 (238 + 6 * t0 + 5) p = m.1 (238 + 6 * t0 + 5) p) ∧ (∀ p, p ≠ 4 → p ≠ 5 → m'.1 (238 + 6 * t0) p = m.1 (238 + 6 * t0) p) ∧ m'.2.2 = m.2.2
theorem FC.fd {t0 l : Nat} {m m' : Mem} (h : FC t0 m m') : FD t0 l m m' := ⟨fun c h1 h2 h3 h4 _ => h.1 c h1 h2 h3 h4, fun p _ => by rw [h.1 _ (by omega) (by omega) (by omega) (by omega)], h.2.1, h.2.2⟩
theorem FD.tr {t0 l : Nat} {a b c : Mem} (h : FD t0 l a b) (k : FD t0 l b c) : FD t0 l a c := ⟨fun q h1 h2 h3 h4 h5 => (k.1 q h1 h2 h3 h4 h5).trans (h.1 q h1 h2 h3 h4 h5), fun p hp => (k.2.1 p hp).trans (h.2.1 p hp), fun p h1 h2 => (k.2.2.1 p h1 h2).trans (h.2.2.1 p h1 h2), k.2.2.2.trans h.2.2.2⟩
theorem CS.adv {kd nm st : Nat → Nat} {cnt t0 i : Nat} {S : List Nat} {C : List (Nat × Nat)} {w : Bool} {m m' : Mem} (h : CS kd nm st cnt t0 i S C w m) (a4 : m'.1 233 4 = nI (i + 1)) (a5 : m'.1 233 5 = nI (kd (i + 1))) (hp : ∀ p, p ≠ 4 → p ≠ 5 → m'.1 233 p = m.1 233 p) (hc : ∀ c, c ≠ 233 → m'.1 c = m.1 c) (hr : m'.2.2 = m.2.2) : CS kd nm st cnt t0 (i + 1) S C w m' := by
  obtain ⟨c1, c2, c3, c4, c5, c6, c7, c8, c9, c10, c11, c12, c13, c14⟩ := h
  have fq : FQ m m' := ⟨fun c h1 _ => hc c h1, hr⟩
  exact ⟨c1.fr (fun c h1 h2 => hc c (by omega)), by rw [hr]; exact c2, ⟨(hp 0 (by omega) (by omega)).trans c3.1, (hp 1 (by omega) (by omega)).trans c3.2⟩, a4, a5, (hp 7 (by omega) (by omega)).trans c6, (hp 8 (by omega) (by omega)).trans c7, (hp 9 (by omega) (by omega)).trans c8, (hp 10 (by omega) (by omega)).trans c9, fun z => (hp 11 (by omega) (by omega)).trans (c10 z), (hp 12 (by omega) (by omega)).trans c11, by rw [hc 234 (by omega)]; exact c12, fq.ccl c13, fq.acl c14⟩
/-- what a law that was read leaves behind -/
def LawC (kd st : Nat → Nat) (t0 l e j : Nat) (C' : List (Nat × Nat)) (m' : Mem) : Prop := (e = 0 ∧ kd j = 59 ∧ (m'.1 233 0 = 0 ∧ m'.1 233 1 = -1) ∧ m'.1 233 4 = nI j ∧ m'.1 233 5 = nI (kd j) ∧ CCl t0 C' m' ∧ ACl t0 C' m' ∧ m'.1 (238 + 6 * t0 + 5) l = nI C'.length) ∨ (¬ (e = 0 ∧ kd j = 59) ∧ e ≤ 5 ∧ m'.1 233 0 = nI (if e = 0 then 1 else e) ∧ m'.1 233 1 = nI (st j))
theorem kX3_law (G : GP) {kd nm st : Nat → Nat} {cnt : Nat} (d t0 l i0 : Nat) (ht : t0 < 4) (hl : l < 3) : ∀ (f i : Nat) (S : List Nat) (C : List (Nat × Nat)) (w : Bool) (S0 : List Nat) (C0 : List (Nat × Nat)) (m : Mem) (K : Mem → Prop), cnt + 1 - i ≤ f → i ≤ cnt → i0 ≤ i → CS kd nm st cnt t0 i S0 C0 w m → Lz w S C S0 C0 → Bn i S0 C0 → (∀ e j C' m', lawP l kd nm f i S C w = (e, j, C') → j ≤ cnt → FD t0 l m m' → LawC kd st t0 l e j C' m' → K m') → Gw G (d + 4) mX3_readLaw 48 [.ref (ga G 233), .int (nI l), .int (nI (i - i0))] [] m (Qv K)
  | 0, i, S, C, w, S0, C0, m, K, hf, hi, h0, h, hL, hB, hK => by omega
  | f + 1, i, S, C, w, S0, C0, m, K, hf, hi, h0, h, hL, hB, hK => by
    have hs := h
    obtain ⟨c1, c2, c3, c4, c5, c6, c7, c8, c9, c10, c11, c12, c13, c14⟩ := h
    have hcb := c1.2.1
    have hrg := (c1.2.2.1 i hi).2.2
    have h300 : ¬ (300 : Int32) < nI (i - i0) := fun z => by
      have := (lt_nI (a := 300) (by omega) (by omega)).mp z
      omega
    have hE : nI (i - i0) + 1 = nI (i + 1 - i0) := by
      rw [show (1 : Int32) = nI 1 from rfl, nI_add]
      congr 1; omega
    -- the step behind a token
    have step : ∀ S' C' w' S1 C1 m1, lawP l kd nm (f + 1) i S C w = lawP l kd nm f (i + 1) S' C' w' → Lz w' S' C' S1 C1 → Bn (i + 1) S1 C1 → CS kd nm st cnt t0 i S1 C1 w' m1 → kd i ≠ 1 → FC t0 m m1 → ((m1.1 233 0 = 0 → Evv G (d + 3) mX3_advance [.ref (ga G 233)] m1 (fun m15 => ∀ x16 : Int32, x16 = nI (i - i0) + 1 → Gw G (d + 4) mX3_readLaw 48 [.ref (ga G 233), .int (nI l), .int x16] [] m15 (Qv K))) ∧ (¬ m1.1 233 0 = 0 → K m1)) := by
      intro S' C' w' S1 C1 m1 e1 e2 e3 e4 e5 e6
      have hlt : i < cnt := by
        rcases Nat.lt_or_ge i cnt with q | q
        · exact q
        · have : i = cnt := by omega
          have y := c1.1
          rw [← this] at y
          exact absurd y e5
      refine ⟨fun _ => kX3_advance G (d + 3) i m1 _ e4.1 e4.2.2.2.1 hlt (fun m2 a4 a5 ap ac ar x16 ex => ?_), fun z => absurd e4.2.2.1.1 z⟩
      rw [ex, hE]
      have f2 : FC t0 m1 m2 := FQ.fc ⟨fun c h1 _ => ac c h1, ar⟩
      exact kX3_law G d t0 l i0 ht hl f (i + 1) S' C' w' S1 C1 m2 K (by omega) (by omega) (by omega) (e4.adv a4 a5 ap ac ar) e2 e3 (fun e j C2 m3 q1 q2 q3 q4 => hK e j C2 m3 (e1.trans q1) q2 ((e6.tr f2).fd.tr q3) q4)
    -- a fault
    have bad : ∀ e m1, 0 < e → e ≤ 5 → lawP l kd nm (f + 1) i S C w = (e, i, C) → m1.1 233 0 = nI e → m1.1 233 1 = nI (st i) → FC t0 m m1 → ((m1.1 233 0 = 0 → Evv G (d + 3) mX3_advance [.ref (ga G 233)] m1 (fun m15 => ∀ x16 : Int32, x16 = nI (i - i0) + 1 → Gw G (d + 4) mX3_readLaw 48 [.ref (ga G 233), .int (nI l), .int x16] [] m15 (Qv K))) ∧ (¬ m1.1 233 0 = 0 → K m1)) := by
      intro e m1 q0 q5 e1 e2 e3 e4
      refine ⟨fun z => ?_, fun _ => hK e i C m1 e1 hi e4.fd (Or.inr ⟨fun z => by omega, q5, by rw [if_neg (by omega)]; exact e2, e3⟩)⟩
      rw [e2] at z
      have := (eq_nI (b := 0) (by omega) (by omega)).mp z
      omega
    refine vX3_readLaw_48 G d _ _ m K ⟨fun z => absurd z h300, fun _ => ?_⟩
    cases w with
    | true =>
      obtain ⟨e1, e2⟩ := hL.1 rfl
      subst e1 e2
      refine ⟨fun z => absurd z (by rw [c9]; decide), fun _ => ?_⟩
      exact kX3_readValue G d t0 l f i S0 C0 m _ ht hl hi hs hB step bad
    | false =>
      have hL' := hL.2 rfl
      refine ⟨fun _ => ?_, fun z => absurd c9 z⟩
      have ehP : hasP S = hasP S0 := by have := hasP_stl (l := 8) (S := S0) (C := C0) (by omega); rw [hL'] at this; exact this
      have ecF : cmpF S = cmpF S0 := by have := cmpF_5 (r := 8) (by omega) (S := S0) (C := C0); rw [hL'] at this; exact this
      have hnp := nP_op S0
      have hB8 := hB.2.1
      have e59 : m.1 233 5 = 59 ↔ kd i = 59 := by rw [c5]; exact eq_nI (b := 59) (by omega) (by omega)
      have oper : ¬ (kd i = 59 ∧ hasP S = false ∧ cmpS S = true) → Evv G (d + 3) mX3_readOperator [.ref (ga G 233)] m (fun m14 => (((m14.1 233 0) = 0) → Evv G (d + 3) mX3_advance [.ref (ga G 233)] m14 (fun m15 => ∀ x16 : Int32, x16 = nI (i - i0) + 1 → Gw G (d + 4) mX3_readLaw 48 [.ref (ga G 233), .int (nI l), .int x16] [] m15 (Qv K))) ∧ ((¬ (m14.1 233 0) = 0) → K m14)) := by
        intro hn
        refine kX3_readOperator G (d + 1) t0 l f i S C S0 C0 m _ ht hi hs hL' hB step (fun m' q1 q2 q3 q4 => bad 3 m' (by omega) (by omega) q1 q2 q3 q4) (fun q1 m' q2 q3 q4 => ?_)
        cases hp : hasP S
        · rw [hp] at q1
          simp only [Bool.false_eq_true, if_false] at q1
          cases hc : cmpS S
          · rw [hc] at q1
            simp only [Bool.false_eq_true, if_false] at q1
            exact bad 1 m' (by omega) (by omega) q1 q2 q3 q4
          · rw [hc] at q1
            simp only [if_true] at q1
            have n59 : ¬ kd i = 59 := fun z => hn ⟨z, hp, hc⟩
            refine ⟨fun z => ?_, fun _ => hK 0 i _ m' q1 hi q4.fd (Or.inr ⟨fun z => n59 z.2, by omega, q2, q3⟩)⟩
            rw [q2] at z
            exact absurd z (by decide)
        · rw [hp] at q1
          simp only [if_true] at q1
          exact bad 1 m' (by omega) (by omega) q1 q2 q3 q4
      refine ⟨fun q => oper (fun z => q (e59.mpr z.1)), fun q => ⟨fun q12 => oper (fun z => ?_), fun q12 => ⟨fun q9 => oper (fun z => ?_), fun q9 => ?_⟩⟩⟩
      · rw [← cmpF_S z.2.1, ecF] at z
        rw [c11, z.2.2] at q12
        exact absurd q12 (by decide)
      · refine q9 ?_
        rw [c8]
        have := nP_has S0
        rw [← ehP, z.2.1] at this
        simp only [Bool.false_eq_true, iff_false] at this
        have : nP S0 = 0 := by omega
        rw [this]; rfl
      · have k59 := e59.mp q
        have hp : hasP S = false := by
          have y := nP_has S0
          rw [c8] at q9
          have : nP S0 = 0 := (eq_nI (b := 0) (by omega) (by omega)).mp q9
          rw [ehP]
          cases z : hasP S0
          · rfl
          · rw [z] at y
            simp only [iff_true] at y
            omega
        have hcm : cmpS S = true := by
          rw [← cmpF_S hp, ecF]
          cases z : cmpF S0
          · rw [c11, z] at q12; exact absurd rfl q12
          · rfl
        have eqf := lawP_f l kd nm f i S C
        have hbw : bwP S (kd i) = 0 := by
          unfold bwP
          rw [k59, hp, hcm]
          rfl
        rw [hbw, if_neg (show ¬ ((0 : Nat) = 7) by decide), if_neg (show ¬ ((0 : Nat) ≠ 0) by decide), hp, hcm] at eqf
        simp only [Bool.false_eq_true, if_false, if_true] at eqf
        have est : stl 1 S C = stl 1 S0 C0 := by have := stl_stl (l := 1) (k := 8) (by omega) S0 C0; rw [hL'] at this; exact this
        rw [est] at eqf
        have hN := fun z => NoP_stl (r := 1) (S := S0) (C := C0) (by omega) hB.1 (c14.2 z)
        refine kX3_settle G (d + 2) t0 1 ht (by omega) S0 C0 m _ hB.1 hB.2.1 c2 c6 c7 c12 c13 (by have := hB.2.2; omega) (fun m1 k1 k2 k3 k4 k5 => ?_)
        have r1 : m1.2.2 233 3 = 238 + 6 * t0 := by rw [k5.2.2.2]; exact c2
        refine fun t1 et1 => ?_
        rw [r1] at et1
        subst et1
        refine ⟨by omega, tx_all t0 ht, fun t2 et2 => ?_⟩
        rw [r1] at et2
        subst et2
        have et : (nI l).toNatClampNeg = l := tn_nI (by omega)
        rw [et, k4.1]
        refine ⟨by omega, tx_all t0 ht, in_nI (by omega) (by omega), fun m2 em2 => ?_⟩
        have ao : ∀ c, c ≠ 238 + 6 * t0 + 5 → m2.1 c = m1.1 c := fun c hc => by rw [em2]; exact wI_n m1 _ _ hc
        have a5 : m2.1 (238 + 6 * t0 + 5) = upd (m1.1 (238 + 6 * t0 + 5)) l (nI (stl 1 S0 C0).2.length) := by rw [em2, wI_s]
        have fd : FD t0 l m m2 := (k5.fc.fd (l := l)).tr ⟨fun c _ _ _ _ h5 => ao c h5, fun p hp => by rw [a5, upd_n _ _ hp], fun p _ _ => by rw [ao _ (by omega)], by rw [em2]; rfl⟩
        have jp : ∀ p, p ≠ 7 → p ≠ 8 → m2.1 233 p = m.1 233 p := fun p h1 h2 => by rw [ao 233 (by omega), k5.2.2.1 p h1 h2]
        refine hK 0 i (stl 1 S0 C0).2 m2 eqf hi fd (Or.inl ⟨rfl, k59, ⟨(jp 0 (by omega) (by omega)).trans c3.1, (jp 1 (by omega) (by omega)).trans c3.2⟩, (jp 4 (by omega) (by omega)).trans c4, (jp 5 (by omega) (by omega)).trans c5, ?_, ?_, by rw [a5, upd_s]⟩)
        · unfold CCl
          rw [ao _ (by omega), ao _ (by omega)]
          exact k4
        · unfold ACl
          rw [ao _ (by omega), k5.2.1 4 (by omega)]
          exact ⟨c14.1, fun z => hN z⟩
/-- at a clause -/
def CK (kd nm st : Nat → Nat) (cnt t0 i : Nat) (C : List (Nat × Nat)) (m : Mem) : Prop := TB kd nm st cnt m.1 ∧ m.2.2 233 3 = 238 + 6 * t0 ∧ (m.1 233 0 = 0 ∧ m.1 233 1 = -1) ∧ m.1 233 4 = nI i ∧ m.1 233 5 = nI (kd i) ∧ CCl t0 C m ∧ ACl t0 C m
theorem kX3_readLaw (G : GP) {kd nm st : Nat → Nat} {cnt : Nat} (d t0 l i : Nat) (C : List (Nat × Nat)) (m : Mem) (K : Mem → Prop) (ht : t0 < 4) (hl : l < 3) (hi : i ≤ cnt) (hC : C.length ≤ i) (h : CK kd nm st cnt t0 i C m) (hK : ∀ e j C' m', lawP l kd nm (cnt + 1 - i) i [] C true = (e, j, C') → j ≤ cnt → (∀ c, c ≠ 238 + 6 * t0 + 4 → c ≠ 233 → c ≠ 234 → c ≠ 238 + 6 * t0 → c ≠ 238 + 6 * t0 + 3 → c ≠ 238 + 6 * t0 + 5 → m'.1 c = m.1 c) → (∀ p, p ≠ l → m'.1 (238 + 6 * t0 + 5) p = m.1 (238 + 6 * t0 + 5) p) → (∀ p, p ≠ 4 → p ≠ 5 → m'.1 (238 + 6 * t0) p = m.1 (238 + 6 * t0) p) → (m'.1 (238 + 6 * t0 + 4) = upd (m.1 (238 + 6 * t0 + 4)) l (nI C.length)) → m'.2.2 = m.2.2 → LawC kd st t0 l e j C' m' → K m') : Evv G (d + 4) mX3_readLaw [.ref (ga G 233), .int (nI l)] m K := by
  obtain ⟨c1, c2, c3, c4, c5, c6, c7⟩ := h
  have hcb := c1.2.1
  have et : (nI l).toNatClampNeg = l := tn_nI (by omega)
  refine vX3_readLaw G d _ m K (fun t1 et1 => ?_)
  rw [c2] at et1
  subst et1
  refine ⟨by omega, tx_all t0 ht, fun t2 et2 => ?_⟩
  rw [c2] at et2
  subst et2
  rw [et, c6.1]
  refine ⟨by omega, tx_all t0 ht, in_nI (by omega) (by omega), fun m3 em3 m4 em4 m5 em5 m6 em6 m7 em7 m8 em8 m9 em9 => ?_⟩
  have b3 : m9.1 233 = upd (upd (upd (upd (upd (upd (m.1 233) 7 0) 8 0) 9 0) 10 1) 11 1) 12 0 := by rw [em9, wI_s, em8, wI_s, em7, wI_s, em6, wI_s, em5, wI_s, em4, wI_s, em3, wI_n _ _ _ (by omega)]
  have bo : ∀ c, c ≠ 233 → m9.1 c = m3.1 c := fun c h => by rw [em9, wI_n _ _ _ h, em8, wI_n _ _ _ h, em7, wI_n _ _ _ h, em6, wI_n _ _ _ h, em5, wI_n _ _ _ h, em4, wI_n _ _ _ h]
  have b4 : m9.1 (238 + 6 * t0 + 4) = upd (m.1 (238 + 6 * t0 + 4)) l (nI C.length) := by rw [bo _ (by omega), em3, wI_s]
  have bq : ∀ c, c ≠ 233 → c ≠ 238 + 6 * t0 + 4 → m9.1 c = m.1 c := fun c h1 h2 => by rw [bo c h1, em3, wI_n _ _ _ h2]
  have br : m9.2.2 = m.2.2 := by rw [em9, em8, em7, em6, em5, em4, em3]; rfl
  have bp : ∀ p, p < 7 → m9.1 233 p = m.1 233 p := fun p hp => by rw [b3, upd_n _ _ (by omega), upd_n _ _ (by omega), upd_n _ _ (by omega), upd_n _ _ (by omega), upd_n _ _ (by omega), upd_n _ _ (by omega)]
  have hS : CS kd nm st cnt t0 i [] C true m9 := by
    refine ⟨c1.fr (fun c h1 h2 => bq c (by omega) (by omega)), by rw [br]; exact c2, ⟨(bp 0 (by omega)).trans c3.1, (bp 1 (by omega)).trans c3.2⟩, (bp 4 (by omega)).trans c4, (bp 5 (by omega)).trans c5, ?_, ?_, ?_, ?_, fun _ => ?_, ?_, True.intro, ?_, ?_⟩
    · rw [b3, upd_n _ _ (by omega), upd_n _ _ (by omega), upd_n _ _ (by omega), upd_n _ _ (by omega), upd_n _ _ (by omega), upd_s]; rfl
    · rw [b3, upd_n _ _ (by omega), upd_n _ _ (by omega), upd_n _ _ (by omega), upd_n _ _ (by omega), upd_s]; rfl
    · rw [b3, upd_n _ _ (by omega), upd_n _ _ (by omega), upd_n _ _ (by omega), upd_s]; rfl
    · rw [b3, upd_n _ _ (by omega), upd_n _ _ (by omega), upd_s]; rfl
    · rw [b3, upd_n _ _ (by omega), upd_s]; rfl
    · rw [b3, upd_s]; rfl
    · unfold CCl
      rw [bq _ (by omega) (by omega), bq _ (by omega) (by omega)]
      exact c6
    · unfold ACl
      rw [bq _ (by omega) (by omega)]
      exact c7
  have := kX3_law G d t0 l i ht hl (cnt + 1 - i) i [] C true [] C m9 K (Nat.le_refl _) hi (Nat.le_refl _) hS ⟨fun _ => ⟨rfl, rfl⟩, fun z => by cases z⟩ ⟨True.intro, by decide, by rw [List.length_nil]; omega⟩ (fun e j C' m' q1 q2 q3 q4 => hK e j C' m' q1 q2 (fun c h1 h2 h3 h4 h5 h6 => (q3.1 c h2 h3 h4 h5 h6).trans (bq c h2 h1)) (fun p hp => by rw [q3.2.1 p hp, bq _ (by omega) (by omega)]) (fun p h1 h2 => by rw [q3.2.2.1 p h1 h2, bq _ (by omega) (by omega)]) (by rw [q3.1 _ (by omega) (by omega) (by omega) (by omega) (by omega)]; exact b4) (q3.2.2.2.trans br) q4)
  rw [Nat.sub_self] at this
  exact this
