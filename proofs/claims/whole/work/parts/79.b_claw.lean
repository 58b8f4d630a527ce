/-! the class reads a law, whole -/
theorem imax_0 (n : Nat) (h : n < 2147483648) : imax 0 (nI n) = nI n := by
  unfold imax
  by_cases z : (0 : Int32) < nI n
  · rw [if_pos z]
  · rw [if_neg z]
    rcases Nat.eq_zero_or_pos n with e | e
    · subst e; rfl
    · exact absurd ((lt_nI (a := 0) (by omega) h).mpr e) z
theorem kX3_readOperator (G : GP) {kd nm st : Nat → Nat} {cnt : Nat} (d t0 l f i : Nat) (S : List Nat) (C : List (Nat × Nat)) (S0 : List Nat) (C0 : List (Nat × Nat)) (m : Mem) (K : Mem → Prop) (ht : t0 < 4) (hi : i ≤ cnt) (h : CS kd nm st cnt t0 i S0 C0 false m) (hL : stl 8 S0 C0 = (S, C)) (hB : Bn i S0 C0) (hgo : ∀ S' C' w' S1 C1 m', lawP l kd nm (f + 1) i S C false = lawP l kd nm f (i + 1) S' C' w' → Lz w' S' C' S1 C1 → Bn (i + 1) S1 C1 → CS kd nm st cnt t0 i S1 C1 w' m' → kd i ≠ 1 → FC t0 m m' → K m') (hno : ∀ m', lawP l kd nm (f + 1) i S C false = (3, i, C) → m'.1 233 0 = nI 3 → m'.1 233 1 = nI (st i) → FC t0 m m' → K m') (hend : lawP l kd nm (f + 1) i S C false = (if hasP S then (1, i, C) else if cmpS S then (0, i, (stl 1 S C).2) else (1, i, C)) → ∀ m', m'.1 233 0 = nI 1 → m'.1 233 1 = nI (st i) → FC t0 m m' → K m') : Evv G (d + 2) mX3_readOperator [.ref (ga G 233)] m K := by
  have hs := h
  obtain ⟨c1, c2, c3, c4, c5, c6, c7, c8, c9, c10, c11, c12, c13, c14⟩ := h
  have hB' := hB
  obtain ⟨hG, h8, hlen⟩ := hB
  have h45 := GS_len hG h8
  have hc := c1.2.1
  have hrg := (c1.2.2.1 i hi).2.2
  have hnp := nP_op S0
  have ehP : hasP S = hasP S0 := by have := hasP_stl (l := 8) (S := S0) (C := C0) (by omega); rw [hL] at this; exact this
  have ecF : cmpF S = cmpF S0 := by have := cmpF_5 (r := 8) (by omega) (S := S0) (C := C0); rw [hL] at this; exact this
  have est : ∀ r, r ≤ 8 → stl r S C = stl r S0 C0 := fun r hr => by have := stl_stl hr S0 C0; rw [hL] at this; exact this
  have enP : (0 < m.1 233 9) ↔ hasP S = true := by
    rw [c8, ehP, ← nP_has S0]
    exact lt_nI (a := 0) (by omega) (by omega)
  have enP' : (m.1 233 9 ≤ 0) ↔ hasP S = false := by
    rw [c8, ehP]
    have := nP_has S0
    rw [show (nI (nP S0) ≤ 0 ↔ nP S0 ≤ 0) from le_nI (b := 0) (by omega) (by omega)]
    cases z : hasP S0
    · rw [z] at this
      simp only [Bool.false_eq_true, iff_false] at this
      simp; omega
    · rw [z] at this
      simp only [iff_true] at this
      simp; omega
  have e41 : m.1 233 5 = 41 ↔ kd i = 41 := by rw [c5]; exact eq_nI (b := 41) (by omega) (by omega)
  have hb := boT_in (kd i)
  have hho := hold_t (kd i) (by omega) (by omega)
  rw [← c5] at hho
  have lt : kd i ≠ 1 → i < cnt := fun hk => by
    rcases Nat.lt_or_ge i cnt with q | q
    · exact q
    · have : i = cnt := by omega
      have e1 := c1.1
      rw [← this] at e1
      exact absurd e1 hk
  have h12 : m.1 233 12 = 0 ∨ m.1 233 12 = 1 := by rw [c11]; cases cmpF S0 <;> decide
  have eqf := lawP_f l kd nm f i S C
  by_cases hz : boT (kd i) = 0
  · rw [if_neg (by omega)] at hho
    have hbw : bwP S (kd i) = 0 := by
      unfold bwP
      rw [hz]
      simp
    rw [hbw, if_neg (show ¬ ((0 : Nat) = 7) by decide), if_neg (show ¬ ((0 : Nat) ≠ 0) by decide)] at eqf
    refine rop_0 G d m K _ hho (by by_cases q : kd i = 116 <;> simp [q] <;> decide) (fun q => kX3_fail G (d + 1) t0 i 1 m _ c1 c4 hi (hend ?_)) (fun q1 q2 => ?_)
    · rw [e41, enP'] at q
      rw [eqf]
      cases z : hasP S
      · simp only [Bool.false_eq_true, if_false]
      · rw [z] at q
        have : ¬ kd i = 41 := fun y => q ⟨y, by decide⟩
        simp only [if_true]
        rw [if_neg this]
    · rw [e41] at q1
      rw [enP'] at q2
      have hp : hasP S = true := by
        cases z : hasP S
        · exact absurd z q2
        · rfl
      rw [hp, if_pos rfl, if_pos q1] at eqf
      have hp0 : hasP S0 = true := by rw [← ehP]; exact hp
      obtain ⟨g1, g2, g3, g4, g5⟩ := stl_GS (l := 1) (C := C0) hG
      have gh : hasP (stl 1 S0 C0).1 = true := by rw [hasP_stl (by omega)]; exact hp0
      have gn := nP_stl (r := 1) (S := S0) (C := C0) (by omega)
      have gc := cmpF_P (C := C0) hG hp0
      have hN := fun z => NoP_stl (r := 1) (S := S0) (C := C0) (by omega) hG (c14.2 z)
      rw [est 1 (by omega)] at eqf
      refine kX3_settle G d t0 1 ht (by omega) S0 C0 m _ hG h8 c2 c6 c7 c12 c13 (by omega) (fun m6 k1 k2 k3 k4 k5 m7 em7 m8 em8 m9 em9 => ?_)
      generalize hZ : stl 1 S0 C0 = Z at g1 g2 g3 g4 g5 gh gn gc hN k1 k2 k3 k4 eqf
      obtain ⟨S1, C1⟩ := Z
      cases S1 with
      | nil => cases gh
      | cons p S2 =>
        have g1 : GS (p :: S2) := g1
        have hp40 : p = 40 := by
          have : rk p < 1 := by rcases g5 with z | z; cases z; exact z
          rcases op_cases g1.2.1 with rfl | rfl | rfl | rfl | rfl | rfl | rfl | rfl | rfl | rfl | rfl | rfl | rfl | rfl | rfl | rfl <;> first | rfl | exact absurd this (by decide)
        subst hp40
        have g2 : opS S2 + 1 ≤ opS S0 := g2
        have g3 : S2.length + 1 ≤ S0.length := g3
        have g4 : C1.length + (S2.length + 1) = C0.length + S0.length := g4
        have gn : nP S2 + 1 = nP S0 := gn
        have gc : cmpF S2 = cmpF S0 := by
          have : cmpF (40 :: S2) = cmpF S0 := gc
          rw [cmpF_c, if_pos (Or.inr rfl)] at this
          exact this
        have k1 : m6.1 233 7 = nI (S2.length + 1) := k1
        have k2 : m6.1 233 8 = nI (opS S2 + 1) := k2
        have k3 : PC (40 :: S2) (m6.1 234) := k3
        have k4 : CCl t0 C1 m6 := k4
        have k9 : m6.1 233 9 = nI (nP S2 + 1) := by rw [k5.2.2.1 9 (by omega) (by omega), c8, gn]
        rw [k9, nI_p] at em7
        have a7 : m7.1 233 = upd (m6.1 233) 9 (nI (nP S2)) := by rw [em7, wI_s]
        rw [a7, upd_n _ _ (show 8 ≠ 9 by omega), k2, nI_p] at em8
        have a8 : m8.1 233 = upd (upd (m6.1 233) 9 (nI (nP S2))) 8 (nI (opS S2)) := by rw [em8, wI_s, a7]
        rw [a8, upd_n _ _ (show 7 ≠ 8 by omega), upd_n _ _ (show 7 ≠ 9 by omega), k1, nI_p, imax_0 _ (by omega)] at em9
        have a9 : m9.1 233 = upd (upd (upd (m6.1 233) 9 (nI (nP S2))) 8 (nI (opS S2))) 7 (nI S2.length) := by rw [em9, wI_s, a8]
        have fq : FQ m6 m9 := by rw [em9, em8, em7]; exact ((FQ.w3 m6 _ _).tr (FQ.w3 _ _ _)).tr (FQ.w3 _ _ _)
        have e34 : m9.1 234 = m6.1 234 := by rw [em9, wI_n _ _ _ (by omega), em8, wI_n _ _ _ (by omega), em7, wI_n _ _ _ (by omega)]
        have jp : ∀ p, p ≠ 7 → p ≠ 8 → p ≠ 9 → m9.1 233 p = m.1 233 p := fun p h1 h2 h3 => by rw [a9, upd_n _ _ h1, upd_n _ _ h2, upd_n _ _ h3, k5.2.2.1 p h1 h2]
        have fc : FC t0 m m9 := k5.fc.tr fq.fc
        have a4 : m6.1 (238 + 6 * t0) 4 = m.1 (238 + 6 * t0) 4 := k5.2.1 4 (by omega)
        have kk : kd i ≠ 1 := by omega
        refine hgo (stl 8 S2 C1).1 (stl 8 S2 C1).2 false S2 C1 m9 eqf ⟨fun z => (by cases z), fun _ => rfl⟩ ⟨g1.1, by omega, by omega⟩ ⟨fc.tb c1, by rw [fc.2.2]; exact c2, ⟨(jp 0 (by omega) (by omega) (by omega)).trans c3.1, (jp 1 (by omega) (by omega) (by omega)).trans c3.2⟩, (jp 4 (by omega) (by omega) (by omega)).trans c4, (jp 5 (by omega) (by omega) (by omega)).trans c5, by rw [a9, upd_s], by rw [a9, upd_n _ _ (by omega), upd_s], by rw [a9, upd_n _ _ (by omega), upd_n _ _ (by omega), upd_s], (jp 10 (by omega) (by omega) (by omega)).trans c9, fun z => (by cases z), by rw [jp 12 (by omega) (by omega) (by omega), gc]; exact c11, by rw [e34]; exact k3.2, fq.ccl k4, fq.acl ?_⟩ kk fc
        unfold ACl
        rw [a4]
        exact ⟨c14.1, fun z => hN z⟩
  · rw [if_pos hz] at hho
    obtain ⟨ep, n41, n1⟩ := pnC_t (kd i) (by omega) hz
    have n41' : ¬ m.1 233 5 = 41 := fun z => n41 (e41.mp z)
    have hlt := lt n1
    have hbw : bwP S (kd i) = if 3 ≤ boT (kd i) ∧ boT (kd i) ≤ 7 then boT (kd i) else if hasP S then 0 else if cmpS S then (if boT (kd i) = 21 ∨ boT (kd i) = 22 then boT (kd i) else 0) else if 10 ≤ boT (kd i) ∧ boT (kd i) ≤ 15 then boT (kd i) else 0 := rfl
    generalize ho : boT (kd i) = o at hb hho ep hbw hz
    have hoI : opIn o := by unfold opIn; omega
    -- it is put
    have put : o ≠ 7 → isB o = true → isO o = false → bwP S (kd i) = o → (10 ≤ o → hasP S0 = false) → ∀ (b : Bool) (u : Value) (mm : Mem), FQ m mm → mm.1 234 = m.1 234 → (∀ p, p ≠ 12 → mm.1 233 p = m.1 233 p) → mm.1 233 12 = (if cmpF (o :: (stl (rk o) S0 C0).1) then 1 else 0) → askS (o :: (stl (rk o) S0 C0).1) = b → Gw G (d + 2) mX3_readOperator 165 [.ref (ga G 233), .int (nI (rk o)), .int (if b then 1 else 0), u] [] mm (Qv K) := by
      intro o7 q1 q2 q3 q4 b u mm q5 q6 q7 q8 q9
      have hr8 := rk_le hoI
      refine op165 G d t0 i o S0 C0 b u m mm K ht hlt hs hB' hoI q1 q2 ep.symm q4 q5 q6 q7 q8 q9 (fun m' r1 r2 r3 => ?_)
      rw [q3, if_neg o7, if_pos hz, est _ hr8] at eqf
      exact hgo _ _ true _ _ m' eqf ⟨fun _ => ⟨rfl, rfl⟩, fun z => by cases z⟩ r2 r1 n1 r3
    -- it fails
    have bad : bwP S (kd i) = 0 → Evv G (d + 1) mX3_fail [.ref (ga G 233), .int 1] m (fun m' => K m') := by
      intro q
      refine kX3_fail G (d + 1) t0 i 1 m _ c1 c4 hi (hend ?_)
      rw [eqf, q, if_neg (show ¬ ((0 : Nat) = 7) by decide), if_neg (show ¬ ((0 : Nat) ≠ 0) by decide), if_neg n41]
    have ask0 : 4 ≤ rk o → ∀ S1, askS (o :: S1) = false := fun q S1 => by
      rw [askS_c, decide_eq_false (by omega), Bool.and_false]
    have hd : (o = 3 ∨ o = 4 ∨ o = 5 ∨ o = 6) ∨ o = 7 ∨ (o = 10 ∨ o = 11 ∨ o = 12 ∨ o = 13 ∨ o = 14 ∨ o = 15) ∨ (o = 21 ∨ o = 22) := by omega
    rcases hd with hd | hd | hd | hd
    · have r5 : rk o = 5 ∨ rk o = 6 := by rcases hd with rfl | rfl | rfl | rfl <;> decide
      rw [if_pos (by omega)] at hbw
      refine rop_a G d m K _ hho (by rcases r5 with e | e <;> rw [e] <;> decide) n41' h12 (fun m12 em => ?_)
      have q := put (by omega) (by rcases hd with rfl | rfl | rfl | rfl <;> decide) (by rcases hd with rfl | rfl | rfl | rfl <;> decide) hbw (fun z => by omega) false (.int 0) m12 (by rw [em]; exact FQ.w3 m _ _) (by rw [em]; exact wI_n m _ _ (by omega)) (fun p hp => by rw [em, wI_s, upd_n _ _ hp]) ?_ (ask0 (by omega) _)
      · exact q
      · rw [em, wI_s, upd_s, c11, cmpF_c, if_pos (Or.inl (by omega)), cmpF_5 (by omega)]
    · subst hd
      rw [if_pos (by omega)] at hbw
      rw [hbw, if_pos rfl] at eqf
      refine rop_a G d m K _ hho (by decide) n41' h12 (fun m12 em => ?_)
      refine vX3_readOperator_165 G d _ _ _ m12 K ⟨by decide, fun m15 em15 m16 em16 => ⟨fun z => absurd rfl z, fun _ => ?_⟩⟩
      have b3 : m16.1 233 = upd (upd (upd (m.1 233) 12 (m.1 233 12)) 11 0) 10 1 := by rw [em16, wI_s, em15, wI_s, em, wI_s]
      have f16 : FQ m m16 := by rw [em16, em15, em]; exact ((FQ.w3 m _ _).tr (FQ.w3 _ _ _)).tr (FQ.w3 _ _ _)
      have b4 : m16.1 234 = m.1 234 := by rw [em16, wI_n _ _ _ (by omega), em15, wI_n _ _ _ (by omega), em, wI_n _ _ _ (by omega)]
      have bp : ∀ p, p ≠ 10 → p ≠ 11 → p ≠ 12 → m16.1 233 p = m.1 233 p := fun p h1 h2 h3 => by rw [b3, upd_n _ _ h1, upd_n _ _ h2, upd_n _ _ h3]
      obtain ⟨g1, g2, g3, g4, g5⟩ := stl_GS (l := 8) (C := C0) hG
      have gn := nP_stl (r := 8) (S := S0) (C := C0) (by omega)
      have hN := fun z => NoP_stl (r := 8) (S := S0) (C := C0) (by omega) hG (c14.2 z)
      refine kX3_settle G d t0 8 ht (by omega) S0 C0 m16 _ hG h8 (by rw [f16.2]; exact c2) ((bp 7 (by omega) (by omega) (by omega)).trans c6) ((bp 8 (by omega) (by omega) (by omega)).trans c7) (by rw [b4]; exact c12) (f16.ccl c13) (by omega) (fun m17 k1 k2 k3 k4 k5 => ?_)
      rw [hL] at g1 g2 g3 g4 g5 gn hN k1 k2 k3 k4
      have g1 : GS S := g1
      have g2 : opS S ≤ opS S0 := g2
      have g3 : S.length ≤ S0.length := g3
      have g4 : C.length + S.length = C0.length + S0.length := g4
      have gn : nP S = nP S0 := gn
      have k1 : m17.1 233 7 = nI S.length := k1
      have k2 : m17.1 233 8 = nI (opS S) := k2
      have k3 : PC S (m17.1 234) := k3
      have k4 : CCl t0 C m17 := k4
      have fc17 : FC t0 m m17 := (FQ.fc (t0 := t0) f16).tr k5.fc
      have jp : ∀ p, p ≠ 7 → p ≠ 8 → p ≠ 10 → p ≠ 11 → p ≠ 12 → m17.1 233 p = m.1 233 p := fun p h1 h2 h3 h4 h5 => by rw [k5.2.2.1 p h1 h2, bp p h3 h4 h5]
      have q5 : m17.1 233 5 = nI (pnC 7) := by rw [jp 5 (by omega) (by omega) (by omega) (by omega) (by omega), c5, ep]
      have a4 : m17.1 (238 + 6 * t0) 4 = m.1 (238 + 6 * t0) 4 := by rw [k5.2.1 4 (by omega), f16.1 _ (by omega) (by omega)]
      rw [q5]
      refine kX3_putOpen G d t0 i 7 S m17 _ (fc17.tb c1) ((jp 4 (by omega) (by omega) (by omega) (by omega) (by omega)).trans c4) hi k1 k2 g1 (by omega) k3 rfl (fun z m' j1 j2 j3 j4 j5 => ?_) (fun z m' j1 j2 j3 => hno m' (by rw [eqf, if_pos z]) j1 j2 (fc17.tr j3))
      rw [if_neg (by omega)] at eqf
      have fc : FC t0 m m' := fc17.tr j5.fc
      have ho8 : opS (7 :: S) = opS S + 1 := rfl
      have jq : ∀ p, p ≠ 7 → p ≠ 8 → p ≠ 10 → p ≠ 11 → p ≠ 12 → m'.1 233 p = m.1 233 p := fun p h1 h2 h3 h4 h5 => (j4 p h1 h2).trans (jp p h1 h2 h3 h4 h5)
      have hg : GS (7 :: S) := ⟨g1, by unfold opIn; omega, fun z => (by cases z), fun z => (by omega), fun z => (by omega)⟩
      refine hgo (7 :: S) C true (7 :: S) C m' eqf ⟨fun _ => ⟨rfl, rfl⟩, fun z => by cases z⟩ ⟨hg, by omega, by rw [List.length_cons]; omega⟩ ⟨fc.tb c1, by rw [fc.2.2]; exact c2, ⟨(jq 0 (by omega) (by omega) (by omega) (by omega) (by omega)).trans c3.1, (jq 1 (by omega) (by omega) (by omega) (by omega) (by omega)).trans c3.2⟩, (jq 4 (by omega) (by omega) (by omega) (by omega) (by omega)).trans c4, (jq 5 (by omega) (by omega) (by omega) (by omega) (by omega)).trans c5, by rw [List.length_cons]; exact j1, j2, ?_, ?_, fun _ => ?_, ?_, j3, j5.ccl k4, j5.acl ?_⟩ n1 fc
      · rw [jq 9 (by omega) (by omega) (by omega) (by omega) (by omega), c8]
        show nI (nP S0) = nI (nP S + 0)
        rw [gn, Nat.add_zero]
      · rw [j4 10 (by omega) (by omega), k5.2.2.1 10 (by omega) (by omega), b3, upd_s]; rfl
      · rw [j4 11 (by omega) (by omega), k5.2.2.1 11 (by omega) (by omega), b3, upd_n _ _ (by omega), upd_s, ask0 (by decide)]; rfl
      · rw [j4 12 (by omega) (by omega), k5.2.2.1 12 (by omega) (by omega), b3, upd_n _ _ (by omega), upd_n _ _ (by omega), upd_s, c11, cmpF_c, if_pos (Or.inl (by decide)), ecF]
      · unfold ACl
        rw [a4]
        exact ⟨c14.1, fun z => hN z⟩
    · have r4 : rk o = 4 := by rcases hd with rfl | rfl | rfl | rfl | rfl | rfl <;> rfl
      rw [if_neg (by omega), if_pos (show 10 ≤ o ∧ o ≤ 15 by omega), if_neg (show ¬ (o = 21 ∨ o = 22) by omega)] at hbw
      rw [r4] at hho put
      refine rop_c G d m K hho n41' (fun q => bad ?_) (fun q1 q2 m12 em => ?_)
      · rw [hbw]
        rcases q with q | q
        · rw [enP.mp q]; rfl
        · cases zp : hasP S
          · have : cmpS S = true := by
              rw [← cmpF_S zp, ecF]
              rw [c11] at q
              cases y : cmpF S0
              · rw [y] at q; exact absurd rfl q
              · rfl
            rw [this]; rfl
          · rfl
      · have hp : hasP S = false := by
          cases z : hasP S
          · rfl
          · exact absurd (enP.mpr z) q1
        have hcm : cmpS S = false := by
          rw [← cmpF_S hp, ecF]
          rw [c11] at q2
          cases y : cmpF S0
          · rfl
          · rw [y] at q2; exact absurd q2 (by decide)
        rw [hp, hcm] at hbw
        simp only [Bool.false_eq_true, if_false, if_true] at hbw
        have q := put (by omega) (by rcases hd with rfl | rfl | rfl | rfl | rfl | rfl <;> decide) (by rcases hd with rfl | rfl | rfl | rfl | rfl | rfl <;> decide) hbw (fun _ => by rw [← ehP]; exact hp) false (.int 1) m12 (by rw [em]; exact FQ.w3 m _ _) (by rw [em]; exact wI_n m _ _ (by omega)) (fun p hp => by rw [em, wI_s, upd_n _ _ hp]) ?_ (ask0 (by omega) _)
        · exact q
        · rw [em, wI_s, upd_s, cmpF_c, if_neg (show ¬ (4 < rk o ∨ o = 40) by omega), decide_eq_true r4]
          rfl
    · have r12 : rk o = 1 ∨ rk o = 2 := by rcases hd with rfl | rfl <;> decide
      rw [if_neg (by omega), if_pos hd, if_neg (show ¬ (10 ≤ o ∧ o ≤ 15) by omega)] at hbw
      refine rop_j G d m K _ hho (by rcases r12 with e | e <;> rw [e] <;> decide) n41' (fun q => bad ?_) (fun q1 q2 m12 em => ?_)
      · rw [hbw]
        rcases q with q | q
        · rw [enP.mp q]; rfl
        · cases zp : hasP S
          · have : cmpS S = false := by
              rw [← cmpF_S zp, ecF]
              rw [c11] at q
              cases y : cmpF S0
              · rfl
              · rw [y] at q; exact absurd rfl q
            rw [this]; rfl
          · rfl
      · have hp : hasP S = false := by
          cases z : hasP S
          · rfl
          · exact absurd (enP.mpr z) q1
        have hcm : cmpS S = true := by
          rw [← cmpF_S hp, ecF]
          rw [c11] at q2
          cases y : cmpF S0
          · rw [y] at q2; exact absurd q2 (by decide)
          · rfl
        rw [hp, hcm] at hbw
        simp only [Bool.false_eq_true, if_false, if_true] at hbw
        have q := put (by omega) (by rcases hd with rfl | rfl <;> decide) (by rcases hd with rfl | rfl <;> decide) hbw (fun _ => by rw [← ehP]; exact hp) true (.int 1) m12 (by rw [em]; exact FQ.w3 m _ _) (by rw [em]; exact wI_n m _ _ (by omega)) (fun p hp => by rw [em, wI_s, upd_n _ _ hp]) ?_ ?_
        · exact q
        · rw [em, wI_s, upd_s, cmpF_c, if_neg (show ¬ (4 < rk o ∨ o = 40) by omega), decide_eq_false (show ¬ rk o = 4 by omega)]
          rfl
        · have hP1 : hasP (stl (rk o) S0 C0).1 = false := by rw [hasP_stl (by omega), ← ehP]; exact hp
          have : hasP (o :: (stl (rk o) S0 C0).1) = false := by
            unfold hasP at hP1 ⊢
            rw [List.contains_cons, hP1, Bool.or_false, beq_eq_false_iff_ne]
            omega
          rw [askS_c, this, decide_eq_true (by omega)]
          rfl
