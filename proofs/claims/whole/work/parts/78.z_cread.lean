/-! the class reads a law: values, operators -/
theorem CS.ask {kd nm st : Nat → Nat} {cnt t0 i : Nat} {S : List Nat} {C : List (Nat × Nat)} {w : Bool} {m : Mem} (h : CS kd nm st cnt t0 i S C w m) {v : Int32} (hv : v = 0 ∨ v = 1) (h0 : v = 0 → m.1 (238 + 6 * t0) 4 = 0) : CS kd nm st cnt t0 i S C w (wI m (238 + 6 * t0) 4 v) ∧ FC t0 m (wI m (238 + 6 * t0) 4 v) := by
  obtain ⟨c1, c2, c3, c4, c5, c6, c7, c8, c9, c10, c11, c12, c13, c14⟩ := h
  have ao : ∀ c, c ≠ 238 + 6 * t0 → (wI m (238 + 6 * t0) 4 v).1 c = m.1 c := fun c h => wI_n m _ _ h
  have a0 : (wI m (238 + 6 * t0) 4 v).1 (238 + 6 * t0) = upd (m.1 (238 + 6 * t0)) 4 v := wI_s m _ _ _
  have fc : FC t0 m (wI m (238 + 6 * t0) 4 v) := ⟨fun c _ _ h3 _ => ao c h3, fun p h4 _ => by rw [a0, upd_n _ _ h4], rfl⟩
  refine ⟨?_, fc⟩
  unfold CS CCl ACl
  rw [ao 233 (by omega), ao 234 (by omega), ao (238 + 6 * t0 + 3) (by omega), a0, upd_s, upd_n _ _ (show 5 ≠ 4 by omega)]
  exact ⟨fc.tb c1, c2, c3, c4, c5, c6, c7, c8, c9, c10, c11, c12, c13, hv, fun z k hk => c14.2 (h0 z) k hk⟩
theorem kX3_readName (G : GP) {kd nm st : Nat → Nat} {cnt : Nat} (d t0 l i : Nat) (S : List Nat) (C : List (Nat × Nat)) (m : Mem) (K : Mem → Prop) (ht : t0 < 4) (hl : l < 3) (hi : i ≤ cnt) (h : CS kd nm st cnt t0 i S C true m) (hB : Bn i S C) (hgo : nmT (kd i) ≠ 13 → nmB l (nmT (kd i)) = true → ∀ m', CS kd nm st cnt t0 i S (C ++ [(1, nmT (kd i))]) false m' → FC t0 m m' → K m') (h5 : nmT (kd i) ≠ 13 → nmB l (nmT (kd i)) = false → ∀ m', m'.1 233 0 = nI 5 → m'.1 233 1 = nI (st i) → FC t0 m m' → K m') (h1 : nmT (kd i) = 13 → ∀ m', m'.1 233 0 = nI 1 → m'.1 233 1 = nI (st i) → FC t0 m m' → K m') : Evv G (d + 2) mX3_readName [.ref (ga G 233), .int (nI l)] m K := by
  have hs := h
  obtain ⟨c1, c2, c3, c4, c5, c6, c7, c8, c9, c10, c11, c12, c13, c14⟩ := h
  have hrg := (c1.2.2.1 i hi).2.2
  have e100 : nI (kd i) < 100 ↔ kd i < 100 := lt_nI (b := 100) (by omega) (by omega)
  have e122 : nI (kd i) = 122 ↔ kd i = 122 := eq_nI (b := 122) (by omega) (by omega)
  refine vX3_readName G d _ m K ?_
  rw [c5, e100]
  refine ⟨fun z => ⟨fun y => absurd (by decide) y, fun _ => kX3_fail G (d + 1) t0 i 1 m _ c1 c4 hi (h1 (nmT_lo z))⟩, fun z x10 ex => ?_⟩
  have n1 := nmb_1 (kd i) (by omega) (by omega)
  rw [ex, n1]
  refine ⟨fun y => ?_, fun y => kX3_fail G (d + 1) t0 i 1 m _ c1 c4 hi (h1 y)⟩
  obtain ⟨q0, q1, q2⟩ := nmb_2 (kd i) (by omega) (by omega) y
  obtain ⟨p1, p2⟩ := nmb_3 (kd i) (by omega) y
  have fin : ∀ r : Int32, ((((1 : Int32) <<< ((nI (kd i) - 100) &&& 31)) &&& r) = 0 ↔ nmB l (nmT (kd i)) = false) → ((¬ (((1 : Int32) <<< ((nI (kd i) - 100) &&& 31)) &&& r) = 0) → ∀ t13 : Nat, m.2.2 233 3 = t13 → t13 ≠ 0 ∧ TxAt t13 ∧ ((¬ (m.1 233 5) = 122) → (((m.1 t13 4) ||| 0) = 0 ∨ ((m.1 t13 4) ||| 0) = 1) ∧ ∀ m14 : Mem, m14 = wI m t13 4 ((m.1 t13 4) ||| 0) → Evv G (d + 1) mX3_putValue [.ref (ga G 233), .int (m14.1 233 5)] m14 (fun m15 => K m15)) ∧ (((m.1 233 5) = 122) → (((m.1 t13 4) ||| 1) = 0 ∨ ((m.1 t13 4) ||| 1) = 1) ∧ ∀ m16 : Mem, m16 = wI m t13 4 ((m.1 t13 4) ||| 1) → Evv G (d + 1) mX3_putValue [.ref (ga G 233), .int (m16.1 233 5)] m16 (fun m17 => K m17))) ∧ (((((1 : Int32) <<< ((nI (kd i) - 100) &&& 31)) &&& r) = 0) → Evv G (d + 1) mX3_fail [.ref (ga G 233), .int 5] m (fun m18 => K m18)) := by
    intro r hr
    rw [hr]
    refine ⟨fun b t13 et => ?_, fun b => kX3_fail G (d + 1) t0 i 5 m _ c1 c4 hi (h5 y b)⟩
    have b : nmB l (nmT (kd i)) = true := by
      cases zz : nmB l (nmT (kd i))
      · exact absurd zz b
      · rfl
    rw [c2] at et
    subst et
    have hlt : i < cnt := by
      rcases Nat.lt_or_ge i cnt with q | q
      · exact q
      · have : i = cnt := by omega
        have e1 := c1.1
        rw [← this] at e1
        omega
    have ec : nI (kd i) = nI (opC 1 (nmT (kd i))) := by
      show nI (kd i) = nI (100 + nmC (nmT (kd i)))
      rw [← p1]
    have val : ∀ v : Int32, (v = 0 ∨ v = 1) → (v = 0 → m.1 (238 + 6 * t0) 4 = 0) → (v = 0 → kd i ≠ 122) → ∀ m14 : Mem, m14 = wI m (238 + 6 * t0) 4 v → Evv G (d + 1) mX3_putValue [.ref (ga G 233), .int (m14.1 233 5)] m14 (fun m15 => K m15) := by
      intro v hv h0 hk m14 em
      obtain ⟨s1, s2⟩ := hs.ask hv h0
      rw [← em] at s1 s2
      rw [s1.2.2.2.2.1, ec]
      refine cval G d t0 i (1, nmT (kd i)) S C m14 _ ht hlt s1 (fun z12 y12 => ?_) hB (fun m' g1 g2 => hgo y b m' g1 (s2.tr g2))
      have v0 : v = 0 := by rw [em, wI_s, upd_s] at z12; exact z12
      exact hk v0 (p2 y12.2)
    rw [c5, e122]
    rcases c14.1 with a | a
    · rw [a]
      exact ⟨by omega, tx_all t0 ht, fun q => ⟨by decide, fun m14 em => val _ (by decide) (fun _ => a) (fun _ => q) m14 em⟩, fun q => ⟨by decide, fun m14 em => val _ (by decide) (fun w => absurd w (by decide)) (fun w => absurd w (by decide)) m14 em⟩⟩
    · rw [a]
      exact ⟨by omega, tx_all t0 ht, fun q => ⟨by decide, fun m14 em => val _ (by decide) (fun w => absurd w (by decide)) (fun w => absurd w (by decide)) m14 em⟩, fun q => ⟨by decide, fun m14 em => val _ (by decide) (fun w => absurd w (by decide)) (fun w => absurd w (by decide)) m14 em⟩⟩
  have hl3 : l = 0 ∨ l = 1 ∨ l = 2 := by omega
  refine vX3_namesOf G (d + 1) _ m _ ⟨fun e => ?_, fun e => ?_, fun e => ?_⟩
  · have e : l = 0 := (eq_nI (b := 0) (by omega) (by omega)).mp e
    subst e
    exact fin _ q0
  · have e : l = 1 := (eq_nI (b := 1) (by omega) (by omega)).mp e
    subst e
    exact fin _ q1
  · have e : l = 2 := by
      rcases hl3 with rfl | rfl | rfl
      · exact absurd rfl e.1
      · exact absurd rfl e.2
      · rfl
    subst e
    exact fin _ q2
theorem kX3_readValue (G : GP) {kd nm st : Nat → Nat} {cnt : Nat} (d t0 l f i : Nat) (S : List Nat) (C : List (Nat × Nat)) (m : Mem) (K : Mem → Prop) (ht : t0 < 4) (hl : l < 3) (hi : i ≤ cnt) (h : CS kd nm st cnt t0 i S C true m) (hB : Bn i S C) (hgo : ∀ S' C' w' S0 C0 m', lawP l kd nm (f + 1) i S C true = lawP l kd nm f (i + 1) S' C' w' → Lz w' S' C' S0 C0 → Bn (i + 1) S0 C0 → CS kd nm st cnt t0 i S0 C0 w' m' → kd i ≠ 1 → FC t0 m m' → K m') (hno : ∀ e m', 0 < e → e ≤ 5 → lawP l kd nm (f + 1) i S C true = (e, i, C) → m'.1 233 0 = nI e → m'.1 233 1 = nI (st i) → FC t0 m m' → K m') : Evv G (d + 3) mX3_readValue [.ref (ga G 233), .int (nI l)] m K := by
  have hs := h
  obtain ⟨c1, c2, c3, c4, c5, c6, c7, c8, c9, c10, c11, c12, c13, c14⟩ := h
  have hrg := (c1.2.2.1 i hi).2.2
  have hc := c1.2.1
  have hB' := hB
  obtain ⟨hG, h8, hlen⟩ := hB
  have h45 := GS_len hG h8
  have c10 := c10 rfl
  have el : ∀ x, lawP l kd nm (f + 1) i S C true = x ↔ (if kd i = 2 then (if 9999 < nm i then (2, i, C) else lawP l kd nm f (i + 1) (stl 8 S (C ++ [(0, nm i)])).1 (stl 8 S (C ++ [(0, nm i)])).2 false)
    else if kd i = 40 then (if 8 ≤ opS S then (3, i, C) else lawP l kd nm f (i + 1) (40 :: S) C true)
    else if kd i = 45 then (if 8 ≤ opS S then (3, i, C) else lawP l kd nm f (i + 1) (2 :: S) C true)
    else if kd i = 116 then (if askS S then (if 8 ≤ opS S then (3, i, C) else lawP l kd nm f (i + 1) (20 :: S) C true) else (1, i, C))
    else if nmT (kd i) = 13 then (1, i, C)
    else if nmB l (nmT (kd i)) then lawP l kd nm f (i + 1) (stl 8 S (C ++ [(1, nmT (kd i))])).1 (stl 8 S (C ++ [(1, nmT (kd i))])).2 false
    else (5, i, C)) = x := fun x => Iff.rfl
  have lt : kd i ≠ 1 → i < cnt := fun hk => by
    rcases Nat.lt_or_ge i cnt with q | q
    · exact q
    · have : i = cnt := by omega
      have e1 := c1.1
      rw [← this] at e1
      exact absurd e1 hk
  have e2 : nI (kd i) = 2 ↔ kd i = 2 := eq_nI (b := 2) (by omega) (by omega)
  have e40 : nI (kd i) = 40 ↔ kd i = 40 := eq_nI (b := 40) (by omega) (by omega)
  have e45 : nI (kd i) = 45 ↔ kd i = 45 := eq_nI (b := 45) (by omega) (by omega)
  have e116 : nI (kd i) = 116 ↔ kd i = 116 := eq_nI (b := 116) (by omega) (by omega)
  have et : (nI i).toNatClampNeg = i := tn_nI (by omega)
  have vBn : ∀ x : Nat × Nat, Bn (i + 1) S (C ++ [x]) := fun x => ⟨hG, h8, by rw [List.length_append, List.length_singleton]; omega⟩
  have vLz : ∀ x : Nat × Nat, Lz false (stl 8 S (C ++ [x])).1 (stl 8 S (C ++ [x])).2 S (C ++ [x]) := fun x => ⟨fun z => (by cases z), fun _ => rfl⟩
  -- one is opened: the memory is m but for the flags
  have opn : ∀ (o : Nat) (mm : Mem), isO o = true → GS (o :: S) → FQ m mm → (∀ p, p ≠ 9 → p ≠ 11 → mm.1 233 p = m.1 233 p) → mm.1 234 = m.1 234 → mm.1 233 9 = nI (nP (o :: S)) → mm.1 233 11 = (if askS (o :: S) then 1 else 0) → (4 < rk o ∨ o = 40 ∨ cmpF (o :: S) = cmpF S) → kd i ≠ 1 → (8 ≤ opS S → lawP l kd nm (f + 1) i S C true = (3, i, C)) → (opS S < 8 → lawP l kd nm (f + 1) i S C true = lawP l kd nm f (i + 1) (o :: S) C true) → Evv G (d + 2) mX3_putOpen [.ref (ga G 233), .int (nI (pnC o))] mm (fun m7 => K m7) := by
    intro o mm hO hg fq hp e34 h9 h11 hcm hk l3 lg
    have ho8 : opS (o :: S) = opS S + 1 := by
      show opS S + (if isO o then 1 else 0) = opS S + 1
      rw [hO]; rfl
    have hcf : cmpF (o :: S) = cmpF S := by
      rcases hcm with z | z | z
      · rw [cmpF_c, if_pos (Or.inl z)]
      · rw [cmpF_c, if_pos (Or.inr z)]
      · exact z
    have fcm : FC t0 m mm := fq.fc
    refine kX3_putOpen G (d + 1) t0 i o S mm _ (fcm.tb c1) ((hp 4 (by omega) (by omega)).trans c4) hi ((hp 7 (by omega) (by omega)).trans c6) ((hp 8 (by omega) (by omega)).trans c7) hG h8 (by rw [e34]; exact c12) hO (fun z m' g1 g2 g3 g4 g5 => ?_) (fun z m' g1 g2 g3 => hno 3 m' (by omega) (by omega) (l3 z) g1 g2 (fcm.tr g3))
    have gp : ∀ p, p ≠ 7 → p ≠ 8 → p ≠ 9 → p ≠ 11 → m'.1 233 p = m.1 233 p := fun p h1 h2 h3 h4 => (g4 p h1 h2).trans (hp p h3 h4)
    refine hgo (o :: S) C true (o :: S) C m' (lg z) ⟨fun _ => ⟨rfl, rfl⟩, fun y => by cases y⟩ ⟨hg, by omega, by rw [List.length_cons]; omega⟩ ⟨(FQ.fc (t0 := t0) g5).tb (fcm.tb c1), by rw [g5.2, fq.2]; exact c2, ⟨(gp 0 (by omega) (by omega) (by omega) (by omega)).trans c3.1, (gp 1 (by omega) (by omega) (by omega) (by omega)).trans c3.2⟩, (gp 4 (by omega) (by omega) (by omega) (by omega)).trans c4, (gp 5 (by omega) (by omega) (by omega) (by omega)).trans c5, by rw [List.length_cons]; exact g1, g2, (g4 9 (by omega) (by omega)).trans h9, (gp 10 (by omega) (by omega) (by omega) (by omega)).trans c9, fun _ => (g4 11 (by omega) (by omega)).trans h11, by rw [gp 12 (by omega) (by omega) (by omega) (by omega), hcf]; exact c11, g3, (fq.tr g5).ccl c13, (fq.tr g5).acl c14⟩ hk (fcm.tr g5.fc)
  refine vX3_readValue G d _ m K ?_
  rw [c5, c4, et]
  refine ⟨fun q => ?_, fun q m3 em3 m4 em4 => ?_, fun q m6 em6 => ?_, fun q => ?_, fun q => ?_⟩
  · rw [e2] at q
    obtain ⟨n1, n2⟩ := c1.2.2.2 i hi q
    have hlt := lt (by omega)
    rw [n1]
    have e9 : nI (nm i) ≤ 9999 ↔ nm i ≤ 9999 := le_nI (b := 9999) (by omega) (by omega)
    rw [e9]
    refine ⟨in_nI (by omega) (by omega), fun z => ⟨in_nI (by omega) (by omega), ?_⟩, fun z => kX3_fail G (d + 2) t0 i 2 m _ c1 c4 hi (fun m' g1 g2 g3 => hno 2 m' (by omega) (by omega) ((el _).mpr ?_) g1 g2 g3)⟩
    · rw [show (1000 : Int32) + nI (nm i) = nI (opC 0 (nm i)) from nI_add 1000 (nm i)]
      refine cval G (d + 1) t0 i (0, nm i) S C m _ ht hlt hs (fun _ y => absurd y.1 (show ¬ ((0 : Nat) = 1) by decide)) hB' (fun m' g1 g2 => hgo _ _ false S _ m' ((el _).mpr ?_) (vLz _) (vBn _) g1 (by omega) g2)
      rw [if_pos q, if_neg (by omega)]
    · rw [if_pos q, if_pos (by omega)]
  · rw [e40] at q
    have hn : nP (40 :: S) = nP S + 1 := rfl
    have hnp := nP_op S
    rw [c8, show (1 : Int32) = nI 1 from rfl, nI_add] at em3
    have b3 : m4.1 233 = upd (upd (m.1 233) 9 (nI (nP S + 1))) 11 0 := by rw [em4, wI_s, em3, wI_s]
    have fq : FQ m m4 := by rw [em4, em3]; exact (FQ.w3 m _ _).tr (FQ.w3 _ _ _)
    refine opn 40 m4 rfl ⟨hG, by unfold opIn; omega, fun z => (by cases z), fun z => (by omega), fun z => (by omega)⟩ fq (fun p h1 h2 => by rw [b3, upd_n _ _ h2, upd_n _ _ h1]) (by rw [em4, wI_n _ _ _ (by omega), em3, wI_n _ _ _ (by omega)]) (by rw [b3, upd_n _ _ (by omega), upd_s, hn]) ?_ (Or.inr (Or.inl rfl)) (by omega) (fun z => (el _).mpr ?_) (fun z => (el _).mpr ?_)
    · rw [b3, upd_s, askS_c]
      simp [rk]
    · rw [if_neg (by omega), if_pos q, if_pos z]
    · rw [if_neg (by omega), if_pos q, if_neg (by omega)]
  · rw [e45] at q
    have b3 : m6.1 233 = upd (m.1 233) 11 0 := by rw [em6, wI_s]
    have fq : FQ m m6 := by rw [em6]; exact FQ.w3 m _ _
    refine opn 2 m6 rfl ⟨hG, by unfold opIn; omega, fun z => (by cases z), fun z => (by omega), fun z => (by omega)⟩ fq (fun p h1 h2 => by rw [b3, upd_n _ _ h2]) (by rw [em6, wI_n _ _ _ (by omega)]) (by rw [b3, upd_n _ _ (by omega)]; exact c8) ?_ (Or.inl (by decide)) (by omega) (fun z => (el _).mpr ?_) (fun z => (el _).mpr ?_)
    · rw [b3, upd_s, askS_c]
      simp [rk]
    · rw [if_neg (by omega), if_neg (by omega), if_pos q, if_pos z]
    · rw [if_neg (by omega), if_neg (by omega), if_pos q, if_neg (by omega)]
  · rw [e116] at q
    rw [c10]
    refine ⟨fun z => kX3_fail G (d + 2) t0 i 1 m _ c1 c4 hi (fun m' g1 g2 g3 => hno 1 m' (by omega) (by omega) ((el _).mpr ?_) g1 g2 g3), fun z => ?_⟩
    · have a : ¬ askS S = true := fun y => by rw [y] at z; exact absurd z (by decide)
      rw [if_neg (by omega), if_neg (by omega), if_neg (by omega), if_pos q, if_neg a]
    · have a : askS S = true := by
        cases y : askS S
        · rw [y] at z; exact absurd rfl z
        · rfl
      have hh : hasP S = false ∧ topR S ≤ 3 := by
        cases S with
        | nil => exact ⟨rfl, Nat.zero_le _⟩
        | cons p S =>
          rw [askS_c, Bool.and_eq_true] at a
          have a2 := of_decide_eq_true a.2
          refine ⟨?_, a2.2⟩
          cases z : hasP (p :: S)
          · rfl
          · have a1 := a.1
            rw [z] at a1; cases a1
      have hP20 : hasP (20 :: S) = false := by
        have := hh.1
        unfold hasP at this ⊢
        rw [List.contains_cons, this]
        rfl
      have ha20 : askS (20 :: S) = true := by
        rw [askS_c, hP20]
        decide
      have hcf : cmpF (20 :: S) = cmpF S := by
        rw [cmpF_S hP20, cmpF_S hh.1]
        show (if 4 < rk 20 then cmpS S else decide (rk 20 = 4)) = cmpS S
        rw [if_neg (by decide)]
        cases S with
        | nil => rfl
        | cons p S =>
          have tp : rk p ≤ 3 := hh.2
          show decide (rk 20 = 4) = if 4 < rk p then cmpS S else decide (rk p = 4)
          rw [if_neg (by omega), decide_eq_false (show ¬ rk p = 4 by omega)]
          decide
      refine opn 20 m rfl ⟨hG, by unfold opIn; omega, fun z => (by cases z), fun _ => hh.1, fun _ => hh.2⟩ ⟨fun _ _ _ => rfl, rfl⟩ (fun p _ _ => rfl) rfl c8 (by rw [c10, a, ha20]) (Or.inr (Or.inr hcf)) (by omega) (fun z => (el _).mpr ?_) (fun z => (el _).mpr ?_)
      · rw [if_neg (by omega), if_neg (by omega), if_neg (by omega), if_pos q, if_pos a, if_pos z]
      · rw [if_neg (by omega), if_neg (by omega), if_neg (by omega), if_pos q, if_pos a, if_neg (by omega)]
  · rw [e2, e40, e45, e116] at q
    obtain ⟨q1, q2, q3, q4⟩ := q
    refine kX3_readName G d t0 l i S C m _ ht hl hi hs hB' (fun y b m' g1 g2 => hgo _ _ false S _ m' ((el _).mpr ?_) (vLz _) (vBn _) g1 (fun z => y (by rw [z]; rfl)) g2) (fun y b m' g1 g2 g3 => hno 5 m' (by omega) (by omega) ((el _).mpr ?_) g1 g2 g3) (fun y m' g1 g2 g3 => hno 1 m' (by omega) (by omega) ((el _).mpr ?_) g1 g2 g3)
    · rw [if_neg q1, if_neg q2, if_neg q3, if_neg q4, if_neg y, if_pos b]
    · rw [if_neg q1, if_neg q2, if_neg q3, if_neg q4, if_neg y, if_neg (by rw [b]; decide)]
    · rw [if_neg q1, if_neg q2, if_neg q3, if_neg q4, if_pos y]
