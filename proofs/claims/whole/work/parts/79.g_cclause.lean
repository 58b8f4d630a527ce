/-! the class's clauses, whole -/
theorem kX8_fill (G : GP) (d t0 k : Nat) (ht : t0 < 4) (hk : k < 24) : ∀ (f q : Nat) (u : Value) (m : Mem) (K : Mem → Prop), q + f = 6 → m.1 (238 + 6 * t0) 0 = nI (k + 1) → (∀ m', (∀ c, c ≠ 238 + 6 * t0 + 2 → m'.1 c = m.1 c) → (∀ p, p < 6 * k + q ∨ 6 * k + 6 ≤ p → m'.1 (238 + 6 * t0 + 2) p = m.1 (238 + 6 * t0 + 2) p) → (∀ p, 6 * k + q ≤ p → p < 6 * k + 6 → m'.1 (238 + 6 * t0 + 2) p = -1) → m'.2.2 = m.2.2 → K m') → Gw G d mX8_startClause 46 [.ref (ga G (238 + 6 * t0)), u, .int (nI (6 * k + q))] [] m (Qv K)
  | 0, q, u, m, K, hq, h0, hK => by
    have t6 : nI (k + 1) * 6 = nI (6 * (k + 1)) := by rw [show (6 : Int32) = nI 6 from rfl, pk_mul]; congr 1; omega
    refine vX8_startClause_46 G d (238 + 6 * t0) (tx_all t0 ht) u _ m K ?_
    rw [h0, t6]
    refine ⟨fun _ => hK m (fun _ _ => rfl) (fun _ _ => rfl) (fun p h1 h2 => by omega) rfl, fun z => absurd ((le_nI (by omega) (by omega)).mpr (by omega)) z⟩
  | f + 1, q, u, m, K, hq, h0, hK => by
    have t6 : nI (k + 1) * 6 = nI (6 * (k + 1)) := by rw [show (6 : Int32) = nI 6 from rfl, pk_mul]; congr 1; omega
    have t7 : (nI (6 * k + q)).toNatClampNeg = 6 * k + q := tn_nI (by omega)
    refine vX8_startClause_46 G d (238 + 6 * t0) (tx_all t0 ht) u _ m K ?_
    rw [h0, t6, t7]
    refine ⟨fun z => ?_, fun _ => ⟨in_nI (by omega) (by omega), fun m1 em1 x6 ex => ?_⟩⟩
    · have := (le_nI (by omega) (by omega)).mp z
      omega
    have a2 : m1.1 (238 + 6 * t0 + 2) = upd (m.1 (238 + 6 * t0 + 2)) (6 * k + q) (-1) := by rw [em1, wI_s]
    have ao : ∀ c, c ≠ 238 + 6 * t0 + 2 → m1.1 c = m.1 c := fun c h => by rw [em1, wI_n _ _ _ h]
    rw [show x6 = nI (6 * k + (q + 1)) by rw [ex, show (1 : Int32) = nI 1 from rfl, nI_add]; rfl]
    refine kX8_fill G d t0 k ht hk f (q + 1) _ m1 K (by omega) (by rw [ao _ (by omega)]; exact h0) (fun m' g1 g2 g3 g4 => hK m' (fun c h => (g1 c h).trans (ao c h)) (fun p hp => ?_) (fun p h1 h2 => ?_) (g4.trans (by rw [em1]; rfl)))
    · rw [g2 p (by omega), a2, upd_n _ _ (by omega)]
    · by_cases e : p = 6 * k + q
      · rw [g2 p (by omega), a2, e, upd_s]
      · exact g3 p (by omega) h2
theorem kX8_startClause (G : GP) (d t0 k : Nat) (w : Int32) (m : Mem) (K : Mem → Prop) (ht : t0 < 4) (hk : k < 24) (h0 : m.1 (238 + 6 * t0) 0 = nI k) (hK : ∀ m', (∀ c, c ≠ 238 + 6 * t0 → c ≠ 238 + 6 * t0 + 1 → c ≠ 238 + 6 * t0 + 2 → m'.1 c = m.1 c) → m'.1 (238 + 6 * t0 + 1) = upd (m.1 (238 + 6 * t0 + 1)) k w → m'.1 (238 + 6 * t0) = upd (upd (m.1 (238 + 6 * t0)) 1 (nI (6 * k))) 0 (nI (k + 1)) → (∀ p, p < 6 * k ∨ 6 * k + 6 ≤ p → m'.1 (238 + 6 * t0 + 2) p = m.1 (238 + 6 * t0 + 2) p) → (∀ q, q < 6 → m'.1 (238 + 6 * t0 + 2) (6 * k + q) = -1) → m'.2.2 = m.2.2 → K m') : Evv G d mX8_startClause [.ref (ga G (238 + 6 * t0)), .int w] m K := by
  have tk : (nI k).toNatClampNeg = k := tn_nI (by omega)
  refine vX8_startClause G d (238 + 6 * t0) (tx_all t0 ht) w m K ?_
  rw [h0, tk]
  refine ⟨fun _ => ⟨in_nI (by omega) (by omega), fun m1 em1 m2 em2 m3 em3 x4 ex4 => ?_⟩, fun z => absurd ((lt_nI (b := 24) (by omega) (by omega)).mpr hk) z⟩
  have a1 : m1.1 (238 + 6 * t0) = m.1 (238 + 6 * t0) := by rw [em1, wI_n _ _ _ (by omega)]
  rw [a1, h0, show (6 : Int32) = nI 6 from rfl, pk_mul] at em2
  have a2 : m2.1 (238 + 6 * t0) = upd (m.1 (238 + 6 * t0)) 1 (nI (6 * k)) := by rw [em2, wI_s, a1, Nat.mul_comm k 6]
  rw [a2, upd_n _ _ (show 0 ≠ 1 by omega), h0, show (1 : Int32) = nI 1 from rfl, nI_add] at em3
  have a3 : m3.1 (238 + 6 * t0) = upd (upd (m.1 (238 + 6 * t0)) 1 (nI (6 * k))) 0 (nI (k + 1)) := by rw [em3, wI_s, a2]
  have ao : ∀ c, c ≠ 238 + 6 * t0 → m3.1 c = m1.1 c := fun c h => by rw [em3, wI_n _ _ _ h, em2, wI_n _ _ _ h]
  have b1 : m3.1 (238 + 6 * t0 + 1) = upd (m.1 (238 + 6 * t0 + 1)) k w := by rw [ao _ (by omega), em1, wI_s]
  have bo : ∀ c, c ≠ 238 + 6 * t0 → c ≠ 238 + 6 * t0 + 1 → m3.1 c = m.1 c := fun c h1 h2 => by rw [ao c h1, em1, wI_n _ _ _ h2]
  rw [show x4 = nI (6 * k + 0) by rw [ex4, a3, upd_n _ _ (by omega), upd_s]; rfl]
  refine kX8_fill G d t0 k ht hk 6 0 _ m3 K rfl (by rw [a3, upd_s]) (fun m' g1 g2 g3 g4 => hK m' (fun c h1 h2 h3 => (g1 c h3).trans (bo c h1 h2)) (by rw [g1 _ (by omega)]; exact b1) (by rw [g1 _ (by omega)]; exact a3) (fun p hp => ?_) (fun q hq => g3 _ (by omega) (by omega)) (g4.trans (by rw [em3, em2, em1]; rfl)))
  rw [g2 p (by omega), bo _ (by omega) (by omega)]
def clG (cls : List (Nat × List Nat)) (k : Nat) : Nat × List Nat := cls.getD k (0, [])
theorem clG_app {cls : List (Nat × List Nat)} {x : Nat × List Nat} {k : Nat} : clG (cls ++ [x]) k = if k = cls.length then x else clG cls k := by
  unfold clG
  by_cases e : k = cls.length
  · subst e
    rw [if_pos rfl, List.getD_eq_getElem?_getD, List.getElem?_append_right (Nat.le_refl _), Nat.sub_self]
    rfl
  · rw [if_neg e]
    rcases Nat.lt_or_ge k cls.length with h | h
    · rw [List.getD_eq_getElem?_getD, List.getElem?_append_left h, ← List.getD_eq_getElem?_getD]
    · rw [List.getD_eq_getElem?_getD, List.getD_eq_getElem?_getD, List.getElem?_eq_none (by simp; omega), List.getElem?_eq_none (by omega)]
def CR (t0 : Nat) (cls : List (Nat × List Nat)) (m : Mem) : Prop := ∀ k, k < cls.length → m.1 (238 + 6 * t0 + 1) k = nI (100 + (clG cls k).1) ∧ (3 ≤ (clG cls k).1 → ∀ q, q < 6 → m.1 (238 + 6 * t0 + 2) (6 * k + q) = vAt (clG cls k).2 q)
def CLw (t0 : Nat) (lw : Nat → Nat × Nat) (m : Mem) : Prop := ∀ l, l < 3 → m.1 (238 + 6 * t0 + 4) l = nI (lw l).1 ∧ m.1 (238 + 6 * t0 + 5) l = nI (lw l).2 ∧ (lw l).1 ≤ 300 ∧ (lw l).2 ≤ 300
/-- the class between two clauses -/
def CX (kd nm st : Nat → Nat) (cnt t0 i : Nat) (C : List (Nat × Nat)) (cls : List (Nat × List Nat)) (lw : Nat → Nat × Nat) (m : Mem) : Prop := CK kd nm st cnt t0 i C m ∧ m.1 (238 + 6 * t0) 0 = nI cls.length ∧ CR t0 cls m ∧ CLw t0 lw m ∧ i ≤ cnt ∧ C.length ≤ i ∧ cls.length ≤ 24
def clP (kd nm : Nat → Nat) (cnt : Nat) (lw : Nat → Nat × Nat) (k i : Nat) (C : List (Nat × Nat)) : Nat × Nat × List Nat × List (Nat × Nat) :=
  if kd i < 100 ∨ 110 < kd i then (1, i, [], C)
  else if kd i < 103 ∧ (lw (kd i - 100)).1 < (lw (kd i - 100)).2 then (4, i, [], C)
  else if 24 ≤ k then (6, i, [], C)
  else if kd i < 103 then
    (if (lawP (kd i - 100) kd nm (cnt + 1 - (i + 1)) (i + 1) [] C true).1 = 0 ∧ kd (lawP (kd i - 100) kd nm (cnt + 1 - (i + 1)) (i + 1) [] C true).2.1 = 59 then (0, (lawP (kd i - 100) kd nm (cnt + 1 - (i + 1)) (i + 1) [] C true).2.1 + 1, [], (lawP (kd i - 100) kd nm (cnt + 1 - (i + 1)) (i + 1) [] C true).2.2)
     else (if (lawP (kd i - 100) kd nm (cnt + 1 - (i + 1)) (i + 1) [] C true).1 = 0 then 1 else (lawP (kd i - 100) kd nm (cnt + 1 - (i + 1)) (i + 1) [] C true).1, (lawP (kd i - 100) kd nm (cnt + 1 - (i + 1)) (i + 1) [] C true).2.1, [], C))
  else ((stI kd nm 1 59 0 (bodP kd nm (kd i - 100) (0, i + 1, []))).1, (stI kd nm 1 59 0 (bodP kd nm (kd i - 100) (0, i + 1, []))).2.1, (stI kd nm 1 59 0 (bodP kd nm (kd i - 100) (0, i + 1, []))).2.2, C)
def lwU (lw : Nat → Nat × Nat) (s a b : Nat) : Nat → Nat × Nat := fun l => if s < 3 ∧ l = s then (a, b) else lw l
def FTx (t0 : Nat) (m m' : Mem) : Prop := (∀ c, c ≠ 233 → c ≠ 234 → ¬ (238 + 6 * t0 ≤ c ∧ c ≤ 243 + 6 * t0) → m'.1 c = m.1 c) ∧ m'.2.2 = m.2.2
theorem FTx.rf (t0 : Nat) (m : Mem) : FTx t0 m m := ⟨fun _ _ _ _ => rfl, rfl⟩
theorem FTx.tr {t0 : Nat} {a b c : Mem} (h : FTx t0 a b) (k : FTx t0 b c) : FTx t0 a c := ⟨fun q h1 h2 h3 => (k.1 q h1 h2 h3).trans (h.1 q h1 h2 h3), k.2.trans h.2⟩
theorem FN.ft {t0 k : Nat} {m m' : Mem} (h : FN t0 k m m') : FTx t0 m m' := ⟨fun c h1 _ h3 => h.1 c h1 (by omega) (by omega), h.2.2.2⟩
theorem lawP_C {kd nm : Nat → Nat} {l i j : Nat} {C C' : List (Nat × Nat)} (hl : l < 3) (hC : C.length ≤ i) {f : Nat} (e : lawP l kd nm f i [] C true = (0, j, C')) : i ≤ j ∧ Ext C C' ∧ TyS C' C.length 1 0 ∧ COK l C.length C' ∧ C'.length ≤ j := by
  refine lawP_ok (fr := C.length) hl f i [] C true j C' True.intro (by decide) ⟨Nat.le_refl _, ?_⟩ (fun k h1 h2 => by omega) (by rw [List.length_nil]; omega) e
  rw [Nat.sub_self]
  rfl
theorem stI_m (kd nm : Nat → Nat) (k a b : Nat) (r : Nat × Nat × List Nat) : r.2.1 ≤ (stI kd nm k a b r).2.1 := by
  unfold stI
  by_cases h : r.1 ≠ 0
  · rw [if_pos h]; exact Nat.le_refl _
  · rw [if_neg h]
    by_cases hk : k = 0
    · rw [if_pos hk]
      by_cases h2 : kd r.2.1 ≠ 2
      · rw [if_pos h2]; exact Nat.le_refl _
      · rw [if_neg h2]
        by_cases h3 : a ≤ nm r.2.1 ∧ nm r.2.1 ≤ b
        · rw [if_pos h3]; exact Nat.le_succ _
        · rw [if_neg h3]; exact Nat.le_refl _
    · rw [if_neg hk]
      by_cases h2 : kd r.2.1 = a
      · rw [if_pos h2]; exact Nat.le_succ _
      · rw [if_neg h2]; exact Nat.le_refl _
theorem belP_m (kd nm : Nat → Nat) : ∀ (f n : Nat) (r : Nat × Nat × List Nat), r.2.1 ≤ (belP kd nm f n r).2.1
  | 0, n, r => Nat.le_refl _
  | f + 1, n, r => by
    unfold belP
    by_cases h : r.1 ≠ 0
    · rw [if_pos h]; exact Nat.le_refl _
    · rw [if_neg h]
      by_cases h2 : kd r.2.1 ≠ 2
      · rw [if_pos h2]; exact Nat.le_refl _
      · rw [if_neg h2]
        by_cases h4 : n = 4
        · rw [if_pos h4]
          by_cases h5 : nm r.2.1 ≤ 5
          · rw [if_pos h5]; exact Nat.le_refl _
          · rw [if_neg h5]; exact Nat.le_refl _
        · rw [if_neg h4]
          exact Nat.le_trans (stI_m kd nm 0 0 5 r) (belP_m kd nm f (n + 1) _)
theorem bodP_m (kd nm : Nat → Nat) (s : Nat) (r : Nat × Nat × List Nat) : r.2.1 ≤ (bodP kd nm s r).2.1 := by
  unfold bodP
  by_cases h3 : s = 3
  · rw [if_pos h3]
    exact Nat.le_trans (Nat.le_trans (Nat.le_trans (Nat.le_trans (stI_m kd nm 0 1 9 r) (stI_m kd nm 1 111 0 _)) (stI_m kd nm 0 0 9 _)) (stI_m kd nm 1 112 0 _)) (stI_m kd nm 0 1 9 _)
  rw [if_neg h3]
  by_cases h4 : s = 4
  · rw [if_pos h4]
    exact Nat.le_trans (Nat.le_trans (Nat.le_trans (Nat.le_trans (Nat.le_trans (stI_m kd nm 0 0 3 r) (stI_m kd nm 1 113 0 _)) (stI_m kd nm 0 0 99 _)) (stI_m kd nm 1 58 0 _)) (stI_m kd nm 0 0 5 _)) (belP_m kd nm 4 1 _)
  rw [if_neg h4]
  by_cases h5 : s = 5
  · rw [if_pos h5]; exact stI_m kd nm 0 0 5 r
  rw [if_neg h5]
  by_cases h9 : s = 9
  · rw [if_pos h9]; exact stI_m kd nm 0 1 60 r
  rw [if_neg h9]
  by_cases h10 : s = 10
  · rw [if_pos h10]; exact Nat.le_refl _
  rw [if_neg h10]
  exact stI_m kd nm 0 0 9 r
theorem kX3_readClause (G : GP) {kd nm st : Nat → Nat} {cnt : Nat} (d t0 i : Nat) (C : List (Nat × Nat)) (cls : List (Nat × List Nat)) (lw : Nat → Nat × Nat) (m : Mem) (K : Mem → Prop) (ht : t0 < 4) (h : CX kd nm st cnt t0 i C cls lw m) (h1 : kd i ≠ 1) (hK : ∀ e j V C' m', clP kd nm cnt lw cls.length i C = (e, j, V, C') → ((e = 0 ∧ CX kd nm st cnt t0 j C' (cls ++ [(kd i - 100, V)]) (lwU lw (kd i - 100) C.length C'.length) m') ∨ (0 < e ∧ e ≤ 7 ∧ m'.1 233 0 = nI e ∧ m'.1 233 1 = nI (st j))) → FTx t0 m m' → K m') : Evv G (d + 5) mX3_readClause [.ref (ga G 233)] m K := by
  obtain ⟨hc, hn, hR, hW, hi, hCi, h24⟩ := h
  have hc' := hc
  obtain ⟨c1, c2, c3, c4, c5, c6, c7⟩ := hc
  have hcb := c1.2.1
  have hrg := (c1.2.2.1 i hi).2.2
  have hlt := hc'.lt hi h1
  have fail : ∀ e, 0 < e → e ≤ 7 → clP kd nm cnt lw cls.length i C = (e, i, [], C) → Evv G (d + 4) mX3_fail [.ref (ga G 233), .int (nI e)] m (fun m' => K m') := fun e h0 h7 eq => kX3_fail2 G (d + 4) i e m _ c1 c4 hi (fun m' g1 g2 g3 g4 => hK e i [] C m' eq (Or.inr ⟨h0, h7, g1, g2⟩) ⟨fun c q1 _ _ => g3 c q1, g4⟩)
  refine vX3_readClause G d m K (fun x1 ex1 x2 ex2 => ?_)
  rw [c5] at ex1
  subst ex1
  have e100 : nI (kd i) < 100 ↔ kd i < 100 := lt_nI (b := 100) (by omega) (by omega)
  have e110 : nI (kd i) ≤ 110 ↔ kd i ≤ 110 := le_nI (b := 110) (by omega) (by omega)
  rw [e100, e110]
  refine ⟨fun q => fail 1 (by omega) (by omega) (by unfold clP; rw [if_pos (Or.inl q)]), fun q => ⟨fun q2 => ?_, fun q2 => fail 1 (by omega) (by omega) (by unfold clP; rw [if_pos (Or.inr (by omega))])⟩⟩
  have ex2 : x2 = nI (kd i - 100) := by rw [ex2]; exact sub_nI (b := 100) (by omega)
  subst ex2
  have e3 : (3 : Int32) ≤ nI (kd i - 100) ↔ 3 ≤ kd i - 100 := le_nI (a := 3) (by omega) (by omega)
  have en24 : nI cls.length < 24 ↔ cls.length < 24 := lt_nI (b := 24) (by omega) (by omega)
  generalize hs : kd i - 100 = s at e3 hK
  have es : kd i = 100 + s := by omega
  have hs10 : s ≤ 10 := by omega
  -- a clause is begun
  have beg : cls.length < 24 → ∀ (KK : Mem → Prop), (∀ m', NS kd nm st cnt t0 cls.length (i + 1) [] C m' → (∀ c, c ≠ 233 → c ≠ 238 + 6 * t0 → c ≠ 238 + 6 * t0 + 1 → c ≠ 238 + 6 * t0 + 2 → m'.1 c = m.1 c) → m'.1 (238 + 6 * t0 + 1) = upd (m.1 (238 + 6 * t0 + 1)) cls.length (nI (100 + s)) → (∀ p, p < 6 * cls.length ∨ 6 * cls.length + 6 ≤ p → m'.1 (238 + 6 * t0 + 2) p = m.1 (238 + 6 * t0 + 2) p) → m'.2.2 = m.2.2 → KK m') → Evv G (d + 4) mX8_startClause [.ref (ga G (238 + 6 * t0)), .int (nI (kd i))] m (fun m6 => Evv G (d + 4) mX3_advance [.ref (ga G 233)] m6 (fun m7 => KK m7)) := by
    intro hk KK hKK
    refine kX8_startClause G (d + 4) t0 cls.length _ m _ ht hk hn (fun m6 g1 g2 g3 g4 g5 g6 => ?_)
    have cp : ∀ p, p ≠ 0 → p ≠ 1 → m6.1 (238 + 6 * t0) p = m.1 (238 + 6 * t0) p := fun p a b => by rw [g3, upd_n _ _ a, upd_n _ _ b]
    have hck : CK kd nm st cnt t0 i C m6 := by
      refine ⟨c1.fr (fun c _ _ => g1 c (by omega) (by omega) (by omega)), by rw [g6]; exact c2, by rw [g1 233 (by omega) (by omega) (by omega)]; exact c3, by rw [g1 233 (by omega) (by omega) (by omega)]; exact c4, by rw [g1 233 (by omega) (by omega) (by omega)]; exact c5, ?_, ?_⟩
      · unfold CCl
        rw [cp 5 (by omega) (by omega), g1 (238 + 6 * t0 + 3) (by omega) (by omega) (by omega)]
        exact c6
      · unfold ACl
        rw [cp 4 (by omega) (by omega)]
        exact c7
    have hns : NS kd nm st cnt t0 cls.length i [] C m6 := ⟨hck, by rw [g3, upd_s], by rw [g3, upd_n _ _ (by omega), upd_s]; rfl, fun q hq => g5 q hq, hi⟩
    refine kX3_advance G (d + 4) i m6 _ hck.1 hck.2.2.2.1 hlt (fun m7 a4 a5 ap ac ar => hKK m7 (hns.adv ht hlt a4 a5 ap ac ar) (fun c h0 h1 h2 h3 => (ac c h0).trans (g1 c h1 h2 h3)) ?_ (fun p hp => ?_) (ar.trans g6))
    · rw [ac _ (by omega), g2, es]
    · rw [ac _ (by omega), g4 p hp]
  refine ⟨fun q3 t4 et4 => ?_, fun q3 t13 et13 => ?_⟩
  · rw [e3] at q3
    rw [c2] at et4
    subst et4
    rw [hn, en24]
    have n103 : ¬ kd i < 103 := by omega
    refine ⟨by omega, tx_all t0 ht, fun k24 t5 et5 => ?_, fun k24 => fail 6 (by omega) (by omega) (by unfold clP; rw [if_neg (by omega), if_neg (fun z => n103 z.1), if_pos (by omega)])⟩
    rw [c2] at et5
    subst et5
    refine ⟨by omega, tx_all t0 ht, beg k24 _ (fun m7 g1 g2 g3 g4 g5 => ⟨fun _ => ?_, fun z => absurd (e3.mpr q3) z⟩)⟩
    rw [es]
    have f7 : FTx t0 m m7 := ⟨fun c h0 _ h2 => g2 c h0 (by omega) (by omega) (by omega), g5⟩
    refine kX3_readNumbers G (d + 1) t0 cls.length s (i + 1) C m7 _ ht k24 ⟨q3, hs10⟩ g1 (fun m8 j1 j2 => ?_)
    refine kX3_pass G (d + 3) t0 cls.length 59 C _ m8 _ ht (by omega) j1 (fun m9 k1 k2 => ?_)
    have fn := j2.tr k2
    refine hK _ _ _ _ m9 (by unfold clP; rw [if_neg (by omega), if_neg (fun z => n103 z.1), if_neg (by omega), if_neg n103, hs]) ?_ (f7.tr fn.ft)
    rcases k1 with ⟨z0, zN⟩ | z
    · refine Or.inl ⟨z0, zN.1, ?_, fun k hk => ?_, fun l hl => ?_, zN.2.2.2.2, ?_, ?_⟩
      · rw [zN.2.1, List.length_append]; rfl
      · rw [List.length_append, List.length_singleton] at hk
        rw [clG_app, fn.1 (238 + 6 * t0 + 1) (by omega) (by omega) (by omega), g3]
        by_cases ek : k = cls.length
        · rw [if_pos ek, ek, upd_s]
          exact ⟨rfl, fun _ q hq => zN.2.2.2.1 q hq⟩
        · rw [if_neg ek, upd_n _ _ ek]
          refine ⟨(hR k (by omega)).1, fun h3 q hq => ?_⟩
          rw [fn.2.2.1 _ (by omega), g4 _ (by omega)]
          exact (hR k (by omega)).2 h3 q hq
      · have el : lwU lw s C.length C.length l = lw l := if_neg (by omega)
        rw [el, fn.1 (238 + 6 * t0 + 4) (by omega) (by omega) (by omega), fn.1 (238 + 6 * t0 + 5) (by omega) (by omega) (by omega), g2 (238 + 6 * t0 + 4) (by omega) (by omega) (by omega) (by omega), g2 (238 + 6 * t0 + 5) (by omega) (by omega) (by omega) (by omega)]
        exact hW l hl
      · have y1 := bodP_m kd nm s (0, i + 1, [])
        have y2 := stI_m kd nm 1 59 0 (bodP kd nm s (0, i + 1, []))
        have y1 : i + 1 ≤ (bodP kd nm s (0, i + 1, [])).2.1 := y1
        omega
      · rw [List.length_append, List.length_singleton]; omega
    · exact Or.inr z
  · rw [e3] at q3
    rw [c2] at et13
    subst et13
    have s103 : kd i < 103 := by omega
    have hs3 : s < 3 := by omega
    have ts : (nI s).toNatClampNeg = s := tn_nI (by omega)
    obtain ⟨w1, w2, w3, w4⟩ := hW s hs3
    have elw : nI (lw s).1 < nI (lw s).2 ↔ (lw s).1 < (lw s).2 := lt_nI (by omega) (by omega)
    rw [ts, w1, w2, elw]
    refine ⟨by omega, tx_all t0 ht, in_nI hs3 (by omega), fun z => fail 4 (by omega) (by omega) (by unfold clP; rw [if_neg (by omega), if_pos ⟨s103, by rw [hs]; exact z⟩]), fun z t15 et15 => ?_⟩
    rw [c2] at et15
    subst et15
    rw [hn, en24]
    have nz : ¬ (kd i < 103 ∧ (lw (kd i - 100)).1 < (lw (kd i - 100)).2) := fun y => z (by rw [hs] at y; exact y.2)
    refine ⟨by omega, tx_all t0 ht, fun k24 t16 et16 => ?_, fun k24 => fail 6 (by omega) (by omega) (by unfold clP; rw [if_neg (by omega), if_neg nz, if_pos (by omega)])⟩
    rw [c2] at et16
    subst et16
    refine ⟨by omega, tx_all t0 ht, beg k24 _ (fun m7 g1 g2 g3 g4 g5 => ⟨fun y => absurd (e3.mp y) q3, fun _ => ?_⟩)⟩
    have f7 : FTx t0 m m7 := ⟨fun c h0 _ h2 => g2 c h0 (by omega) (by omega) (by omega), g5⟩
    refine kX3_readLaw G d t0 s (i + 1) C m7 _ ht hs3 (by omega) (by omega) g1.1 (fun e j C' m8 q1 q2 r1 r2 r3 r4 r5 r6 => ?_)
    have f8 : FTx t0 m7 m8 := ⟨fun c h0 h1 h2 => r1 c (by omega) h0 h1 (by omega) (by omega) (by omega), r5⟩
    have eqc : clP kd nm cnt lw cls.length i C = if e = 0 ∧ kd j = 59 then (0, j + 1, [], C') else (if e = 0 then 1 else e, j, [], C) := by
      unfold clP
      rw [if_neg (by omega), if_neg nz, if_neg (by omega), if_pos s103, hs, q1]
    rcases r6 with ⟨z0, z59, z1, z2, z3, z4, z5, z6⟩ | ⟨zn, z5, z1, z2⟩
    · subst z0
      rw [if_pos ⟨rfl, z59⟩] at eqc
      obtain ⟨y1, y2, y3, y4, y5⟩ := lawP_C hs3 (by omega) q1
      have yl := y2.len
      have hT8 : TB kd nm st cnt m8.1 := g1.1.1.fr (fun c _ _ => r1 c (by omega) (by omega) (by omega) (by omega) (by omega) (by omega))
      have jlt : j < cnt := by
        rcases Nat.lt_or_ge j cnt with q | q
        · exact q
        · have : j = cnt := by omega
          have e1 := c1.1
          rw [← this] at e1
          omega
      refine vX3_pass G (d + 3) _ m8 _ ⟨fun _ => ?_, fun y => absurd z1.1 y⟩
      rw [z3, z59]
      refine ⟨fun _ => ?_, fun y => absurd rfl y⟩
      have hck : CK kd nm st cnt t0 j C' m8 := ⟨hT8, by rw [r5]; exact g1.1.2.1, z1, z2, z3, z4, z5⟩
      refine kX3_advance G (d + 3) j m8 _ hT8 z2 jlt (fun m9 a4 a5 ap ac ar => ?_)
      have f9 : FTx t0 m8 m9 := ⟨fun c h0 _ _ => ac c h0, ar⟩
      refine hK 0 (j + 1) [] C' m9 eqc (Or.inl ⟨rfl, hck.adv a4 a5 ap ac ar, ?_, fun k hk => ?_, fun l hl => ?_, jlt, by omega, ?_⟩) ((f7.tr f8).tr f9)
      · rw [ac _ (by omega), r3 0 (by omega) (by omega), g1.2.1, List.length_append]; rfl
      · rw [List.length_append, List.length_singleton] at hk
        rw [clG_app, ac (238 + 6 * t0 + 1) (by omega), r1 (238 + 6 * t0 + 1) (by omega) (by omega) (by omega) (by omega) (by omega) (by omega), g3, ac (238 + 6 * t0 + 2) (by omega), r1 (238 + 6 * t0 + 2) (by omega) (by omega) (by omega) (by omega) (by omega) (by omega)]
        by_cases ek : k = cls.length
        · rw [if_pos ek, ek, upd_s]
          exact ⟨rfl, fun h3 => absurd h3 (by show ¬ 3 ≤ s; omega)⟩
        · rw [if_neg ek, upd_n _ _ ek]
          refine ⟨(hR k (by omega)).1, fun h3 q hq => ?_⟩
          rw [g4 _ (by omega)]
          exact (hR k (by omega)).2 h3 q hq
      · rw [ac (238 + 6 * t0 + 4) (by omega), ac (238 + 6 * t0 + 5) (by omega), r4, g2 (238 + 6 * t0 + 4) (by omega) (by omega) (by omega) (by omega)]
        by_cases el : l = s
        · have e1 : lwU lw s C.length C'.length l = (C.length, C'.length) := if_pos ⟨hs3, el⟩
          rw [e1, el, upd_s, z6]
          exact ⟨rfl, rfl, by show C.length ≤ 300; omega, by show C'.length ≤ 300; omega⟩
        · have e1 : lwU lw s C.length C'.length l = lw l := if_neg (fun y => el y.2)
          rw [e1, upd_n _ _ el, r2 l el, g2 (238 + 6 * t0 + 5) (by omega) (by omega) (by omega) (by omega)]
          exact hW l hl
      · rw [List.length_append, List.length_singleton]; omega
    · rw [if_neg zn] at eqc
      have he : 0 < (if e = 0 then 1 else e) ∧ (if e = 0 then 1 else e) ≤ 7 := by split <;> omega
      refine vX3_pass G (d + 3) _ m8 _ ⟨fun y => ?_, fun _ => hK _ j [] C m8 eqc (Or.inr ⟨he.1, he.2, z1, z2⟩) (f7.tr f8)⟩
      rw [z1] at y
      have := (eq_nI (b := 0) (by omega) (by omega)).mp y
      omega
