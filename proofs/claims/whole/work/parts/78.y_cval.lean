/-! the class reads a law: a value -/
def TB (kd nm st : Nat → Nat) (cnt : Nat) (f : Nat → Nat → Int32) : Prop := kd cnt = 1 ∧ cnt ≤ 300 ∧ (∀ j, j ≤ cnt → f 230 j = nI (kd j) ∧ f 231 j = nI (st j) ∧ (kd j ≤ 4 ∨ (35 ≤ kd j ∧ kd j ≤ 94) ∨ (100 ≤ kd j ∧ kd j ≤ 122))) ∧ ∀ j, j ≤ cnt → kd j = 2 → f 232 j = nI (nm j) ∧ nm j ≤ 10000
def CS (kd nm st : Nat → Nat) (cnt t0 i : Nat) (S : List Nat) (C : List (Nat × Nat)) (w : Bool) (m : Mem) : Prop := TB kd nm st cnt m.1 ∧ m.2.2 233 3 = 238 + 6 * t0 ∧ (m.1 233 0 = 0 ∧ m.1 233 1 = -1) ∧ m.1 233 4 = nI i ∧ m.1 233 5 = nI (kd i) ∧ m.1 233 7 = nI S.length ∧ m.1 233 8 = nI (opS S) ∧ m.1 233 9 = nI (nP S) ∧ m.1 233 10 = (if w then 1 else 0) ∧ (w = true → m.1 233 11 = (if askS S then 1 else 0)) ∧ m.1 233 12 = (if cmpF S then 1 else 0) ∧ PC S (m.1 234) ∧ CCl t0 C m ∧ ACl t0 C m
def FC (t0 : Nat) (m m' : Mem) : Prop := (∀ c, c ≠ 233 → c ≠ 234 → c ≠ 238 + 6 * t0 → c ≠ 238 + 6 * t0 + 3 → m'.1 c = m.1 c) ∧ (∀ p, p ≠ 4 → p ≠ 5 → m'.1 (238 + 6 * t0) p = m.1 (238 + 6 * t0) p) ∧ m'.2.2 = m.2.2
def FQ (m m' : Mem) : Prop := (∀ c, c ≠ 233 → c ≠ 234 → m'.1 c = m.1 c) ∧ m'.2.2 = m.2.2
theorem FC.rf (t0 : Nat) (m : Mem) : FC t0 m m := ⟨fun _ _ _ _ _ => rfl, fun _ _ _ => rfl, rfl⟩
theorem FC.tr {t0 : Nat} {a b c : Mem} (h : FC t0 a b) (k : FC t0 b c) : FC t0 a c := ⟨fun q h1 h2 h3 h4 => (k.1 q h1 h2 h3 h4).trans (h.1 q h1 h2 h3 h4), fun p h1 h2 => (k.2.1 p h1 h2).trans (h.2.1 p h1 h2), k.2.2.trans h.2.2⟩
theorem FQ.fc {t0 : Nat} {m m' : Mem} (h : FQ m m') : FC t0 m m' := ⟨fun c h1 h2 _ _ => h.1 c h1 h2, fun p _ _ => by rw [h.1 _ (by omega) (by omega)], h.2⟩
theorem FS.fc {t0 : Nat} {m m' : Mem} (h : FS t0 m m') : FC t0 m m' := ⟨fun c h1 _ h3 h4 => h.1 c h1 h3 h4, fun p _ h5 => h.2.1 p h5, h.2.2.2⟩
theorem FQ.tr {a b c : Mem} (h : FQ a b) (k : FQ b c) : FQ a c := ⟨fun q h1 h2 => (k.1 q h1 h2).trans (h.1 q h1 h2), k.2.trans h.2⟩
theorem FQ.w3 (m : Mem) (p : Nat) (v : Int32) : FQ m (wI m 233 p v) := ⟨fun c h1 _ => wI_n m _ _ h1, rfl⟩
theorem TB.fr {kd nm st : Nat → Nat} {cnt : Nat} {f g : Nat → Nat → Int32} (h : TB kd nm st cnt f) (e : ∀ c, 230 ≤ c → c ≤ 232 → g c = f c) : TB kd nm st cnt g := by
  unfold TB at h ⊢
  rw [e 230 (by omega) (by omega), e 231 (by omega) (by omega), e 232 (by omega) (by omega)]
  exact h
theorem FC.tb {kd nm st : Nat → Nat} {cnt t0 : Nat} {m m' : Mem} (h : FC t0 m m') (k : TB kd nm st cnt m.1) : TB kd nm st cnt m'.1 := k.fr (fun c h1 h2 => h.1 c (by omega) (by omega) (by omega) (by omega))
theorem FQ.ccl {t0 : Nat} {C : List (Nat × Nat)} {m m' : Mem} (h : FQ m m') (k : CCl t0 C m) : CCl t0 C m' := by
  unfold CCl at k ⊢
  rw [h.1 _ (by omega) (by omega), h.1 _ (by omega) (by omega)]
  exact k
theorem FQ.acl {t0 : Nat} {C : List (Nat × Nat)} {m m' : Mem} (h : FQ m m') (k : ACl t0 C m) : ACl t0 C m' := by
  unfold ACl at k ⊢
  rw [h.1 _ (by omega) (by omega)]
  exact k
theorem kX3_fail (G : GP) {kd nm st : Nat → Nat} {cnt : Nat} (d t0 i e : Nat) (m : Mem) (K : Mem → Prop) (hT : TB kd nm st cnt m.1) (h4 : m.1 233 4 = nI i) (hi : i ≤ cnt) (hK : ∀ m', m'.1 233 0 = nI e → m'.1 233 1 = nI (st i) → FC t0 m m' → K m') : Evv G d mX3_fail [.ref (ga G 233), .int (nI e)] m K := by
  have hc := hT.2.1
  have e2 : (nI i).toNatClampNeg = i := tn_nI (by omega)
  refine vX3_fail G d _ m K (fun m1 em1 => ?_)
  have a3 : m1.1 233 = upd (m.1 233) 0 (nI e) := by rw [em1, wI_s]
  have a1 : m1.1 231 = m.1 231 := by rw [em1]; exact wI_n m _ _ (by omega)
  rw [a3, upd_n _ _ (show 4 ≠ 0 by omega), h4, e2, a1, (hT.2.2.1 i hi).2.1]
  refine ⟨in_nI (by omega) (by omega), fun m2 em2 => hK m2 ?_ ?_ ?_⟩
  · rw [em2, wI_s, upd_n _ _ (by omega), a3, upd_s]
  · rw [em2, wI_s, upd_s]
  · have : FQ m m2 := by rw [em2, em1]; exact (FQ.w3 m _ _).tr (FQ.w3 _ _ _)
    exact this.fc
theorem kX3_advance (G : GP) {kd nm st : Nat → Nat} {cnt : Nat} (d i : Nat) (m : Mem) (K : Mem → Prop) (hT : TB kd nm st cnt m.1) (h4 : m.1 233 4 = nI i) (hi : i < cnt) (hK : ∀ m', m'.1 233 4 = nI (i + 1) → m'.1 233 5 = nI (kd (i + 1)) → (∀ p, p ≠ 4 → p ≠ 5 → m'.1 233 p = m.1 233 p) → (∀ c, c ≠ 233 → m'.1 c = m.1 c) → m'.2.2 = m.2.2 → K m') : Evv G d mX3_advance [.ref (ga G 233)] m K := by
  have hc := hT.2.1
  have e2 : (nI (i + 1)).toNatClampNeg = i + 1 := tn_nI (by omega)
  refine vX3_advance G d m K ⟨fun z => ?_, fun _ m2 em2 => ?_⟩
  · rw [h4] at z
    have := (le_nI (a := 300) (by omega) (by omega)).mp z
    omega
  rw [h4, show (1 : Int32) = nI 1 from rfl, nI_add] at em2
  have a3 : m2.1 233 = upd (m.1 233) 4 (nI (i + 1)) := by rw [em2, wI_s]
  have ao : ∀ c, c ≠ 233 → m2.1 c = m.1 c := fun c h => by rw [em2]; exact wI_n m _ _ h
  rw [a3, upd_s, e2, ao 230 (by omega), (hT.2.2.1 (i + 1) (by omega)).1]
  refine ⟨in_nI (by omega) (by omega), fun m3 em3 => hK m3 ?_ ?_ (fun p h1 h2 => ?_) (fun c h => ?_) ?_⟩
  · rw [em3, wI_s, upd_n _ _ (by omega), a3, upd_s]
  · rw [em3, wI_s, upd_s]
  · rw [em3, wI_s, upd_n _ _ h2, a3, upd_n _ _ h1]
  · rw [em3, wI_n m2 _ _ h, ao c h]
  · rw [em3, em2]; rfl
/-- one more waits -/
theorem kX3_putWaiting (G : GP) (d o : Nat) (S : List Nat) (m : Mem) (K : Mem → Prop) (h7 : m.1 233 7 = nI S.length) (hl : S.length < 64) (hP : PC S (m.1 234)) (hK : ∀ m', m'.1 233 7 = nI (S.length + 1) → PC (o :: S) (m'.1 234) → (∀ p, p ≠ 7 → m'.1 233 p = m.1 233 p) → FQ m m' → K m') : Evv G d mX3_putWaiting [.ref (ga G 233), .int (nI (pnC o))] m K := by
  have e2 : (nI S.length).toNatClampNeg = S.length := tn_nI (by omega)
  refine vX3_putWaiting G d _ m K ?_
  rw [h7, e2]
  refine ⟨fun z => ?_, fun _ => ⟨in_nI (by omega) (by omega), fun m1 em1 m2 em2 => ?_⟩⟩
  · have := (le_nI (a := 64) (by omega) (by omega)).mp z
    omega
  have a3 : m1.1 233 = m.1 233 := by rw [em1]; exact wI_n m _ _ (by omega)
  rw [a3, h7, show (1 : Int32) = nI 1 from rfl, nI_add] at em2
  have b4 : m2.1 234 = upd (m.1 234) S.length (nI (pnC o)) := by rw [em2, wI_n m1 _ _ (by omega), em1, wI_s]
  refine hK m2 (by rw [em2, wI_s, upd_s]) ⟨?_, ?_⟩ (fun p hp => by rw [em2, wI_s, upd_n _ _ hp, a3]) ⟨fun c h1 h2 => by rw [em2, wI_n m1 _ _ h1, em1, wI_n m _ _ h2], by rw [em2, em1]; rfl⟩
  · rw [b4, upd_s]
  · rw [b4]
    exact hP.fr (fun k hk => upd_n _ _ (by omega))
theorem kX3_putOpen (G : GP) {kd nm st : Nat → Nat} {cnt : Nat} (d t0 i o : Nat) (S : List Nat) (m : Mem) (K : Mem → Prop) (hT : TB kd nm st cnt m.1) (h4 : m.1 233 4 = nI i) (hi : i ≤ cnt) (h7 : m.1 233 7 = nI S.length) (h8 : m.1 233 8 = nI (opS S)) (hG : GS S) (ho : opS S ≤ 8) (hP : PC S (m.1 234)) (hO : isO o = true) (hK : opS S < 8 → ∀ m', m'.1 233 7 = nI (S.length + 1) → m'.1 233 8 = nI (opS (o :: S)) → PC (o :: S) (m'.1 234) → (∀ p, p ≠ 7 → p ≠ 8 → m'.1 233 p = m.1 233 p) → FQ m m' → K m') (h3 : 8 ≤ opS S → ∀ m', m'.1 233 0 = nI 3 → m'.1 233 1 = nI (st i) → FC t0 m m' → K m') : Evv G (d + 1) mX3_putOpen [.ref (ga G 233), .int (nI (pnC o))] m K := by
  have h45 := GS_len hG ho
  have e8 : nI (opS S) < 8 ↔ opS S < 8 := lt_nI (b := 8) (by omega) (by omega)
  have ho8 : opS (o :: S) = opS S + 1 := by
    show opS S + (if isO o then 1 else 0) = opS S + 1
    rw [hO]; rfl
  refine vX3_putOpen G d _ m K ?_
  rw [h8, e8]
  refine ⟨fun z m1 em1 => ?_, fun z => kX3_fail G d t0 i 3 m _ hT h4 hi (fun m' g1 g2 g3 => h3 (by omega) m' g1 g2 g3)⟩
  rw [show (1 : Int32) = nI 1 from rfl, nI_add] at em1
  have a3 : m1.1 233 = upd (m.1 233) 8 (nI (opS S + 1)) := by rw [em1, wI_s]
  have f1 : FQ m m1 := by rw [em1]; exact FQ.w3 m _ _
  refine kX3_putWaiting G d o S m1 _ (by rw [a3, upd_n _ _ (by omega)]; exact h7) (by omega) (by rw [em1, wI_n m _ _ (by omega)]; exact hP) (fun m' g1 g2 g3 g4 => hK z m' g1 ?_ g2 (fun p h1 h2 => ?_) (f1.tr g4))
  · rw [g3 8 (by omega), a3, upd_s, ho8]
  · rw [g3 p h1, a3, upd_n _ _ h2]
theorem kX3_putValue (G : GP) (d t0 : Nat) (x : Nat × Nat) (C : List (Nat × Nat)) (m : Mem) (K : Mem → Prop) (ht : t0 < 4) (hr : m.2.2 233 3 = 238 + 6 * t0) (hC : CCl t0 C m) (hl : C.length < 300) (hK : ∀ m', CCl t0 (C ++ [x]) m' → m'.1 233 10 = 0 → (∀ p, p ≠ 10 → m'.1 233 p = m.1 233 p) → (∀ c, c ≠ 233 → c ≠ 238 + 6 * t0 → c ≠ 238 + 6 * t0 + 3 → m'.1 c = m.1 c) → (∀ p, p ≠ 5 → m'.1 (238 + 6 * t0) p = m.1 (238 + 6 * t0) p) → m'.2.2 = m.2.2 → K m') : Evv G (d + 1) mX3_putValue [.ref (ga G 233), .int (nI (opC x.1 x.2))] m K := by
  refine vX3_putValue G d _ m K (fun t1 et1 => ?_)
  rw [hr] at et1
  subst et1
  refine ⟨by omega, tx_all t0 ht, kX8_emit G d t0 x C m _ ht hC hl (fun m2 g1 g2 m3 em3 => ?_)⟩
  have f3 : FQ m2 m3 := by rw [em3]; exact FQ.w3 m2 _ _
  have b3 : m3.1 233 = upd (m.1 233) 10 0 := by rw [em3, wI_s, g2.1 233 (by omega) (by omega)]
  have bo : ∀ c, c ≠ 233 → m3.1 c = m2.1 c := fun c h => by rw [em3]; exact wI_n m2 _ _ h
  refine hK m3 (f3.ccl g1) (by rw [b3, upd_s]) (fun p hp => by rw [b3, upd_n _ _ hp]) (fun c h1 h2 h3 => (bo c h1).trans (g2.1 c h2 h3)) (fun p hp => ?_) (f3.2.trans g2.2.2)
  rw [bo _ (by omega)]
  exact g2.2.1 p hp
theorem nmb_1 : ∀ t, t < 123 → 100 ≤ t → ((((1 : Int32) <<< ((nI t - 100) &&& 31)) &&& 8272776) = 0 ↔ nmT t = 13) := by decide +kernel
theorem nmb_2 : ∀ t, t < 123 → 100 ≤ t → nmT t ≠ 13 → ((((1 : Int32) <<< ((nI t - 100) &&& 31)) &&& 400264) = 0 ↔ nmB 0 (nmT t) = false) ∧ ((((1 : Int32) <<< ((nI t - 100) &&& 31)) &&& 7872512) = 0 ↔ nmB 1 (nmT t) = false) ∧ ((((1 : Int32) <<< ((nI t - 100) &&& 31)) &&& 532480) = 0 ↔ nmB 2 (nmT t) = false) := by decide +kernel
theorem nmb_3 : ∀ t, t < 123 → nmT t ≠ 13 → t = 100 + nmC (nmT t) ∧ (nmT t = 12 → t = 122) := by decide +kernel
theorem nmb_4 : ∀ t, t < 100 → nmT t = 13 := fun t h => nmT_lo h
/-- a value was read -/
def Bn (k : Nat) (S : List Nat) (C : List (Nat × Nat)) : Prop := GS S ∧ opS S ≤ 8 ∧ C.length + S.length ≤ k
def Lz (w : Bool) (S : List Nat) (C : List (Nat × Nat)) (S0 : List Nat) (C0 : List (Nat × Nat)) : Prop := (w = true → S0 = S ∧ C0 = C) ∧ (w = false → stl 8 S0 C0 = (S, C))
theorem cval (G : GP) {kd nm st : Nat → Nat} {cnt : Nat} (d t0 i : Nat) (x : Nat × Nat) (S : List Nat) (C : List (Nat × Nat)) (m : Mem) (K : Mem → Prop) (ht : t0 < 4) (hi : i < cnt) (h : CS kd nm st cnt t0 i S C true m) (hx : m.1 (238 + 6 * t0) 4 = 0 → ¬ (x.1 = 1 ∧ x.2 = 12)) (hB : Bn i S C) (hK : ∀ m', CS kd nm st cnt t0 i S (C ++ [x]) false m' → FC t0 m m' → K m') : Evv G (d + 1) mX3_putValue [.ref (ga G 233), .int (nI (opC x.1 x.2))] m K := by
  obtain ⟨c1, c2, c3, c4, c5, c6, c7, c8, c9, c10, c11, c12, c13, c14⟩ := h
  have hc := c1.2.1
  have hB3 := hB.2.2
  refine kX3_putValue G d t0 x C m K ht c2 c13 (by omega) (fun m' g1 g2 g3 g4 g5 g6 => ?_)
  have fc : FC t0 m m' := ⟨fun c h1 _ h3 h4 => g4 c h1 h3 h4, fun p _ h5 => g5 p h5, g6⟩
  refine hK m' ⟨fc.tb c1, by rw [g6]; exact c2, ⟨(g3 0 (by omega)).trans c3.1, (g3 1 (by omega)).trans c3.2⟩, (g3 4 (by omega)).trans c4, (g3 5 (by omega)).trans c5, (g3 7 (by omega)).trans c6, (g3 8 (by omega)).trans c7, (g3 9 (by omega)).trans c8, g2, fun z => (by cases z), (g3 12 (by omega)).trans c11, ?_, g1, ?_⟩ fc
  · rw [g4 234 (by omega) (by omega) (by omega)]; exact c12
  · unfold ACl
    rw [g5 4 (by omega)]
    refine ⟨c14.1, fun z k hk => ?_⟩
    rw [List.length_append, List.length_singleton] at hk
    by_cases e : k = C.length
    · subst e
      rw [(oL_last C x).1, (oL_last C x).2]
      exact hx z
    · rw [(oL_app (by omega)).1, (oL_app (by omega)).2]
      exact c14.2 z k (by omega)
