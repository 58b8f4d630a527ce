theorem law_l (p : Nat) : (if p = 0 then 2 else 1) = 1 ∨ (if p = 0 then 2 else 1) = 2 := by split <;> omega
def laI : Option Nat → Int32
  | none => -1
  | some x => nI x
noncomputable def mayV (X : Nat → Nat → Int32) (a : Nat → Int32) (w P : Nat) : Option Nat → Bool
  | none => bgn X a w
  | some x => fol X a x w P
/-- may a word stand there: the class -/
theorem kC_may (G : GP) (d : Nat) (w P : Nat) (la : Option Nat) (m : Mem) (a : Nat → Int32) (K : Int32 → Mem → Prop) (X : Nat → Nat → Int32) (r : RC m.1 0 a) (h : WF a) (hw : w < tn (a 1)) (hla : (la = none ∧ P = 0) ∨ (∃ x, la = some x ∧ x < tn (a 1) ∧ 0 < P ∧ P < 24)) (hT : ∀ t, t < tn (a 2) → TT X t) (hX : ∀ q, 238 ≤ q → q ≤ 261 → m.1 q = X q) (hF : FDx (¬ a 3 = -1) X (tn (a 3)) (tn (a 1)) (kdA a) (mnA a) (m.1 265)) (hK : ∀ m' : Mem, (∀ q, q ≠ 263 → q ≠ 264 → q ≠ 265 → m'.1 q = m.1 q) → FDx (¬ a 3 = -1) X (tn (a 3)) (tn (a 1)) (kdA a) (mnA a) (m'.1 265) → K (b2 (mayV X a w P la)) m') : Evi G (d + 3) mX1_mayStand [.ref (ga G 262), .int (laI la), .int (nI w), .int (nI P)] m K := by
  have hnw := (h.nw.is (by omega)).2.2
  refine vX1_mayStand G d _ (nI w) (nI P) m K ?_
  refine kC_ruling G (d + 1) m a _ r h (fun e => ⟨fun _ => ?_, fun t3 q => by cases q⟩) (fun t ht h4 e => ⟨fun q => (by cases q), fun t3 q => ?_⟩)
  · have := hK m (fun _ _ _ _ => rfl) hF
    have e1 : mayV X a w P la = true := by
      cases la
      · show bgn X a w = true
        unfold bgn; rw [if_pos e]
      · show fol X a _ w P = true
        unfold fol; rw [if_pos e]
    rw [e1] at this
    exact ⟨fun _ => this, fun _ => this⟩
  injection q with q
  subst q
  have et : tn (a 3) = t := by rw [e]; exact tn_nI (by omega)
  have e3 : ¬ a 3 = -1 := by rw [e]; exact m1_ne t (by omega)
  rw [et] at hF hK
  refine ⟨tx_all t h4, ?_⟩
  obtain ⟨C, -, -, -, -, c5⟩ := hT t ht
  have g4 : m.1 (238 + 6 * t) = X (238 + 6 * t) := hX _ (by omega) (by omega)
  have g5 : m.1 (238 + 6 * t + 4) = X (238 + 6 * t + 4) := hX _ (by omega) (by omega)
  have g6 : m.1 (238 + 6 * t + 5) = X (238 + 6 * t + 5) := hX _ (by omega) (by omega)
  have ix : ∀ z x : Nat, (nI z * 10 + nI x) * 10 + nI w = nI ((z * 10 + x) * 10 + w) := fun z x => by rw [show (10 : Int32) = nI 10 from rfl, pk_mul, nI_add, pk_mul, nI_add]
  rcases hla with ⟨rfl, rfl⟩ | ⟨x, rfl, hx, hP, hP24⟩
  · refine ⟨fun q => absurd rfl q, fun _ => ⟨vp_in_dec (by decide), ?_⟩⟩
    show ((m.1 (238 + 6 * t + 4) 2 < m.1 (238 + 6 * t + 5) 2) → _) ∧ (¬ (m.1 (238 + 6 * t + 4) 2 < m.1 (238 + 6 * t + 5) 2) → _)
    rw [g4, g5, g6]
    have hK : ∀ m' : Mem, (∀ q, q ≠ 263 → q ≠ 264 → q ≠ 265 → m'.1 q = m.1 q) → FDx (¬ a 3 = -1) X t (tn (a 1)) (kdA a) (mnA a) (m'.1 265) → K (b2 (bgn X a w)) m' := hK
    rcases c5 2 (by omega) with ⟨k, fr, ti, hL⟩ | hL
    · have hv : bgn X a w = lawV X t 2 (nmW (kdA a) (mnA a) w w 0) := by
        unfold bgn
        rw [if_neg e3, et, if_pos (show X (238 + 6 * t + 4) 2 < X (238 + 6 * t + 5) 2 from hL.has)]
      rw [hv] at hK
      have T := kC_mayT G d _ e3 t 2 w w 0 0 C k fr ti m a K X r h h4 hw hw (by omega) (by omega) rfl hL rfl hX hF hK
      refine ⟨fun _ => ⟨fun q => absurd rfl q, fun _ => ⟨fun _ => ?_, fun _ => ?_⟩⟩, fun q => absurd hL.has q⟩
      · rw [show imin (nI 0) 1 = nI 0 from imin_nI (a := 0) (b := 1) (by omega) (by omega)]
        rintro _ rfl
        rw [ix]
        rintro _ rfl
        exact T
      · rw [ix]
        rintro _ rfl
        exact T
    · refine ⟨fun q => absurd q hL.2, fun _ => ?_⟩
      have := hK m (fun _ _ _ _ => rfl) hF
      unfold bgn at this
      rw [if_neg e3, et, if_neg (show ¬ X (238 + 6 * t + 4) 2 < X (238 + 6 * t + 5) 2 from hL.2)] at this
      exact this
  · have hm1 : ¬ nI x = -1 := m1_ne x (by omega)
    refine ⟨fun _ => ⟨vp_in_dec (by decide), ?_⟩, fun q => absurd q hm1⟩
    show ((m.1 (238 + 6 * t + 4) 1 < m.1 (238 + 6 * t + 5) 1) → _) ∧ (¬ (m.1 (238 + 6 * t + 4) 1 < m.1 (238 + 6 * t + 5) 1) → _)
    rw [g4, g5, g6]
    have hK : ∀ m' : Mem, (∀ q, q ≠ 263 → q ≠ 264 → q ≠ 265 → m'.1 q = m.1 q) → FDx (¬ a 3 = -1) X t (tn (a 1)) (kdA a) (mnA a) (m'.1 265) → K (b2 (fol X a x w P)) m' := hK
    rcases c5 1 (by omega) with ⟨k, fr, ti, hL⟩ | hL
    · have hv : fol X a x w P = lawV X t 1 (nmW (kdA a) (mnA a) x w P) := by
        unfold fol flw
        rw [if_neg e3, et, if_pos (show X (238 + 6 * t + 4) 1 < X (238 + 6 * t + 5) 1 from hL.has)]
      rw [hv] at hK
      refine ⟨fun _ => ⟨fun _ => ⟨fun q0 => ?_, fun _ => ?_⟩, fun q => absurd q hm1⟩, fun q => absurd hL.has q⟩
      · rw [show imin (nI P) 1 = nI 1 from (imin_nI (b := 1) (by omega) (by omega)).trans (congrArg nI (by omega)), show laI (some x) = nI x from rfl]
        rintro _ rfl
        rw [ix]
        rintro _ rfl
        refine kC_mayT G d _ e3 t 1 x w 1 P C k fr ti m a K X r h h4 hx hw (by omega) (by omega) rfl hL ?_ hX hF hK
        refine hL.congr (fun v _ h12 => ?_)
        unfold nmW
        by_cases z : v = 12
        · exact absurd q0 (h12 z)
        · rw [if_neg z, if_neg z]
      · rw [show laI (some x) = nI x from rfl, ix]
        rintro _ rfl
        exact kC_mayT G d _ e3 t 1 x w P P C k fr ti m a K X r h h4 hx hw hP24 (by omega) (by rw [if_neg (by omega)]) hL rfl hX hF hK
    · refine ⟨fun q => absurd q hL.2, fun _ => ?_⟩
      have := hK m (fun _ _ _ _ => rfl) hF
      unfold fol flw at this
      rw [if_neg e3, et, if_neg (show ¬ X (238 + 6 * t + 4) 1 < X (238 + 6 * t + 5) 1 from hL.2)] at this
      exact this
def hasG (X : Nat → Nat → Int32) (a : Nat → Int32) : Prop := ¬ a 3 = -1 ∧ (hasL X (tn (a 3)) 1 ∨ hasL X (tn (a 3)) 2)
theorem kC_hasG (G : GP) (d : Nat) (m : Mem) (a : Nat → Int32) (K : Int32 → Mem → Prop) (X : Nat → Nat → Int32) (r : RC m.1 0 a) (h : WF a) (hX : ∀ q, 238 ≤ q → q ≤ 261 → m.1 q = X q) (hy : hasG X a → K 1 m) (hn : ¬ hasG X a → K 0 m) : Evi G (d + 2) mX1_hasGrammar [.ref (ga G 262)] m K := by
  refine vX1_hasGrammar G d m K ?_
  refine kC_ruling G d m a _ r h (fun e => ⟨fun _ => hn (fun z => z.1 e), fun t3 q => by cases q⟩) (fun t ht h4 e => ⟨fun q => (by cases q), fun t3 q => ?_⟩)
  injection q with q
  subst q
  have et : tn (a 3) = t := by rw [e]; exact tn_nI (by omega)
  have e3 : ¬ a 3 = -1 := by rw [e]; exact m1_ne t (by omega)
  unfold hasG at hy hn
  rw [et] at hy hn
  refine ⟨tx_all t h4, vp_in_dec (by decide), ?_⟩
  show ((m.1 (238 + 6 * t + 4) 1 < m.1 (238 + 6 * t + 5) 1) → _) ∧ (¬ (m.1 (238 + 6 * t + 4) 1 < m.1 (238 + 6 * t + 5) 1) → vp_in 2 3 ∧ ((m.1 (238 + 6 * t + 4) 2 < m.1 (238 + 6 * t + 5) 2) → _) ∧ (¬ (m.1 (238 + 6 * t + 4) 2 < m.1 (238 + 6 * t + 5) 2) → _))
  rw [hX (238 + 6 * t + 4) (by omega) (by omega), hX (238 + 6 * t + 5) (by omega) (by omega)]
  exact ⟨fun q => hy ⟨e3, Or.inl q⟩, fun q => ⟨vp_in_dec (by decide), fun q2 => hy ⟨e3, Or.inr q2⟩, fun q2 => hn (fun z => z.2.elim q q2)⟩⟩
theorem noG {X : Nat → Nat → Int32} {a : Nat → Int32} (h : ¬ hasG X a) : (∀ w, bgn X a w = true) ∧ ∀ x w p, fol X a x w p = true := by
  by_cases e : a 3 = -1
  · exact ⟨fun w => by unfold bgn; rw [if_pos e], fun x w p => by unfold fol; rw [if_pos e]⟩
  · have h1 : ¬ hasL X (tn (a 3)) 1 := fun z => h ⟨e, Or.inl z⟩
    have h2 : ¬ hasL X (tn (a 3)) 2 := fun z => h ⟨e, Or.inr z⟩
    exact ⟨fun w => by unfold bgn; rw [if_neg e, if_neg (show ¬ X (238 + 6 * tn (a 3) + 4) 2 < X (238 + 6 * tn (a 3) + 5) 2 from h2)], fun x w p => by unfold fol flw; rw [if_neg e, if_neg (show ¬ X (238 + 6 * tn (a 3) + 4) 1 < X (238 + 6 * tn (a 3) + 5) 1 from h1)]⟩
/-! WHAT HOLDS OF TEXTS AND OF WHAT WAS FOUND -/
def TXc (f : Nat → Nat → Int32) : Prop := tn (f 275 2) ≤ tn (f 274 2) ∧ (∀ t, t < tn (f 274 2) → TT f t) ∧ f 1 5 = f 274 2 ∧ bd (f 1 5) 0 4 ∧ (f 1 6 = -1 ∨ ∃ t, t < tn (f 1 5) ∧ f 1 6 = nI t) ∧ FDx (¬ f 1 6 = -1) f (tn (f 1 6)) (tn (f 2 4)) (f 8) (f 9) (f 265)
theorem FDx.fr {R R' : Prop} {X Y : Nat → Nat → Int32} {t nw nw' : Nat} {Kd Mn Kd' Mn' g : Nat → Int32} (h : FDx R X t nw Kd Mn g) (hR : R → R') (hT : R → TT X t) (hE : R → TxEq X Y t) (hn : nw ≤ nw') (hk : ∀ x, x < nw → Kd' x = Kd x) (hm : ∀ x, x < nw → Mn' x = Mn x) : FDx R' Y t nw' Kd' Mn' g := by
  intro p x w h1 h2 h3 h4
  obtain ⟨g0, g1, g2, g3, g4⟩ := h p x w h1 h2 h3 h4
  have hl : (if p = 0 then 2 else 1) < 3 := by split <;> omega
  refine ⟨hR g0, by omega, by omega, ?_, ?_⟩
  · unfold hasL at g3 ⊢
    rw [(hE g0).1 _ (by omega) (by omega), (hE g0).1 _ (by omega) (by omega)]
    exact g3
  · rw [g4, (hE g0).elaw (hT g0) hl g3, nmW_congr (hk x g1) (hm x g1) (hk w g2) (hm w g2)]
theorem FDx.cg {R R' : Prop} {X : Nat → Nat → Int32} {t nw : Nat} {Kd Mn Kd' Mn' g : Nat → Int32} (h : FDx R X t nw Kd Mn g) (hR : R → R') (hk : ∀ x, x < nw → Kd' x = Kd x) (hm : ∀ x, x < nw → Mn' x = Mn x) : FDx R' X t nw Kd' Mn' g := by
  intro p x w h1 h2 h3 h4
  obtain ⟨g0, g1, g2, g3, g4⟩ := h p x w h1 h2 h3 h4
  exact ⟨hR g0, g1, g2, g3, by rw [g4, nmW_congr (hk x g1) (hm x g1) (hk w g2) (hm w g2)]⟩
theorem FDx.zero {R : Prop} {X : Nat → Nat → Int32} {t nw : Nat} {Kd Mn g : Nat → Int32} (h : ∀ i, i < 2400 → g i = 0) : FDx R X t nw Kd Mn g := fun p x w h1 h2 h3 h4 => absurd (h _ (by omega)) h4
theorem TXc_ok : TXok TXc := by
  intro f g hs ⟨a1, a2, a3, a4, a5, a7⟩
  obtain ⟨s1, s2, s3, s4, s5, s6⟩ := hs
  have e : ∀ t, t < 4 → TxEq f g t := fun t ht => ⟨fun q h1 h2 => s1 q (Or.inl ⟨by omega, by omega⟩), fun i _ _ => by rw [s1 276 (Or.inr (Or.inr (Or.inl rfl)))]⟩
  have h4 : tn (f 274 2) ≤ 4 := by rw [← a3]; exact (a4.is (by omega)).2.2
  refine ⟨by rw [s5, s6]; exact a1, fun t ht => ?_, by rw [s2, s5]; exact a3, by rw [s2]; exact a4, by rw [s2, s3]; exact a5, ?_⟩
  · rw [s5] at ht
    exact (a2 t ht).fr (e t (by omega))
  · rw [s3, s4, s1 265 (Or.inr (Or.inl rfl)), s1 8 (Or.inr (Or.inr (Or.inr (Or.inl rfl)))), s1 9 (Or.inr (Or.inr (Or.inr (Or.inr rfl))))]
    have ht : ¬ f 1 6 = -1 → tn (f 1 6) < tn (f 274 2) := fun z => by
      rcases a5 with y | ⟨t, ht, y⟩
      · exact absurd y z
      · rw [a3] at ht
        rw [y, show tn (nI t) = t from tn_nI (by omega)]
        exact ht
    exact a7.fr _root_.id (fun z => a2 _ (ht z)) (fun z => e _ (by have := ht z; omega)) (Nat.le_refl _) (fun _ _ => rfl) (fun _ _ => rfl)
theorem TXc_word : TXword TXc := by
  intro f g w v u hw h2 h8 h9 h24 s1 s2 s3 s5 s6 ⟨a1, a2, a3, a4, a5, a7⟩
  have e : ∀ t, t < 4 → TxEq f g t := fun t ht => ⟨fun q h1 h2 => s1 q (Or.inl ⟨by omega, by omega⟩), fun i _ _ => by rw [s1 276 (Or.inr (Or.inr rfl))]⟩
  have h4 : tn (f 274 2) ≤ 4 := by rw [← a3]; exact (a4.is (by omega)).2.2
  refine ⟨by rw [s5, s6]; exact a1, fun t ht => ?_, by rw [s2, s5]; exact a3, by rw [s2]; exact a4, by rw [s2, s3]; exact a5, ?_⟩
  · rw [s5] at ht
    exact (a2 t ht).fr (e t (by omega))
  · rw [s3, s1 265 (Or.inr (Or.inl rfl)), h24, h8, h9, show tn (nI (w + 1)) = w + 1 from tn_nI (by omega)]
    rw [h2, show tn (nI w) = w from tn_nI (by omega)] at a7
    have ht : ¬ f 1 6 = -1 → tn (f 1 6) < tn (f 274 2) := fun z => by
      rcases a5 with y | ⟨t, ht, y⟩
      · exact absurd y z
      · rw [a3] at ht
        rw [y, show tn (nI t) = t from tn_nI (by omega)]
        exact ht
    exact a7.fr _root_.id (fun z => a2 _ (ht z)) (fun z => e _ (by have := ht z; omega)) (by omega) (fun x hx => upd_n _ _ (by omega)) (fun x hx => upd_n _ _ (by omega))
/-- what the invariant says of texts, in the model's words -/
abbrev FDa (X : Nat → Nat → Int32) (a : Nat → Int32) (g : Nat → Int32) : Prop := FDx (¬ a 3 = -1) X (tn (a 3)) (tn (a 1)) (kdA a) (mnA a) g
theorem Inv.tt {n : Nat} {f : Nat → Nat → Int32} (h : Inv TXc n f) : ∀ t, t < tn (f 274 2) → TT f t := h.2.2.2.2.2.2.1.2.1
theorem Inv.fd {n : Nat} {f : Nat → Nat → Int32} (h : Inv TXc n f) : FDa f (f 274) (f 265) := by
  have r := h.2.2.1
  have a7 := h.2.2.2.2.2.2.1.2.2.2.2.2
  rw [show f 1 6 = f 274 3 from r.ru, show f 2 4 = f 274 1 from r.nw] at a7
  exact a7.cg _root_.id (fun x hx => (show f 8 x = _ from r.kind x hx).symm) (fun x hx => (show f 9 x = _ from r.means x hx).symm)
/-- only paper and what was found change -/
def FsF (f g : Nat → Nat → Int32) : Prop := ∀ c, ¬ Scr c → c ≠ 265 → g c = f c
theorem FsF.rf (f : Nat → Nat → Int32) : FsF f f := fun _ _ _ => rfl
theorem FsF.tr {f g h : Nat → Nat → Int32} (a : FsF f g) (b : FsF g h) : FsF f h := fun c hc h5 => (b c hc h5).trans (a c hc h5)
theorem Inv.fnd {n : Nat} {f g : Nat → Nat → Int32} (h : Inv TXc n f) (hg : FsF f g) (hd : FDa f (f 274) (g 265)) : Inv TXc n g := by
  obtain ⟨a1, a2, a3, a4, a5, a6, a7, a8, a9⟩ := h
  have e : ∀ c, ¬ Scr c → c ≠ 265 → g c = f c := hg
  have e4 : g 274 = f 274 := hg 274 (by unfold Scr; omega) (by omega)
  have e5 : g 275 = f 275 := hg 275 (by unfold Scr; omega) (by omega)
  have e3 : g 273 = f 273 := hg 273 (by unfold Scr; omega) (by omega)
  have eT : ∀ t, t < 4 → TxEq f g t := fun t ht => ⟨fun q h1 h2 => hg q (by unfold Scr; omega) (by omega), fun i _ _ => by rw [hg 276 (by unfold Scr; omega) (by omega)]⟩
  refine ⟨by rw [e4]; exact a1, by rw [e5]; exact a2, ?_, ?_, a5.fr ?_ ?_ ?_ ?_, a6.fr ?_ ?_ ?_, ?_, by rw [e4]; exact a8, by rw [e5]; exact a9⟩
  · rw [e4]; exact a3.fr (fun c h1 h2 h3 h4 => hg c (by unfold Scr; omega) (by omega))
  · rw [e5]; exact a4.fr (fun c h1 h2 h3 h4 => hg c (by unfold Scr; omega) (by omega))
  · rw [hg 228 (by unfold Scr; omega) (by omega)]
  · rw [e3]
  · rw [hg 278 (by unfold Scr; omega) (by omega)]
  · rw [hg 229 (by unfold Scr; omega) (by omega)]
  · rw [hg 233 (by unfold Scr; omega) (by omega)]
  · rw [e3]
  · rw [e3]
  · obtain ⟨b1, b2, b3, b4, b5, b7⟩ := a7
    have h4 : tn (f 274 2) ≤ 4 := by rw [← b3]; exact (b4.is (by omega)).2.2
    have g1 : g 1 = f 1 := hg 1 (by unfold Scr; omega) (by omega)
    have g2 : g 2 = f 2 := hg 2 (by unfold Scr; omega) (by omega)
    have g8 : g 8 = f 8 := hg 8 (by unfold Scr; omega) (by omega)
    have g9 : g 9 = f 9 := hg 9 (by unfold Scr; omega) (by omega)
    refine ⟨by rw [e4, e5]; exact b1, fun t ht => ?_, by rw [g1, e4]; exact b3, by rw [g1]; exact b4, by rw [g1]; exact b5, ?_⟩
    · rw [e4] at ht
      exact (b2 t ht).fr (eT t (by omega))
    · rw [g1, g2, g8, g9, show f 1 6 = f 274 3 from a3.ru, show f 2 4 = f 274 1 from a3.nw]
      have ht : ¬ f 274 3 = -1 → tn (f 274 3) < tn (f 274 2) := fun z => by
        rcases a1.ru with y | ⟨t, ht, y⟩
        · exact absurd y z
        · rw [y, show tn (nI t) = t from tn_nI (by omega)]
          exact ht
      exact FDx.fr hd _root_.id (fun z => b2 _ (ht z)) (fun z => eT _ (by have := ht z; omega)) (Nat.le_refl _) (fun x hx => (show f 8 x = _ from a3.kind x hx)) (fun x hx => (show f 9 x = _ from a3.means x hx))
