/-! THE STATE THAT PLAYS GO ON FROM: the class (St), the model (Mo), and back to the invariant -/
def FrP (f g : Nat → Nat → Int32) : Prop := ∀ c, 114 ≤ c → ¬ Scr c → c ≠ 265 → g c = f c
theorem FrP.rf (f : Nat → Nat → Int32) : FrP f f := fun _ _ _ _ => rfl
theorem FrP.tr {f g h : Nat → Nat → Int32} (a : FrP f g) (b : FrP g h) : FrP f h := fun c h1 h2 h3 => (b c h1 h2 h3).trans (a c h1 h2 h3)
theorem FrS.p {f g : Nat → Nat → Int32} (h : FrS f g) : FrP f g := fun c h1 _ _ => h c (by omega)
def St (X : Nat → Nat → Int32) (m : Mem) (a : Nat → Int32) : Prop := RC m.1 0 a ∧ WF a ∧ (∀ q, 238 ≤ q → q ≤ 261 → m.1 q = X q) ∧ (∀ t, t < tn (a 2) → TT X t) ∧ FDa X a (m.1 265)
def FrM (f g : Nat → Nat → Int32) : Prop := ∀ c, c ≠ 274 → ¬ Scr c → g c = f c
theorem FrM.rf (f : Nat → Nat → Int32) : FrM f f := fun _ _ _ => rfl
theorem FrM.tr {f g h : Nat → Nat → Int32} (a : FrM f g) (b : FrM g h) : FrM f h := fun c h1 h2 => (b c h1 h2).trans (a c h1 h2)
def Mo (X : Nat → Nat → Int32) (m : Mem) (a : Nat → Int32) : Prop := m.1 274 = a ∧ WF a ∧ m.1 276 = X 276 ∧ ∀ t, t < tn (a 2) → TT X t
/-- what of the row the found grammar looks at -/
def GrS (a b : Nat → Int32) : Prop := b 1 = a 1 ∧ b 2 = a 2 ∧ b 3 = a 3 ∧ ∀ i, 34 ≤ i → i < 124 → b i = a i
theorem GrS.rf (a : Nat → Int32) : GrS a a := ⟨rfl, rfl, rfl, fun _ _ _ => rfl⟩
theorem GrS.tr {a b c : Nat → Int32} (h : GrS a b) (k : GrS b c) : GrS a c := ⟨k.1.trans h.1, k.2.1.trans h.2.1, k.2.2.1.trans h.2.2.1, fun i h1 h2 => (k.2.2.2 i h1 h2).trans (h.2.2.2 i h1 h2)⟩
theorem GrS.fd {X : Nat → Nat → Int32} {a b g : Nat → Int32} (h : GrS a b) (hW : WF a) (hd : FDa X a g) : FDa X b g := by
  have h10 := hW.nw10
  show FDx (¬ b 3 = -1) X (tn (b 3)) (tn (b 1)) (kdA b) (mnA b) g
  rw [h.1, h.2.2.1]
  exact FDx.cg hd _root_.id (fun x hx => h.2.2.2 _ (by omega) (by omega)) (fun x hx => h.2.2.2 _ (by omega) (by omega))
theorem St.go {X : Nat → Nat → Int32} {m m' : Mem} {a b : Nat → Int32} (h : St X m a) (r : RC m'.1 0 b) (hW : WF b) (hg : GrS a b) (hF : FrP m.1 m'.1) (h5 : m'.1 265 = m.1 265) : St X m' b := by
  obtain ⟨s1, s2, s3, s4, s5⟩ := h
  refine ⟨r, hW, fun q h1 h2 => ?_, fun t ht => s4 t (by rw [← hg.2.1]; exact ht), ?_⟩
  · rw [hF q (by omega) (by unfold Scr; omega) (by omega)]; exact s3 q h1 h2
  · rw [h5]; exact hg.fd s2 s5
theorem Mo.go {X : Nat → Nat → Int32} {m m' : Mem} {a b : Nat → Int32} (h : Mo X m a) (e : m'.1 274 = b) (hW : WF b) (h2 : b 2 = a 2) (hF : FrM m.1 m'.1) : Mo X m' b := by
  obtain ⟨s1, s2, s3, s4⟩ := h
  exact ⟨e, hW, by rw [hF 276 (by omega) (by unfold Scr; omega)]; exact s3, fun t ht => s4 t (by rw [← h2]; exact ht)⟩
theorem Inv.st {n : Nat} {m : Mem} (h : Inv TXc n m.1) : St m.1 m (m.1 274) := ⟨h.2.2.1, h.1, fun _ _ _ => rfl, h.tt, h.fd⟩
theorem Inv.mo {n : Nat} {f : Nat → Nat → Int32} {m1 : Mem} (h : Inv TXc n f) (hF : FrP f m1.1) : Mo f m1 (f 274) := ⟨hF 274 (by omega) (by unfold Scr; omega) (by omega), h.1, hF 276 (by omega) (by unfold Scr; omega) (by omega), h.tt⟩
theorem Inv.fin {n : Nat} {f : Nat → Nat → Int32} {m1 m2 : Mem} {a' : Nat → Int32} (h : Inv TXc n f) (hS : St f m1 a') (hF : FrP f m1.1) (hM : Mo f m2 a') (hG : FrM m1.1 m2.1) (h2 : a' 2 = f 274 2) (h13 : tn (a' 13) ≤ 40 * (n + 1)) : Inv TXc (n + 1) m2.1 := by
  obtain ⟨a1, a2, a3, a4, a5, a6, a7, a8, a9⟩ := h
  obtain ⟨s1, s2, s3, s4, s5⟩ := hS
  obtain ⟨e4, -, -, -⟩ := hM
  have hg : ∀ c, 114 ≤ c → c ≠ 274 → ¬ Scr c → c ≠ 265 → m2.1 c = f c := fun c h1 h2 h3 h4 => (hG c h2 h3).trans (hF c h1 h3 h4)
  have hw : ∀ c, c < 114 → c ≠ 10 → c ≠ 11 → m2.1 c = m1.1 c := fun c h1 h2 h3 => hG c (by omega) (by unfold Scr; omega)
  have e5 : m2.1 275 = f 275 := hg 275 (by omega) (by omega) (by unfold Scr; omega) (by omega)
  have e3 : m2.1 273 = f 273 := hg 273 (by omega) (by omega) (by unfold Scr; omega) (by omega)
  have eT : ∀ t, t < 4 → TxEq f m2.1 t := fun t ht => ⟨fun q h1 h2 => hg q (by omega) (by omega) (by unfold Scr; omega) (by omega), fun i _ _ => by rw [hg 276 (by omega) (by omega) (by unfold Scr; omega) (by omega)]⟩
  have r2 : RC m2.1 0 a' := s1.fr (fun c h1 h2 h3 h4 => hw c (by omega) (by omega) (by omega))
  refine ⟨by rw [e4]; exact s2, by rw [e5]; exact a2, by rw [e4]; exact r2, ?_, a5.fr ?_ ?_ ?_ ?_, a6.fr ?_ ?_ ?_, ?_, by rw [e4]; exact h13, by rw [e5]; omega⟩
  · rw [e5]; exact a4.fr (fun c h1 h2 h3 h4 => hg c (by omega) (by omega) (by unfold Scr; omega) (by omega))
  · rw [hg 228 (by omega) (by omega) (by unfold Scr; omega) (by omega)]
  · rw [e3]
  · rw [hg 278 (by omega) (by omega) (by unfold Scr; omega) (by omega)]
  · rw [hg 229 (by omega) (by omega) (by unfold Scr; omega) (by omega)]
  · rw [hg 233 (by omega) (by omega) (by unfold Scr; omega) (by omega)]
  · rw [e3]
  · rw [e3]
  · obtain ⟨b1, b2, b3, b4, b5, b7⟩ := a7
    have h4 : tn (a' 2) ≤ 4 := (s2.nt.is (by omega)).2.2
    have g5 : m2.1 1 5 = a' 2 := r2.nt
    have g6 : m2.1 1 6 = a' 3 := r2.ru
    refine ⟨by rw [e4, e5, h2]; exact b1, fun t ht => ?_, by rw [g5, e4], by rw [g5]; exact s2.nt, by rw [g5, g6]; exact s2.ru, ?_⟩
    · rw [e4] at ht
      exact (s4 t ht).fr (eT t (by omega))
    · have ht : ¬ a' 3 = -1 → tn (a' 3) < tn (a' 2) := fun z => by
        rcases s2.ru with y | ⟨t, ht, y⟩
        · exact absurd y z
        · rw [y, show tn (nI t) = t from tn_nI (by omega)]
          exact ht
      rw [g6, show m2.1 2 4 = a' 1 from r2.nw, hG 265 (by omega) (by unfold Scr; omega)]
      exact FDx.fr s5 _root_.id (fun z => s4 _ (ht z)) (fun z => eT _ (by have := ht z; omega)) (Nat.le_refl _) (fun x hx => (show m2.1 8 x = _ from r2.kind x hx)) (fun x hx => (show m2.1 9 x = _ from r2.means x hx))
theorem keep_gr {a : Nat → Int32} (h : WF a) : GrS a (keepF a) := by
  have n30 := (h.ns.is (by omega)).2.2
  exact ⟨keepF_lo n30 (by omega) (by omega), keepF_lo n30 (by omega) (by omega), keepF_lo n30 (by omega) (by omega), fun i h1 h2 => keepF_lo n30 (by omega) (by omega)⟩
theorem keep_i {a : Nat → Int32} (h : WF a) {i : Nat} (h1 : i < 188) (h4 : i ≠ 4) : keepF a i = a i := keepF_lo (h.ns.is (by omega)).2.2 (by omega) h4
theorem str_gr {a : Nat → Int32} (hs : tn (a 14) < 24) (b : Nat) (o : Bool) : GrS a (strF a b o) := ⟨strF_i hs (by omega) (by omega), strF_i hs (by omega) (by omega), strF_i hs (by omega) (by omega), fun i h1 h2 => strF_i hs (by omega) (by omega)⟩
theorem kP_keep (G : GP) (d : Nat) (X : Nat → Nat → Int32) (m : Mem) (a : Nat → Int32) (K : Mem → Prop) (h : St X m a) (hK : ∀ m' : Mem, St X m' (keepF a) → FrP m.1 m'.1 → K m') : Evv G (d + 3) mX10_keepStep [.ref (ga G 1)] m K :=
  kC_keep G d m a K h.1 h.2.1 (fun m' r f => hK m' (h.go r h.2.1.keep (keep_gr h.2.1) f.p (f 265 (by omega))) f.p)
theorem qP_keep (G : GP) (d : Nat) (X : Nat → Nat → Int32) (m : Mem) (a : Nat → Int32) (K : Mem → Prop) (h : Mo X m a) (hK : ∀ m' : Mem, Mo X m' (keepF a) → FrM m.1 m'.1 → K m') : Evv G d mX12_keep [.ref (ga G 273)] m K := by
  obtain ⟨e, hW, h2, h3⟩ := id h
  refine qX12_keep G d m K (by rw [e]; exact hW.ns) ?_
  rw [e]
  have f : FrM m.1 (wA m 274 (keepF a)).1 := fun c h1 _ => wA_n _ _ h1
  exact hK _ (h.go (wA_s _ _ _) hW.keep (keep_gr hW).2.1 f) f
/-! ring -/
def okB (a : Nat → Int32) (b : Nat) : Prop := menB a b ≤ tn (a 11) ∧ tn (a 14) < 24
theorem kP_strike (G : GP) (d : Nat) (X : Nat → Nat → Int32) (b : Nat) (m : Mem) (a : Nat → Int32) (K : Int32 → Mem → Prop) (h : St X m a) (hs : tn (a 14) < 24) (hb : b < tn (a 0)) (hK : ∀ m' : Mem, St X m' (strF a b (ovN X a b)) → FrP m.1 m'.1 → K (b2 (ovN X a b)) m') : Evi G (d + 4) mX11_strike [.ref (ga G 0), .int (nI b)] m K :=
  kC_strike G d b m a K X h.1 h.2.1 hs hb h.2.2.2.1 h.2.2.1 (fun m' r f => by
    have f' : FrP m.1 m'.1 := fun c h1 h2 h3 => f c (by omega) (by omega) (fun e => h2 (by unfold Scr; omega)) (fun e => h2 (by unfold Scr; omega))
    exact hK m' (h.go r (h.2.1.strF hs hb _) (str_gr hs _ _) f' (f 265 (by omega) (by omega) (by omega) (by omega))) f')
theorem qP_ringNow (G : GP) (d : Nat) (X : Nat → Nat → Int32) (b : Nat) (m : Mem) (a : Nat → Int32) (K : Int32 → Mem → Prop) (h : Mo X m a) (hs : tn (a 14) < 24) (hb : b < tn (a 0)) (hK : ∀ m' : Mem, Mo X m' (strF a b (ovN X a b)) → FrM m.1 m'.1 → K (b2 (ovN X a b)) m') : Evi G (d + 5) mX12_ringNow [.ref (ga G 273), .int (nI b)] m K := by
  obtain ⟨e, hW, h2, h3⟩ := id h
  subst e
  refine qX12_ringNow G d b m K X hW hs hb h3 h2 (fun m' e f => ?_)
  have f' : FrM m.1 m'.1 := fun c h1 h2 => f c h1 (fun e => h2 (by unfold Scr; omega)) (fun e => h2 (by unfold Scr; omega))
  exact hK m' (h.go e (hW.strF hs hb _) (str_gr hs _ _).2.1 f') f'
theorem kC_canB (G : GP) (d : Nat) (b : Nat) (m : Mem) (a : Nat → Int32) (K : Int32 → Mem → Prop) (r : RC m.1 0 a) (h : WF a) (hb : b < tn (a 0)) (hy : okB a b → K 1 m) (hn : ¬ okB a b → K 0 m) : Evi G (d + 1) mX10_canStrike [.ref (ga G 1), .int (nI b)] m K := by
  have h6 := h.nb6
  obtain ⟨b1, b2, b3⟩ := h.menB hb
  obtain ⟨d1, d2, d3⟩ := h.hd.is (by omega)
  have e0 : m.1 2 0 = nI (tn (a 0)) := r.nb.trans h.nbE
  have e5 : m.1 5 b = nI (menB a b) := (show m.1 5 b = _ from r.men b hb).trans b1
  have e4 : m.1 1 4 = nI (tn (a 11)) := (show m.1 1 4 = _ from r.hd).trans d1
  have n14 := h.now.nr.is (by omega)
  have e12 : m.1 12 4 = nI (tn (a 14)) := (show m.1 12 4 = a 14 from r.now.nr).trans n14.1
  have b14 : tn (a 14) ≤ 24 := n14.2.2
  refine vX10_canStrike G d (nI b) m K ⟨fun _ => ?_, fun q => absurd (by rw [e0]; exact (one_nI (by omega)).mpr ⟨b, hb, rfl⟩) q⟩
  rw [tn_nI (by omega), e5, e4, e12, lt_nI (by omega) (by omega), show (24 : Int32) = nI 24 from rfl, le_nI (by omega) (by omega)]
  unfold okB at hy hn
  exact ⟨in_nI (by omega) (by omega), fun q => hn (fun z => by omega), fun q => ⟨fun q2 => hn (fun z => by omega), fun q2 => hy ⟨by omega, by omega⟩⟩⟩
theorem qX12_canB (G : GP) (d : Nat) (b : Nat) (m : Mem) (K : Int32 → Mem → Prop) (h : WF (m.1 274)) (hb : b < tn (m.1 274 0)) (hy : okB (m.1 274) b → K 1 m) (hn : ¬ okB (m.1 274) b → K 0 m) : Evi G (d + 1) mX12_canRing [.ref (ga G 273), .int (nI b)] m K := by
  have h6 := h.nb6
  obtain ⟨b1, b2, b3⟩ := h.menB hb
  obtain ⟨d1, d2, d3⟩ := h.hd.is (by omega)
  have n14 := h.now.nr.is (by omega)
  have e12 : m.1 274 14 = nI (tn (m.1 274 14)) := n14.1
  have b14 : tn (m.1 274 14) ≤ 24 := n14.2.2
  have i2 : (16 : Int32) + 3 * nI b + 2 = nI (18 + 3 * b) := by
    simp only [lit, pk_mul, nI_add]
    exact congrArg nI (by omega)
  refine vX12_canRing G d (nI b) m K ?_
  rw [i2, tn_nI (by omega), b1, e12, d1, lt_nI (by omega) (by omega), show (24 : Int32) = nI 24 from rfl, le_nI (by omega) (by omega)]
  unfold okB at hy hn
  exact ⟨in_nI (by omega) (by omega), fun q => hn (fun z => by omega), fun q => ⟨fun q2 => hn (fun z => by omega), fun q2 => hy ⟨by omega, by omega⟩⟩⟩
noncomputable def rgF (X : Nat → Nat → Int32) (a : Nat → Int32) (b : Nat) : (Nat → Int32) × Int32 := (strF (keepF a) b (ovN X (keepF a) b), b2 (ovN X (keepF a) b))
/-- a is what came of the call -/
def RingR (X : Nat → Nat → Int32) (a : Nat → Int32) (x : Int32) (z : (Nat → Int32) × Int32) : Prop := (∃ b, b < tn (a 0) ∧ x = nI b ∧ okB a b ∧ z = rgF X a b) ∨ ((¬ ∃ b, b < tn (a 0) ∧ x = nI b ∧ okB a b) ∧ z = (a, -1))
theorem RingR.fn {X : Nat → Nat → Int32} {a : Nat → Int32} (h : WF a) {x : Int32} {z z' : (Nat → Int32) × Int32} (p : RingR X a x z) (q : RingR X a x z') : z = z' := by
  have h6 := h.nb6
  rcases p with ⟨b, b1, b2, b3, b4⟩ | ⟨p1, p2⟩ <;> rcases q with ⟨c, c1, c2, c3, c4⟩ | ⟨q1, q2⟩
  · have : b = c := (eq_nI (by omega) (by omega)).mp (b2.symm.trans c2)
    subst this
    rw [b4, c4]
  · exact absurd ⟨b, b1, b2, b3⟩ q1
  · exact absurd ⟨c, c1, c2, c3⟩ p1
  · rw [p2, q2]
theorem ok_keep {a : Nat → Int32} (h : WF a) {b : Nat} (hb : b < tn (a 0)) (ho : okB a b) : b < tn (keepF a 0) ∧ tn (keepF a 14) < 24 := by
  have h6 := h.nb6
  rw [keep_i h (by omega) (by omega), keep_i h (by omega) (by omega)]
  exact ⟨hb, ho.2⟩
theorem RingR.ok {X : Nat → Nat → Int32} {a : Nat → Int32} (h : WF a) {x : Int32} {z : (Nat → Int32) × Int32} (p : RingR X a x z) : WF z.1 ∧ GrS a z.1 ∧ z.1 13 = a 13 := by
  rcases p with ⟨b, b1, b2, b3, rfl⟩ | ⟨p1, rfl⟩
  · obtain ⟨k1, k2⟩ := ok_keep h b1 b3
    refine ⟨h.keep.strF k2 k1 _, (keep_gr h).tr (str_gr k2 _ _), ?_⟩
    show strF (keepF a) b _ 13 = _
    rw [strF_i k2 (by omega) (by omega), keep_i h (by omega) (by omega)]
  · exact ⟨h, GrS.rf a, rfl⟩
theorem kP_ring (G : GP) (d : Nat) (X : Nat → Nat → Int32) (x : Int32) (m : Mem) (a : Nat → Int32) (K : Int32 → Mem → Prop) (h : St X m a) (hK : ∀ (m' : Mem) (z : (Nat → Int32) × Int32), RingR X a x z → St X m' z.1 → FrP m.1 m'.1 → K z.2 m') : Evi G (d + 5) mX11_ring [.ref (ga G 0), .int x] m K := by
  have h6 := h.2.1.nb6
  refine vX11_ring G d x m K ?_
  have e0 : m.1 2 0 = nI (tn (a 0)) := h.1.nb.trans h.2.1.nbE
  by_cases hx : ∃ b, b < tn (a 0) ∧ x = nI b
  · obtain ⟨b, hb, rfl⟩ := hx
    refine kC_canB G (d + 3) b m a _ h.1 h.2.1 hb (fun ho => ⟨fun _ => ?_, fun q => absurd q (by decide)⟩) (fun ho => ⟨fun q => absurd rfl q, fun _ => ?_⟩)
    · obtain ⟨k1, k2⟩ := ok_keep h.2.1 hb ho
      refine kP_keep G (d + 1) X m a _ h (fun m1 s1 f1 => ?_)
      refine kP_strike G d X b m1 (keepF a) _ s1 k2 k1 (fun m2 s2 f2 => ?_)
      exact hK m2 (rgF X a b) (Or.inl ⟨b, hb, rfl, ho, rfl⟩) s2 (f1.tr f2)
    · refine hK m (a, -1) (Or.inr ⟨?_, rfl⟩) h (FrP.rf _)
      rintro ⟨c, c1, c2, c3⟩
      have : b = c := (eq_nI (by omega) (by omega)).mp c2
      subst this
      exact ho c3
  · refine vX10_canStrike G (d + 3) x m _ ⟨fun q => absurd ?_ hx, fun _ => ⟨fun q => absurd rfl q, fun _ => ?_⟩⟩
    · rw [e0] at q
      exact (one_nI (by omega)).mp q
    · exact hK m (a, -1) (Or.inr ⟨fun ⟨c, c1, c2, c3⟩ => hx ⟨c, c1, c2⟩, rfl⟩) h (FrP.rf _)
theorem qP_ring (G : GP) (d : Nat) (X : Nat → Nat → Int32) (x : Int32) (m : Mem) (a : Nat → Int32) (K : Int32 → Mem → Prop) (h : Mo X m a) (hK : ∀ (m' : Mem) (z : (Nat → Int32) × Int32), RingR X a x z → Mo X m' z.1 → FrM m.1 m'.1 → K z.2 m') : Evi G (d + 6) mX12_ring [.ref (ga G 273), .int x] m K := by
  obtain ⟨e, hW, h2, h3⟩ := id h
  subst e
  have h6 := hW.nb6
  refine vX12_ring G d x m K ?_
  rw [hW.nbE, oneM_nI (by omega)]
  refine ⟨?_, fun q => hK m (m.1 274, -1) (Or.inr ⟨fun ⟨c, c1, c2, c3⟩ => q ⟨c, c1, c2⟩, rfl⟩) h (FrM.rf _)⟩
  rintro ⟨b, hb, rfl⟩
  refine qX12_canB G (d + 4) b m _ hW hb (fun ho => ⟨fun _ => ?_, fun q => absurd q (by decide)⟩) (fun ho => ⟨fun q => absurd rfl q, fun _ => ?_⟩)
  · obtain ⟨k1, k2⟩ := ok_keep hW hb ho
    refine qP_keep G (d + 5) X m (m.1 274) _ h (fun m1 s1 f1 => ?_)
    refine qP_ringNow G d X b m1 _ _ s1 k2 k1 (fun m2 s2 f2 => ?_)
    exact hK m2 (rgF X (m.1 274) b) (Or.inl ⟨b, hb, rfl, ho, rfl⟩) s2 (f1.tr f2)
  · refine hK m (m.1 274, -1) (Or.inr ⟨?_, rfl⟩) h (FrM.rf _)
    rintro ⟨c, c1, c2, c3⟩
    have : b = c := (eq_nI (by omega) (by omega)).mp c2
    subst this
    exact ho c3
theorem case_ring (G : GP) (d : Nat) {n : Nat} (a0 : Int32) (m : Mem) (h : Inv TXc n m.1) : Evi G (d + 5) mX11_ring [.ref (ga G 0), .int a0] m (Same G TXc n (d + 6) mX12_ring [.int a0]) := by
  refine kP_ring G d m.1 a0 m (m.1 274) _ h.st (fun m1 z hz s1 f1 => ?_)
  refine qP_ring G d m.1 a0 m1 (m.1 274) _ (h.mo f1) (fun m2 z' hz' s2 f2 => ?_)
  have := hz.fn h.1 hz'
  subst this
  obtain ⟨o1, o2, o3⟩ := hz.ok h.1
  refine ⟨rfl, h.fin s1 f1 s2 f2 o2.2.1 ?_⟩
  rw [o3]
  have := h.2.2.2.2.2.2.2.1
  omega
