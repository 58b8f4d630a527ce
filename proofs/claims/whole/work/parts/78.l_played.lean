/-! PLAYED BY A TEXT -/
def GrW (a b : Nat → Int32) : Prop := b 2 = a 2 ∧ b 3 = a 3 ∧ tn (a 1) ≤ tn (b 1) ∧ ∀ x, x < tn (a 1) → b (34 + 9 * x) = a (34 + 9 * x) ∧ b (35 + 9 * x) = a (35 + 9 * x)
theorem GrS.w {a b : Nat → Int32} (h : GrS a b) (hW : WF a) : GrW a b := by
  have h10 := hW.nw10
  exact ⟨h.2.1, h.2.2.1, by rw [h.1]; exact Nat.le_refl _, fun x hx => ⟨h.2.2.2 _ (by omega) (by omega), h.2.2.2 _ (by omega) (by omega)⟩⟩
theorem GrW.tr {a b c : Nat → Int32} (h : GrW a b) (k : GrW b c) : GrW a c := ⟨k.1.trans h.1, k.2.1.trans h.2.1, Nat.le_trans h.2.2.1 k.2.2.1, fun x hx => ⟨(k.2.2.2 x (by have := h.2.2.1; omega)).1.trans (h.2.2.2 x hx).1, (k.2.2.2 x (by have := h.2.2.1; omega)).2.trans (h.2.2.2 x hx).2⟩⟩
theorem GrW.fd {X : Nat → Nat → Int32} {a b g : Nat → Int32} (h : GrW a b) (hd : FDa X a g) : FDa X b g := by
  intro p x w h1 h2 h3 h4
  obtain ⟨g0, g1, g2, g3, g4⟩ := hd p x w h1 h2 h3 h4
  rw [h.2.1]
  refine ⟨g0, by have := h.2.2.1; omega, by have := h.2.2.1; omega, g3, ?_⟩
  rw [g4, nmW_congr (Kd' := kdA b) (Mn' := mnA b) (h.2.2.2 x g1).1.symm (h.2.2.2 x g1).2.symm (h.2.2.2 w g2).1.symm (h.2.2.2 w g2).2.symm]
theorem St.goW {X : Nat → Nat → Int32} {m m' : Mem} {a b : Nat → Int32} (h : St X m a) (r : RC m'.1 0 b) (hW : WF b) (hg : GrW a b) (hF : FrP m.1 m'.1) (h5 : m'.1 265 = m.1 265) : St X m' b := by
  obtain ⟨s1, s2, s3, s4, s5⟩ := h
  refine ⟨r, hW, fun q h1 h2 => ?_, fun t ht => s4 t (by rw [← hg.1]; exact ht), ?_⟩
  · rw [hF q (by omega) (by unfold Scr; omega) (by omega)]; exact s3 q h1 h2
  · rw [h5]; exact hg.fd s5
/-- no answer, or a number -/
def NoN (r : Int32) : Prop := r = -1 ∨ ∃ n : Nat, n < 100 ∧ r = nI n
theorem NoN.lt {r : Int32} (h : NoN r) : r < 0 ↔ r = -1 := by
  rcases h with rfl | ⟨n, hn, rfl⟩
  · exact ⟨fun _ => rfl, fun _ => by decide⟩
  · exact ⟨fun q => absurd q (nI_pos (by omega)), fun q => absurd q (m1_ne n (by omega))⟩
-- a bell
def bellY (a : Nat → Int32) (x y z : Int32) : Prop := tn (a 0) < 6 ∧ (1 ≤ x ∧ x ≤ 9) ∧ (0 ≤ y ∧ y ≤ 9) ∧ (1 ≤ z ∧ z ≤ 9)
def bellA (a : Nat → Int32) (x y z : Int32) : Nat → Int32 := upd (upd (upd (upd a (16 + 3 * tn (a 0)) x) (17 + 3 * tn (a 0)) y) (18 + 3 * tn (a 0)) z) 0 (nI (tn (a 0) + 1))
def BelR (a : Nat → Int32) (x y z : Int32) (Z : (Nat → Int32) × Int32) : Prop := (bellY a x y z ∧ Z = (bellA a x y z, nI (tn (a 0)))) ∨ (¬ bellY a x y z ∧ Z = (a, -1))
theorem BelR.fn {a : Nat → Int32} {x y z : Int32} {Z Z' : (Nat → Int32) × Int32} (p : BelR a x y z Z) (q : BelR a x y z Z') : Z = Z' := by
  rcases p with ⟨p1, p2⟩ | ⟨p1, p2⟩ <;> rcases q with ⟨q1, q2⟩ | ⟨q1, q2⟩
  · rw [p2, q2]
  · exact absurd p1 q1
  · exact absurd q1 p1
  · rw [p2, q2]
theorem bellA_i {a : Nat → Int32} {x y z : Int32} (h : tn (a 0) < 6) {i : Nat} (h0 : i ≠ 0) (hi : i < 16 ∨ 34 ≤ i) : bellA a x y z i = a i := by
  unfold bellA
  simp (disch := omega) only [upd_n]
theorem BelR.ok {a : Nat → Int32} {x y z : Int32} {Z : (Nat → Int32) × Int32} (h : WF a) (p : BelR a x y z Z) : WF Z.1 ∧ GrW a Z.1 ∧ Z.1 13 = a 13 ∧ NoN Z.2 := by
  have h10 := h.nw10
  rcases p with ⟨p1, rfl⟩ | ⟨p1, rfl⟩
  · obtain ⟨b0, b1, b2, b3⟩ := p1
    refine ⟨h.bell1 rfl b0 (bd_of b1.1 b1.2 (by omega) (by omega)) (bd_of b2.1 b2.2 (by omega) (by omega)) (bd_of b3.1 b3.2 (by omega) (by omega)), ⟨bellA_i (i := 2) b0 (by omega) (by omega), bellA_i (i := 3) b0 (by omega) (by omega), ?_, fun w hw => ⟨bellA_i (i := 34 + 9 * w) b0 (by omega) (by omega), bellA_i (i := 35 + 9 * w) b0 (by omega) (by omega)⟩⟩, bellA_i (i := 13) b0 (by omega) (by omega), Or.inr ⟨_, by omega, rfl⟩⟩
    rw [show (bellA a x y z, nI (tn (a 0))).1 1 = a 1 from bellA_i (i := 1) b0 (by omega) (by omega)]
    exact Nat.le_refl _
  · exact ⟨h, (GrS.rf a).w h, rfl, Or.inl rfl⟩
theorem kP_bell (G : GP) (d : Nat) (X : Nat → Nat → Int32) (x y z : Int32) (m : Mem) (a : Nat → Int32) (K : Int32 → Mem → Prop) (h : St X m a) (hK : ∀ (m' : Mem) (Z : (Nat → Int32) × Int32), BelR a x y z Z → St X m' Z.1 → FrP m.1 m'.1 → K Z.2 m') : Evi G (d + 2) mX11_bell [.ref (ga G 0), .int x, .int y, .int z] m K := by
  have hW := h.2.1
  have h6 := hW.nb6
  have e0 : m.1 2 0 = nI (tn (a 0)) := h.1.nb.trans hW.nbE
  have no : ¬ bellY a x y z → K (-1) m := fun q => hK m (a, -1) (Or.inr ⟨q, rfl⟩) h (FrP.rf _)
  refine vX11_bell G d x y z m K (vX2_addBell G d x y z m K ?_)
  rw [e0, show (6 : Int32) = nI 6 from rfl, le_nI (by omega) (by omega)]
  refine ⟨fun q => no (fun b => by have := b.1; omega), fun q => ⟨fun q1 => ⟨fun q2 => ⟨fun q3 => ⟨in_nI (by omega) (by omega), ?_⟩, fun q3 => no (fun b => q3 b.2.2.2)⟩, fun q2 => no (fun b => q2 b.2.2.1)⟩, fun q1 => no (fun b => q1 b.2.1)⟩⟩
  have hb : bellY a x y z := ⟨by omega, q1, q2, q3⟩
  rw [tn_nI (by omega)]
  rintro m1 hm1
  have g1 : m1.1 2 0 = nI (tn (a 0)) := by rw [hm1, wI_n _ _ _ (by omega)]; exact e0
  rw [g1, tn_nI (by omega)]
  refine ⟨in_nI (by omega) (by omega), ?_⟩
  rintro m2 hm2
  have g2 : m2.1 2 0 = nI (tn (a 0)) := by rw [hm2, wI_n _ _ _ (by omega)]; exact g1
  rw [g2, tn_nI (by omega)]
  refine ⟨in_nI (by omega) (by omega), ?_⟩
  rintro m3 hm3
  have g3 : m3.1 2 0 = nI (tn (a 0)) := by rw [hm3, wI_n _ _ _ (by omega)]; exact g2
  rw [g3, nI_1]
  rintro m4 hm4
  have g4 : m4.1 2 0 = nI (tn (a 0) + 1) := by rw [hm4, wI_s, upd_s]
  rw [g4, nI_pred]
  have fP : FrP m.1 m4.1 := fun c h1 _ _ => by rw [hm4, wI_n _ _ _ (by omega), hm3, wI_n _ _ _ (by omega), hm2, wI_n _ _ _ (by omega), hm1, wI_n _ _ _ (by omega)]
  have B : BelR a x y z (bellA a x y z, nI (tn (a 0))) := Or.inl ⟨hb, rfl⟩
  obtain ⟨o1, o2, o3, o4⟩ := B.ok hW
  refine hK m4 _ B (h.goW (h.1.bell1 hW rfl hb.1 ?_ ?_ ?_ ?_ ?_) o1 o2 fP (by rw [hm4, wI_n _ _ _ (by omega), hm3, wI_n _ _ _ (by omega), hm2, wI_n _ _ _ (by omega), hm1, wI_n _ _ _ (by omega)])) fP
  · rw [hm4, wI_s, hm3, wI_n _ _ _ (by omega), hm2, wI_n _ _ _ (by omega), hm1, wI_n _ _ _ (by omega)]
  · rw [hm4, wI_n _ _ _ (by omega), hm3, wI_n _ _ _ (by omega), hm2, wI_n _ _ _ (by omega), hm1, wI_s]
  · rw [hm4, wI_n _ _ _ (by omega), hm3, wI_n _ _ _ (by omega), hm2, wI_s, hm1, wI_n _ _ _ (by omega)]
  · rw [hm4, wI_n _ _ _ (by omega), hm3, wI_s, hm2, wI_n _ _ _ (by omega), hm1, wI_n _ _ _ (by omega)]
  · intros
    rw [hm4, wI_n _ _ _ (by omega), hm3, wI_n _ _ _ (by omega), hm2, wI_n _ _ _ (by omega), hm1, wI_n _ _ _ (by omega)]
theorem qP_bell (G : GP) (d : Nat) (X : Nat → Nat → Int32) (x y z : Int32) (m : Mem) (a : Nat → Int32) (K : Int32 → Mem → Prop) (h : Mo X m a) (hK : ∀ (m' : Mem) (Z : (Nat → Int32) × Int32), BelR a x y z Z → Mo X m' Z.1 → FrM m.1 m'.1 → K Z.2 m') : Evi G (d + 1) mX12_bell [.ref (ga G 273), .int x, .int y, .int z] m K := by
  obtain ⟨e, hW, h2, h3⟩ := id h
  subst e
  have h6 := hW.nb6
  have no : ¬ bellY (m.1 274) x y z → K (-1) m := fun q => hK m (m.1 274, -1) (Or.inr ⟨q, rfl⟩) h (FrM.rf _)
  have e0 : m.1 274 0 = nI (tn (m.1 274 0)) := hW.nbE
  refine vX12_bell G d x y z m K ⟨fun q1 => ⟨fun q2 => ⟨fun q3 => ⟨fun q => ?_, fun q => no (fun b => ?_)⟩, fun q3 => no (fun b => q3 b.2.2.2)⟩, fun q2 => no (fun b => q2 b.2.2.1)⟩, fun q1 => no (fun b => q1 b.2.1)⟩
  · have q : tn (m.1 274 0) < 6 := by
      rcases Nat.lt_or_ge (tn (m.1 274 0)) 6 with z | z
      · exact z
      · exact absurd (e0.trans (congrArg nI (show tn (m.1 274 0) = 6 by omega))) q
    have hb : bellY (m.1 274) x y z := ⟨q, q1, q2, q3⟩
    have i0 : (16 : Int32) + 3 * m.1 274 0 = nI (16 + 3 * tn (m.1 274 0)) := by
      rw [e0, show tn (nI (tn (m.1 274 0))) = tn (m.1 274 0) from tn_nI (by omega)]
      simp only [lit, pk_mul, nI_add]
    have i1 : nI (16 + 3 * tn (m.1 274 0)) + 1 = nI (17 + 3 * tn (m.1 274 0)) := by rw [nI_1]; congr 1; omega
    have i2 : nI (16 + 3 * tn (m.1 274 0)) + 2 = nI (18 + 3 * tn (m.1 274 0)) := by rw [show (2 : Int32) = nI 2 from rfl, nI_add]; congr 1; omega
    rw [i0]
    rintro _ rfl
    rw [i1, i2, tn_nI (by omega), tn_nI (by omega), tn_nI (by omega)]
    refine ⟨in_nI (by omega) (by omega), ?_⟩
    rintro _ rfl
    refine ⟨in_nI (by omega) (by omega), ?_⟩
    rintro _ rfl
    refine ⟨in_nI (by omega) (by omega), ?_⟩
    rintro m4 hm4
    have g4 : m4.1 274 = upd (upd (upd (m.1 274) (16 + 3 * tn (m.1 274 0)) x) (17 + 3 * tn (m.1 274 0)) y) (18 + 3 * tn (m.1 274 0)) z := by rw [hm4, wI_s, wI_s, wI_s]
    have g0 : m4.1 274 0 = nI (tn (m.1 274 0)) := by
      rw [g4]
      simp (disch := omega) only [upd_n]
      exact e0
    rw [g0, nI_1]
    rintro m5 hm5
    have g5 : m5.1 274 = bellA (m.1 274) x y z := by rw [hm5, wI_s, g4]; rfl
    have r5 : m5.1 274 0 = nI (tn (m.1 274 0) + 1) := by rw [hm5, wI_s, upd_s]
    rw [r5, nI_pred]
    have B : BelR (m.1 274) x y z (bellA (m.1 274) x y z, nI (tn (m.1 274 0))) := Or.inl ⟨hb, rfl⟩
    obtain ⟨o1, o2, o3, o4⟩ := B.ok hW
    have fM : FrM m.1 m5.1 := fun c h1 _ => by rw [hm5, wI_n _ _ _ h1, hm4, wI_n _ _ _ h1, wI_n _ _ _ h1, wI_n _ _ _ h1]
    exact hK m5 _ B (h.go g5 o1 o2.1 fM) fM
  · have := b.1
    rw [e0] at q
    have q := (eq_nI (b := 6) (by omega) (by omega)).mp q
    omega
-- a word
theorem word_ok {a t : Nat → Int32} {kd mn : Int32} (h : WF a) : WF (wordF a t kd mn) ∧ GrW a (wordF a t kd mn) ∧ wordF a t kd mn 13 = a 13 ∧ NoN (wordR a t kd mn) := by
  have h10 := h.nw10
  refine ⟨h.word t kd mn, ?_⟩
  unfold wordF wordR
  by_cases y : wordY a t kd mn
  · rw [if_pos y, if_pos y]
    have hy := y.1
    have wi : ∀ i, i ≠ 1 → i < 34 + 9 * tn (a 1) ∨ 43 + 9 * tn (a 1) ≤ i → wordA a t kd mn (wc a t) (tn (a 1)) i = a i := fun i h1 h2 => by
      unfold wordA
      simp (disch := omega) only [upd_n, pt_out]
    refine ⟨⟨wi 2 (by omega) (by omega), wi 3 (by omega) (by omega), ?_, fun x hx => ⟨wi _ (by omega) (by omega), wi _ (by omega) (by omega)⟩⟩, wi 13 (by omega) (by omega), Or.inr ⟨_, by omega, rfl⟩⟩
    have : wordA a t kd mn (wc a t) (tn (a 1)) 1 = nI (tn (a 1) + 1) := by unfold wordA; exact upd_s _ _ _
    rw [this, show tn (nI (tn (a 1) + 1)) = tn (a 1) + 1 from tn_nI (by omega)]
    omega
  · rw [if_neg y, if_neg y]
    exact ⟨(GrS.rf a).w h, rfl, Or.inl rfl⟩
theorem kP_word (G : GP) (d : Nat) (X : Nat → Nat → Int32) (x0 x1 x2 x3 kd mn : Int32) (m : Mem) (a : Nat → Int32) (K : Int32 → Mem → Prop) (h : St X m a) (hK : ∀ m' : Mem, St X m' (wordF a (tl4 x0 x1 x2 x3) kd mn) → FrP m.1 m'.1 → K (wordR a (tl4 x0 x1 x2 x3) kd mn) m') : Evi G (d + 2) mX10_addWord [.ref (ga G 1), .int x0, .int x1, .int x2, .int x3, .int kd, .int mn] m K := by
  obtain ⟨o1, o2, o3, o4⟩ := word_ok (t := tl4 x0 x1 x2 x3) (kd := kd) (mn := mn) h.2.1
  refine kC_word G d x0 x1 x2 x3 kd mn m a K h.1 h.2.1 (fun m' r' f' _ _ => ?_)
  have fP : FrP m.1 m'.1 := fun c h1 _ _ => f' c (by omega) (by omega) (by omega) (by omega) (by omega) (by omega) (by omega)
  exact hK m' (h.goW r' o1 o2 fP (f' 265 (by omega) (by omega) (by omega) (by omega) (by omega) (by omega) (by omega))) fP
theorem qP_word (G : GP) (d : Nat) (X : Nat → Nat → Int32) (x0 x1 x2 x3 kd mn : Int32) (m : Mem) (a : Nat → Int32) (K : Int32 → Mem → Prop) (h : Mo X m a) (hK : ∀ m' : Mem, Mo X m' (wordF a (tl4 x0 x1 x2 x3) kd mn) → FrM m.1 m'.1 → K (wordR a (tl4 x0 x1 x2 x3) kd mn) m') : Evi G (d + 3) mX12_word [.ref (ga G 273), .int x0, .int x1, .int x2, .int x3, .int kd, .int mn] m K := by
  obtain ⟨e, hW, h2, h3⟩ := id h
  subst e
  obtain ⟨o1, o2, o3, o4⟩ := word_ok (t := tl4 x0 x1 x2 x3) (kd := kd) (mn := mn) hW
  refine qX12_word G d x0 x1 x2 x3 kd mn m K hW (fun m' e' f' _ => ?_)
  have fM : FrM m.1 m'.1 := fun c h1 h2 => f' c h1 (fun z => h2 (by unfold Scr; omega))
  exact hK m' (h.go e' o1 o2.1 fM) fM
-- wind, frost
theorem up_gr (b : Nat → Int32) {p : Nat} (v : Int32) (hp : p = 8 ∨ p = 9) : GrS b (upd b p v) := ⟨upd_n (j := 1) _ _ (by omega), upd_n (j := 2) _ _ (by omega), upd_n (j := 3) _ _ (by omega), fun i h1 h2 => upd_n _ _ (by omega)⟩
def SetR (a : Nat → Int32) (p : Nat) (v : Int32) (Z : (Nat → Int32) × Int32) : Prop := (((0 ≤ v ∧ v ≤ 9) ∧ ¬ a p = v) ∧ Z = (upd (keepF a) p v, 1)) ∨ (¬ ((0 ≤ v ∧ v ≤ 9) ∧ ¬ a p = v) ∧ Z = (a, 0))
theorem SetR.fn {a : Nat → Int32} {p : Nat} {v : Int32} {Z Z' : (Nat → Int32) × Int32} (h : SetR a p v Z) (k : SetR a p v Z') : Z = Z' := by
  rcases h with ⟨p1, p2⟩ | ⟨p1, p2⟩ <;> rcases k with ⟨q1, q2⟩ | ⟨q1, q2⟩
  · rw [p2, q2]
  · exact absurd p1 q1
  · exact absurd q1 p1
  · rw [p2, q2]
theorem SetR.ok {a : Nat → Int32} {p : Nat} {v : Int32} {Z : (Nat → Int32) × Int32} (h : WF a) (hp : p = 8 ∨ p = 9) (k : SetR a p v Z) : WF Z.1 ∧ GrS a Z.1 ∧ Z.1 13 = a 13 ∧ (Z.2 = 0 ∨ Z.2 = 1) := by
  rcases k with ⟨p1, rfl⟩ | ⟨p1, rfl⟩
  · refine ⟨?_, (keep_gr h).tr (up_gr _ v hp), ?_, Or.inr rfl⟩
    · rcases hp with rfl | rfl
      · exact h.keep.wind1 (bd_of p1.1.1 p1.1.2 (by omega) (by omega))
      · exact h.keep.frost1 (bd_of p1.1.1 p1.1.2 (by omega) (by omega))
    · show upd (keepF a) p v 13 = a 13
      rw [upd_n _ _ (by omega), keep_i h (by omega) (by omega)]
  · exact ⟨h, GrS.rf a, rfl, Or.inl rfl⟩
theorem kP_set (G : GP) (d : Nat) (X : Nat → Nat → Int32) (fr v : Int32) (p : Nat) (hp : (fr = 0 ∧ p = 8) ∨ (¬ fr = 0 ∧ p = 9)) (m : Mem) (a : Nat → Int32) (K : Int32 → Mem → Prop) (h : St X m a) (hK : ∀ (m' : Mem) (Z : (Nat → Int32) × Int32), SetR a p v Z → St X m' Z.1 → FrP m.1 m'.1 → K Z.2 m') : Evi G (d + 4) mX11_set [.ref (ga G 0), .int fr, .int v] m K := by
  have e0 : m.1 12 0 = a 8 := h.1.now.wind
  have e1 : m.1 12 1 = a 9 := h.1.now.frost
  refine vX11_set G d fr v m K ?_
  rcases hp with ⟨rfl, rfl⟩ | ⟨hf, rfl⟩
  · refine ⟨fun _ => ?_, fun q => absurd rfl q⟩
    rw [e0]
    rintro _ rfl
    refine ⟨fun q => ⟨fun q2 => ?_, fun q2 => ?_⟩, fun q => ?_⟩
    · refine kP_keep G d X m a _ h (fun m1 s1 f1 => ⟨fun _ => ?_, fun z => absurd rfl z⟩)
      rintro m2 hm2
      have S : SetR a 8 v (upd (keepF a) 8 v, 1) := Or.inl ⟨⟨q, q2⟩, rfl⟩
      have f2 : FrP m1.1 m2.1 := fun c h1 _ _ => by rw [hm2, wI_n _ _ _ (by omega)]
      exact hK m2 _ S (s1.go (s1.1.wind1 s1.2.1 (by rw [hm2, wI_s]) (fun c h1 h2 h3 => by rw [hm2, wI_n _ _ _ h3])) (S.ok h.2.1 (Or.inl rfl)).1 (up_gr _ v (Or.inl rfl)) f2 (by rw [hm2, wI_n _ _ _ (by omega)])) (f1.tr f2)
    · exact hK m _ (Or.inr ⟨fun z => z.2 q2, rfl⟩) h (FrP.rf _)
    · exact hK m _ (Or.inr ⟨fun z => q z.1, rfl⟩) h (FrP.rf _)
  · refine ⟨fun q => absurd q hf, fun _ => ?_⟩
    rw [e1]
    rintro _ rfl
    refine ⟨fun q => ⟨fun q2 => ?_, fun q2 => ?_⟩, fun q => ?_⟩
    · refine kP_keep G d X m a _ h (fun m1 s1 f1 => ⟨fun z => absurd z hf, fun _ => ?_⟩)
      rintro m2 hm2
      have S : SetR a 9 v (upd (keepF a) 9 v, 1) := Or.inl ⟨⟨q, q2⟩, rfl⟩
      have f2 : FrP m1.1 m2.1 := fun c h1 _ _ => by rw [hm2, wI_n _ _ _ (by omega)]
      exact hK m2 _ S (s1.go (s1.1.frost1 s1.2.1 (by rw [hm2, wI_s]) (fun c h1 h2 h3 => by rw [hm2, wI_n _ _ _ h3])) (S.ok h.2.1 (Or.inr rfl)).1 (up_gr _ v (Or.inr rfl)) f2 (by rw [hm2, wI_n _ _ _ (by omega)])) (f1.tr f2)
    · exact hK m _ (Or.inr ⟨fun z => z.2 q2, rfl⟩) h (FrP.rf _)
    · exact hK m _ (Or.inr ⟨fun z => q z.1, rfl⟩) h (FrP.rf _)
theorem qP_set (G : GP) (d : Nat) (X : Nat → Nat → Int32) (fr v : Int32) (p : Nat) (hp : (fr = 0 ∧ p = 8) ∨ (¬ fr = 0 ∧ p = 9)) (m : Mem) (a : Nat → Int32) (K : Int32 → Mem → Prop) (h : Mo X m a) (hK : ∀ (m' : Mem) (Z : (Nat → Int32) × Int32), SetR a p v Z → Mo X m' Z.1 → FrM m.1 m'.1 → K Z.2 m') : Evi G (d + 1) mX12_set [.ref (ga G 273), .int fr, .int v] m K := by
  have hW := h.2.1
  have e := h.1
  refine vX12_set G d fr v m K ?_
  rw [e]
  rcases hp with ⟨rfl, rfl⟩ | ⟨hf, rfl⟩
  · refine ⟨fun _ => ⟨fun q => ⟨fun q2 => ?_, fun q2 => ?_⟩, fun q => ?_⟩, fun q => absurd rfl q⟩
    · refine qP_keep G d X m a _ h (fun m1 s1 f1 => ?_)
      rintro m2 hm2
      have S : SetR a 8 v (upd (keepF a) 8 v, 1) := Or.inl ⟨⟨q, q2⟩, rfl⟩
      have f2 : FrM m1.1 m2.1 := fun c h1 _ => by rw [hm2, wI_n _ _ _ h1]
      exact hK m2 _ S (s1.go (by rw [hm2, wI_s, s1.1]) (S.ok hW (Or.inl rfl)).1 (up_gr _ v (Or.inl rfl)).2.1 f2) (f1.tr f2)
    · exact hK m _ (Or.inr ⟨fun z => z.2 q2, rfl⟩) h (FrM.rf _)
    · exact hK m _ (Or.inr ⟨fun z => q z.1, rfl⟩) h (FrM.rf _)
  · refine ⟨fun q => absurd q hf, fun _ => ⟨fun q => ⟨fun q2 => ?_, fun q2 => ?_⟩, fun q => ?_⟩⟩
    · refine qP_keep G d X m a _ h (fun m1 s1 f1 => ?_)
      rintro m2 hm2
      have S : SetR a 9 v (upd (keepF a) 9 v, 1) := Or.inl ⟨⟨q, q2⟩, rfl⟩
      have f2 : FrM m1.1 m2.1 := fun c h1 _ => by rw [hm2, wI_n _ _ _ h1]
      exact hK m2 _ S (s1.go (by rw [hm2, wI_s, s1.1]) (S.ok hW (Or.inr rfl)).1 (up_gr _ v (Or.inr rfl)).2.1 f2) (f1.tr f2)
    · exact hK m _ (Or.inr ⟨fun z => z.2 q2, rfl⟩) h (FrM.rf _)
    · exact hK m _ (Or.inr ⟨fun z => q z.1, rfl⟩) h (FrM.rf _)
theorem hrs_gr (k : Nat) {a : Nat → Int32} (h : WF a) : GrS a (hrs k a).1 ∧ (hrs k a).1 13 = a 13 := ⟨⟨hrs_i (by omega) (by omega) (by omega) k a h, hrs_i (by omega) (by omega) (by omega) k a h, hrs_i (by omega) (by omega) (by omega) k a h, fun i h1 h2 => hrs_i (by omega) (by omega) (by omega) k a h⟩, hrs_i (by omega) (by omega) (by omega) k a h⟩
