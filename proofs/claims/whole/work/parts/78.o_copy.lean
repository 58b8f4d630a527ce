/-! AN IMAGE, AND BACK -/
def SeC (f g : Nat → Nat → Int32) (c p : Nat) : Prop := g c 0 = f p 0 ∧ g c 1 = f p 1 ∧ g c 2 = f p 2 ∧ g c 3 = f p 3 ∧ g c 4 = f p 4 ∧ g c 6 = f p 6 ∧ (∀ k, k < tn (f p 4) → g (c + 1) k = f (p + 1) k) ∧ ∀ k, k < 4 * tn (f p 6) → g (c + 2) k = f (p + 2) k
def WCopy (f g : Nat → Nat → Int32) (o o' : Nat) : Prop :=
  g (2 + o) 0 = f (2 + o') 0 ∧ g (2 + o) 4 = f (2 + o') 4 ∧ (∀ b, b < 6 → g (3 + o) b = f (3 + o') b) ∧ (∀ b, b < 6 → g (4 + o) b = f (4 + o') b) ∧ (∀ b, b < 6 → g (5 + o) b = f (5 + o') b) ∧ (∀ b, b < 40 → g (6 + o) b = f (6 + o') b) ∧ (∀ b, b < 10 → g (7 + o) b = f (7 + o') b) ∧ (∀ b, b < 10 → g (8 + o) b = f (8 + o') b) ∧ (∀ b, b < 10 → g (9 + o) b = f (9 + o') b) ∧
  SeC f g (12 + o) (12 + o') ∧ g (15 + o) 0 = f (15 + o') 0 ∧ g (15 + o) 1 = f (15 + o') 1 ∧ (∀ i, i < 30 → SeC f g (17 + o + 3 * i) (17 + o' + 3 * i)) ∧
  (∀ b, b < 10 → g (108 + o) b = f (108 + o') b) ∧ (∀ b, b < 10 → g (109 + o) b = f (109 + o') b) ∧ g (107 + o) 2 = f (107 + o') 2 ∧ (∀ b, b < 8 → g (110 + o) b = f (110 + o') b) ∧ (∀ b, b < 8 → g (111 + o) b = f (111 + o') b) ∧ (∀ b, b < 2 → g (112 + o) b = f (112 + o') b) ∧ (∀ b, b < 24 → g (113 + o) b = f (113 + o') b) ∧
  g (1 + o) 4 = f (1 + o') 4 ∧ g (1 + o) 5 = f (1 + o') 5 ∧ g (1 + o) 6 = f (1 + o') 6
theorem RS.mv {f g : Nat → Nat → Int32} {c p : Nat} {a a' : Nat → Int32} {p0 p1 p2 : Nat} (h : RS f p a p0 p1 p2) (hs : SeC f g c p) (ha : ∀ i, i < 5968 → a' i = a i) (h0 : p0 + 2 < 5968) (h1 : p1 + 2 < 5968) (h2 : p2 + 24 < 5968) (hn : tn (a (p1 + 2)) ≤ 24) : RS g c a' p0 p1 p2 := by
  obtain ⟨s0, s1, s2, s3, s4, s6, s7, s8⟩ := hs
  have e1 : a' (p1 + 1) = a (p1 + 1) := ha _ (by omega)
  have e2 : a' (p1 + 2) = a (p1 + 2) := ha _ (by omega)
  unfold RS
  rw [e1, e2, ha p0 (by omega), ha (p0 + 1) (by omega), ha (p0 + 2) (by omega), ha p1 (by omega)]
  refine ⟨s0.trans h.wind, s1.trans h.frost, s2.trans h.hour, s3.trans h.x, s4.trans h.nr, fun k hk => ?_, s6.trans h.sun, fun i j hi hj => ?_⟩
  · rw [s7 k (by rw [h.nr]; exact hk), ha _ (by omega)]
    exact h.row k hk
  · have e6 : tn (f p 6) = min (tn (a (p1 + 1))) 20 := by rw [h.sun]; exact tn_nI (by omega)
    rw [s8 _ (by rw [e6]; omega), ha _ (by omega)]
    exact h.pag i j hi hj
theorem WF.ag5 {a a' : Nat → Int32} (h : WF a) (ha : ∀ i, i < 5968 → a' i = a i) : WF a' := h.agr (fun i h1 _ _ => ha i (by omega)) (by rw [ha 13 (by omega)]; exact h.now.wr) (by rw [ha 14 (by omega)]; exact h.now.nr) (fun k hk => by rw [ha 14 (by omega)] at hk; exact hk) (fun i hi => by rw [ha 13 (by omega)]; exact h.w2 i hi)
theorem RC.mv {f g : Nat → Nat → Int32} {o o' : Nat} {a a' : Nat → Int32} (r : RC f o' a) (h : WF a) (ha : ∀ i, i < 5968 → a' i = a i) (hc : WCopy f g o o') : RC g o a' := by
  obtain ⟨c1, c2, c3, c4, c5, c6, c7, c8, c9, c10, c11, c12, c13, c14, c15, c16, c17, c18, c19, c20, c21, c22, c23⟩ := hc
  have b0 := h.nb6
  have b1 := h.nw10
  have b4 := (h.ns.is (by omega)).2.2
  have b5 := (h.nl.is (by omega)).2.2
  have bt : ∀ t, t < 2 → tn (a (6 + t)) ≤ 12 := fun t ht => ((h.tl t ht).is (by omega)).2.2
  unfold RC
  rw [ha 0 (by omega), ha 1 (by omega), ha 2 (by omega), ha 3 (by omega), ha 4 (by omega), ha 5 (by omega), ha 11 (by omega)]
  refine ⟨c1.trans r.nb, c2.trans r.nw, fun b hb => ?_, fun b hb => ?_, fun b hb => ?_, fun w hw => ?_, fun w hw => ?_, fun w hw => ?_, fun w k hw hk => ?_, fun w hw => ?_, fun w hw => ?_, c16.trans r.nl, fun k hk => ?_, fun k hk => ?_, fun t ht => ?_, fun t k ht hk => ?_, c21.trans r.hd, c22.trans r.nt, c23.trans r.ru, ?_, c11.trans r.ns, fun i hi => ?_, ?_⟩
  · rw [c3 b (by omega), ha _ (by omega)]; exact r.loud b hb
  · rw [c4 b (by omega), ha _ (by omega)]; exact r.pitch b hb
  · rw [c5 b (by omega), ha _ (by omega)]; exact r.men b hb
  · rw [c8 w (by omega), ha _ (by omega)]; exact r.kind w hw
  · rw [c9 w (by omega), ha _ (by omega)]; exact r.means w hw
  · rw [c7 w (by omega), ha _ (by omega)]; exact r.len w hw
  · rw [c6 _ (by omega), ha _ (by omega)]; exact r.str w k hw hk
  · rw [c14 w (by omega), ha _ (by omega)]; exact r.wei w hw
  · rw [c15 w (by omega), ha _ (by omega)]; exact r.has w hw
  · rw [c17 k (by omega), ha _ (by omega)]; exact r.li0 k hk
  · rw [c18 k (by omega), ha _ (by omega)]; exact r.li1 k hk
  · rw [c19 t ht, ha _ (by omega)]; exact r.tl t ht
  · rw [ha _ (by omega)] at hk
    have := bt t ht
    rw [c20 _ (by omega), ha _ (by omega)]; exact r.tow t k ht hk
  · exact r.now.mv c10 ha (by omega) (by omega) (by omega) (h.now.nr.is (by omega)).2.2
  · have := c13 i hi
    rw [this.2.2.2.2.1, this.2.2.2.2.2.1]
    exact r.al i hi
  · obtain ⟨e, he, h1, h2⟩ := r.sp
    exact ⟨e, he, c12.trans h1, fun i hi => (h2 i hi).mv (c13 _ (by omega)) ha (by omega) (by omega) (by omega) ((h.sp i hi).nr.is (by omega)).2.2⟩
theorem CopyS.sc {f g : Nat → Nat → Int32} {c p nr su : Nat} (h : CopyS f g c p nr su) (h4 : f p 4 = nI nr) (hnr : nr ≤ 24) (h6 : f p 6 = nI su) (hsu : su ≤ 20) : SeC f g c p := by
  obtain ⟨-, a0, a1, a2, a3, a4, a6, a7, a8⟩ := h
  refine ⟨a0, a1, a2, a3, a4, a6, fun k hk => a7 k ?_, fun k hk => a8 k ?_⟩
  · rw [h4, show tn (nI nr) = nr from tn_nI (by omega)] at hk; exact hk
  · rw [h6, show tn (nI su) = su from tn_nI (by omega)] at hk; exact hk
theorem SeC.fr {f f' g g' : Nat → Nat → Int32} {c p : Nat} (h : SeC f g c p) (g0 : g' c = g c) (g1 : g' (c + 1) = g (c + 1)) (g2 : g' (c + 2) = g (c + 2)) (f0 : f' p = f p) (f1 : f' (p + 1) = f (p + 1)) (f2 : f' (p + 2) = f (p + 2)) : SeC f' g' c p := by
  unfold SeC at h ⊢
  rw [g0, g1, g2, f0, f1, f2]
  exact h
theorem kC_cpLex_w (G : GP) (d : Nat) (m : Mem) (K : Mem → Prop) (hK : ∀ m' : Mem, m'.1 2 0 = m.1 115 0 → m'.1 2 4 = m.1 115 4 → (∀ b, b < 6 → m'.1 3 b = m.1 116 b) → (∀ b, b < 6 → m'.1 4 b = m.1 117 b) → (∀ b, b < 6 → m'.1 5 b = m.1 118 b) → (∀ b, b < 40 → m'.1 6 b = m.1 119 b) → (∀ b, b < 10 → m'.1 7 b = m.1 120 b) → (∀ b, b < 10 → m'.1 8 b = m.1 121 b) → (∀ b, b < 10 → m'.1 9 b = m.1 122 b) → (∀ q, q < 2 ∨ 9 < q → m'.1 q = m.1 q) → K m') : Evv G (d + 1) mX2_copyFrom [.ref (ga G 2), .ref (ga G 115)] m K := by
  have cp : ∀ (f g : Nat → Int32) (n b : Nat), b < n → va_cpy f g 0 0 n b = f b := fun f g n b hb => by rw [pk_cpy_in (by omega) (by omega), Nat.sub_zero, Nat.zero_add]
  refine vX2_copyFrom_w G d m K ?_
  rintro _ rfl _ rfl
  refine ⟨by decide, ?_⟩
  rintro _ rfl
  refine ⟨by decide, ?_⟩
  rintro _ rfl
  refine ⟨by decide, ?_⟩
  rintro _ rfl
  refine ⟨by decide, ?_⟩
  rintro _ rfl
  refine ⟨by decide, ?_⟩
  rintro _ rfl
  refine ⟨by decide, ?_⟩
  rintro _ rfl
  refine ⟨by decide, ?_⟩
  rintro _ rfl
  refine hK _ rfl rfl (fun b hb => cp (m.1 116) (m.1 3) 6 b hb) (fun b hb => cp (m.1 117) (m.1 4) 6 b hb) (fun b hb => cp (m.1 118) (m.1 5) 6 b hb) (fun b hb => cp (m.1 119) (m.1 6) 40 b hb) (fun b hb => cp (m.1 120) (m.1 7) 10 b hb) (fun b hb => cp (m.1 121) (m.1 8) 10 b hb) (fun b hb => cp (m.1 122) (m.1 9) 10 b hb) (fun q hq => ?_)
  simp only [wA_n _ _ (show q ≠ 3 by omega), wA_n _ _ (show q ≠ 4 by omega), wA_n _ _ (show q ≠ 5 by omega), wA_n _ _ (show q ≠ 6 by omega), wA_n _ _ (show q ≠ 7 by omega), wA_n _ _ (show q ≠ 8 by omega), wA_n _ _ (show q ≠ 9 by omega), wI_n _ _ _ (show q ≠ 2 by omega)]
theorem kC_cpTold_w (G : GP) (d : Nat) (m : Mem) (K : Mem → Prop) (hK : ∀ m' : Mem, (∀ b, b < 10 → m'.1 108 b = m.1 221 b) → (∀ b, b < 10 → m'.1 109 b = m.1 222 b) → m'.1 107 2 = m.1 220 2 → (∀ b, b < 8 → m'.1 110 b = m.1 223 b) → (∀ b, b < 8 → m'.1 111 b = m.1 224 b) → (∀ b, b < 2 → m'.1 112 b = m.1 225 b) → (∀ b, b < 24 → m'.1 113 b = m.1 226 b) → (∀ q, q < 107 ∨ 113 < q → m'.1 q = m.1 q) → K m') : Evv G (d + 1) mX9_copyFrom [.ref (ga G 107), .ref (ga G 220)] m K := by
  have cp : ∀ (f g : Nat → Int32) (n b : Nat), b < n → va_cpy f g 0 0 n b = f b := fun f g n b hb => by rw [pk_cpy_in (by omega) (by omega), Nat.sub_zero, Nat.zero_add]
  refine vX9_copyFrom_w G d m K ⟨by decide, ?_⟩
  rintro _ rfl
  refine ⟨by decide, ?_⟩
  rintro _ rfl _ rfl
  refine ⟨by decide, ?_⟩
  rintro _ rfl
  refine ⟨by decide, ?_⟩
  rintro _ rfl
  refine ⟨by decide, ?_⟩
  rintro _ rfl
  refine ⟨by decide, ?_⟩
  rintro _ rfl
  refine hK _ (fun b hb => cp (m.1 221) (m.1 108) 10 b hb) (fun b hb => cp (m.1 222) (m.1 109) 10 b hb) rfl (fun b hb => cp (m.1 223) (m.1 110) 8 b hb) (fun b hb => cp (m.1 224) (m.1 111) 8 b hb) (fun b hb => cp (m.1 225) (m.1 112) 2 b hb) (fun b hb => cp (m.1 226) (m.1 113) 24 b hb) (fun q hq => ?_)
  simp only [wA_n _ _ (show q ≠ 108 by omega), wA_n _ _ (show q ≠ 109 by omega), wA_n _ _ (show q ≠ 110 by omega), wA_n _ _ (show q ≠ 111 by omega), wA_n _ _ (show q ≠ 112 by omega), wA_n _ _ (show q ≠ 113 by omega), wI_n _ _ _ (show q ≠ 107 by omega)]
theorem kC_cpSteps_w (G : GP) (d : Nat) (m : Mem) (K : Mem → Prop) (hal : ∀ i, i < 30 → bd (m.1 (130 + 3 * i) 4) 0 24 ∧ bd (m.1 (130 + 3 * i) 6) 0 20) (hK : ∀ m' : Mem, m'.1 15 0 = m.1 128 0 → m'.1 15 1 = m.1 128 1 → (∀ i, i < 30 → SeC m.1 m'.1 (17 + 3 * i) (130 + 3 * i)) → (∀ q, q < 15 ∨ 106 < q → m'.1 q = m.1 q) → K m') : Evv G (d + 2) mX6_copyFrom [.ref (ga G 15), .ref (ga G 128)] m K := by
  refine vX6_copyFrom_w G d m K ?_
  rintro m1 hm1 m2 hm2
  have e0 : m2.1 15 0 = m.1 128 0 := by rw [hm2, hm1]; rfl
  have e1 : m2.1 15 1 = m.1 128 1 := by rw [hm2, hm1]; rfl
  have f2 : ∀ q, q ≠ 15 → m2.1 q = m.1 q := fun q hq => by rw [hm2, wI_n _ _ _ hq, hm1, wI_n _ _ _ hq]
  refine loopD (P := fun k => ∀ m' : Mem, (∀ i, i < k → SeC m.1 m'.1 (17 + 3 * i) (130 + 3 * i)) → (∀ q, q < 17 ∨ 106 < q → m'.1 q = m2.1 q) → Gw G (d + 2) mX6_copyFrom 18 [.ref (ga G 15), .ref (ga G 128), .int (nI k)] [] m' (Qv K)) 30 ?_ ?_ m2 (fun i hi => by omega) (fun _ _ => rfl)
  · intro k hk hP m' c1 c2
    have hs : ∀ q, 130 ≤ q → q ≤ 219 → m'.1 q = m.1 q := fun q h1 h2 => by rw [c2 q (by omega), f2 q (by omega)]
    obtain ⟨⟨nr, -, n1, n2⟩, ⟨su, -, u1, u2⟩⟩ := hal k hk
    refine vX6_copyFrom_w_18 G d (nI k) m' K ⟨fun q => ?_, fun _ => ⟨in_nI (by omega) (by omega), ?_⟩⟩
    · exfalso
      have q := (le_nI (a := 30) (by omega) (by omega)).mp q
      omega
    rw [tn_nI (by omega)]
    rintro _ rfl
    refine ⟨in_nI (by omega) (by omega), ?_⟩
    rintro _ rfl
    have g4 : m'.1 (130 + 3 * k) 4 = nI nr := by rw [hs _ (by omega) (by omega)]; exact n2
    have g6 : m'.1 (130 + 3 * k) 6 = nI su := by rw [hs _ (by omega) (by omega)]; exact u2
    refine qX5_copyFrom G d (17 + 3 * k) (130 + 3 * k) (se_all16 k hk) (se_all129 k hk) (by omega) m' _ nr su g4 n1 g6 u1 (fun m3 hC => ?_)
    rintro _ rfl
    rw [nI_1]
    have hF := hC.1
    refine hP m3 (fun i hi => ?_) (fun q hq => by rw [hF q (by omega) (by omega) (by omega), c2 q hq])
    by_cases e : i = k
    · subst e
      exact (hC.sc g4 n1 g6 u1).fr rfl rfl rfl (hs _ (by omega) (by omega)).symm (hs _ (by omega) (by omega)).symm (hs _ (by omega) (by omega)).symm
    · exact (c1 i (by omega)).fr (hF _ (by omega) (by omega) (by omega)) (hF _ (by omega) (by omega) (by omega)) (hF _ (by omega) (by omega) (by omega)) rfl rfl rfl
  · intro m' c1 c2
    exact vX6_copyFrom_w_18 G d (nI 30) m' K ⟨fun _ => hK m' (by rw [c2 15 (by omega)]; exact e0) (by rw [c2 15 (by omega)]; exact e1) c1 (fun q hq => by rw [c2 q (by omega), f2 q (by omega)]), fun q => absurd (by decide) q⟩
theorem kC_copy_w (G : GP) (d : Nat) (m : Mem) (a : Nat → Int32) (K : Mem → Prop) (r : RC m.1 113 a) (h : WF a) (hK : ∀ m' : Mem, WCopy m.1 m'.1 0 113 → (∀ q, q < 1 ∨ 113 < q → m'.1 q = m.1 q) → K m') : Evv G (d + 3) mX10_copyFrom [.ref (ga G 1), .ref (ga G 114)] m K := by
  have n14 := h.now.nr.is (by omega)
  refine vX10_copyFrom_w G d m K ?_
  refine kC_cpLex_w G (d + 1) m _ (fun m1 a1 a2 a3 a4 a5 a6 a7 a8 a9 f1 => ?_)
  have s1 : ∀ q, 114 ≤ q → q ≤ 226 → m1.1 q = m.1 q := fun q h1 h2 => f1 q (by omega)
  have e4 : m1.1 125 4 = nI (tn (a 14)) := by rw [s1 125 (by omega) (by omega)]; exact (show m.1 125 4 = a 14 from r.now.nr).trans n14.1
  have e6 : m1.1 125 6 = nI (min (tn (a 13)) 20) := by rw [s1 125 (by omega) (by omega)]; exact r.now.sun
  refine qX5_copyFrom G (d + 1) 12 125 se_now se_kept (by omega) m1 _ (tn (a 14)) (min (tn (a 13)) 20) e4 n14.2.2 e6 (by omega) (fun m2 hC => ?_)
  have f2 := hC.1
  have c2 := hC.sc e4 n14.2.2 e6 (by omega)
  have s2 : ∀ q, 114 ≤ q → q ≤ 226 → m2.1 q = m.1 q := fun q h1 h2 => by rw [f2 q (by omega) (by omega) (by omega), s1 q h1 h2]
  refine kC_cpSteps_w G d m2 _ (fun i hi => ?_) (fun m3 b1 b2 b3 f3 => ?_)
  · rw [s2 _ (by omega) (by omega)]
    exact r.al i hi
  have s3 : ∀ q, 114 ≤ q → q ≤ 226 → m3.1 q = m.1 q := fun q h1 h2 => by rw [f3 q (by omega), s2 q h1 h2]
  refine kC_cpTold_w G (d + 1) m3 _ (fun m4 t1 t2 t3 t4 t5 t6 t7 f4 => ?_)
  have s4 : ∀ q, 114 ≤ q → q ≤ 226 → m4.1 q = m.1 q := fun q h1 h2 => by rw [f4 q (by omega), s3 q h1 h2]
  rintro m5 h5 m6 h6 m7 h7
  have f7 : ∀ q, q ≠ 1 → m7.1 q = m4.1 q := fun q hq => by rw [h7, wI_n _ _ _ hq, h6, wI_n _ _ _ hq, h5, wI_n _ _ _ hq]
  have g1 : m5.1 114 = m4.1 114 := by rw [h5, wI_n _ _ _ (by omega)]
  have g2 : m6.1 114 = m4.1 114 := by rw [h6, wI_n _ _ _ (by omega), g1]
  have w1 : m7.1 1 = upd (upd (upd (m4.1 1) 4 (m.1 114 4)) 5 (m.1 114 5)) 6 (m.1 114 6) := by
    rw [h7, wI_s, g2, h6, wI_s, g1, h5, wI_s, s4 114 (by omega) (by omega)]
  have lo : ∀ q, 2 ≤ q → q ≤ 9 → m7.1 q = m1.1 q := fun q h1 h2 => by rw [f7 q (by omega), f4 q (by omega), f3 q (by omega), f2 q (by omega) (by omega) (by omega)]
  have nw : ∀ q, 12 ≤ q → q ≤ 14 → m7.1 q = m2.1 q := fun q h1 h2 => by rw [f7 q (by omega), f4 q (by omega), f3 q (by omega)]
  have st : ∀ q, 15 ≤ q → q ≤ 106 → m7.1 q = m3.1 q := fun q h1 h2 => by rw [f7 q (by omega), f4 q (by omega)]
  have td : ∀ q, 107 ≤ q → q ≤ 113 → m7.1 q = m4.1 q := fun q h1 h2 => f7 q (by omega)
  refine hK m7 ⟨?_, ?_, fun b hb => ?_, fun b hb => ?_, fun b hb => ?_, fun b hb => ?_, fun b hb => ?_, fun b hb => ?_, fun b hb => ?_, ?_, ?_, ?_, fun i hi => ?_, fun b hb => ?_, fun b hb => ?_, ?_, fun b hb => ?_, fun b hb => ?_, fun b hb => ?_, fun b hb => ?_, ?_, ?_, ?_⟩ (fun q hq => ?_)
  · rw [lo (2 + 0) (by omega) (by omega)]; exact a1
  · rw [lo (2 + 0) (by omega) (by omega)]; exact a2
  · rw [lo (3 + 0) (by omega) (by omega)]; exact a3 b hb
  · rw [lo (4 + 0) (by omega) (by omega)]; exact a4 b hb
  · rw [lo (5 + 0) (by omega) (by omega)]; exact a5 b hb
  · rw [lo (6 + 0) (by omega) (by omega)]; exact a6 b hb
  · rw [lo (7 + 0) (by omega) (by omega)]; exact a7 b hb
  · rw [lo (8 + 0) (by omega) (by omega)]; exact a8 b hb
  · rw [lo (9 + 0) (by omega) (by omega)]; exact a9 b hb
  · exact c2.fr (nw _ (by omega) (by omega)) (nw _ (by omega) (by omega)) (nw _ (by omega) (by omega)) (s1 _ (by omega) (by omega)).symm (s1 _ (by omega) (by omega)).symm (s1 _ (by omega) (by omega)).symm
  · rw [st (15 + 0) (by omega) (by omega), show m3.1 (15 + 0) 0 = _ from b1, s2 128 (by omega) (by omega)]
  · rw [st (15 + 0) (by omega) (by omega), show m3.1 (15 + 0) 1 = _ from b2, s2 128 (by omega) (by omega)]
  · exact (b3 i hi).fr (st _ (by omega) (by omega)) (st _ (by omega) (by omega)) (st _ (by omega) (by omega)) (s2 _ (by omega) (by omega)).symm (s2 _ (by omega) (by omega)).symm (s2 _ (by omega) (by omega)).symm
  · rw [td (108 + 0) (by omega) (by omega), show m4.1 (108 + 0) b = _ from t1 b hb, s3 221 (by omega) (by omega)]
  · rw [td (109 + 0) (by omega) (by omega), show m4.1 (109 + 0) b = _ from t2 b hb, s3 222 (by omega) (by omega)]
  · rw [td (107 + 0) (by omega) (by omega), show m4.1 (107 + 0) 2 = _ from t3, s3 220 (by omega) (by omega)]
  · rw [td (110 + 0) (by omega) (by omega), show m4.1 (110 + 0) b = _ from t4 b hb, s3 223 (by omega) (by omega)]
  · rw [td (111 + 0) (by omega) (by omega), show m4.1 (111 + 0) b = _ from t5 b hb, s3 224 (by omega) (by omega)]
  · rw [td (112 + 0) (by omega) (by omega), show m4.1 (112 + 0) b = _ from t6 b hb, s3 225 (by omega) (by omega)]
  · rw [td (113 + 0) (by omega) (by omega), show m4.1 (113 + 0) b = _ from t7 b hb, s3 226 (by omega) (by omega)]
  · rw [show m7.1 (1 + 0) = _ from w1]; simp (disch := omega) only [upd_n, upd_s]
  · rw [show m7.1 (1 + 0) = _ from w1]; simp (disch := omega) only [upd_n, upd_s]
  · rw [show m7.1 (1 + 0) = _ from w1]; simp (disch := omega) only [upd_n, upd_s]
  · rw [f7 q (by omega), f4 q (by omega), f3 q (by omega), f2 q (by omega) (by omega) (by omega), f1 q (by omega)]
theorem kC_cpLex_k (G : GP) (d : Nat) (m : Mem) (K : Mem → Prop) (hK : ∀ m' : Mem, m'.1 115 0 = m.1 2 0 → m'.1 115 4 = m.1 2 4 → (∀ b, b < 6 → m'.1 116 b = m.1 3 b) → (∀ b, b < 6 → m'.1 117 b = m.1 4 b) → (∀ b, b < 6 → m'.1 118 b = m.1 5 b) → (∀ b, b < 40 → m'.1 119 b = m.1 6 b) → (∀ b, b < 10 → m'.1 120 b = m.1 7 b) → (∀ b, b < 10 → m'.1 121 b = m.1 8 b) → (∀ b, b < 10 → m'.1 122 b = m.1 9 b) → (∀ q, q < 115 ∨ 122 < q → m'.1 q = m.1 q) → K m') : Evv G (d + 1) mX2_copyFrom [.ref (ga G 115), .ref (ga G 2)] m K := by
  have cp : ∀ (f g : Nat → Int32) (n b : Nat), b < n → va_cpy f g 0 0 n b = f b := fun f g n b hb => by rw [pk_cpy_in (by omega) (by omega), Nat.sub_zero, Nat.zero_add]
  refine vX2_copyFrom_k G d m K ?_
  rintro _ rfl _ rfl
  refine ⟨by decide, ?_⟩
  rintro _ rfl
  refine ⟨by decide, ?_⟩
  rintro _ rfl
  refine ⟨by decide, ?_⟩
  rintro _ rfl
  refine ⟨by decide, ?_⟩
  rintro _ rfl
  refine ⟨by decide, ?_⟩
  rintro _ rfl
  refine ⟨by decide, ?_⟩
  rintro _ rfl
  refine ⟨by decide, ?_⟩
  rintro _ rfl
  refine hK _ rfl rfl (fun b hb => cp (m.1 3) (m.1 116) 6 b hb) (fun b hb => cp (m.1 4) (m.1 117) 6 b hb) (fun b hb => cp (m.1 5) (m.1 118) 6 b hb) (fun b hb => cp (m.1 6) (m.1 119) 40 b hb) (fun b hb => cp (m.1 7) (m.1 120) 10 b hb) (fun b hb => cp (m.1 8) (m.1 121) 10 b hb) (fun b hb => cp (m.1 9) (m.1 122) 10 b hb) (fun q hq => ?_)
  simp only [wA_n _ _ (show q ≠ 116 by omega), wA_n _ _ (show q ≠ 117 by omega), wA_n _ _ (show q ≠ 118 by omega), wA_n _ _ (show q ≠ 119 by omega), wA_n _ _ (show q ≠ 120 by omega), wA_n _ _ (show q ≠ 121 by omega), wA_n _ _ (show q ≠ 122 by omega), wI_n _ _ _ (show q ≠ 115 by omega)]
theorem kC_cpTold_k (G : GP) (d : Nat) (m : Mem) (K : Mem → Prop) (hK : ∀ m' : Mem, (∀ b, b < 10 → m'.1 221 b = m.1 108 b) → (∀ b, b < 10 → m'.1 222 b = m.1 109 b) → m'.1 220 2 = m.1 107 2 → (∀ b, b < 8 → m'.1 223 b = m.1 110 b) → (∀ b, b < 8 → m'.1 224 b = m.1 111 b) → (∀ b, b < 2 → m'.1 225 b = m.1 112 b) → (∀ b, b < 24 → m'.1 226 b = m.1 113 b) → (∀ q, q < 220 ∨ 226 < q → m'.1 q = m.1 q) → K m') : Evv G (d + 1) mX9_copyFrom [.ref (ga G 220), .ref (ga G 107)] m K := by
  have cp : ∀ (f g : Nat → Int32) (n b : Nat), b < n → va_cpy f g 0 0 n b = f b := fun f g n b hb => by rw [pk_cpy_in (by omega) (by omega), Nat.sub_zero, Nat.zero_add]
  refine vX9_copyFrom_k G d m K ⟨by decide, ?_⟩
  rintro _ rfl
  refine ⟨by decide, ?_⟩
  rintro _ rfl _ rfl
  refine ⟨by decide, ?_⟩
  rintro _ rfl
  refine ⟨by decide, ?_⟩
  rintro _ rfl
  refine ⟨by decide, ?_⟩
  rintro _ rfl
  refine ⟨by decide, ?_⟩
  rintro _ rfl
  refine hK _ (fun b hb => cp (m.1 108) (m.1 221) 10 b hb) (fun b hb => cp (m.1 109) (m.1 222) 10 b hb) rfl (fun b hb => cp (m.1 110) (m.1 223) 8 b hb) (fun b hb => cp (m.1 111) (m.1 224) 8 b hb) (fun b hb => cp (m.1 112) (m.1 225) 2 b hb) (fun b hb => cp (m.1 113) (m.1 226) 24 b hb) (fun q hq => ?_)
  simp only [wA_n _ _ (show q ≠ 221 by omega), wA_n _ _ (show q ≠ 222 by omega), wA_n _ _ (show q ≠ 223 by omega), wA_n _ _ (show q ≠ 224 by omega), wA_n _ _ (show q ≠ 225 by omega), wA_n _ _ (show q ≠ 226 by omega), wI_n _ _ _ (show q ≠ 220 by omega)]
theorem kC_cpSteps_k (G : GP) (d : Nat) (m : Mem) (K : Mem → Prop) (hal : ∀ i, i < 30 → bd (m.1 (17 + 3 * i) 4) 0 24 ∧ bd (m.1 (17 + 3 * i) 6) 0 20) (hK : ∀ m' : Mem, m'.1 128 0 = m.1 15 0 → m'.1 128 1 = m.1 15 1 → (∀ i, i < 30 → SeC m.1 m'.1 (130 + 3 * i) (17 + 3 * i)) → (∀ q, q < 128 ∨ 219 < q → m'.1 q = m.1 q) → K m') : Evv G (d + 2) mX6_copyFrom [.ref (ga G 128), .ref (ga G 15)] m K := by
  refine vX6_copyFrom_k G d m K ?_
  rintro m1 hm1 m2 hm2
  have e0 : m2.1 128 0 = m.1 15 0 := by rw [hm2, hm1]; rfl
  have e1 : m2.1 128 1 = m.1 15 1 := by rw [hm2, hm1]; rfl
  have f2 : ∀ q, q ≠ 128 → m2.1 q = m.1 q := fun q hq => by rw [hm2, wI_n _ _ _ hq, hm1, wI_n _ _ _ hq]
  refine loopD (P := fun k => ∀ m' : Mem, (∀ i, i < k → SeC m.1 m'.1 (130 + 3 * i) (17 + 3 * i)) → (∀ q, q < 130 ∨ 219 < q → m'.1 q = m2.1 q) → Gw G (d + 2) mX6_copyFrom 18 [.ref (ga G 128), .ref (ga G 15), .int (nI k)] [] m' (Qv K)) 30 ?_ ?_ m2 (fun i hi => by omega) (fun _ _ => rfl)
  · intro k hk hP m' c1 c2
    have hs : ∀ q, 17 ≤ q → q ≤ 106 → m'.1 q = m.1 q := fun q h1 h2 => by rw [c2 q (by omega), f2 q (by omega)]
    obtain ⟨⟨nr, -, n1, n2⟩, ⟨su, -, u1, u2⟩⟩ := hal k hk
    refine vX6_copyFrom_k_18 G d (nI k) m' K ⟨fun q => ?_, fun _ => ⟨in_nI (by omega) (by omega), ?_⟩⟩
    · exfalso
      have q := (le_nI (a := 30) (by omega) (by omega)).mp q
      omega
    rw [tn_nI (by omega)]
    rintro _ rfl
    refine ⟨in_nI (by omega) (by omega), ?_⟩
    rintro _ rfl
    have g4 : m'.1 (17 + 3 * k) 4 = nI nr := by rw [hs _ (by omega) (by omega)]; exact n2
    have g6 : m'.1 (17 + 3 * k) 6 = nI su := by rw [hs _ (by omega) (by omega)]; exact u2
    refine qX5_copyFrom G d (130 + 3 * k) (17 + 3 * k) (se_all129 k hk) (se_all16 k hk) (by omega) m' _ nr su g4 n1 g6 u1 (fun m3 hC => ?_)
    rintro _ rfl
    rw [nI_1]
    have hF := hC.1
    refine hP m3 (fun i hi => ?_) (fun q hq => by rw [hF q (by omega) (by omega) (by omega), c2 q hq])
    by_cases e : i = k
    · subst e
      exact (hC.sc g4 n1 g6 u1).fr rfl rfl rfl (hs _ (by omega) (by omega)).symm (hs _ (by omega) (by omega)).symm (hs _ (by omega) (by omega)).symm
    · exact (c1 i (by omega)).fr (hF _ (by omega) (by omega) (by omega)) (hF _ (by omega) (by omega) (by omega)) (hF _ (by omega) (by omega) (by omega)) rfl rfl rfl
  · intro m' c1 c2
    exact vX6_copyFrom_k_18 G d (nI 30) m' K ⟨fun _ => hK m' (by rw [c2 128 (by omega)]; exact e0) (by rw [c2 128 (by omega)]; exact e1) c1 (fun q hq => by rw [c2 q (by omega), f2 q (by omega)]), fun q => absurd (by decide) q⟩
theorem kC_copy_k (G : GP) (d : Nat) (m : Mem) (a : Nat → Int32) (K : Mem → Prop) (r : RC m.1 0 a) (h : WF a) (hK : ∀ m' : Mem, WCopy m.1 m'.1 113 0 → (∀ q, q < 114 ∨ 226 < q → m'.1 q = m.1 q) → K m') : Evv G (d + 3) mX10_copyFrom [.ref (ga G 114), .ref (ga G 1)] m K := by
  have n14 := h.now.nr.is (by omega)
  refine vX10_copyFrom_k G d m K ?_
  refine kC_cpLex_k G (d + 1) m _ (fun m1 a1 a2 a3 a4 a5 a6 a7 a8 a9 f1 => ?_)
  have s1 : ∀ q, 1 ≤ q → q ≤ 113 → m1.1 q = m.1 q := fun q h1 h2 => f1 q (by omega)
  have e4 : m1.1 12 4 = nI (tn (a 14)) := by rw [s1 12 (by omega) (by omega)]; exact (show m.1 12 4 = a 14 from r.now.nr).trans n14.1
  have e6 : m1.1 12 6 = nI (min (tn (a 13)) 20) := by rw [s1 12 (by omega) (by omega)]; exact r.now.sun
  refine qX5_copyFrom G (d + 1) 125 12 se_kept se_now (by omega) m1 _ (tn (a 14)) (min (tn (a 13)) 20) e4 n14.2.2 e6 (by omega) (fun m2 hC => ?_)
  have f2 := hC.1
  have c2 := hC.sc e4 n14.2.2 e6 (by omega)
  have s2 : ∀ q, 1 ≤ q → q ≤ 113 → m2.1 q = m.1 q := fun q h1 h2 => by rw [f2 q (by omega) (by omega) (by omega), s1 q h1 h2]
  refine kC_cpSteps_k G d m2 _ (fun i hi => ?_) (fun m3 b1 b2 b3 f3 => ?_)
  · rw [s2 _ (by omega) (by omega)]
    exact r.al i hi
  have s3 : ∀ q, 1 ≤ q → q ≤ 113 → m3.1 q = m.1 q := fun q h1 h2 => by rw [f3 q (by omega), s2 q h1 h2]
  refine kC_cpTold_k G (d + 1) m3 _ (fun m4 t1 t2 t3 t4 t5 t6 t7 f4 => ?_)
  have s4 : ∀ q, 1 ≤ q → q ≤ 113 → m4.1 q = m.1 q := fun q h1 h2 => by rw [f4 q (by omega), s3 q h1 h2]
  rintro m5 h5 m6 h6 m7 h7
  have f7 : ∀ q, q ≠ 114 → m7.1 q = m4.1 q := fun q hq => by rw [h7, wI_n _ _ _ hq, h6, wI_n _ _ _ hq, h5, wI_n _ _ _ hq]
  have g1 : m5.1 1 = m4.1 1 := by rw [h5, wI_n _ _ _ (by omega)]
  have g2 : m6.1 1 = m4.1 1 := by rw [h6, wI_n _ _ _ (by omega), g1]
  have w1 : m7.1 114 = upd (upd (upd (m4.1 114) 4 (m.1 1 4)) 5 (m.1 1 5)) 6 (m.1 1 6) := by
    rw [h7, wI_s, g2, h6, wI_s, g1, h5, wI_s, s4 1 (by omega) (by omega)]
  have lo : ∀ q, 115 ≤ q → q ≤ 122 → m7.1 q = m1.1 q := fun q h1 h2 => by rw [f7 q (by omega), f4 q (by omega), f3 q (by omega), f2 q (by omega) (by omega) (by omega)]
  have nw : ∀ q, 125 ≤ q → q ≤ 127 → m7.1 q = m2.1 q := fun q h1 h2 => by rw [f7 q (by omega), f4 q (by omega), f3 q (by omega)]
  have st : ∀ q, 128 ≤ q → q ≤ 219 → m7.1 q = m3.1 q := fun q h1 h2 => by rw [f7 q (by omega), f4 q (by omega)]
  have td : ∀ q, 220 ≤ q → q ≤ 226 → m7.1 q = m4.1 q := fun q h1 h2 => f7 q (by omega)
  refine hK m7 ⟨?_, ?_, fun b hb => ?_, fun b hb => ?_, fun b hb => ?_, fun b hb => ?_, fun b hb => ?_, fun b hb => ?_, fun b hb => ?_, ?_, ?_, ?_, fun i hi => ?_, fun b hb => ?_, fun b hb => ?_, ?_, fun b hb => ?_, fun b hb => ?_, fun b hb => ?_, fun b hb => ?_, ?_, ?_, ?_⟩ (fun q hq => ?_)
  · rw [lo (2 + 113) (by omega) (by omega)]; exact a1
  · rw [lo (2 + 113) (by omega) (by omega)]; exact a2
  · rw [lo (3 + 113) (by omega) (by omega)]; exact a3 b hb
  · rw [lo (4 + 113) (by omega) (by omega)]; exact a4 b hb
  · rw [lo (5 + 113) (by omega) (by omega)]; exact a5 b hb
  · rw [lo (6 + 113) (by omega) (by omega)]; exact a6 b hb
  · rw [lo (7 + 113) (by omega) (by omega)]; exact a7 b hb
  · rw [lo (8 + 113) (by omega) (by omega)]; exact a8 b hb
  · rw [lo (9 + 113) (by omega) (by omega)]; exact a9 b hb
  · exact c2.fr (nw _ (by omega) (by omega)) (nw _ (by omega) (by omega)) (nw _ (by omega) (by omega)) (s1 _ (by omega) (by omega)).symm (s1 _ (by omega) (by omega)).symm (s1 _ (by omega) (by omega)).symm
  · rw [st (15 + 113) (by omega) (by omega), show m3.1 (15 + 113) 0 = _ from b1, s2 15 (by omega) (by omega)]
  · rw [st (15 + 113) (by omega) (by omega), show m3.1 (15 + 113) 1 = _ from b2, s2 15 (by omega) (by omega)]
  · exact (b3 i hi).fr (st _ (by omega) (by omega)) (st _ (by omega) (by omega)) (st _ (by omega) (by omega)) (s2 _ (by omega) (by omega)).symm (s2 _ (by omega) (by omega)).symm (s2 _ (by omega) (by omega)).symm
  · rw [td (108 + 113) (by omega) (by omega), show m4.1 (108 + 113) b = _ from t1 b hb, s3 108 (by omega) (by omega)]
  · rw [td (109 + 113) (by omega) (by omega), show m4.1 (109 + 113) b = _ from t2 b hb, s3 109 (by omega) (by omega)]
  · rw [td (107 + 113) (by omega) (by omega), show m4.1 (107 + 113) 2 = _ from t3, s3 107 (by omega) (by omega)]
  · rw [td (110 + 113) (by omega) (by omega), show m4.1 (110 + 113) b = _ from t4 b hb, s3 110 (by omega) (by omega)]
  · rw [td (111 + 113) (by omega) (by omega), show m4.1 (111 + 113) b = _ from t5 b hb, s3 111 (by omega) (by omega)]
  · rw [td (112 + 113) (by omega) (by omega), show m4.1 (112 + 113) b = _ from t6 b hb, s3 112 (by omega) (by omega)]
  · rw [td (113 + 113) (by omega) (by omega), show m4.1 (113 + 113) b = _ from t7 b hb, s3 113 (by omega) (by omega)]
  · rw [show m7.1 (1 + 113) = _ from w1]; simp (disch := omega) only [upd_n, upd_s]
  · rw [show m7.1 (1 + 113) = _ from w1]; simp (disch := omega) only [upd_n, upd_s]
  · rw [show m7.1 (1 + 113) = _ from w1]; simp (disch := omega) only [upd_n, upd_s]
  · rw [f7 q (by omega), f4 q (by omega), f3 q (by omega), f2 q (by omega) (by omega) (by omega), f1 q (by omega)]
theorem qX12_copy (G : GP) (d : Nat) (p0 p1 : Nat) (h0 : SH[p0]? = some (100, 5968, [])) (h1 : SH[p1]? = some (100, 5968, [])) (hp : p0 ≠ p1) (m : Mem) (K : Mem → Prop) (hK : ∀ m' : Mem, (∀ k, k < 5968 → m'.1 p1 k = m.1 p0 k) → (∀ q, q ≠ p1 → m'.1 q = m.1 q) → K m') : Evv G d mX12_copy [.ref (ga G p0), .ref (ga G p1)] m K := by
  refine vX12_copy G d p0 5968 h0 p1 5968 h1 m K ?_
  refine loopD (P := fun i => ∀ m' : Mem, (∀ k, k < i → m'.1 p1 k = m.1 p0 k) → (∀ q, q ≠ p1 → m'.1 q = m.1 q) → Gw G d mX12_copy 2 [.ref (ga G p0), .ref (ga G p1), .int (nI i)] [] m' (Qv K)) 5968 ?_ ?_ m (fun k hk => by omega) (fun _ _ => rfl)
  · intro i hi hP m' c1 c2
    refine vX12_copy_2 G d p0 5968 h0 p1 5968 h1 (nI i) m' K ⟨fun q => ?_, fun _ => ⟨in_nI hi (by omega), in_nI hi (by omega), ?_⟩⟩
    · exfalso
      have q := (le_nI (a := 5968) (by omega) (by omega)).mp q
      omega
    rw [tn_nI (by omega), c2 p0 hp]
    rintro _ rfl _ rfl
    rw [nI_1]
    refine hP _ (fun k hk => ?_) (fun q hq => by rw [wI_n _ _ _ hq]; exact c2 q hq)
    rw [wI_s]
    by_cases e : k = i
    · rw [e, upd_s]
    · rw [upd_n _ _ e]; exact c1 k (by omega)
  · intro m' c1 c2
    exact vX12_copy_2 G d p0 5968 h0 p1 5968 h1 (nI 5968) m' K ⟨fun _ => hK m' c1 c2, fun q => absurd (Int32.le_refl _) q⟩
theorem sh274 : SH[274]? = some (100, 5968, []) := by decide +kernel
theorem sh275 : SH[275]? = some (100, 5968, []) := by decide +kernel
theorem case_image (G : GP) (d : Nat) {n : Nat} (m : Mem) (h : Inv TXc n m.1) : Evi G (d + 4) mX11_image [.ref (ga G 0)] m (Same G TXc n (d + 1) mX12_image []) := by
  obtain ⟨a1, a2, a3, a4, a5, a6, a7, a8, a9⟩ := id h
  refine vX11_image G d m _ (kC_copy_k G d m (m.1 274) _ a3 a1 (fun m1 hC f1 => ?_))
  refine vX12_image G d m1 _ (qX12_copy G d 274 275 sh274 sh275 (by omega) m1 _ (fun m2 c2 f2 => ?_))
  have g4 : m2.1 274 = m.1 274 := by rw [f2 274 (by omega), f1 274 (by omega)]
  have g : ∀ q, (q < 114 ∨ 226 < q) → q ≠ 275 → m2.1 q = m.1 q := fun q h1 h2 => by rw [f2 q h2, f1 q (by omega)]
  have ag : ∀ i, i < 5968 → m2.1 275 i = m.1 274 i := fun i hi => by rw [c2 i hi, f1 274 (by omega)]
  refine ⟨?_, by rw [g4]; exact a1, a1.ag5 ag, by rw [g4]; exact a3.fr (fun c h1 h2 _ _ => g c (by omega) (by omega)), ?_, a5.fr ?_ ?_ ?_ ?_, a6.fr ?_ ?_ ?_, ?_, by rw [g4]; omega, ?_⟩
  · rw [f1 12 (by omega), g4]; exact a3.now.hour
  · exact (a3.mv a1 ag hC).fr (fun c h1 h2 _ _ => f2 c (by omega))
  · rw [g 228 (by omega) (by omega)]
  · rw [g 273 (by omega) (by omega)]
  · rw [g 278 (by omega) (by omega)]
  · rw [g 229 (by omega) (by omega)]
  · rw [g 233 (by omega) (by omega)]
  · rw [g 273 (by omega) (by omega)]
  · rw [g 273 (by omega) (by omega)]
  · obtain ⟨b1, b2, b3, b4, b5, b7⟩ := a7
    have h4 : tn (m.1 274 2) ≤ 4 := (a1.nt.is (by omega)).2.2
    have eT : ∀ t, t < 4 → TxEq m.1 m2.1 t := fun t ht => ⟨fun q h1 h2 => g q (by omega) (by omega), fun i _ _ => by rw [g 276 (by omega) (by omega)]⟩
    refine ⟨by rw [g4, ag 2 (by omega)]; exact Nat.le_refl _, fun t ht => ?_, by rw [g 1 (by omega) (by omega), g4]; exact b3, by rw [g 1 (by omega) (by omega)]; exact b4, by rw [g 1 (by omega) (by omega)]; exact b5, ?_⟩
    · rw [g4] at ht
      exact (b2 t ht).fr (eT t (by omega))
    · have ht : ¬ m.1 1 6 = -1 → tn (m.1 1 6) < tn (m.1 274 2) := fun z => by
        rcases b5 with y | ⟨t, ht, y⟩
        · exact absurd y z
        · rw [b3] at ht
          rw [y, show tn (nI t) = t from tn_nI (by omega)]
          exact ht
      rw [g 1 (by omega) (by omega), g 2 (by omega) (by omega), g 8 (by omega) (by omega), g 9 (by omega) (by omega), g 265 (by omega) (by omega)]
      exact b7.fr _root_.id (fun z => b2 _ (ht z)) (fun z => eT _ (by have := ht z; omega)) (Nat.le_refl _) (fun _ _ => rfl) (fun _ _ => rfl)
  · rw [ag 13 (by omega)]; omega
theorem case_back (G : GP) (d : Nat) {n : Nat} (m : Mem) (h : Inv TXc n m.1) : Evi G (d + 4) mX11_back [.ref (ga G 0)] m (Same G TXc n (d + 1) mX12_back []) := by
  obtain ⟨a1, a2, a3, a4, a5, a6, a7, a8, a9⟩ := id h
  refine vX11_back G d m _ (kC_copy_w G d m (m.1 275) _ a4 a2 (fun m0 hC f0 => kC_forget G (d + 2) m0 _ (fun m1 z1 f1' => ?_)))
  have f1 : ∀ q, (q < 1 ∨ 113 < q) → q ≠ 265 → m1.1 q = m.1 q := fun q h1 h2 => by rw [f1' q h2, f0 q (by omega)]
  refine vX12_back G d m1 _ (qX12_copy G d 275 274 sh275 sh274 (by omega) m1 _ (fun m2 c2 f2 => ?_))
  have g5 : m2.1 275 = m.1 275 := by rw [f2 275 (by omega), f1 275 (by omega) (by omega)]
  have g : ∀ q, 113 < q → q ≠ 274 → q ≠ 265 → m2.1 q = m.1 q := fun q h1 h2 h3 => by rw [f2 q h2, f1 q (by omega) h3]
  have ag : ∀ i, i < 5968 → m2.1 274 i = m.1 275 i := fun i hi => by rw [c2 i hi, f1 275 (by omega) (by omega)]
  have W2 : WF (m2.1 274) := a2.ag5 ag
  have r2 : RC m2.1 0 (m2.1 274) := (a4.mv a2 ag hC).fr (fun c h1 h2 _ _ => by rw [f2 c (by omega), f1' c (by omega)])
  refine ⟨?_, W2, by rw [g5]; exact a2, r2, ?_, a5.fr ?_ ?_ ?_ ?_, a6.fr ?_ ?_ ?_, ?_, ?_, by rw [g5]; omega⟩
  · rw [← f2 12 (by omega)]; exact r2.now.hour
  · rw [g5]; exact a4.fr (fun c h1 h2 _ _ => g c (by omega) (by omega) (by omega))
  · rw [g 228 (by omega) (by omega) (by omega)]
  · rw [g 273 (by omega) (by omega) (by omega)]
  · rw [g 278 (by omega) (by omega) (by omega)]
  · rw [g 229 (by omega) (by omega) (by omega)]
  · rw [g 233 (by omega) (by omega) (by omega)]
  · rw [g 273 (by omega) (by omega) (by omega)]
  · rw [g 273 (by omega) (by omega) (by omega)]
  · obtain ⟨b1, b2, b3, b4, b5, b7⟩ := a7
    have h4 : tn (m.1 274 2) ≤ 4 := (a1.nt.is (by omega)).2.2
    have eT : ∀ t, t < 4 → TxEq m.1 m2.1 t := fun t ht => ⟨fun q h1 h2 => g q (by omega) (by omega) (by omega), fun i _ _ => by rw [g 276 (by omega) (by omega) (by omega)]⟩
    have e5 : m2.1 1 5 = m2.1 274 2 := r2.nt
    have e6 : m2.1 1 6 = m2.1 274 3 := r2.ru
    refine ⟨by rw [g5, ag 2 (by omega)]; exact Nat.le_refl _, fun t ht => ?_, e5, by rw [e5]; exact W2.nt, by rw [e5, e6]; exact W2.ru, FDx.zero (fun i hi => ?_)⟩
    · rw [ag 2 (by omega)] at ht
      exact (b2 t (by omega)).fr (eT t (by omega))
    · rw [f2 265 (by omega)]; exact z1 i hi
  · rw [ag 13 (by omega)]; omega
