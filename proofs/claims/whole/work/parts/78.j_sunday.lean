/-! rows that agree below the book read alike -/
def AgL (a b : Nat → Int32) : Prop := ∀ i, i < 1088 → b i = a i
theorem hN_ag {a b : Nat → Int32} (h : WF a) (hb : AgL a b) : hN b = hN a ∧ hR b = hR a := by
  have n14 : tn (a 14) ≤ 24 := (h.now.nr.is (by omega)).2.2
  unfold hN hR
  rw [hb 14 (by omega)]
  have e : ∀ k, k < tn (a 14) → (fun k => b (164 + k)) k = (fun k => a (164 + k)) k := fun k hk => hb (164 + k) (by omega)
  exact ⟨hn_congr _ e, hv_congr _ e⟩
theorem lenW_ag {a b : Nat → Int32} (hb : AgL a b) {w : Nat} (hw : w ≤ 10) : lenW b w = lenW a w := by
  unfold lenW; rw [hb _ (by omega)]
theorem hrB_ag {a b : Nat → Int32} (h : WF a) (hb : AgL a b) {w fr : Nat} (hw : w ≤ 10) : ∀ k, k ≤ 4 → hrB b w fr k = hrB a w fr k
  | 0, _ => rfl
  | k + 1, hk => by
    show (hrB b w fr k && decide (hR b (fr + k) = b (37 + 9 * w + k))) = (hrB a w fr k && decide (hR a (fr + k) = a (37 + 9 * w + k)))
    rw [hrB_ag h hb hw k (by omega), (hN_ag h hb).2, hb _ (by omega)]
theorem herB_ag {a b : Nat → Int32} (h : WF a) (hb : AgL a b) {w fr : Nat} (hw : w < tn (a 1)) : herB b w fr = herB a w fr := by
  have h10 := h.nw10
  unfold herB
  rw [lenW_ag hb (by omega), (hN_ag h hb).1, hrB_ag h hb (by omega) _ (h.lenW hw).2.2]
theorem sen_ag {X : Nat → Nat → Int32} {a b : Nat → Int32} (h : WF a) (hb : AgL a b) {se : Bool} {la w p : Nat} (hw : w < tn (a 1)) (hl : la ≤ 10) : sen X b se la w p = sen X a se la w p := by
  have h10 := h.nw10
  have e3 : b 3 = a 3 := hb 3 (by omega)
  have kd : ∀ x, x ≤ 10 → kdA b x = kdA a x := fun x hx => hb _ (by omega)
  have mn : ∀ x, x ≤ 10 → mnA b x = mnA a x := fun x hx => hb _ (by omega)
  unfold sen bgn fol flw
  rw [e3, nmW_congr (p := 0) (kd w (by omega)) (mn w (by omega)) (kd w (by omega)) (mn w (by omega)), nmW_congr (p := p) (kd la hl) (mn la hl) (kd w (by omega)) (mn w (by omega))]
theorem wy_ag {X : Nat → Nat → Int32} {a b : Nat → Int32} (h : WF a) (hb : AgL a b) (se : Bool) : ∀ f fr la p, la ≤ 10 → wy X b se f fr la p = wy X a se f fr la p
  | 0, _, _, _, _ => rfl
  | f + 1, fr, la, p, hl => by
    have h10 := h.nw10
    unfold wy
    rw [(hN_ag h hb).1, hb 1 (by omega)]
    by_cases e : fr = hN a
    · rw [if_pos e, if_pos e]
    · rw [if_neg e, if_neg e]
      refine sm_congr _ (fun w hw => ⟨?_, fun _ => ?_⟩)
      · rw [herB_ag h hb hw, sen_ag h hb hw hl]
      · rw [lenW_ag hb (by omega)]
        exact wy_ag h hb se f _ _ _ (by omega)
theorem VV_ag {X : Nat → Nat → Int32} {a b : Nat → Int32} (h : WF a) (hb : AgL a b) (se : Bool) : VV X b se 0 10 0 = VV X a se 0 10 0 := by
  unfold VV
  rw [(hN_ag h hb).1]
  exact wy_ag h hb se _ _ _ _ (by omega)
/-! the class -/
theorem kC_count (G : GP) (d : Nat) (m : Mem) (a : Nat → Int32) (K : Int32 → Mem → Prop) (h : WF a) (e4 : m.1 12 4 = a 14) (er : ∀ k, k < tn (a 14) → m.1 13 k = a (164 + k)) (hK : K (nI (hN a)) m) : Evi G d mX5_countHeard [.ref (ga G 12)] m K := by
  have n14 := h.now.nr.is (by omega)
  have b14 : tn (a 14) ≤ 24 := n14.2.2
  have e14 : a 14 = nI (tn (a 14)) := n14.1
  refine vX5_countHeard G d m K ?_
  refine loopD (P := fun i => Gw G d mX5_countHeard 4 [.ref (ga G 12), .int (nI (hn (fun k => a (164 + k)) i)), .int (nI i)] [] m (Qi K)) (tn (a 14)) ?_ ?_
  · intro i hi hP
    refine vX5_countHeard_4 G d _ (nI i) m K ?_
    rw [e4, tn_nI (by omega), er i hi]
    refine ⟨fun q => ?_, fun _ => ⟨in_nI (by omega) (by omega), fun q => ?_, fun q => ?_⟩⟩
    · rw [e14, le_nI (by omega) (by omega)] at q
      omega
    · rintro _ rfl
      rw [nI_1]
      unfold hn at hP
      rw [if_pos q] at hP
      exact hP
    · rintro _ rfl _ rfl
      rw [nI_1, nI_1]
      unfold hn at hP
      rw [if_neg q] at hP
      exact hP
  · refine vX5_countHeard_4 G d _ (nI (tn (a 14))) m K ⟨fun _ => hK, fun q => absurd ?_ q⟩
    rw [e4, ← e14]
    exact Int32.le_refl _
theorem kC_writeSun (G : GP) (d : Nat) (v : Int32) (m : Mem) (a : Nat → Int32) (K : Int32 → Mem → Prop) (r : RC m.1 0 a) (h : WF a) (hw : ∀ i, i + 1 = tn (a 4) → tn (a 13) + 1 ≤ tn (a (192 + 30 * i)) + 40) (hb : tn (a 13) < 30000) (hK : ∀ m' : Mem, RC m'.1 0 (sunF a v) → (∀ q, q ≠ 12 → q ≠ 14 → m'.1 q = m.1 q) → K v m') : Evi G (d + 1) mX5_writeSunday [.ref (ga G 12), .int v] m K := by
  have e6 : m.1 12 6 = nI (min (tn (a 13)) 20) := r.now.sun
  have e2 : m.1 12 2 = a 10 := r.now.hour
  have e4 : m.1 12 4 = a 14 := r.now.nr
  have er : ∀ k, k < tn (a 14) → m.1 13 k = a (164 + k) := r.now.row
  obtain ⟨k0, k1, k2, k3⟩ := sunF_bk a v
  have bk : ∀ (f : Nat → Int32) (y j : Nat), j < 4 → upd (upd (upd (upd f y (a 10)) (y + 1) (a 14)) (y + 2) (nI (hN a))) (y + 3) v (y + j) = sunF a v (sunX a + j) := by
    intro f y j hj
    match j, hj with
    | 0, _ => simp (disch := omega) only [upd_n, upd_s, Nat.add_zero]; exact k0.symm
    | 1, _ => simp (disch := omega) only [upd_n, upd_s]; exact k1.symm
    | 2, _ => simp (disch := omega) only [upd_n, upd_s]; exact k2.symm
    | 3, _ => simp (disch := omega) only [upd_n, upd_s]; exact k3.symm
  refine vX5_writeSunday G d v m K ⟨fun q => ?_, fun q => ?_⟩
  · have q : tn (a 13) < 20 := by
      rw [e6] at q
      have q := (lt_nI (b := 20) (by omega) (by omega)).mp q
      omega
    have eS : min (tn (a 13)) 20 = tn (a 13) := by omega
    rw [e6, eS, show nI (tn (a 13)) * 4 = nI (4 * tn (a 13)) by rw [show (4 : Int32) = nI 4 from rfl, pk_mul]; congr 1; omega]
    rintro _ rfl
    rw [nI_1, show nI (4 * tn (a 13)) + 2 = nI (4 * tn (a 13) + 2) from nI_add _ 2, show nI (4 * tn (a 13)) + 3 = nI (4 * tn (a 13) + 3) from nI_add _ 3, tn_nI (by omega), tn_nI (by omega), tn_nI (by omega), tn_nI (by omega)]
    refine ⟨in_nI (by omega) (by omega), ?_⟩
    rintro _ rfl
    refine ⟨in_nI (by omega) (by omega), ?_⟩
    rintro _ rfl
    refine kC_count G d _ a _ h e4 er ⟨in_nI (by omega) (by omega), ?_⟩
    rintro _ rfl
    refine ⟨in_nI (by omega) (by omega), ?_⟩
    rintro _ rfl _ rfl _ rfl
    refine hK _ (r.sun h v hw hb (fun c h1 h2 h3 h4 h5 => ?_) ?_ (fun i j hi hj => ?_) (fun j hj => ?_)) (fun c h1 h2 => ?_)
    · simp only [wI_n _ _ _ h3, wI_n _ _ _ h5]
    · rw [wI_s, wI_s]
      simp only [wI_n _ _ _ (show (12 : Nat) ≠ 14 by omega)]
      rw [e6, eS, nI_1, show min (tn (a 13) + 1) 20 = tn (a 13) + 1 by omega]
    · rw [if_pos q]
      simp only [wI_n _ _ _ (show (14 : Nat) ≠ 12 by omega), wI_s]
      simp (disch := omega) only [upd_n]
    · rw [show min (tn (a 13) + 1) 20 - 1 = tn (a 13) by omega]
      simp only [wI_n _ _ _ (show (14 : Nat) ≠ 12 by omega), wI_s, wI_n _ _ _ (show (12 : Nat) ≠ 14 by omega)]
      rw [e2, e4]
      exact bk _ _ j hj
    · simp only [wI_n _ _ _ h1, wI_n _ _ _ h2]
  · have q : 20 ≤ tn (a 13) := by
      rcases Nat.lt_or_ge (tn (a 13)) 20 with z | z
      · exact absurd (by rw [e6]; exact (lt_nI (b := 20) (by omega) (by omega)).mpr (by omega)) q
      · exact z
    rintro _ rfl
    have c6 : (wI m 12 6 19).1 12 6 = 19 := by rw [wI_s, upd_s]
    rw [c6]
    refine ⟨by decide, ?_⟩
    rintro _ rfl
    have c7 : (wA (wI m 12 6 19) 14 (va_cpy ((wI m 12 6 19).1 14) ((wI m 12 6 19).1 14) (4 : Int32).toNatClampNeg (0 : Int32).toNatClampNeg ((19 : Int32) * 4).toNatClampNeg)).1 12 6 = 19 := c6
    rw [c7]
    rintro _ rfl
    refine ⟨vp_in_dec (by decide), ?_⟩
    rintro _ rfl
    refine ⟨vp_in_dec (by decide), ?_⟩
    rintro _ rfl
    refine kC_count G d _ a _ h e4 er ⟨vp_in_dec (by decide), ?_⟩
    rintro _ rfl
    refine ⟨vp_in_dec (by decide), ?_⟩
    rintro _ rfl _ rfl _ rfl
    have cp : ∀ k, k < 76 → va_cpy (m.1 14) (m.1 14) 4 0 76 k = m.1 14 (4 + k) := fun k hk => by
      rw [pk_cpy_in (by omega) (by omega), Nat.sub_zero]
    refine hK _ (r.sun h v hw hb (fun c h1 h2 h3 h4 h5 => ?_) ?_ (fun i j hi hj => ?_) (fun j hj => ?_)) (fun c h1 h2 => ?_)
    · simp only [wI_n _ _ _ h3, wI_n _ _ _ h5, wA_n _ _ h5]
    · rw [wI_s, wI_s]
      simp only [wI_n _ _ _ (show (12 : Nat) ≠ 14 by omega), wA_n _ _ (show (12 : Nat) ≠ 14 by omega)]
      rw [wI_s, upd_s, show min (tn (a 13) + 1) 20 = 20 by omega]
      funext k
      by_cases z : k = 4
      · rw [z, upd_s, upd_s]
      · rw [upd_n _ _ z, upd_n _ _ z]
        by_cases z2 : k = 6
        · rw [z2, upd_s, upd_s]; rfl
        · rw [upd_n _ _ z2, upd_n _ _ z2, upd_n _ _ z2]
    · rw [if_neg (by omega)]
      show upd (upd (upd (upd (va_cpy (m.1 14) (m.1 14) 4 0 76) 76 _) 77 _) 78 _) 79 _ (4 * i + j) = _
      simp (disch := omega) only [upd_n]
      rw [cp _ (by omega), show 4 + (4 * i + j) = 4 * (i + 1) + j by omega]
    · rw [show min (tn (a 13) + 1) 20 - 1 = 19 by omega]
      show upd (upd (upd (upd (va_cpy (m.1 14) (m.1 14) 4 0 76) 76 (m.1 12 2)) 77 (m.1 12 4)) 78 (nI (hN a))) 79 v (76 + j) = _
      rw [e2, e4]
      exact bk _ 76 j hj
    · simp only [wI_n _ _ _ h1, wI_n _ _ _ h2, wA_n _ _ h2]
noncomputable def sdF (X : Nat → Nat → Int32) (a : Nat → Int32) : Nat → Int32 := sunF a (nI (VV X a true 0 10 0))
def okS (a : Nat → Int32) : Prop := (∀ i, i + 1 = tn (a 4) → tn (a 13) + 1 ≤ tn (a (192 + 30 * i)) + 40) ∧ tn (a 13) < 30000
theorem sun_gr (a : Nat → Int32) (v : Int32) : GrS a (sunF a v) := ⟨sunF_ag a v _ (by omega) (by omega) (by omega), sunF_ag a v _ (by omega) (by omega) (by omega), sunF_ag a v _ (by omega) (by omega) (by omega), fun i h1 h2 => sunF_ag a v _ (by omega) (by omega) (by omega)⟩
theorem kP_sun (G : GP) (d : Nat) (X : Nat → Nat → Int32) (m : Mem) (a : Nat → Int32) (K : Int32 → Mem → Prop) (h : St X m a) (ho : okS a) (hK : ∀ m' : Mem, St X m' (sdF X a) → FrP m.1 m'.1 → K (nI (VV X a true 0 10 0)) m') : Evi G (d + 5) mX0_waysToRead [.ref (ga G 266), .int 1] m (fun r3 m2 => Evi G (d + 5) mX5_writeSunday [.ref (ga G 12), .int r3] m2 (fun r5 m4 => K r5 m4)) := by
  obtain ⟨s1, s2, s3, s4, s5⟩ := id h
  refine kC_ways G d X 1 true (by decide) m a _ s1 s2 s4 s3 s5 (fun m1 R f1 d1 _ => ?_)
  have r1 : RC m1.1 0 a := s1.fr (fun c h1 h2 _ _ => f1 c (by omega))
  refine kC_writeSun G (d + 4) _ m1 a _ r1 s2 ho.1 ho.2 (fun m2 r2 f2 => ?_)
  have fP : FrP m.1 m2.1 := fun c h1 h2 h3 => by
    have h2 : ¬ (c = 10 ∨ c = 11 ∨ (235 ≤ c ∧ c ≤ 237) ∨ c = 263 ∨ c = 264 ∨ (266 ≤ c ∧ c ≤ 272) ∨ c = 277 ∨ 279 ≤ c) := h2
    rw [f2 c (by omega) (by omega), f1 c (by omega)]
  refine hK m2 ⟨r2, s2.sun _ ho.2 ho.1, fun q h1 h2 => ?_, fun t ht => s4 t (by rw [show sdF X a 2 = a 2 from (sun_gr a _).2.1] at ht; exact ht), ?_⟩ fP
  · rw [fP q (by omega) (by unfold Scr; omega) (by omega)]; exact s3 q h1 h2
  · rw [f2 265 (by omega) (by omega)]
    exact (sun_gr a _).fd s2 d1
theorem qP_sun (G : GP) (d : Nat) (X : Nat → Nat → Int32) (m : Mem) (a : Nat → Int32) (K : Int32 → Mem → Prop) (h : Mo X m a) (ho : okS a) (hK : ∀ m' : Mem, Mo X m' (sdF X a) → FrM m.1 m'.1 → K (nI (VV X a true 0 10 0)) m') : Evi G (d + 8) mX12_endSunday [.ref (ga G 273)] m K := by
  obtain ⟨e, hW, h2, h3⟩ := id h
  subst e
  have w13 := hW.now.wr.is (by omega)
  have e13 : m.1 274 13 = nI (tn (m.1 274 13)) := w13.1
  have b13 := ho.2
  have n14 := hW.now.nr.is (by omega)
  have ex : (1088 : Int32) + 4 * (m.1 274 13 - m.1 274 13 / 1220 * 1220) = nI (sunX (m.1 274)) := by
    rw [e13, show nI (tn (m.1 274 13)) - nI (tn (m.1 274 13)) / 1220 * 1220 = nI (tn (m.1 274 13) % 1220) from pk_rem (d := 1220) (by omega) (by omega) (by omega)]
    show nI 1088 + nI 4 * _ = _
    rw [pk_mul, nI_add]
    rfl
  have hx : sunX (m.1 274) + 3 < 5968 ∧ 1088 ≤ sunX (m.1 274) := by unfold sunX; omega
  have x1 : nI (sunX (m.1 274)) + 1 = nI (sunX (m.1 274) + 1) := nI_1 _
  have x2 : nI (sunX (m.1 274)) + 2 = nI (sunX (m.1 274) + 2) := nI_add _ 2
  have x3 : nI (sunX (m.1 274)) + 3 = nI (sunX (m.1 274) + 3) := nI_add _ 3
  refine vX12_endSunday G d m K ?_
  rw [ex]
  rintro _ rfl
  rw [x1, x2, x3, tn_nI (by omega), tn_nI (by omega), tn_nI (by omega), tn_nI (by omega)]
  refine ⟨in_nI (by omega) (by omega), ?_⟩
  rintro _ rfl
  refine ⟨in_nI (by omega) (by omega), ?_⟩
  rintro m3 hm3
  generalize hA : m.1 274 = a at *
  have a3 : m3.1 274 = upd (upd a (sunX a) (a 10)) (sunX a + 1) (a 14) := by
    rw [hm3, wI_s, wI_s, hA]
    congr 1
    rw [upd_n _ _ (by omega)]
  have ag3 : AgL a (m3.1 274) := fun i hi => by rw [a3, upd_n _ _ (by omega), upd_n _ _ (by omega)]
  have f3 : ∀ q, q ≠ 274 → m3.1 q = m.1 q := fun q hq => by rw [hm3, wI_n _ _ _ hq, wI_n _ _ _ hq]
  have W3 : WF (m3.1 274) := hW.agr (fun i h1 _ _ => ag3 i h1) (by rw [ag3 13 (by omega)]; exact hW.now.wr) (by rw [ag3 14 (by omega)]; exact hW.now.nr) (fun k hk => by rw [ag3 14 (by omega)] at hk; exact hk) (fun i hi => by rw [ag3 13 (by omega)]; exact hW.w2 i hi)
  refine qX12_heardL G (d + 7) m3 _ W3 (fun m4 f4a f4 _ => ⟨in_nI (by omega) (by omega), ?_⟩)
  rw [(hN_ag hW ag3).1]
  rintro m6 hm6
  have a6 : m6.1 274 = upd (upd (upd a (sunX a) (a 10)) (sunX a + 1) (a 14)) (sunX a + 2) (nI (hN a)) := by
    rw [hm6, wI_s, f4 274 (by omega), a3]
  have ag6 : AgL a (m6.1 274) := fun i hi => by rw [a6, upd_n _ _ (by omega), upd_n _ _ (by omega), upd_n _ _ (by omega)]
  have W6 : WF (m6.1 274) := hW.agr (fun i h1 _ _ => ag6 i h1) (by rw [ag6 13 (by omega)]; exact hW.now.wr) (by rw [ag6 14 (by omega)]; exact hW.now.nr) (fun k hk => by rw [ag6 14 (by omega)] at hk; exact hk) (fun i hi => by rw [ag6 13 (by omega)]; exact hW.w2 i hi)
  have f6 : ∀ q, q ≠ 274 → q ≠ 283 → m6.1 q = m.1 q := fun q hq h3 => by rw [hm6, wI_n _ _ _ hq, f4 q h3, f3 q hq]
  refine qX12_readings G d X 1 true (by decide) m6 _ W6 (by rw [ag6 2 (by omega)]; exact h3) (by rw [f6 276 (by omega) (by omega)]; exact h2) (fun m7 f7 => ⟨in_nI (by omega) (by omega), ?_⟩)
  rw [VV_ag hW ag6]
  rintro _ rfl _ rfl _ rfl
  have g7 : m7.1 274 = m6.1 274 := f7 274 (by omega)
  have a11 : (wI (wI (wI m7 274 (sunX a + 3) (nI (VV X a true 0 10 0))) 274 13 ((wI m7 274 (sunX a + 3) (nI (VV X a true 0 10 0))).1 274 13 + 1)) 274 14 0).1 274 = sdF X a := by
    rw [wI_s, wI_s, wI_s, g7, a6]
    unfold sdF sunF
    congr 2
    simp (disch := omega) only [upd_n]
    rw [e13, nI_1]
    rw [show tn (nI (tn (a 13))) = tn (a 13) from tn_nI (by omega)]
  refine ⟨in_nI (by omega) (by omega), ?_⟩
  rw [a11, (show sdF X a (sunX a + 3) = nI (VV X a true 0 10 0) from (sunF_bk a _).2.2.2)]
  have fM : FrM m.1 (wI (wI (wI m7 274 (sunX a + 3) (nI (VV X a true 0 10 0))) 274 13 ((wI m7 274 (sunX a + 3) (nI (VV X a true 0 10 0))).1 274 13 + 1)) 274 14 0).1 := fun c h1 h2 => by
    have h2 : ¬ (c = 10 ∨ c = 11 ∨ (235 ≤ c ∧ c ≤ 237) ∨ c = 263 ∨ c = 264 ∨ (266 ≤ c ∧ c ≤ 272) ∨ c = 277 ∨ 279 ≤ c) := h2
    rw [wI_n _ _ _ h1, wI_n _ _ _ h1, wI_n _ _ _ h1, f7 c (by omega), f6 c h1 (by omega)]
  exact hK _ (h.go a11 (hW.sun _ ho.2 ho.1) (sun_gr a _).2.1 fM) fM
theorem okS_keep {a : Nat → Int32} (h : WF a) (hb : tn (a 13) < 30000) : okS (keepF a) := by
  have b4 := (h.ns.is (by omega)).2.2
  have hks : ks a ≤ 29 := by unfold ks; split <;> omega
  refine ⟨fun i hi => ?_, by rw [keep_i h (by omega) (by omega)]; exact hb⟩
  rw [keepF_4, show tn (nI (ks a + 1)) = ks a + 1 from tn_nI (by omega)] at hi
  have e : i = ks a := by omega
  subst e
  have := keepF_n1 (a := a) (r := 1) (by omega)
  rw [show 191 + 30 * ks a + 1 = 192 + 30 * ks a by omega, show 12 + 1 = 13 from rfl] at this
  rw [this, keep_i h (by omega) (by omega)]
  omega
/-- how the count of Sundays goes on from the latest step -/
theorem case_sunday (G : GP) (d : Nat) {n : Nat} (hn : n < 700) (m : Mem) (h : Inv TXc n m.1) : Evi G (d + 6) mX11_sunday [.ref (ga G 0)] m (Same G TXc n (d + 9) mX12_sunday []) := by
  have h13 := h.2.2.2.2.2.2.2.1
  have ho := okS_keep h.1 (by omega)
  refine vX11_sunday G d m _ ?_
  refine kP_keep G (d + 2) m.1 m (m.1 274) _ h.st (fun m1 s1 f1 => ?_)
  refine kP_sun G d m.1 m1 (keepF (m.1 274)) _ s1 ho (fun m2 s2 f2 => ?_)
  refine vX12_sunday G d m2 _ ?_
  refine qP_keep G (d + 8) m.1 m2 (m.1 274) _ (h.mo (f1.tr f2)) (fun m3 s3 f3 => ?_)
  refine qP_sun G d m.1 m3 (keepF (m.1 274)) _ s3 ho (fun m4 s4 f4 => ?_)
  refine ⟨rfl, h.fin s2 (f1.tr f2) s4 (f3.tr f4) (((sun_gr _ _).2.1).trans (keep_gr h.1).2.1) ?_⟩
  show tn (sunF _ _ 13) ≤ _
  rw [sunF_13, keep_i h.1 (by omega) (by omega), show tn (nI (tn (m.1 274 13) + 1)) = tn (m.1 274 13) + 1 from tn_nI (by omega)]
  omega
