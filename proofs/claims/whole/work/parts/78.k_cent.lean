/-! CENTURIES -/
theorem WF.dr1 {a : Nat → Int32} {v : Int32} (h : WF a) (hv : bd v 0 30340) : WF (upd a 12 v) := by
  have b0 := (h.nb.is (by omega)).2.2
  have b1 := (h.nw.is (by omega)).2.2
  have b2 := (h.nt.is (by omega)).2.2
  have b4 := (h.ns.is (by omega)).2.2
  have b5 := (h.nl.is (by omega)).2.2
  have b6 : tn (a 6) ≤ 12 := ((h.tl 0 (by omega)).is (by omega)).2.2
  have b7 : tn (a 7) ≤ 12 := ((h.tl 1 (by omega)).is (by omega)).2.2
  have bt : ∀ t, t < 2 → tn (a (6 + t)) ≤ 12 := fun t ht => ((h.tl t ht).is (by omega)).2.2
  unfold WF WFs
  simp +contextual (disch := omega) only [upd_n, upd_s]
  refine ⟨h.nb, h.nw, h.nt, h.ru, h.ns, h.nl, h.tl, h.hd, h.loud, h.pitch, h.men, h.kind, h.means, h.len, h.str, h.non, h.wei, h.has, h.li0, h.li1, h.tow, ⟨h.now.wind, h.now.frost, h.now.hour, hv, h.now.wr, h.now.nr, h.now.row⟩, h.sp, h.w1, h.w2⟩
theorem RC.dr1 {f g : Nat → Nat → Int32} {a : Nat → Int32} {v : Int32} (r : RC f 0 a) (h : WF a) (h1 : g 12 = upd (f 12) 3 v) (hg : ∀ c, 1 ≤ c → c ≤ 113 → c ≠ 12 → g c = f c) : RC g 0 (upd a 12 v) := by
  have b0 := (h.nb.is (by omega)).2.2
  have b1 := (h.nw.is (by omega)).2.2
  have b2 := (h.nt.is (by omega)).2.2
  have b4 := (h.ns.is (by omega)).2.2
  have b5 := (h.nl.is (by omega)).2.2
  have b6 : tn (a 6) ≤ 12 := ((h.tl 0 (by omega)).is (by omega)).2.2
  have b7 : tn (a 7) ≤ 12 := ((h.tl 1 (by omega)).is (by omega)).2.2
  have bt : ∀ t, t < 2 → tn (a (6 + t)) ≤ 12 := fun t ht => ((h.tl t ht).is (by omega)).2.2
  unfold RC RS
  simp +contextual (disch := omega) only [upd_n, upd_s, hg, h1, Nat.add_zero]
  refine ⟨r.nb, r.nw, r.loud, r.pitch, r.men, r.kind, r.means, r.len, r.str, r.wei, r.has, r.nl, r.li0, r.li1, r.tl, r.tow, r.hd, r.nt, r.ru, ⟨r.now.wind, r.now.frost, r.now.hour, True.intro, r.now.nr, r.now.row, r.now.sun, r.now.pag⟩, r.ns, r.al, r.sp⟩
theorem dr_gr (a : Nat → Int32) (v : Int32) : GrS a (upd a 12 v) := ⟨upd_n _ _ (by omega), upd_n _ _ (by omega), upd_n _ _ (by omega), fun i h1 h2 => upd_n _ _ (by omega)⟩
theorem pass_gr (a : Nat → Int32) : GrS a (passF a) := ⟨pass_i (by omega), pass_i (by omega), pass_i (by omega), fun i h1 h2 => pass_i (by omega)⟩
/-- what one thing by chance leaves as it is -/
def AgC (a b : Nat → Int32) : Prop := ∀ i, i < 1088 → ¬ (8 ≤ i ∧ i ≤ 10) → ¬ (12 ≤ i ∧ i ≤ 14) → ¬ (164 ≤ i ∧ i < 188) → b i = a i
theorem AgC.tr {a b c : Nat → Int32} (h : AgC a b) (k : AgC b c) : AgC a c := fun i h1 h2 h3 h4 => (k i h1 h2 h3 h4).trans (h i h1 h2 h3 h4)
def dr (a : Nat → Int32) : Nat → Int32 := upd a 12 (nI (tun (tn (a 12))))
noncomputable def hpF (X : Nat → Nat → Int32) (a : Nat → Int32) (x : Nat) : Nat → Int32 :=
  if x % 5 = 0 then @ite _ (okB a (x % tn (a 0))) (Classical.propDecidable _) (strF a (x % tn (a 0)) (ovN X a (x % tn (a 0)))) a
  else if x % 5 = 1 then @ite _ (okW a (x % tn (a 1))) (Classical.propDecidable _) (sayF X a (x % tn (a 1))).1 a
  else if x % 5 = 2 then sdF X a
  else if tn (a 10) < 9999 then passF a else a
theorem hp_ok {X : Nat → Nat → Int32} {a : Nat → Int32} {x : Nat} (h : WF a) (hb : tn (a 0) ≠ 0) (hw : tn (a 1) ≠ 0) (ho : okS a) : WF (hpF X a x) ∧ GrS a (hpF X a x) ∧ AgC a (hpF X a x) ∧ tn (hpF X a x 13) ≤ tn (a 13) + 1 := by
  have same : WF a ∧ GrS a a ∧ AgC a a ∧ tn (a 13) ≤ tn (a 13) + 1 := ⟨h, GrS.rf a, fun _ _ _ _ _ => rfl, by omega⟩
  unfold hpF
  by_cases e0 : x % 5 = 0
  · rw [if_pos e0]
    by_cases q : okB a (x % tn (a 0))
    · rw [if_pos q]
      refine ⟨h.strF q.2 (Nat.mod_lt _ (by omega)) _, str_gr q.2 _ _, fun i h1 h2 h3 h4 => strF_i q.2 (by omega) (by omega), ?_⟩
      rw [strF_i q.2 (by omega) (by omega)]; omega
    · rw [if_neg q]; exact same
  rw [if_neg e0]
  by_cases e1 : x % 5 = 1
  · rw [if_pos e1]
    by_cases q : okW a (x % tn (a 1))
    · rw [if_pos q]
      have hI := say_fin (X := X) h (w := x % tn (a 1)) (Nat.mod_lt _ (by omega)) q.2
      have hi2 : ∀ i, i < 1088 → i ≠ 14 → ¬ (164 ≤ i ∧ i < 188) → (sayF X a (x % tn (a 1))).1 i = a i := by
        intro i h1 h2 h3
        have : ∀ (k j : Nat) (s : (Nat → Int32) × Nat), SayI a j s → s.1 i = a i → j + k = lenW a (x % tn (a 1)) → (fold (sayS X (x % tn (a 1))) j k s).1 i = a i := by
          intro k
          induction k with
          | zero => intro j s _ e _; exact e
          | succ k ih =>
            intro j s hs e hj
            obtain ⟨c1, c2, c3, c4⟩ := sayI_s (X := X) h (Nat.mod_lt _ (by omega)) q.2 j s (by omega) hs
            refine ih (j + 1) _ c4 ?_ (by omega)
            show strF s.1 _ _ i = a i
            rw [strF_i c1 h2 (by omega)]
            exact e
        exact this _ 0 (a, 0) ⟨h, fun _ _ _ => rfl, rfl, Nat.le_refl _⟩ rfl (by omega)
      refine ⟨hI.1, hI.gr, fun i h1 h2 h3 h4 => hi2 i h1 (by omega) h4, ?_⟩
      rw [hi2 13 (by omega) (by omega) (by omega)]; omega
    · rw [if_neg q]; exact same
  rw [if_neg e1]
  by_cases e2 : x % 5 = 2
  · rw [if_pos e2]
    refine ⟨h.sun _ ho.2 ho.1, sun_gr a _, fun i h1 h2 h3 h4 => sunF_ag a _ i h1 (by omega) (by omega), ?_⟩
    have := ho.2
    show tn (sunF a _ 13) ≤ _
    rw [sunF_13, show tn (nI (tn (a 13) + 1)) = tn (a 13) + 1 from tn_nI (by omega)]
    omega
  rw [if_neg e2]
  by_cases e3 : tn (a 10) < 9999
  · rw [if_pos e3]
    refine ⟨h.pass e3, pass_gr a, fun i h1 h2 h3 h4 => pass_i (by omega), ?_⟩
    rw [pass_i (by omega)]; omega
  · rw [if_neg e3]; exact same
theorem rem_nI' {x d : Nat} (hx : x ≤ 100000) (h0 : 0 < d) (hd : d ≤ 100000) : nI x - nI x / nI d * nI d = nI (x % d) := pk_rem (by omega) h0 (by omega)
theorem kP_chance (G : GP) (d : Nat) (X : Nat → Nat → Int32) (m : Mem) (a : Nat → Int32) (K : Mem → Prop) (h : St X m a) (hb : tn (a 0) ≠ 0) (hw : tn (a 1) ≠ 0) (ho : okS (dr a)) (hK : ∀ m' : Mem, St X m' (hpF X (dr a) (tn (a 12))) → FrP m.1 m'.1 → K m') : Evv G (d + 6) mX11_chance [.ref (ga G 0)] m K := by
  have hW := h.2.1
  have h6 := hW.nb6
  have h10 := hW.nw10
  have x12 := hW.now.x.is (by omega)
  have b12 : tn (a 12) ≤ 30340 := x12.2.2
  have e3 : m.1 12 3 = nI (tn (a 12)) := (show m.1 12 3 = a 12 from h.1.now.x).trans x12.1
  have e0 : m.1 2 0 = nI (tn (a 0)) := h.1.nb.trans hW.nbE
  have e1 : m.1 2 4 = nI (tn (a 1)) := h.1.nw.trans hW.nwE
  have n0 : ¬ nI (tn (a 0)) = 0 := fun z => by have := (eq_nI (b := 0) (by omega) (by omega)).mp z; omega
  have n1 : ¬ nI (tn (a 1)) = 0 := fun z => by have := (eq_nI (b := 0) (by omega) (by omega)).mp z; omega
  have t1 := tun_lt (tn (a 12))
  refine vX11_chance G d m K ?_
  rw [e0, e1, e3]
  refine ⟨fun q => absurd q n0, fun _ => ⟨fun _ => ?_, fun q => absurd q n1⟩⟩
  rintro _ rfl
  refine vX5_turn G (d + 5) m _ ?_
  rw [e3, tun_nI b12]
  rintro m2 hm2
  have f2 : FrP m.1 m2.1 := fun c h1 _ _ => by rw [hm2, wI_n _ _ _ (by omega)]
  have s2 : St X m2 (dr a) := h.go (h.1.dr1 hW (by rw [hm2, wI_s]) (fun c h1 h2 h3 => by rw [hm2, wI_n _ _ _ h3])) (hW.dr1 ⟨_, by omega, by omega, rfl⟩) (dr_gr a _) f2 (by rw [hm2, wI_n _ _ _ (by omega)])
  have d0 : tn (dr a 0) = tn (a 0) := by unfold dr; rw [upd_n _ _ (by omega)]
  have d1 : tn (dr a 1) = tn (a 1) := by unfold dr; rw [upd_n _ _ (by omega)]
  have g0 : m2.1 2 0 = nI (tn (a 0)) := by rw [hm2, wI_n _ _ _ (by omega)]; exact e0
  have g1 : m2.1 2 4 = nI (tn (a 1)) := by rw [hm2, wI_n _ _ _ (by omega)]; exact e1
  have x5 : nI (tn (a 12)) - nI (tn (a 12)) / 5 * 5 = nI (tn (a 12) % 5) := rem_nI' (d := 5) (by omega) (by omega) (by omega)
  rw [g0, g1, x5, rem_nI' (d := tn (a 0)) (by omega) (by omega) (by omega), rem_nI' (d := tn (a 1)) (by omega) (by omega) (by omega)]
  unfold hpF at hK
  rw [d0, d1] at hK
  have hbm : tn (a 12) % tn (a 0) < tn (dr a 0) := by rw [d0]; exact Nat.mod_lt _ (by omega)
  have hwm : tn (a 12) % tn (a 1) < tn (dr a 1) := by rw [d1]; exact Nat.mod_lt _ (by omega)
  refine ⟨fun q => ⟨n0, ?_⟩, fun q => ⟨n1, ?_⟩, fun q => ?_, fun q => ?_⟩
  · have q := (eq_nI (b := 0) (by omega) (by omega)).mp q
    rw [if_pos q] at hK
    refine kC_canB G (d + 4) _ m2 (dr a) _ s2.1 s2.2.1 hbm (fun z => ⟨fun y => absurd y (by decide), fun _ => ⟨by rw [g0]; exact n0, ?_⟩⟩) (fun z => ⟨fun _ => ?_, fun y => absurd rfl y⟩)
    · rw [if_pos z] at hK
      rw [g0, rem_nI' (d := tn (a 0)) (by omega) (by omega) (by omega)]
      exact kP_strike G (d + 1) X _ m2 (dr a) _ s2 z.2 hbm (fun m3 s3 f3 => hK m3 s3 (f2.tr f3))
    · rw [if_neg z] at hK
      exact hK m2 s2 f2
  · have q := (eq_nI (b := 1) (by omega) (by omega)).mp q
    rw [if_neg (by omega), if_pos q] at hK
    refine kC_canW G (d + 3) _ m2 (dr a) _ s2.1 s2.2.1 hwm (fun z => ⟨fun y => absurd y (by decide), fun _ => ⟨by rw [g1]; exact n1, ?_⟩⟩) (fun z => ⟨fun _ => ?_, fun y => absurd rfl y⟩)
    · rw [if_pos z] at hK
      rw [g1, rem_nI' (d := tn (a 1)) (by omega) (by omega) (by omega)]
      exact kP_say G (d + 1) X _ m2 (dr a) _ s2 hwm z.2 (fun m3 s3 f3 => hK m3 s3 (f2.tr f3))
    · rw [if_neg z] at hK
      exact hK m2 s2 f2
  · have q := (eq_nI (b := 2) (by omega) (by omega)).mp q
    rw [if_neg (by omega), if_neg (by omega), if_pos q] at hK
    exact kP_sun G d X m2 (dr a) _ s2 ho (fun m3 s3 f3 => hK m3 s3 (f2.tr f3))
  · obtain ⟨q0, q1, q2⟩ := q
    have q0 : ¬ tn (a 12) % 5 = 0 := fun z => q0 (by rw [z]; rfl)
    have q1 : ¬ tn (a 12) % 5 = 1 := fun z => q1 (by rw [z]; rfl)
    have q2 : ¬ tn (a 12) % 5 = 2 := fun z => q2 (by rw [z]; rfl)
    rw [if_neg q0, if_neg q1, if_neg q2] at hK
    have q10 := s2.2.1.now.hour.is (by omega)
    have b10 : tn (dr a 10) ≤ 9999 := q10.2.2
    have e10 : m2.1 12 2 = nI (tn (dr a 10)) := (show m2.1 12 2 = dr a 10 from s2.1.now.hour).trans q10.1
    rw [e10, show (9999 : Int32) = nI 9999 from rfl, le_nI (by omega) (by omega)]
    refine ⟨fun z => ?_, fun z => ?_⟩
    · rw [if_neg (by omega)] at hK
      exact hK m2 s2 f2
    · rw [if_pos (by omega)] at hK
      exact kC_pass G (d + 4) m2 (dr a) _ s2.1 s2.2.1 (by omega) (fun m3 r3 f3 => hK m3 (s2.go r3 (s2.2.1.pass (by omega)) (pass_gr _) f3.p (f3 265 (by omega))) (f2.tr f3.p))
theorem qP_happens (G : GP) (d : Nat) (X : Nat → Nat → Int32) (x : Nat) (hx : x ≤ 30340) (m : Mem) (a : Nat → Int32) (K : Mem → Prop) (h : Mo X m a) (hb : tn (a 0) ≠ 0) (hw : tn (a 1) ≠ 0) (ho : okS a) (hK : ∀ m' : Mem, Mo X m' (hpF X a x) → FrM m.1 m'.1 → K m') : Evv G (d + 9) mX12_happens [.ref (ga G 273), .int (nI x)] m K := by
  obtain ⟨e, hW, h2, h3⟩ := id h
  subst e
  have h6 := hW.nb6
  have h10 := hW.nw10
  have n0 : ¬ nI (tn (m.1 274 0)) = 0 := fun z => by have := (eq_nI (b := 0) (by omega) (by omega)).mp z; omega
  have n1 : ¬ nI (tn (m.1 274 1)) = 0 := fun z => by have := (eq_nI (b := 0) (by omega) (by omega)).mp z; omega
  have x5 : nI x - nI x / 5 * 5 = nI (x % 5) := rem_nI' (d := 5) (by omega) (by omega) (by omega)
  have g0 : m.1 274 0 = nI (tn (m.1 274 0)) := hW.nbE
  have g1 : m.1 274 1 = nI (tn (m.1 274 1)) := hW.nwE
  have q10 := hW.now.hour.is (by omega)
  have b10 : tn (m.1 274 10) ≤ 9999 := q10.2.2
  have e10 : m.1 274 10 = nI (tn (m.1 274 10)) := q10.1
  have y0 : nI x - nI x / (m.1 274 0) * (m.1 274 0) = nI (x % tn (m.1 274 0)) := by
    rw [g0, rem_nI' (d := tn (m.1 274 0)) (by omega) (by omega) (by omega), show tn (nI (tn (m.1 274 0))) = tn (m.1 274 0) from tn_nI (by omega)]
  have y1 : nI x - nI x / (m.1 274 1) * (m.1 274 1) = nI (x % tn (m.1 274 1)) := by
    rw [g1, rem_nI' (d := tn (m.1 274 1)) (by omega) (by omega) (by omega), show tn (nI (tn (m.1 274 1))) = tn (m.1 274 1) from tn_nI (by omega)]
  have hbm : x % tn (m.1 274 0) < tn (m.1 274 0) := Nat.mod_lt _ (by omega)
  have hwm : x % tn (m.1 274 1) < tn (m.1 274 1) := Nat.mod_lt _ (by omega)
  unfold hpF at hK
  refine vX12_happens G d (nI x) m K ⟨by rw [g0]; exact n0, ?_⟩
  rw [y0]
  rintro _ rfl
  refine ⟨by rw [g1]; exact n1, ?_⟩
  rw [y1, x5]
  rintro _ rfl
  refine ⟨fun q => ?_, fun q => ?_, fun q => ?_, fun q => ?_⟩
  · have q := (eq_nI (b := 0) (by omega) (by omega)).mp q
    rw [if_pos q] at hK
    refine qX12_canB G (d + 7) _ m _ hW hbm (fun z => ⟨fun y => absurd y (by decide), fun _ => ?_⟩) (fun z => ⟨fun _ => ?_, fun y => absurd rfl y⟩)
    · rw [if_pos z] at hK
      exact qP_ringNow G (d + 3) X _ m _ _ h z.2 hbm (fun m3 s3 f3 => hK m3 s3 f3)
    · rw [if_neg z] at hK
      exact hK m h (FrM.rf _)
  · have q := (eq_nI (b := 1) (by omega) (by omega)).mp q
    rw [if_neg (by omega), if_pos q] at hK
    refine qX12_canW G (d + 5) _ m _ hW hwm (fun z => ⟨fun y => absurd y (by decide), fun _ => ?_⟩) (fun z => ⟨fun _ => ?_, fun y => absurd rfl y⟩)
    · rw [if_pos z] at hK
      exact qP_say G (d + 2) X _ m _ _ h hwm z.2 (fun m3 s3 f3 => hK m3 s3 f3)
    · rw [if_neg z] at hK
      exact hK m h (FrM.rf _)
  · have q := (eq_nI (b := 2) (by omega) (by omega)).mp q
    rw [if_neg (by omega), if_neg (by omega), if_pos q] at hK
    exact qP_sun G d X m _ _ h ho (fun m3 s3 f3 => hK m3 s3 f3)
  · obtain ⟨q0, q1, q2⟩ := q
    have q0 : ¬ x % 5 = 0 := fun z => q0 (by rw [z]; rfl)
    have q1 : ¬ x % 5 = 1 := fun z => q1 (by rw [z]; rfl)
    have q2 : ¬ x % 5 = 2 := fun z => q2 (by rw [z]; rfl)
    rw [if_neg q0, if_neg q1, if_neg q2] at hK
    rw [e10, show (9999 : Int32) = nI 9999 from rfl, le_nI (by omega) (by omega)]
    refine ⟨fun z => ?_, fun z => ?_⟩
    · rw [if_neg (by omega)] at hK
      exact hK m h (FrM.rf _)
    · rw [if_pos (by omega)] at hK
      refine qX12_pass G (d + 6) m _ hW ?_
      have f : FrM m.1 (wA m 274 (passF (m.1 274))).1 := fun c h1 _ => wA_n _ _ h1
      exact hK _ (h.go (wA_s _ _ _) (hW.pass (by omega)) (pass_gr _).2.1 f) f
/-- so many things by chance -/
noncomputable def ceF (X : Nat → Nat → Int32) : Nat → (Nat → Int32) → Nat → Int32
  | 0, a => a
  | k + 1, a => ceF X k (hpF X (dr a) (tn (a 12)))
theorem dr_ag (a : Nat → Int32) : AgC a (dr a) := fun i _ _ h3 _ => by unfold dr; exact upd_n _ _ (by omega)
/-- centuries under way: k are left -/
def CeI (a0 : Nat → Int32) (k : Nat) (a : Nat → Int32) : Prop := WF a ∧ AgC a0 a ∧ GrS a0 a ∧ tn (a 13) + k ≤ tn (a0 13) + 40
theorem CeI.s {X : Nat → Nat → Int32} {a0 a : Nat → Int32} {k : Nat} (h0 : WF a0) (hk0 : ∀ i, i + 1 = tn (a0 4) → tn (a0 (192 + 30 * i)) = tn (a0 13)) (hb0 : tn (a0 13) + 40 < 30000) (hb : tn (a0 0) ≠ 0) (hw : tn (a0 1) ≠ 0) (h : CeI a0 (k + 1) a) : tn (a 0) ≠ 0 ∧ tn (a 1) ≠ 0 ∧ okS (dr a) ∧ CeI a0 k (hpF X (dr a) (tn (a 12))) := by
  obtain ⟨i1, i2, i3, i4⟩ := h
  have t1 := tun_lt (tn (a 12))
  have b4 := (h0.ns.is (by omega)).2.2
  have e0 : a 0 = a0 0 := i2 0 (by omega) (by omega) (by omega) (by omega)
  have e1 : a 1 = a0 1 := i2 1 (by omega) (by omega) (by omega) (by omega)
  have W1 : WF (dr a) := i1.dr1 ⟨_, by omega, by omega, rfl⟩
  have d13 : dr a 13 = a 13 := upd_n _ _ (by omega)
  have ag := i2.tr (dr_ag a)
  have ho : okS (dr a) := by
    refine ⟨fun i hi => ?_, by rw [d13]; omega⟩
    rw [ag 4 (by omega) (by omega) (by omega) (by omega)] at hi
    rw [d13, ag _ (by omega) (by omega) (by omega) (by omega), hk0 i hi]
    omega
  have d0 : tn (dr a 0) ≠ 0 := by unfold dr; rw [upd_n _ _ (by omega), e0]; exact hb
  have d1 : tn (dr a 1) ≠ 0 := by unfold dr; rw [upd_n _ _ (by omega), e1]; exact hw
  obtain ⟨o1, o2, o3, o4⟩ := hp_ok (X := X) (x := tn (a 12)) W1 d0 d1 ho
  refine ⟨by rw [e0]; exact hb, by rw [e1]; exact hw, ho, o1, ag.tr o3, i3.tr ((dr_gr a _).tr o2), ?_⟩
  rw [d13] at o4
  omega
theorem ce_fin {X : Nat → Nat → Int32} {a0 : Nat → Int32} (h0 : WF a0) (hk0 : ∀ i, i + 1 = tn (a0 4) → tn (a0 (192 + 30 * i)) = tn (a0 13)) (hb0 : tn (a0 13) + 40 < 30000) (hb : tn (a0 0) ≠ 0) (hw : tn (a0 1) ≠ 0) : ∀ k a, CeI a0 k a → CeI a0 0 (ceF X k a)
  | 0, a, h => h
  | k + 1, a, h => ce_fin h0 hk0 hb0 hb hw k _ (h.s h0 hk0 hb0 hb hw).2.2.2
theorem case_centuries (G : GP) (d : Nat) {n : Nat} (hn : n < 700) (c0 c1 : Int32) (m : Mem) (h : Inv TXc n m.1) : Evi G (d + 7) mX11_centuries [.ref (ga G 0), .int c0, .int c1] m (Same G TXc n (d + 10) mX12_centuries [.int c0, .int c1]) := by
  have h13 := h.2.2.2.2.2.2.2.1
  have hR := h.2.2.1
  have hW := h.1
  have h6 := hW.nb6
  have h10 := hW.nw10
  have e0 : m.1 2 0 = m.1 274 0 := hR.nb
  have e1 : m.1 2 4 = m.1 274 1 := hR.nw
  refine vX11_centuries G d c0 c1 m _ ⟨fun q0 => ⟨fun q1 => ⟨fun q2 => ?_, fun q2 => ⟨fun q3 => ?_, fun q3 => ?_⟩⟩, fun q1 => ?_⟩, fun q0 => ?_⟩
  · exact vX12_centuries G d c0 c1 m _ ⟨fun _ => ⟨fun _ => ⟨fun _ => ⟨rfl, h.idle⟩, fun z => absurd (e0.symm.trans q2) z⟩, fun z => absurd q1 z⟩, fun z => absurd q0 z⟩
  · obtain ⟨s, hs, rfl⟩ := of_range (n := 9999) (by omega) q0.1 q0.2
    obtain ⟨k, k1, k40, rfl⟩ := bd_of (lo := 1) (hi := 40) q1.1 q1.2 (by omega) (by omega)
    have nb : tn (m.1 274 0) ≠ 0 := fun z => q2 (by rw [e0, hW.nbE, z]; rfl)
    have nw : tn (m.1 274 1) ≠ 0 := fun z => q3 (by rw [e1, hW.nwE, z]; rfl)
    have ex : nI s * 2 + 101 = nI (s * 2 + 101) := by rw [show (2 : Int32) = nI 2 from rfl, show (101 : Int32) = nI 101 from rfl, pk_mul, nI_add]
    rw [ex]
    -- the start of the centuries
    generalize hA : upd (keepF (m.1 274)) 12 (nI (s * 2 + 101)) = A
    have kW := hW.keep
    have AW : WF A := by rw [← hA]; exact kW.dr1 ⟨_, by omega, by omega, rfl⟩
    have Ai : ∀ i, i ≠ 12 → A i = keepF (m.1 274) i := fun i hi => by rw [← hA]; exact upd_n _ _ hi
    have A13 : tn (A 13) = tn (m.1 274 13) := by rw [Ai 13 (by omega), keep_i hW (by omega) (by omega)]
    have hk0 : ∀ i, i + 1 = tn (A 4) → tn (A (192 + 30 * i)) = tn (A 13) := by
      intro i hi
      have b4 := (hW.ns.is (by omega)).2.2
      have hks : ks (m.1 274) ≤ 29 := by unfold ks; split <;> omega
      rw [Ai 4 (by omega), keepF_4, show tn (nI (ks (m.1 274) + 1)) = ks (m.1 274) + 1 from tn_nI (by omega)] at hi
      have e : i = ks (m.1 274) := by omega
      subst e
      have := keepF_n1 (a := m.1 274) (r := 1) (by omega)
      rw [show 191 + 30 * ks (m.1 274) + 1 = 192 + 30 * ks (m.1 274) by omega, show 12 + 1 = 13 from rfl] at this
      rw [A13, Ai _ (by omega), this]
    have Ab : tn (A 0) ≠ 0 := by rw [Ai 0 (by omega), keep_i hW (by omega) (by omega)]; exact nb
    have Aw : tn (A 1) ≠ 0 := by rw [Ai 1 (by omega), keep_i hW (by omega) (by omega)]; exact nw
    have Ag : GrS (m.1 274) A := by rw [← hA]; exact (keep_gr hW).tr (dr_gr _ _)
    have A0 : CeI A k A := ⟨AW, fun _ _ _ _ _ => rfl, GrS.rf A, by omega⟩
    have AF := ce_fin (X := m.1) AW hk0 (by omega) Ab Aw k A A0
    have model : ∀ m1 : Mem, St m.1 m1 (ceF m.1 k A) → FrP m.1 m1.1 → Same G TXc n (d + 10) mX12_centuries [.int (nI s), .int (nI k)] (ceF m.1 k A 10) m1 := by
      intro m1 s1 f1
      have g4 : m1.1 274 = m.1 274 := f1 274 (by omega) (by unfold Scr; omega) (by omega)
      refine vX12_centuries G d (nI s) (nI k) m1 _ ⟨fun _ => ⟨fun _ => ⟨fun z => absurd ?_ q2, fun _ => ⟨fun _ => ?_, fun z => absurd ?_ q3⟩⟩, fun z => absurd q1 z⟩, fun z => absurd q0 z⟩
      · rw [e0, ← g4]; exact z
      · refine qP_keep G (d + 9) m.1 m1 (m.1 274) _ (h.mo f1) (fun m2 s2 f2 => ?_)
        rw [ex]
        rintro m3 hm3
        have f3 : FrM m1.1 m3.1 := f2.tr (fun c h1 _ => by rw [hm3, wI_n _ _ _ h1])
        have s3 : Mo m.1 m3 A := (h.mo f1).go (by rw [hm3, wI_s, s2.1]; exact hA) AW (Ag.2.1) f3
        have run : ∀ (j i : Nat) (a : Nat → Int32) (m4 : Mem) (u1 u4 : Value), i + j = k → CeI A j a → Mo m.1 m4 a → FrM m1.1 m4.1 → ceF m.1 j a = ceF m.1 k A → Gw G (d + 10) mX12_centuries 60 [.ref (ga G 273), u1, .int (nI k), .int (nI i), u4] [] m4 (Qi (fun r' m2 => ceF m.1 k A 10 = r' ∧ Inv TXc (n + 1) m2.1)) := by
          intro j
          induction j with
          | zero =>
            intro i a m4 u1 u4 hi hI s4 f4 he
            have : i = k := by omega
            subst this
            have he : a = ceF m.1 i A := he
            subst he
            refine vX12_centuries_60 G d u1 (nI i) (nI i) u4 m4 _ ⟨fun _ => ?_, fun z => absurd (Int32.le_refl _) z⟩
            rw [s4.1]
            refine ⟨rfl, h.fin s1 f1 s4 f4 ((AF.2.2.1.2.1).trans Ag.2.1) ?_⟩
            have := AF.2.2.2
            omega
          | succ j ih =>
            intro i a m4 u1 u4 hi hI s4 f4 he
            obtain ⟨c1, c2, c3, c4⟩ := hI.s (X := m.1) AW hk0 (by omega) Ab Aw
            have x12 := hI.1.now.x.is (by omega)
            have b12 : tn (a 12) ≤ 30340 := x12.2.2
            have e12 : m4.1 274 12 = nI (tn (a 12)) := by rw [s4.1]; exact x12.1
            have t1 := tun_lt (tn (a 12))
            refine vX12_centuries_60 G d u1 (nI k) (nI i) u4 m4 _ ⟨fun z => ?_, fun _ => ?_⟩
            · exfalso
              rw [le_nI (by omega) (by omega)] at z
              omega
            rw [e12]
            rintro _ rfl
            refine vX12_anew G (d + 9) m4 _ ?_
            rw [e12, tun_lN b12]
            rintro m5 hm5
            have f5 : FrM m4.1 m5.1 := fun c h1 _ => by rw [hm5, wI_n _ _ _ h1]
            have s5 : Mo m.1 m5 (dr a) := s4.go (by rw [hm5, wI_s, s4.1]; rfl) (hI.1.dr1 ⟨_, by omega, by omega, rfl⟩) (dr_gr a _).2.1 f5
            refine qP_happens G d m.1 (tn (a 12)) b12 m5 (dr a) _ s5 (by unfold dr; rw [upd_n _ _ (by omega)]; exact c1) (by unfold dr; rw [upd_n _ _ (by omega)]; exact c2) c3 (fun m6 s6 f6 => ?_)
            rintro _ rfl
            rw [nI_1]
            exact ih (i + 1) _ m6 _ _ (by omega) c4 s6 ((f4.tr f5).tr f6) he
        exact run k 0 A m3 _ _ (by omega) A0 s3 f3 rfl
      · rw [e1, ← g4]; exact z
    refine kP_keep G (d + 3) m.1 m (m.1 274) _ h.st (fun m1 s1 f1 => ?_)
    rintro m2 hm2
    have f2 : FrP m.1 m2.1 := f1.tr (fun c h1 _ _ => by rw [hm2, wI_n _ _ _ (by omega)])
    have s2 : St m.1 m2 A := by
      rw [← hA]
      exact s1.go (s1.1.dr1 kW (by rw [hm2, wI_s]) (fun c h1 h2 h3 => by rw [hm2, wI_n _ _ _ h3])) (kW.dr1 ⟨_, by omega, by omega, rfl⟩) (dr_gr _ _) (fun c h1 _ _ => by rw [hm2, wI_n _ _ _ (by omega)]) (by rw [hm2, wI_n _ _ _ (by omega)])
    have run : ∀ (j i : Nat) (a : Nat → Int32) (m4 : Mem) (u1 u3 : Value), i + j = k → CeI A j a → St m.1 m4 a → FrP m.1 m4.1 → ceF m.1 j a = ceF m.1 k A → Gw G (d + 7) mX11_centuries 71 [.ref (ga G 0), u1, .int (nI k), u3, .int (nI i)] [] m4 (Qi (Same G TXc n (d + 10) mX12_centuries [.int (nI s), .int (nI k)])) := by
      intro j
      induction j with
      | zero =>
        intro i a m4 u1 u3 hi hI s4 f4 he
        have : i = k := by omega
        subst this
        have he : a = ceF m.1 i A := he
        subst he
        refine vX11_centuries_71 G d u1 (nI i) u3 (nI i) m4 _ ⟨fun _ => ?_, fun z => absurd (Int32.le_refl _) z⟩
        rw [show m4.1 12 2 = ceF m.1 i A 10 from s4.1.now.hour]
        exact model m4 s4 f4
      | succ j ih =>
        intro i a m4 u1 u3 hi hI s4 f4 he
        obtain ⟨c1, c2, c3, c4⟩ := hI.s (X := m.1) AW hk0 (by omega) Ab Aw
        refine vX11_centuries_71 G d u1 (nI k) u3 (nI i) m4 _ ⟨fun z => ?_, fun _ => ?_⟩
        · exfalso
          rw [le_nI (by omega) (by omega)] at z
          omega
        refine kP_chance G d m.1 m4 a _ s4 c1 c2 c3 (fun m5 s5 f5 => ?_)
        rintro _ rfl
        rw [nI_1]
        exact ih (i + 1) _ m5 _ _ (by omega) c4 s5 (f4.tr f5) he
    exact run k 0 A m2 _ _ (by omega) A0 s2 f2 rfl
  · exact vX12_centuries G d c0 c1 m _ ⟨fun _ => ⟨fun _ => ⟨fun z => absurd (e0.trans z) q2, fun _ => ⟨fun z => absurd (e1.symm.trans q3) z, fun _ => ⟨rfl, h.idle⟩⟩⟩, fun z => absurd q1 z⟩, fun z => absurd q0 z⟩
  · exact vX12_centuries G d c0 c1 m _ ⟨fun _ => ⟨fun z => absurd z q1, fun _ => ⟨rfl, h.idle⟩⟩, fun z => absurd q0 z⟩
  · exact vX12_centuries G d c0 c1 m _ ⟨fun z => absurd z q0, fun _ => ⟨rfl, h.idle⟩⟩
