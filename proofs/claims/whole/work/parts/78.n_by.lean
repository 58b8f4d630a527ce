/-! by, whose -/
theorem WF.rul1 {a : Nat → Int32} {v : Int32} (h : WF a) (hv : v = -1 ∨ ∃ t, t < tn (a 2) ∧ v = nI t) : WF (upd a 3 v) := by
  have b0 := (h.nb.is (by omega)).2.2
  have b1 := (h.nw.is (by omega)).2.2
  have b2 := (h.nt.is (by omega)).2.2
  have b4 := (h.ns.is (by omega)).2.2
  have b5 := (h.nl.is (by omega)).2.2
  have b6 : tn (a 6) ≤ 12 := ((h.tl 0 (by omega)).is (by omega)).2.2
  have b7 : tn (a 7) ≤ 12 := ((h.tl 1 (by omega)).is (by omega)).2.2
  have bt : ∀ t, t < 2 → tn (a (6 + t)) ≤ 12 := fun t ht => ((h.tl t ht).is (by omega)).2.2
  unfold WF WFs
  simp +contextual (disch := omega) only [upd_n, upd_s]
  refine ⟨h.nb, h.nw, h.nt, hv, h.ns, h.nl, h.tl, h.hd, h.loud, h.pitch, h.men, h.kind, h.means, h.len, h.str, h.non, h.wei, h.has, h.li0, h.li1, h.tow, h.now, h.sp, h.w1, h.w2⟩
theorem RC.rul1 {f g : Nat → Nat → Int32} {a : Nat → Int32} {v : Int32} (r : RC f 0 a) (h : WF a) (h1 : g 1 = upd (f 1) 6 v) (hg : ∀ c, 1 ≤ c → c ≤ 113 → c ≠ 1 → g c = f c) : RC g 0 (upd a 3 v) := by
  have b0 := (h.nb.is (by omega)).2.2
  have b1 := (h.nw.is (by omega)).2.2
  have b2 := (h.nt.is (by omega)).2.2
  have b4 := (h.ns.is (by omega)).2.2
  have b5 := (h.nl.is (by omega)).2.2
  have b6 : tn (a 6) ≤ 12 := ((h.tl 0 (by omega)).is (by omega)).2.2
  have b7 : tn (a 7) ≤ 12 := ((h.tl 1 (by omega)).is (by omega)).2.2
  have bt : ∀ t, t < 2 → tn (a (6 + t)) ≤ 12 := fun t ht => ((h.tl t ht).is (by omega)).2.2
  unfold RC RS
  simp +contextual (disch := omega) only [upd_n, upd_s, hg, h1, Nat.add_zero]
  refine ⟨r.nb, r.nw, r.loud, r.pitch, r.men, r.kind, r.means, r.len, r.str, r.wei, r.has, r.nl, r.li0, r.li1, r.tl, r.tow, r.hd, r.nt, True.intro, r.now, r.ns, r.al, r.sp⟩
theorem kC_forget (G : GP) (d : Nat) (m : Mem) (K : Mem → Prop) (hK : ∀ m' : Mem, (∀ i, i < 2400 → m'.1 265 i = 0) → (∀ q, q ≠ 265 → m'.1 q = m.1 q) → K m') : Evv G (d + 1) mX1_forget [.ref (ga G 262)] m K :=
  vX1_forget G d m K (qJ7_fill G d 265 2400 (by decide +kernel) (by omega) 0 m _ (fun m' f1 f2 _ => hK m' f1 f2))
theorem m1_le {x : Int32} {n : Nat} (hn : n < 1000) : (-1 ≤ x ∧ x ≤ nI n - 1) ↔ (x = -1 ∨ ∃ t, t < n ∧ x = nI t) := by
  constructor
  · rintro ⟨h1, h2⟩
    by_cases e : x = -1
    · exact Or.inl e
    · refine Or.inr ((oneM_nI (by omega)).mp ⟨?_, h2⟩)
      rw [Int32.le_iff_toInt_le] at h1 ⊢
      have e1 : (-1 : Int32).toInt = -1 := by decide
      have e0 : (0 : Int32).toInt = 0 := by decide
      have : x.toInt ≠ -1 := fun z => e (Int32.toInt_inj.mp (z.trans e1.symm))
      omega
  · rintro (rfl | h)
    · refine ⟨Int32.le_refl _, ?_⟩
      have : nI n - 1 = nI n - nI 1 := rfl
      rw [Int32.le_iff_toInt_le, this, pk_sub_toInt (by omega) (by omega)]
      have e1 : (-1 : Int32).toInt = -1 := by decide
      omega
    · have := (oneM_nI (by omega)).mpr h
      refine ⟨?_, this.2⟩
      have h1 := this.1
      rw [Int32.le_iff_toInt_le] at h1 ⊢
      have e1 : (-1 : Int32).toInt = -1 := by decide
      have e0 : (0 : Int32).toInt = 0 := by decide
      omega
theorem case_by (G : GP) (d : Nat) {n : Nat} (a0 : Int32) (m : Mem) (h : Inv TXc n m.1) : Evi G (d + 2) mX11_by [.ref (ga G 0), .int a0] m (Same G TXc n (d + 1) mX12_by [.int a0]) := by
  have hR := h.2.2.1
  have hW := h.1
  have hw := h.2.2.2.2.2.2.2.1
  obtain ⟨t1, -, t3⟩ := hW.nt.is (by omega)
  have e5 : m.1 1 5 = nI (tn (m.1 274 2)) := (show m.1 1 5 = m.1 274 2 from hR.nt).trans t1
  have yes : (a0 = -1 ∨ ∃ t, t < tn (m.1 274 2) ∧ a0 = nI t) → ∀ m1 : Mem, m1 = wI m 1 6 a0 → Evv G (d + 1) mX1_forget [.ref (ga G 262)] m1 (fun m2 => Same G TXc n (d + 1) mX12_by [.int a0] 1 m2) := by
    intro hv m1 hm1
    refine kC_forget G d m1 _ (fun m2 f1 f2 => ?_)
    have f3 : ∀ q, q ≠ 1 → q ≠ 265 → m2.1 q = m.1 q := fun q h1 h2 => by rw [f2 q h2, hm1, wI_n _ _ _ h1]
    have g4 : m2.1 274 = m.1 274 := f3 274 (by omega) (by omega)
    refine vX12_by G d a0 m2 _ ?_
    rw [g4, t1, m1_le (by omega)]
    refine ⟨fun _ => ?_, fun q => absurd hv q⟩
    rintro m3 hm3
    have W3 := hW.rul1 hv
    have r2 : RC m2.1 0 (upd (m.1 274) 3 a0) := hR.rul1 hW (by rw [f2 1 (by omega), hm1, wI_s]) (fun c h1 h2 h3 => f3 c h3 (by omega))
    have S2 : St m.1 m2 (upd (m.1 274) 3 a0) := ⟨r2, W3, fun q h1 h2 => f3 q (by omega) (by omega), fun t ht => h.tt t (by rw [upd_n _ _ (by omega)] at ht; exact ht), FDx.zero f1⟩
    have F2 : FrP m.1 m2.1 := fun c h1 _ h3 => f3 c (by omega) h3
    have F3 : FrM m2.1 m3.1 := fun c h1 _ => by rw [hm3, wI_n _ _ _ h1]
    have M3 : Mo m.1 m3 (upd (m.1 274) 3 a0) := ⟨by rw [hm3, wI_s, g4], W3, by rw [F3 276 (by omega) (by unfold Scr; omega), f3 276 (by omega) (by omega)], fun t ht => h.tt t (by rw [upd_n _ _ (by omega)] at ht; exact ht)⟩
    refine ⟨rfl, h.fin S2 F2 M3 F3 (upd_n _ _ (by omega)) ?_⟩
    rw [upd_n _ _ (by omega)]
    omega
  refine vX11_by G d a0 m _ ?_
  rw [e5, one_nI (by omega)]
  refine ⟨fun q => yes (Or.inl q), fun q => ⟨fun q2 => yes (Or.inr q2), fun q2 => ?_⟩⟩
  refine vX12_by G d a0 m _ ?_
  rw [t1, m1_le (by omega)]
  exact ⟨fun z => absurd z (fun y => y.elim q q2), fun _ => ⟨rfl, h.idle⟩⟩
def LinR (X : Nat → Nat → Int32) (a : Nat → Int32) (t : Nat) : Prop := ∀ k, k < tn (a 5) → flw X a t (tn (a (124 + 2 * k))) (tn (a (125 + 2 * k))) 1 = true
def WhR (X : Nat → Nat → Int32) (a : Nat → Int32) : Nat → Int32 → Prop
  | 0, s => s = 0
  | i + 1, s' => ∃ s, WhR X a i s ∧ ((LinR X a i ∧ s' = s ||| ((1 : Int32) <<< (nI i &&& 31))) ∨ (¬ LinR X a i ∧ s' = s))
theorem WhR.fn {X : Nat → Nat → Int32} {a : Nat → Int32} : ∀ {i : Nat} {s s' : Int32}, WhR X a i s → WhR X a i s' → s = s'
  | 0, s, s', h, k => h.trans k.symm
  | i + 1, s, s', ⟨q, h1, h2⟩, ⟨q', k1, k2⟩ => by
    have := WhR.fn h1 k1
    subst this
    rcases h2 with ⟨p1, p2⟩ | ⟨p1, p2⟩ <;> rcases k2 with ⟨r1, r2⟩ | ⟨r1, r2⟩
    · rw [p2, r2]
    · exact absurd p1 r1
    · exact absurd r1 p1
    · rw [p2, r2]
theorem case_whose (G : GP) (d : Nat) {n : Nat} (m : Mem) (h : Inv TXc n m.1) : Evi G (d + 5) mX11_whose [.ref (ga G 0)] m (Same G TXc n (d + 5) mX12_whose []) := by
  have hR := h.2.2.1
  have hW := h.1
  have h10 := hW.nw10
  obtain ⟨t1, -, t3⟩ := hW.nt.is (by omega)
  obtain ⟨l1, -, l3⟩ := hW.nl.is (by omega)
  have li0 : ∀ k, k < tn (m.1 274 5) → m.1 274 (124 + 2 * k) = nI (tn (m.1 274 (124 + 2 * k))) ∧ tn (m.1 274 (124 + 2 * k)) < tn (m.1 274 1) := fun k hk => by
    obtain ⟨v, v1, v2⟩ := hW.li0 k hk
    rw [v2, show tn (nI v) = v from tn_nI (by omega)]
    exact ⟨rfl, v1⟩
  have li1 : ∀ k, k < tn (m.1 274 5) → m.1 274 (125 + 2 * k) = nI (tn (m.1 274 (125 + 2 * k))) ∧ tn (m.1 274 (125 + 2 * k)) < tn (m.1 274 1) := fun k hk => by
    obtain ⟨v, v1, v2⟩ := hW.li1 k hk
    rw [v2, show tn (nI v) = v from tn_nI (by omega)]
    exact ⟨rfl, v1⟩
  have model : ∀ (s : Int32) (m1 : Mem), WhR m.1 (m.1 274) (tn (m.1 274 2)) s → (∀ q, q ≠ 263 → q ≠ 264 → m1.1 q = m.1 q) → Same G TXc n (d + 5) mX12_whose [] s m1 := by
    intro s m1 hs f1
    have hI : ∀ m2 : Mem, (∀ q, q ≠ 280 → q ≠ 282 → m2.1 q = m1.1 q) → Inv TXc (n + 1) m2.1 := fun m2 f2 => h.idle.scr TXc_ok (fun c hc => by
      rw [f2 c (fun e => hc (by unfold Scr; omega)) (fun e => hc (by unfold Scr; omega)), f1 c (fun e => hc (by unfold Scr; omega)) (fun e => hc (by unfold Scr; omega))])
    refine vX12_whose G d m1 _ ?_
    refine loopD (P := fun i => ∀ (m2 : Mem) (b : Int32) (u3 u4 : Value), WhR m.1 (m.1 274) i b → (∀ q, q ≠ 280 → q ≠ 282 → m2.1 q = m1.1 q) → Gw G (d + 5) mX12_whose 4 [.ref (ga G 273), .int b, .int (nI i), u3, u4] [] m2 (Qi (fun r' m2 => s = r' ∧ Inv TXc (n + 1) m2.1))) (tn (m.1 274 2)) ?_ ?_ m1 0 uu uu rfl (fun _ _ _ => rfl)
    · intro i hi hP m2 b u3 u4 hb f2
      have g4 : ∀ m3 : Mem, (∀ q, q ≠ 280 → q ≠ 282 → m3.1 q = m1.1 q) → m3.1 274 = m.1 274 := fun m3 f3 => (f3 274 (by omega) (by omega)).trans (f1 274 (by omega) (by omega))
      refine vX12_whose_4 G d b (nI i) u3 u4 m2 _ ?_
      rw [g4 m2 f2, t1, le_nI (by omega) (by omega)]
      refine ⟨fun q => by omega, fun _ => ?_⟩
      -- the end of the lines
      have fin : ∀ (m3 : Mem) (g : Bool), (∀ q, q ≠ 280 → q ≠ 282 → m3.1 q = m1.1 q) → (g = true ↔ LinR m.1 (m.1 274) i) → Gw G (d + 5) mX12_whose 19 [.ref (ga G 273), .int b, .int (nI i), .int (b2 g), .int (nI (tn (m.1 274 5)))] [] m3 (Qi (fun r' m2 => s = r' ∧ Inv TXc (n + 1) m2.1)) := by
        intro m3 g f3 hg
        refine vX12_whose_19 G d b (nI i) (b2 g) _ m3 _ ?_
        rw [g4 m3 f3]
        refine ⟨fun _ => ⟨fun q => ?_, fun q => ?_⟩, fun q => absurd (by rw [← l1]; exact Int32.le_refl _) q⟩
        · rintro _ rfl _ rfl
          rw [nI_1, show b ||| 0 = b by simp]
          refine hP m3 b _ _ ⟨b, hb, Or.inr ⟨fun z => ?_, rfl⟩⟩ f3
          rw [hg.mpr z] at q
          exact absurd q (by decide)
        · rintro _ rfl _ rfl
          rw [nI_1]
          refine hP m3 _ _ _ ⟨b, hb, Or.inl ⟨hg.mp ?_, rfl⟩⟩ f3
          cases g
          · exact absurd rfl q
          · rfl
      refine loopD (P := fun k => ∀ (m3 : Mem) (g : Bool), (∀ q, q ≠ 280 → q ≠ 282 → m3.1 q = m1.1 q) → (g = true ↔ ∀ j, j < k → flw m.1 (m.1 274) i (tn (m.1 274 (124 + 2 * j))) (tn (m.1 274 (125 + 2 * j))) 1 = true) → Gw G (d + 5) mX12_whose 19 [.ref (ga G 273), .int b, .int (nI i), .int (b2 g), .int (nI k)] [] m3 (Qi (fun r' m2 => s = r' ∧ Inv TXc (n + 1) m2.1))) (tn (m.1 274 5)) ?_ ?_ m2 true f2 ⟨fun _ j hj => by omega, fun _ => rfl⟩
      · intro k hk hQ m3 g f3 hg
        have i0 : (124 : Int32) + 2 * nI k = nI (124 + 2 * k) := by simp only [lit, pk_mul, nI_add]
        have i1 : nI (124 + 2 * k) + 1 = nI (125 + 2 * k) := by rw [nI_1]; congr 1; omega
        refine vX12_whose_19 G d b (nI i) (b2 g) (nI k) m3 _ ?_
        rw [i0, i1, g4 m3 f3, l1, le_nI (by omega) (by omega)]
        refine ⟨fun q => by omega, fun _ => ⟨fun q => ?_, fun q => ?_⟩⟩
        · rintro _ rfl
          rw [nI_1]
          have hg0 : g = false := by cases g; rfl; exact absurd q (by decide)
          refine hQ m3 false f3 ⟨fun z => (by cases z), fun z => ?_⟩
          have := hg.mpr (fun j hj => z j (by omega))
          rw [hg0] at this
          cases this
        · have hg1 : g = true := by cases g; exact absurd rfl q; rfl
          rw [tn_nI (n := 124 + 2 * k) (by omega), tn_nI (n := 125 + 2 * k) (by omega)]
          refine ⟨in_nI (by omega) (by omega), in_nI (by omega) (by omega), ?_⟩
          rw [(li0 k hk).1, (li1 k hk).1]
          refine qX12_flw G d i _ _ 1 m3 _ m.1 (by rw [g4 m3 f3]; exact hW) (by omega) (by rw [g4 m3 f3]; exact (li0 k hk).2) (by rw [g4 m3 f3]; exact (li1 k hk).2) (by omega) (h.tt i hi) ((f3 276 (by omega) (by omega)).trans (f1 276 (by omega) (by omega))) (fun m4 f4 => ?_)
          rw [g4 m3 f3]
          have f5 : ∀ q, q ≠ 280 → q ≠ 282 → m4.1 q = m1.1 q := fun q h1 h2 => (f4 q h1 h2).trans (f3 q h1 h2)
          cases e : flw m.1 (m.1 274) i (tn (m.1 274 (124 + 2 * k))) (tn (m.1 274 (125 + 2 * k))) 1
          · refine ⟨fun _ => ?_, fun z => absurd rfl z⟩
            rintro _ rfl
            rw [nI_1]
            refine hQ m4 false f5 ⟨fun z => (by cases z), fun z => ?_⟩
            rw [z k (by omega)] at e
            cases e
          · refine ⟨fun z => absurd z (by decide), fun _ => ?_⟩
            rintro _ rfl
            rw [nI_1]
            refine hQ m4 true f5 ⟨fun _ j hj => ?_, fun _ => rfl⟩
            by_cases z : j = k
            · rw [z]; exact e
            · exact hg.mp hg1 j (by omega)
      · intro m3 g f3 hg
        exact fin m3 g f3 hg
    · intro m2 b u3 u4 hb f2
      have g4 : m2.1 274 = m.1 274 := (f2 274 (by omega) (by omega)).trans (f1 274 (by omega) (by omega))
      refine vX12_whose_4 G d b _ u3 u4 m2 _ ?_
      rw [g4]
      have := hs.fn hb
      subst this
      exact ⟨fun _ => ⟨rfl, hI m2 f2⟩, fun q => absurd (by rw [← t1]; exact Int32.le_refl _) q⟩
  refine vX11_whose G d m _ ?_
  refine loopD (P := fun i => ∀ (m2 : Mem) (b : Int32), WhR m.1 (m.1 274) i b → (∀ q, q ≠ 263 → q ≠ 264 → m2.1 q = m.1 q) → Gw G (d + 5) mX11_whose 4 [.ref (ga G 0), .int b, .int (nI i)] [] m2 (Qi (Same G TXc n (d + 5) mX12_whose []))) (tn (m.1 274 2)) ?_ ?_ m 0 rfl (fun _ _ _ => rfl)
  · intro i hi hP m2 b hb f2
    have r2 : RC m2.1 0 (m.1 274) := hR.scr f2
    have e5 : m2.1 1 5 = nI (tn (m.1 274 2)) := (show m2.1 1 5 = m.1 274 2 from r2.nt).trans t1
    refine vX11_whose_4 G d b (nI i) m2 _ ?_
    rw [e5, le_nI (by omega) (by omega)]
    refine ⟨fun q => by omega, fun _ => ⟨in_nI (by omega) (by omega), ?_⟩⟩
    rw [tn_nI (by omega)]
    rintro _ rfl
    refine vX11_allLinesRight G d (238 + 6 * i) (tx_all i (by omega)) m2 _ ?_
    refine loopD (P := fun k => (∀ j, j < k → flw m.1 (m.1 274) i (tn (m.1 274 (124 + 2 * j))) (tn (m.1 274 (125 + 2 * j))) 1 = true) → ∀ (m3 : Mem), (∀ q, q ≠ 263 → q ≠ 264 → m3.1 q = m.1 q) → Gw G (d + 4) mX11_allLinesRight 10 [.ref (ga G 0), .ref (ga G (238 + 6 * i)), .ref (ga G 107), .int (nI k)] [] m3 (Qi (fun r3 m2 => ((r3 = 0) → ∀ x4 : Int32, x4 = nI i + 1 → Gw G (d + 5) mX11_whose 4 [.ref (ga G 0), .int b, .int x4] [] m2 (Qi (Same G TXc n (d + 5) mX12_whose []))) ∧ ((¬ r3 = 0) → ∀ x5 : Int32, x5 = b ||| ((1 : Int32) <<< (nI i &&& 31)) → ∀ x6 : Int32, x6 = nI i + 1 → Gw G (d + 5) mX11_whose 4 [.ref (ga G 0), .int x5, .int x6] [] m2 (Qi (Same G TXc n (d + 5) mX12_whose [])))))) (tn (m.1 274 5)) ?_ ?_ (fun j hj => by omega) m2 f2
    · intro k hk hQ hA m3 f3
      have r3 : RC m3.1 0 (m.1 274) := hR.scr f3
      have e7 : m3.1 107 2 = nI (tn (m.1 274 5)) := (show m3.1 107 2 = m.1 274 5 from r3.nl).trans l1
      have e8 : m3.1 110 k = nI (tn (m.1 274 (124 + 2 * k))) := (show m3.1 110 k = _ from r3.li0 k hk).trans (li0 k hk).1
      have e9 : m3.1 111 k = nI (tn (m.1 274 (125 + 2 * k))) := (show m3.1 111 k = _ from r3.li1 k hk).trans (li1 k hk).1
      refine vX11_allLinesRight_10 G d (238 + 6 * i) (tx_all i (by omega)) (nI k) m3 _ ?_
      rw [e7, tn_nI (n := k) (by omega), e8, e9, le_nI (by omega) (by omega)]
      refine ⟨fun q => by omega, fun _ => ⟨in_nI (by omega) (by omega), in_nI (by omega) (by omega), ?_⟩⟩
      refine kC_flw G d i _ _ 1 m3 (m.1 274) _ m.1 r3 hW (by omega) (li0 k hk).2 (li1 k hk).2 (by omega) (h.tt i hi) (fun q h1 h2 => f3 q (by omega) (by omega)) (fun m4 f4 => ?_)
      have f5 : ∀ q, q ≠ 263 → q ≠ 264 → m4.1 q = m.1 q := fun q h1 h2 => (f4 q h1 h2).trans (f3 q h1 h2)
      cases e : flw m.1 (m.1 274) i (tn (m.1 274 (124 + 2 * k))) (tn (m.1 274 (125 + 2 * k))) 1
      · refine ⟨fun z => absurd rfl z, fun _ => ⟨fun _ => ?_, fun z => absurd rfl z⟩⟩
        rintro _ rfl
        rw [nI_1]
        refine hP m4 b ⟨b, hb, Or.inr ⟨fun z => ?_, rfl⟩⟩ f5
        rw [z k hk] at e
        cases e
      · refine ⟨fun _ => ?_, fun z => absurd z (by decide)⟩
        rintro _ rfl
        rw [nI_1]
        refine hQ (fun j hj => ?_) m4 f5
        by_cases z : j = k
        · rw [z]; exact e
        · exact hA j (by omega)
    · intro hA m3 f3
      have r3 : RC m3.1 0 (m.1 274) := hR.scr f3
      have e7 : m3.1 107 2 = m.1 274 5 := r3.nl
      refine vX11_allLinesRight_10 G d (238 + 6 * i) (tx_all i (by omega)) _ m3 _ ⟨fun _ => ⟨fun z => absurd z (by decide), fun _ => ?_⟩, fun q => absurd (by rw [e7, ← l1]; exact Int32.le_refl _) q⟩
      rintro _ rfl _ rfl
      rw [nI_1]
      exact hP m3 _ ⟨b, hb, Or.inl ⟨hA, rfl⟩⟩ f3
  · intro m2 b hb f2
    have r2 : RC m2.1 0 (m.1 274) := hR.scr f2
    have e5 : m2.1 1 5 = m.1 274 2 := r2.nt
    exact vX11_whose_4 G d b _ m2 _ ⟨fun _ => model b m2 hb f2, fun q => absurd (by rw [e5, ← t1]; exact Int32.le_refl _) q⟩
