/-! strokes -/
theorem WF.stk {a : Nat → Int32} {v : Nat} (h : WF a) (hs : tn (a 14) < 24) (hv : v < tn (a 0) ∨ (10 ≤ v ∧ v < 10 + tn (a 0))) : WF (upd (upd a (164 + tn (a 14)) (nI v)) 14 (nI (tn (a 14) + 1))) := by
  have b0 := (h.nb.is (by omega)).2.2
  have b1 := (h.nw.is (by omega)).2.2
  have b2 := (h.nt.is (by omega)).2.2
  have b4 := (h.ns.is (by omega)).2.2
  have b5 := (h.nl.is (by omega)).2.2
  have b6 : tn (a 6) ≤ 12 := ((h.tl 0 (by omega)).is (by omega)).2.2
  have b7 : tn (a 7) ≤ 12 := ((h.tl 1 (by omega)).is (by omega)).2.2
  have bt : ∀ t, t < 2 → tn (a (6 + t)) ≤ 12 := fun t ht => ((h.tl t ht).is (by omega)).2.2
  have row := h.now.row
  generalize hS : tn (a 14) = s at *
  unfold WF WFs
  simp +contextual (disch := omega) only [upd_n, upd_s]
  refine ⟨h.nb, h.nw, h.nt, h.ru, h.ns, h.nl, h.tl, h.hd, h.loud, h.pitch, h.men, h.kind, h.means, h.len, ?_, h.non, h.wei, h.has, h.li0, h.li1, ?_, ⟨h.now.wind, h.now.frost, h.now.hour, h.now.x, h.now.wr, ⟨_, by omega, by omega, rfl⟩, ?_⟩, h.sp, h.w1, h.w2⟩
  · intro q z hq hz
    have := ((h.len q hq).is (by omega)).2.2
    simp (disch := omega) only [upd_n]
    exact h.str q z hq hz
  · intro t k ht hk
    have := bt t ht
    simp (disch := omega) only [upd_n]
    exact h.tow t k ht hk
  · intro k hk
    have e : tn (nI (s + 1)) = s + 1 := tn_nI (by omega)
    have hk : k < s + 1 := by rw [← e]; exact hk
    by_cases q : k = s
    · subst q
      exact ⟨v, upd_s _ _ _, hv⟩
    · rw [upd_n _ _ (by omega)]
      exact row k (by have : tn (a (12 + 2)) = s := hS; omega)
theorem RC.stk {f g : Nat → Nat → Int32} {a : Nat → Int32} {v : Nat} (r : RC f 0 a) (h : WF a) (hs : tn (a 14) < 24) (h1 : g 12 = upd (f 12) 4 (nI (tn (a 14) + 1))) (h2 : g 13 = upd (f 13) (tn (a 14)) (nI v)) (hg : ∀ c, 1 ≤ c → c ≤ 113 → c ≠ 12 → c ≠ 13 → g c = f c) : RC g 0 (upd (upd a (164 + tn (a 14)) (nI v)) 14 (nI (tn (a 14) + 1))) := by
  have b0 := (h.nb.is (by omega)).2.2
  have b1 := (h.nw.is (by omega)).2.2
  have b2 := (h.nt.is (by omega)).2.2
  have b4 := (h.ns.is (by omega)).2.2
  have b5 := (h.nl.is (by omega)).2.2
  have b6 : tn (a 6) ≤ 12 := ((h.tl 0 (by omega)).is (by omega)).2.2
  have b7 : tn (a 7) ≤ 12 := ((h.tl 1 (by omega)).is (by omega)).2.2
  have bt : ∀ t, t < 2 → tn (a (6 + t)) ≤ 12 := fun t ht => ((h.tl t ht).is (by omega)).2.2
  have row := r.now.row
  generalize hS : tn (a 14) = s at *
  unfold RC RS
  simp +contextual (disch := omega) only [upd_n, upd_s, hg, h1, h2, Nat.add_zero]
  refine ⟨r.nb, r.nw, r.loud, r.pitch, r.men, r.kind, r.means, r.len, r.str, r.wei, r.has, r.nl, r.li0, r.li1, r.tl, ?_, r.hd, r.nt, r.ru, ⟨r.now.wind, r.now.frost, r.now.hour, r.now.x, True.intro, ?_, r.now.sun, r.now.pag⟩, r.ns, r.al, r.sp⟩
  · intro t k ht hk
    have := bt t ht
    simp (disch := omega) only [upd_n]
    exact r.tow t k ht hk
  · intro k hk
    have e : tn (nI (s + 1)) = s + 1 := tn_nI (by omega)
    have hk : k < s + 1 := by rw [← e]; exact hk
    by_cases q : k = s
    · subst q
      rw [upd_s, upd_s]
    · rw [upd_n _ _ (by omega), upd_n _ _ (by omega)]
      exact row k (by have : tn (a (12 + 2)) = s := hS; omega)
def bv (b : Nat) (o : Bool) : Nat := if o then b + 10 else b
def strF (a : Nat → Int32) (b : Nat) (o : Bool) : Nat → Int32 := upd (upd a (164 + tn (a 14)) (nI (bv b o))) 14 (nI (tn (a 14) + 1))
theorem WF.strF {a : Nat → Int32} (h : WF a) (hs : tn (a 14) < 24) {b : Nat} (hb : b < tn (a 0)) (o : Bool) : WF (strF a b o) := h.stk hs (by cases o; exact Or.inl hb; exact Or.inr ⟨by show 10 ≤ b + 10; omega, by show b + 10 < _; omega⟩)
theorem strF_i {a : Nat → Int32} {b : Nat} {o : Bool} {i : Nat} (hs : tn (a 14) < 24) (h1 : i ≠ 14) (h2 : i < 164 ∨ 188 ≤ i) : strF a b o i = a i := by
  unfold strF
  rw [upd_n _ _ h1, upd_n _ _ (by omega)]
theorem strF_14 {a : Nat → Int32} {b : Nat} {o : Bool} (hs : tn (a 14) < 24) : tn (strF a b o 14) = tn (a 14) + 1 := by
  unfold strF
  rw [upd_s]
  exact tn_nI (by omega)
/-- the class: a stroke -/
theorem kC_add (G : GP) (d : Nat) (b : Nat) (o : Bool) (m : Mem) (a : Nat → Int32) (K : Int32 → Mem → Prop) (r : RC m.1 0 a) (h : WF a) (hs : tn (a 14) < 24) (hb : b < tn (a 0)) (hK : ∀ m' : Mem, RC m'.1 0 (strF a b o) → (∀ q, q ≠ 12 → q ≠ 13 → m'.1 q = m.1 q) → K (b2 o) m') : Evi G d mX5_addStroke [.ref (ga G 12), .int (nI b), .int (b2 o)] m K := by
  have hnb := (h.nb.is (by omega)).2.2
  have e4 : m.1 12 4 = nI (tn (a 14)) := (show m.1 12 4 = a 14 from r.now.nr).trans (h.now.nr.is (by omega)).1
  refine vX5_addStroke G d (nI b) (b2 o) m K ⟨fun _ => ?_, fun q => ?_⟩
  · rw [e4, tn_nI (by omega)]
    have key : ∀ m' : Mem, m' = wI (wI m 13 (tn (a 14)) (nI (bv b o))) 12 4 ((wI m 13 (tn (a 14)) (nI (bv b o))).1 12 4 + 1) → K (b2 o) m' := by
      rintro _ rfl
      have e5 : (wI m 13 (tn (a 14)) (nI (bv b o))).1 12 4 = nI (tn (a 14)) := e4
      rw [e5, nI_1]
      refine hK _ (r.stk h hs ?_ ?_ ?_) (fun q h1 h2 => by rw [wI_n _ _ _ h1, wI_n _ _ _ h2])
      · rw [wI_s]; rfl
      · rw [wI_n _ _ _ (by omega), wI_s]
      · intro c h1 h2 h3 h4
        rw [wI_n _ _ _ h3, wI_n _ _ _ h4]
    cases o
    · refine ⟨fun _ => ⟨in_nI hs (by omega), ?_⟩, fun q => absurd rfl q⟩
      rintro _ rfl _ rfl
      exact ⟨fun _ => key _ rfl, fun q => absurd rfl q⟩
    · refine ⟨fun q => absurd q (by decide), fun _ => ⟨in_nI hs (by omega), ?_⟩⟩
      rintro _ rfl _ rfl
      refine ⟨fun q => absurd q (by decide), fun _ => key _ ?_⟩
      rw [show nI (bv b true) = nI b + 10 from (nI_add b 10).symm]
  · exfalso
    rw [e4] at q
    exact q ((lt_nI (b := 24) (by omega) (by omega)).mpr hs)
theorem RC.scr {f g : Nat → Nat → Int32} {a : Nat → Int32} (r : RC f 0 a) (h : ∀ q, q ≠ 263 → q ≠ 264 → g q = f q) : RC g 0 a := r.fr (fun c h1 h2 _ _ => h c (by omega) (by omega))
noncomputable def ovN (X : Nat → Nat → Int32) (a : Nat → Int32) (b : Nat) : Bool := ovr X a b (tn (a 8)) (tn (a 14))
theorem kC_strike1 (G : GP) (d : Nat) (b : Nat) (m : Mem) (a : Nat → Int32) (K : Int32 → Mem → Prop) (X : Nat → Nat → Int32) (r : RC m.1 0 a) (h : WF a) (hs : tn (a 14) < 24) (hb : b < tn (a 0)) (hT : ∀ t, t < tn (a 2) → TT X t) (hX : ∀ q, 238 ≤ q → q ≤ 261 → m.1 q = X q) (hK : ∀ m' : Mem, RC m'.1 0 (strF a b (ovN X a b)) → (∀ q, q ≠ 12 → q ≠ 13 → q ≠ 263 → q ≠ 264 → m'.1 q = m.1 q) → K (b2 (ovN X a b)) m') : Evi G (d + 3) mX1_getsOver [.ref (ga G 262), .int (nI b), .int (m.1 12 4), .int (m.1 12 0)] m (fun r2 m1 => Evi G (d + 3) mX5_addStroke [.ref (ga G 12), .int (nI b), .int r2] m1 (fun r4 m3 => K r4 m3)) := by
  have e4 : m.1 12 4 = nI (tn (a 14)) := (show m.1 12 4 = a 14 from r.now.nr).trans (h.now.nr.is (by omega)).1
  have w8 := h.now.wind.is (by omega)
  have e0 : m.1 12 0 = nI (tn (a 8)) := (show m.1 12 0 = a 8 from r.now.wind).trans w8.1
  rw [e4, e0]
  refine kC_over G d b (tn (a 8)) (tn (a 14)) m a _ X r h hb w8.2.2 (by omega) hT hX (fun m1 f1 => ?_)
  refine kC_add G (d + 3) b _ m1 a _ (r.scr f1) h hs hb (fun m2 r2 f2 => hK m2 r2 (fun q h1 h2 h3 h4 => (f2 q h1 h2).trans (f1 q h3 h4)))
theorem kC_strike (G : GP) (d : Nat) (b : Nat) (m : Mem) (a : Nat → Int32) (K : Int32 → Mem → Prop) (X : Nat → Nat → Int32) (r : RC m.1 0 a) (h : WF a) (hs : tn (a 14) < 24) (hb : b < tn (a 0)) (hT : ∀ t, t < tn (a 2) → TT X t) (hX : ∀ q, 238 ≤ q → q ≤ 261 → m.1 q = X q) (hK : ∀ m' : Mem, RC m'.1 0 (strF a b (ovN X a b)) → (∀ q, q ≠ 12 → q ≠ 13 → q ≠ 263 → q ≠ 264 → m'.1 q = m.1 q) → K (b2 (ovN X a b)) m') : Evi G (d + 4) mX11_strike [.ref (ga G 0), .int (nI b)] m K :=
  vX11_strike G d (nI b) m K (kC_strike1 G d b m a K X r h hs hb hT hX hK)
/-- the model: a stroke -/
theorem qX12_ringNow (G : GP) (d : Nat) (b : Nat) (m : Mem) (K : Int32 → Mem → Prop) (X : Nat → Nat → Int32) (h : WF (m.1 274)) (hs : tn (m.1 274 14) < 24) (hb : b < tn (m.1 274 0)) (hT : ∀ t, t < tn (m.1 274 2) → TT X t) (hX : m.1 276 = X 276) (hK : ∀ m' : Mem, m'.1 274 = strF (m.1 274) b (ovN X (m.1 274) b) → (∀ q, q ≠ 274 → q ≠ 280 → q ≠ 282 → m'.1 q = m.1 q) → K (b2 (ovN X (m.1 274) b)) m') : Evi G (d + 5) mX12_ringNow [.ref (ga G 273), .int (nI b)] m K := by
  have w8 := h.now.wind.is (by omega)
  have e8 : m.1 274 8 = nI (tn (m.1 274 8)) := w8.1
  have e14 : m.1 274 14 = nI (tn (m.1 274 14)) := (h.now.nr.is (by omega)).1
  refine vX12_ringNow G d (nI b) m K ?_
  refine cast (congrArg (fun z => Evi G (d + 4) mX12_isOver [.ref (ga G 273), .int (nI b), .int z, .int (m.1 274 14)] _ _) e8.symm) ?_
  refine cast (congrArg (fun z => Evi G (d + 4) mX12_isOver [.ref (ga G 273), .int (nI b), .int (nI (tn (m.1 274 8))), .int z] _ _) e14.symm) ?_
  refine qX12_over G d b (tn (m.1 274 8)) (tn (m.1 274 14)) m _ X h hb w8.2.2 (by omega) hT hX (fun m1 f1 => ?_)
  have f4 : m1.1 274 = m.1 274 := f1 274 (by omega) (by omega)
  have hK : ∀ m' : Mem, m'.1 274 = strF (m.1 274) b (ovr X (m.1 274) b (tn (m.1 274 8)) (tn (m.1 274 14))) → (∀ q, q ≠ 274 → q ≠ 280 → q ≠ 282 → m'.1 q = m.1 q) → K (b2 (ovr X (m.1 274) b (tn (m.1 274 8)) (tn (m.1 274 14)))) m' := hK
  generalize ovr X (m.1 274) b (tn (m.1 274 8)) (tn (m.1 274 14)) = o at hK ⊢
  rw [f4, e14]
  have ei : (164 : Int32) + nI (tn (m.1 274 14)) = nI (164 + tn (m.1 274 14)) := nI_add 164 _
  rw [ei, tn_nI (by omega)]
  have key : ∀ m' : Mem, m' = wI (wI m1 274 (164 + tn (m.1 274 14)) (nI (bv b o))) 274 14 ((wI m1 274 (164 + tn (m.1 274 14)) (nI (bv b o))).1 274 14 + 1) → K (b2 o) m' := by
    rintro _ rfl
    have e5 : (wI m1 274 (164 + tn (m.1 274 14)) (nI (bv b o))).1 274 14 = nI (tn (m.1 274 14)) := by
      rw [wI_s, upd_n _ _ (by omega), f4]; exact e14
    rw [e5, nI_1]
    refine hK _ ?_ (fun q h1 h2 h3 => by rw [wI_n _ _ _ h1, wI_n _ _ _ h1, f1 q h2 h3])
    rw [wI_s, wI_s, f4]
    rfl
  cases o
  · refine ⟨fun _ => ⟨in_nI (by omega) (by omega), ?_⟩, fun q => absurd rfl q⟩
    rintro _ rfl _ rfl
    refine key _ ?_
    rw [show nI b + 10 * 0 = nI (bv b false) from nI_add b 0]
  · refine ⟨fun q => absurd q (by decide), fun _ => ⟨in_nI (by omega) (by omega), ?_⟩⟩
    rintro _ rfl _ rfl
    refine key _ ?_
    rw [show nI b + 10 * 1 = nI (bv b true) from nI_add b 10]
