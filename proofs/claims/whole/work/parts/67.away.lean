/-! away, nearest, apart -/
def wdW (a : Nat → Int32) (w : Nat) : Nat → Int32 := fun k => a (37 + 9 * w + k)
def distV (a : Nat → Int32) (x y : Nat) : Nat := ed (wdW a x) (wdW a y) (lenW a x) (lenW a y)
theorem distV_le {a : Nat → Int32} (h : WF a) {x y : Nat} (hx : x < tn (a 1)) (hy : y < tn (a 1)) : distV a x y ≤ 8 := by
  have := ed_le (wdW a x) (wdW a y) (lenW a x) (lenW a y)
  have h1 := (h.lenW hx).2.2
  have h2 := (h.lenW hy).2.2
  unfold distV
  omega
theorem kC_between (G : GP) (d : Nat) (x y : Nat) (m : Mem) (a : Nat → Int32) (K : Int32 → Mem → Prop) (r : RC m.1 0 a) (h : WF a) (hx : x < tn (a 1)) (hy : y < tn (a 1)) (hK : ∀ m' : Mem, (∀ c, c ≠ 10 → m'.1 c = m.1 c) → K (nI (distV a x y)) m') : Evi G (d + 2) mX2_between [.ref (ga G 2), .int (nI x), .int (nI y)] m K := by
  have h10 := h.nw10
  obtain ⟨l1, l2, l3⟩ := h.lenW hx
  obtain ⟨l4, l5, l6⟩ := h.lenW hy
  refine vX2_between G d (nI x) (nI y) m K ⟨in_nI (by omega) (by omega), ?_⟩
  rw [tn_nI (by omega), show m.1 7 y = nI (lenW a y) from (r.len y hy).trans l4, show nI y * 4 = nI (4 * y) from (pk_mul y 4).trans (congrArg nI (by omega))]
  refine qX2_edits G d x 6 40 sh_6 (4 * y) (lenW a y) m _ (wdW a y) (wdW a x) (lenW a x) (by omega) (by omega) (by omega) (by omega) (by omega) l3 ((r.len x hx).trans l1) (fun i hi => r.str y i hy (by omega)) (fun j hj => r.str x j hx (by omega)) (fun m' e1 => ?_)
  rw [ed_sym]
  exact hK m' e1
theorem qX12_layWord (G : GP) (d : Nat) (w : Nat) (p1 p1l : Nat) (hp1 : SH[p1]? = some (100, p1l, [])) (m : Mem) (K : Int32 → Mem → Prop) (h : WF (m.1 274)) (hw : w < tn (m.1 274 1)) (hl : 4 ≤ p1l) (hl2 : p1l ≤ 1000) (hp : p1 ≠ 274) (hK : ∀ m' : Mem, (∀ k, k < lenW (m.1 274) w → m'.1 p1 k = wdW (m.1 274) w k) → (∀ c, c ≠ p1 → m'.1 c = m.1 c) → K (nI (lenW (m.1 274) w)) m') : Evi G (d + 2) mX12_layWord [.ref (ga G 273), .int (nI w), .ref (ga G p1)] m K := by
  generalize ha : m.1 274 = a at *
  have h10 := h.nw10
  obtain ⟨l1, l2, l3⟩ := h.lenW hw
  refine vX12_layWord G d (nI w) p1 p1l hp1 m K ?_
  refine loopD (P := fun i => ∀ m' : Mem, (∀ k, k < i → m'.1 p1 k = wdW a w k) → (∀ c, c ≠ p1 → m'.1 c = m.1 c) → Gw G (d + 2) mX12_layWord 2 [.ref (ga G 273), .int (nI w), .ref (ga G p1), .int (nI i)] [] m' (Qi K)) (lenW a w) ?_ ?_ m (fun k hk => by omega) (fun _ _ => rfl)
  · intro i hi hP m' e1 e2
    have e4 : m'.1 274 = a := (e2 274 (fun e => hp e.symm)).trans ha
    refine vX12_layWord_2 G d (nI w) p1 p1l hp1 (nI i) m' K ⟨by rw [ix_w2]; exact in_nI (by omega) (by omega), fun q => ?_, fun _ => ⟨by rw [ix_ws]; exact in_nI (by omega) (by omega), in_nI (by omega) (by omega), ?_⟩⟩
    · rw [ix_w2, tn_nI (by omega), e4, l1, le_nI (by omega) (by omega)] at q
      omega
    · rintro _ rfl _ rfl
      rw [ix_ws, tn_nI (by omega), tn_nI (by omega), nI_1, e4]
      refine hP _ (fun k hk => ?_) (fun c hc => by rw [wI_n _ _ _ hc, e2 c hc])
      rw [wI_s]
      by_cases e : k = i
      · rw [e, upd_s]; rfl
      · rw [upd_n _ _ e]; exact e1 k (by omega)
  · intro m' e1 e2
    have e4 : m'.1 274 = a := (e2 274 (fun e => hp e.symm)).trans ha
    have v : vp_in (((34 : Int32) + (9 : Int32) * nI w) + 2) 5968 := by rw [ix_w2]; exact in_nI (by omega) (by omega)
    refine vX12_layWord_2 G d (nI w) p1 p1l hp1 _ m' K ⟨v, fun _ => ⟨v, ?_⟩, fun q => absurd ?_ q⟩
    · rw [ix_w2, tn_nI (by omega), e4, l1]
      exact hK m' e1 e2
    · rw [ix_w2, tn_nI (by omega), e4, l1]
      exact Int32.le_refl _
theorem qX12_away (G : GP) (d : Nat) (x y : Nat) (m : Mem) (K : Int32 → Mem → Prop) (h : WF (m.1 274)) (hx : x < tn (m.1 274 1)) (hy : y < tn (m.1 274 1)) (hK : ∀ m' : Mem, (∀ c, c ≠ 287 → c ≠ 288 → c ≠ 289 → m'.1 c = m.1 c) → K (nI (distV (m.1 274) x y)) m') : Evi G (d + 3) mX12_away [.ref (ga G 273), .int (nI x), .int (nI y)] m K := by
  have h10 := h.nw10
  have o : ∀ z, z < tn (m.1 274 1) → 0 ≤ nI z ∧ nI z ≤ m.1 274 1 - 1 := fun z hz => by rw [h.nwE, oneM_nI (by omega)]; exact ⟨z, hz, rfl⟩
  have l1 := (h.lenW hx).2.2
  have l2 := (h.lenW hy).2.2
  refine vX12_away G d (nI x) (nI y) m K ⟨fun _ => ⟨fun _ => ?_, fun q => absurd (o y hy) q⟩, fun q => absurd (o x hx) q⟩
  refine qX12_layWord G d x 287 24 sh_287 m _ h hx (by omega) (by omega) (by omega) (fun m1 a1 a2 => ?_)
  have e1 : m1.1 274 = m.1 274 := a2 274 (by omega)
  refine qX12_layWord G d y 288 24 sh_288 m1 _ (by rw [e1]; exact h) (by rw [e1]; exact hy) (by omega) (by omega) (by omega) (fun m2 b1 b2 => ?_)
  rw [e1] at b1 ⊢
  refine qX12_farOf G (d + 2) (lenW (m.1 274) x) (lenW (m.1 274) y) m2 _ (wdW (m.1 274) x) (wdW (m.1 274) y) (by omega) (by omega) (fun i hi => by rw [b2 287 (by omega)]; exact a1 i hi) b1 (fun m3 c1 => ?_)
  exact hK m3 (fun c q1 q2 q3 => by rw [c1 c q3, b2 c q2, a2 c q1])
theorem case_away (G : GP) (d : Nat) {TX : (Nat → Nat → Int32) → Prop} (hT : TXok TX) {n : Nat} (a0 a1 : Int32) (m : Mem) (h : Inv TX n m.1) : Evi G (d + 3) mX11_away [.ref (ga G 0), .int a0, .int a1] m (Same G TX n (d + 3) mX12_away [.int a0, .int a1]) := by
  have r := h.2.2.1
  have hW := h.1
  have h10 := hW.nw10
  have e2 : m.1 2 4 = nI (tn (m.1 274 1)) := r.nw.trans hW.nwE
  have o : ∀ x : Int32, (0 ≤ x ∧ x < m.1 2 4) ↔ (0 ≤ x ∧ x ≤ m.1 274 1 - 1) := fun x => by
    have e5 := hW.nwE
    generalize tn (m.1 274 1) = N at *
    rw [e2, one_nI (by omega), e5, oneM_nI (by omega)]
  refine vX11_away G d a0 a1 m _ ⟨fun q1 => ⟨fun q2 => ?_, fun q2 => ?_⟩, fun q1 => ?_⟩
  · rw [e2, one_nI (by omega)] at q1 q2
    obtain ⟨x, hx, rfl⟩ := q1
    obtain ⟨y, hy, rfl⟩ := q2
    refine kC_between G d x y m (m.1 274) _ r hW hx hy (fun m1 f1 => ?_)
    have e4 : m1.1 274 = m.1 274 := f1 274 (by omega)
    refine qX12_away G d x y m1 _ (by rw [e4]; exact hW) (by rw [e4]; exact hx) (by rw [e4]; exact hy) (fun m2 g1 => ⟨by rw [e4], h.idle.scr hT (fun c hc => ?_)⟩)
    rw [g1 c (fun e => hc (by unfold Scr; omega)) (fun e => hc (by unfold Scr; omega)) (fun e => hc (by unfold Scr; omega)), f1 c (fun e => hc (by unfold Scr; omega))]
  · exact vX12_away G d a0 a1 m _ ⟨fun _ => ⟨fun q3 => absurd ((o _).mpr q3) q2, fun _ => ⟨rfl, h.idle⟩⟩, fun _ => ⟨rfl, h.idle⟩⟩
  · exact vX12_away G d a0 a1 m _ ⟨fun q3 => absurd ((o _).mpr q3) q1, fun _ => ⟨rfl, h.idle⟩⟩
/-! nearest -/
def nearD (a : Nat → Int32) (w : Nat) : Nat := ed (wdW a w) (hR a) (lenW a w) (hN a)
def nearS (D : Nat → Nat) (L : Nat) : Nat → Nat × Nat
  | 0 => (L, 0)
  | i + 1 => if D i < (nearS D L i).1 then (D i, 1 <<< i) else if D i = (nearS D L i).1 then ((nearS D L i).1, (nearS D L i).2 ||| 1 <<< i) else nearS D L i
theorem nearS_eq (D : Nat → Nat) (A B : Nat) (hA : D 0 ≤ A) (hB : D 0 ≤ B) : ∀ i, nearS D A (i + 1) = nearS D B (i + 1)
  | 0 => by
    have k : ∀ L, D 0 ≤ L → nearS D L 1 = (D 0, 1) := by
      intro L hL
      show (if D 0 < L then (D 0, 1 <<< 0) else if D 0 = L then (L, 0 ||| 1 <<< 0) else (L, 0)) = _
      by_cases h : D 0 < L
      · rw [if_pos h]; rfl
      · have : D 0 = L := by omega
        rw [if_neg h, if_pos this, this]; rfl
    rw [k A hA, k B hB]
  | i + 1 => by
    show (if D (i + 1) < (nearS D A (i + 1)).1 then (D (i + 1), 1 <<< (i + 1)) else if D (i + 1) = (nearS D A (i + 1)).1 then ((nearS D A (i + 1)).1, (nearS D A (i + 1)).2 ||| 1 <<< (i + 1)) else nearS D A (i + 1)) = _
    rw [nearS_eq D A B hA hB i]
    rfl
theorem nearS_le {D : Nat → Nat} {L : Nat} : ∀ i, (nearS D L i).1 ≤ L
  | 0 => Nat.le_refl _
  | i + 1 => by
    have := nearS_le (D := D) (L := L) i
    unfold nearS
    split
    · show D i ≤ L; omega
    · split <;> exact this
theorem nearD_le {a : Nat → Int32} (h : WF a) {w : Nat} (hw : w < tn (a 1)) : nearD a w ≤ 28 := by
  have := ed_le (wdW a w) (hR a) (lenW a w) (hN a)
  have h1 := (h.lenW hw).2.2
  have h2 := hN_le h
  unfold nearD
  omega
theorem case_nearest (G : GP) (d : Nat) {TX : (Nat → Nat → Int32) → Prop} (hT : TXok TX) {n : Nat} (m : Mem) (h : Inv TX n m.1) : Evi G (d + 3) mX11_nearest [.ref (ga G 0)] m (Same G TX n (d + 3) mX12_nearest []) := by
  have r := h.2.2.1
  have hW := h.1
  generalize ha : m.1 274 = a at *
  have h10 := hW.nw10
  have hn24 := hN_le hW
  refine vX11_nearest G (d + 1) m _ (kC_listen G (d + 2) m a _ r hW ?_)
  intro m1 e1 e2 e3 e4
  have cls : ∀ e i, i + e = tn (a 1) → ∀ m' : Mem, (∀ c, c ≠ 10 → m'.1 c = m1.1 c) → ∀ u, Gw G (d + 3) mX11_nearest 23 [.ref (ga G 0), .ref (ga G 2), .int (nI (nearS (nearD a) 28 i).1), .int (nI (nearS (nearD a) 28 i).2), .int (nI i), u] [] m' (Qi (Same G TX n (d + 3) mX12_nearest [])) := by
    intro e
    induction e with
    | zero =>
      intro i hi m' f1 u
      have hin : i = tn (a 1) := by omega
      have g4 : m'.1 274 = a := by rw [f1 274 (by omega), e3 274 (by omega) (by omega), ha]
      have g2 : m'.1 2 4 = nI (tn (a 1)) := by rw [f1 2 (by omega), e3 2 (by omega) (by omega)]; exact r.nw.trans hW.nwE
      refine vX11_nearest_23 G (d + 1) _ _ (nI i) u m' _ ⟨fun _ => ?_, fun q => absurd (by rw [g2, hin]; exact Int32.le_refl _) q⟩
      -- the model
      refine vX12_nearest G d m' _ (qX12_heardL G (d + 2) m' _ (by rw [g4]; exact hW) ?_)
      rw [g4]
      intro m2 p1 p2 p3
      refine loopD (P := fun k => ∀ m3 : Mem, (∀ j, j < k → m3.1 288 j = hR a j) → (∀ c, c ≠ 288 → m3.1 c = m2.1 c) → ∀ u3 u4 u5, Gw G (d + 3) mX12_nearest 7 [.ref (ga G 273), .int (nI (hN a)), .int (nI k), u3, u4, u5] [] m3 (Qi (fun r' m2 => nI (nearS (nearD a) 28 i).2 = r' ∧ Inv TX (n + 1) m2.1))) (hN a) ?_ ?_ m2 (fun j hj => by omega) (fun _ _ => rfl) _ _ _
      · intro k hk hP m3 q1 q2 u3 u4 u5
        refine vX12_nearest_7 G d _ (nI k) u3 u4 u5 m3 _ ⟨fun q => ?_, fun _ => ⟨in_nI (by omega) (by omega), in_nI (by omega) (by omega), ?_⟩⟩
        · rw [le_nI (by omega) (by omega)] at q
          omega
        · rintro _ rfl _ rfl
          rw [tn_nI (by omega), nI_1]
          refine hP _ (fun j hj => ?_) (fun c hc => by rw [wI_n _ _ _ hc, q2 c hc]) _ _ _
          rw [wI_s]
          by_cases e : j = k
          · rw [e, upd_s, q2 283 (by omega)]; exact p1 k hk
          · rw [upd_n _ _ e]; exact q1 j (by omega)
      · intro m3 q1 q2 u3 u4 u5
        refine vX12_nearest_7 G d _ _ u3 u4 u5 m3 _ ⟨fun _ => ?_, fun q => absurd (Int32.le_refl _) q⟩
        have g3 : ∀ c, c ≠ 283 → c ≠ 288 → m3.1 c = m'.1 c := fun c h1 h2 => by rw [q2 c h2, p2 c h1]
        have mdl : ∀ e k, k + e = tn (a 1) → ∀ m4 : Mem, (∀ c, c ≠ 287 → c ≠ 289 → m4.1 c = m3.1 c) → ∀ u, Gw G (d + 3) mX12_nearest 39 [.ref (ga G 273), .int (nI (hN a)), .int (nI (nearS (nearD a) 1000000000 k).1), .int (nI (nearS (nearD a) 1000000000 k).2), .int (nI k), u] [] m4 (Qi (fun r' m2 => nI (nearS (nearD a) 28 i).2 = r' ∧ Inv TX (n + 1) m2.1)) := by
          intro e
          induction e with
          | zero =>
            intro k hk m4 s1 u
            have hkn : k = tn (a 1) := by omega
            have t4 : m4.1 274 = a := by rw [s1 274 (by omega) (by omega), g3 274 (by omega) (by omega), g4]
            refine vX12_nearest_39 G d _ _ _ (nI k) u m4 _ ⟨fun _ => ⟨?_, ?_⟩, fun q => absurd (by rw [t4, hkn, ← hW.nwE]; exact Int32.le_refl _) q⟩
            · rw [hin, hkn]
              rcases hz : tn (a 1) with _ | z
              · rfl
              · have b := nearD_le hW (w := 0) (by omega)
                rw [nearS_eq (nearD a) 28 1000000000 b (by omega) z]
            · refine h.idle.scr hT (fun c hc => ?_)
              have nn : ∀ x, Scr x → c ≠ x := fun x hx e => hc (by rw [e]; exact hx)
              rw [s1 c (nn 287 (by unfold Scr; omega)) (nn 289 (by unfold Scr; omega)), g3 c (nn 283 (by unfold Scr; omega)) (nn 288 (by unfold Scr; omega)), f1 c (nn 10 (by unfold Scr; omega)), e3 c (nn 266 (by unfold Scr; omega)) (nn 267 (by unfold Scr; omega))]
          | succ e ih =>
            intro k hk m4 s1 u
            have t4 : m4.1 274 = a := by rw [s1 274 (by omega) (by omega), g3 274 (by omega) (by omega), g4]
            have hk' : k < tn (a 1) := by omega
            have b := nearD_le hW hk'
            have bL := nearS_le (D := nearD a) (L := 1000000000) k
            refine vX12_nearest_39 G d _ _ _ (nI k) u m4 _ ⟨fun q => ?_, fun _ => ?_⟩
            · rw [t4, hW.nwE, le_nI (by omega) (by omega)] at q
              omega
            · refine qX12_layWord G d k 287 24 sh_287 m4 _ (by rw [t4]; exact hW) (by rw [t4]; exact hk') (by omega) (by omega) (by omega) (fun m5 a1 a2 => ?_)
              rw [t4] at a1 ⊢
              have l1 := (hW.lenW hk').2.2
              refine qX12_farOf G (d + 2) (lenW a k) (hN a) m5 _ (wdW a k) (hR a) (by omega) (by omega) a1 (fun j hj => by rw [a2 288 (by omega), s1 288 (by omega) (by omega)]; exact q1 j hj) (fun m6 c1 => ?_)
              have nx : ∀ L S, nearS (nearD a) 1000000000 (k + 1) = (L, S) → ∀ u, Gw G (d + 3) mX12_nearest 39 [.ref (ga G 273), .int (nI (hN a)), .int (nI L), .int (nI S), .int (nI (k + 1)), u] [] m6 (Qi (fun r' m2 => nI (nearS (nearD a) 28 i).2 = r' ∧ Inv TX (n + 1) m2.1)) := by
                intro L S hLS u
                have := ih (k + 1) (by omega) m6 (fun c h1 h2 => by rw [c1 c h2, a2 c h1, s1 c h1 h2]) u
                rw [hLS] at this
                exact this
              have eq : nearS (nearD a) 1000000000 (k + 1) = if nearD a k < (nearS (nearD a) 1000000000 k).1 then (nearD a k, 1 <<< k) else if nearD a k = (nearS (nearD a) 1000000000 k).1 then ((nearS (nearD a) 1000000000 k).1, (nearS (nearD a) 1000000000 k).2 ||| 1 <<< k) else nearS (nearD a) 1000000000 k := rfl
              generalize hL : (nearS (nearD a) 1000000000 k).1 = L at *
              generalize hS : (nearS (nearD a) 1000000000 k).2 = S at *
              rw [show ed (wdW a k) (hR a) (lenW a k) (hN a) = nearD a k from rfl]
              have hLk : nearS (nearD a) 1000000000 k = (L, S) := by rw [← hL, ← hS]
              refine ⟨fun q2 => ⟨fun _ => ⟨fun q3 => ?_, fun q3 => ?_⟩, fun q3 => absurd q2 q3⟩, fun q2 => ⟨fun q3 => absurd q3 q2, fun _ => ⟨fun q3 => absurd rfl q3, fun _ => ?_⟩⟩⟩
              · have q2 := (le_nI (by omega) (by omega)).mp q2
                have q3 : ¬ nearD a k = L := fun e => q3 (congrArg nI e)
                rintro _ rfl _ rfl
                rw [nI_1, show nI S ||| 0 = nI S by simp]
                rw [if_neg (by omega), if_neg q3, hLk] at eq
                exact nx L S eq _
              · have q3 := (eq_nI (by omega) (by omega)).mp q3
                rintro _ rfl _ rfl
                rw [shl1_nI _ (by omega), or_nI, nI_1]
                rw [if_neg (by omega), if_pos q3] at eq
                exact nx L _ eq _
              · have q2 : nearD a k < L := Nat.lt_of_not_le (fun q3 => q2 ((le_nI (by omega) (by omega)).mpr q3))
                rintro _ rfl _ rfl
                rw [shl1_nI _ (by omega), show (0 : Int32) = nI 0 from rfl, or_nI, nI_1, Nat.zero_or]
                rw [if_pos q2] at eq
                exact nx _ _ eq _
        exact mdl (tn (a 1)) 0 (by omega) m3 (fun _ _ _ => rfl) _
    | succ e ih =>
      intro i hi m' f1 u
      have hi' : i < tn (a 1) := by omega
      have g2 : m'.1 2 4 = nI (tn (a 1)) := by rw [f1 2 (by omega), e3 2 (by omega) (by omega)]; exact r.nw.trans hW.nwE
      have b := nearD_le hW hi'
      have bL := nearS_le (D := nearD a) (L := 28) i
      obtain ⟨l1, l2, l3⟩ := hW.lenW hi'
      refine vX11_nearest_23 G (d + 1) _ _ (nI i) u m' _ ⟨fun q => ?_, fun _ => ?_⟩
      · rw [g2, le_nI (by omega) (by omega)] at q
        omega
      · rw [f1 266 (by omega), e1]
        refine qX2_edits G (d + 1) i 267 24 sh_267 0 (hN a) m' _ (hR a) (wdW a i) (lenW a i) (by omega) (by omega) (by omega) (by omega) (by omega) l3 ?_ ?_ ?_ (fun m6 c1 => ?_)
        · rw [f1 7 (by omega), e3 7 (by omega) (by omega)]; exact (r.len i hi').trans l1
        · intro j hj
          rw [f1 267 (by omega), Nat.zero_add]; exact e2 j hj
        · intro j hj
          rw [f1 6 (by omega), e3 6 (by omega) (by omega)]; exact r.str i j hi' (by omega)
        · have nx : ∀ L S, nearS (nearD a) 28 (i + 1) = (L, S) → ∀ u, Gw G (d + 3) mX11_nearest 23 [.ref (ga G 0), .ref (ga G 2), .int (nI L), .int (nI S), .int (nI (i + 1)), u] [] m6 (Qi (Same G TX n (d + 3) mX12_nearest [])) := by
            intro L S hLS u
            have := ih (i + 1) (by omega) m6 (fun c h1 => by rw [c1 c h1, f1 c h1]) u
            rw [hLS] at this
            exact this
          have eq : nearS (nearD a) 28 (i + 1) = if nearD a i < (nearS (nearD a) 28 i).1 then (nearD a i, 1 <<< i) else if nearD a i = (nearS (nearD a) 28 i).1 then ((nearS (nearD a) 28 i).1, (nearS (nearD a) 28 i).2 ||| 1 <<< i) else nearS (nearD a) 28 i := rfl
          generalize hL : (nearS (nearD a) 28 i).1 = L at *
          generalize hS : (nearS (nearD a) 28 i).2 = S at *
          have hLk : nearS (nearD a) 28 i = (L, S) := by rw [← hL, ← hS]
          rw [ed_sym]
          rw [show ed (wdW a i) (hR a) (lenW a i) (hN a) = nearD a i from rfl]
          refine ⟨fun q2 => ⟨fun q3 => ?_, fun q3 => ?_⟩, fun q2 => ⟨fun q3 => absurd rfl q3, fun _ => ?_⟩⟩
          · have q2 := (le_nI (by omega) (by omega)).mp q2
            have q3 : ¬ nearD a i = L := fun e => q3 (congrArg nI e)
            rintro _ rfl
            rw [nI_1]
            rw [if_neg (by omega), if_neg q3, hLk] at eq
            exact nx L S eq _
          · have q3 := (eq_nI (by omega) (by omega)).mp q3
            rintro _ rfl _ rfl
            rw [shl1_nI _ (by omega), or_nI, nI_1]
            rw [if_neg (by omega), if_pos q3] at eq
            exact nx L _ eq _
          · have q2 : nearD a i < L := Nat.lt_of_not_le (fun q3 => q2 ((le_nI (by omega) (by omega)).mpr q3))
            rintro _ rfl _ rfl
            rw [shl1_nI _ (by omega), show (0 : Int32) = nI 0 from rfl, or_nI, nI_1, Nat.zero_or]
            rw [if_pos q2] at eq
            exact nx _ _ eq _
  exact cls (tn (a 1)) 0 (by omega) m1 (fun _ _ => rfl) _
