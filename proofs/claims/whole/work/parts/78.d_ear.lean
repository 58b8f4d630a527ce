/-! the class lays words, all of it -/
def Laid (X : Nat → Nat → Int32) (m : Mem) (a : Nat → Int32) (R : Nat → Nat) : Prop := (∀ p, p ≤ hN a → FitA a (m.1 268) p (tn (a 1))) ∧ (∀ p, p ≤ hN a → m.1 270 p = nI (VV X a false p 0 0)) ∧ ReA (m.1 269) R ∧ ∀ p, p ≤ hN a → ReC a R p (tn (a 1))
theorem sub1_nI (p : Nat) : nI p + (-1) = nI p - 1 := (Int32.sub_eq_add_neg ..).symm
theorem imin_L {s t : Nat} (hs : s ≤ 1000000) (ht : t ≤ 1000000) : imin 1000000 (nI s + nI t) = nI (min 1000000 (s + t)) := by
  rw [nI_add]
  exact imin_nI (a := 1000000) (by omega) (by omega)
theorem kC_any (G : GP) (d : Nat) (X : Nat → Nat → Int32) (m : Mem) (a : Nat → Int32) (K : Mem → Prop) (r : RC m.1 0 a) (h : WF a) (hF : ∀ p, p ≤ hN a → FitA a (m.1 268) p (tn (a 1))) (h0 : m.1 270 (hN a) = nI 1) (u3 u4 : Value) (hK : ∀ m' : Mem, (∀ p, p ≤ hN a → m'.1 270 p = nI (VV X a false p 0 0)) → (∀ q, q ≠ 270 → m'.1 q = m.1 q) → K m') : Gw G (d + 3) mX0_layWords 124 [.ref (ga G 266), .ref (ga G 2), .int (nI (hN a) - 1), u3, u4] [] m (Qv K) := by
  have h10 := h.nw10
  have hn := hN_le h
  have key : ∀ p, p ≤ hN a → ∀ (m' : Mem) (u3 u4 : Value), (∀ q, p ≤ q → q ≤ hN a → m'.1 270 q = nI (VV X a false q 0 0)) → (∀ q, q ≠ 270 → m'.1 q = m.1 q) → Gw G (d + 3) mX0_layWords 124 [.ref (ga G 266), .ref (ga G 2), .int (nI p - 1), u3, u4] [] m' (Qv K) := by
    intro p
    induction p with
    | zero =>
      intro _ m' u3 u4 c1 c2
      exact vX0_layWords_124 G d (nI 0 - 1) u3 u4 m' K ⟨fun _ => hK m' (fun p hp => c1 p (by omega) hp) c2, fun q => absurd (by decide) q⟩
    | succ p ih =>
      intro hp m' u3 u4 c1 c2
      rw [nI_pred]
      refine vX0_layWords_124 G d (nI p) u3 u4 m' K ⟨fun q => absurd q (nI_pos (by omega)), fun _ => ⟨in_nI (by omega) (by omega), ?_⟩⟩
      rw [tn_nI (by omega)]
      rintro _ rfl
      refine loopD (P := fun w => ∀ (m2 : Mem) (u : Value), m2.1 270 p = nI (sm (fun w => herB a w p && sen X a false 0 w 0) (fun w => VV X a false (p + lenW a w) w 1) w) → (∀ q, p < q → q ≤ hN a → m2.1 270 q = nI (VV X a false q 0 0)) → (∀ q, q ≠ 270 → m2.1 q = m.1 q) → Gw G (d + 3) mX0_layWords 137 [.ref (ga G 266), .ref (ga G 2), .int (nI p), .int (nI w), u] [] m2 (Qv K)) (tn (a 1)) ?_ ?_ _ uu ?_ ?_ ?_
      · intro w hw hP m2 u d1 d2 d3
        have r1 : RC m2.1 0 a := r.fr (fun c h1 h2 _ _ => d3 c (by omega))
        have e4 : m2.1 2 4 = nI (tn (a 1)) := r1.nw.trans h.nwE
        obtain ⟨l1, l2, l3⟩ := h.lenW hw
        have e7 : m2.1 7 w = nI (lenW a w) := (show m2.1 7 w = _ from r1.len w hw).trans l1
        have hf := fit_bit (v := w) (hF p (by omega)) hw h10
        have hs := sm_le (fun w => herB a w p && sen X a false 0 w 0) (fun w => VV X a false (p + lenW a w) w 1) w
        refine vX0_layWords_137 G d (nI p) (nI w) u m2 K ?_
        rw [e4, tn_nI (by omega), tn_nI (by omega), e7, nI_add, d3 268 (by omega), hf, d1]
        refine ⟨fun q => ?_, fun _ => ⟨in_nI (by omega) (by omega), fun q => ?_, fun q => ?_⟩⟩
        · rw [le_nI (by omega) (by omega)] at q
          omega
        · have hle := herB_le q
          rw [tn_nI (by omega), d2 (p + lenW a w) (by omega) hle]
          refine ⟨in_nI (by omega) (by omega), in_nI (by omega) (by omega), ?_⟩
          rintro _ rfl
          refine ⟨in_nI (by omega) (by omega), in_nI (by omega) (by omega), ?_⟩
          rw [imin_L hs (VV_le X a false h _ _ _ hle)]
          rintro _ rfl _ rfl
          rw [nI_1]
          refine hP _ _ ?_ (fun z z1 z2 => ?_) (fun z hz => by rw [wI_n _ _ _ hz]; exact d3 z hz)
          · rw [wI_s, upd_s, sm_s]
            have : (herB a w p && sen X a false 0 w 0) = true := by rw [q]; rfl
            rw [if_pos this, VV_any (s := fun _ _ _ => true) h false (fun _ _ _ => rfl) (hN a - (p + lenW a w)) (p + lenW a w) w 0 1 0 (by omega)]
          · rw [wI_s, upd_n _ _ (by omega)]; exact d2 z z1 z2
        · rintro _ rfl
          rw [nI_1]
          refine hP _ _ ?_ d2 d3
          rw [sm_s, d1]
          have : ¬ (herB a w p && sen X a false 0 w 0) = true := fun z => q (by rw [Bool.and_eq_true] at z; exact z.1)
          rw [if_neg this]
      · intro m2 u d1 d2 d3
        have r1 : RC m2.1 0 a := r.fr (fun c h1 h2 _ _ => d3 c (by omega))
        have e4 : m2.1 2 4 = nI (tn (a 1)) := r1.nw.trans h.nwE
        refine vX0_layWords_137 G d (nI p) (nI (tn (a 1))) u m2 K ⟨fun _ => ?_, fun q => absurd (by rw [e4]; exact Int32.le_refl _) q⟩
        rintro _ rfl
        rw [sub1_nI]
        refine ih (by omega) m2 _ _ (fun q h1 h2 => ?_) d3
        by_cases e : q = p
        · subst e
          rw [d1, VV_s h (by omega)]
        · exact d2 q (by omega) h2
      · rw [wI_s, upd_s]; rfl
      · intro q h1 h2
        rw [wI_s, upd_n _ _ (by omega)]; exact c1 q (by omega) h2
      · intro q hq
        rw [wI_n _ _ _ hq]; exact c2 q hq
  refine key (hN a) (Nat.le_refl _) m u3 u4 (fun q h1 h2 => ?_) (fun _ _ => rfl)
  have : q = hN a := by omega
  subst this
  rw [h0, VV_n]
theorem kC_layWords (G : GP) (d : Nat) (X : Nat → Nat → Int32) (m : Mem) (a : Nat → Int32) (K : Mem → Prop) (r : RC m.1 0 a) (h : WF a) (hE : EarH m a) (hK : ∀ (m' : Mem) (R : Nat → Nat), Laid X m' a R → (∀ q, q ≠ 268 → q ≠ 269 → q ≠ 270 → m'.1 q = m.1 q) → K m') : Evv G (d + 3) mX0_layWords [.ref (ga G 266)] m K := by
  have h10 := h.nw10
  have hn := hN_le h
  refine vX0_layWords G d m K ?_
  refine qJ7_fill G (d + 2) 269 25 (by decide +kernel) (by omega) 0 m _ (fun m1 f1 f2 _ => ?_)
  rintro _ rfl
  have key : ∀ N p, p + N = hN a + 1 → ∀ (m' : Mem) (R : Nat → Nat) (u3 u4 : Value), (∀ q, q < p → FitA a (m'.1 268) q (tn (a 1))) → ReA (m'.1 269) R → (∀ q, q < p → ReC a R q (tn (a 1))) → (∀ q, q ≠ 268 → q ≠ 269 → m'.1 q = m.1 q) → Gw G (d + 3) mX0_layWords 25 [.ref (ga G 266), .ref (ga G 2), .int (nI p), u3, u4] [] m' (Qv K) := by
    intro N
    induction N with
    | zero =>
      intro p hp m' R u3 u4 c1 c2 c3 c4
      have e : p = hN a + 1 := by omega
      subst e
      have e2 : m'.1 266 2 = nI (hN a) := by rw [c4 266 (by omega) (by omega)]; exact hE.1
      refine vX0_layWords_25 G d (nI (hN a + 1)) u3 u4 m' K ⟨fun _ => ?_, fun q => absurd (by rw [e2]; exact (lt_nI (by omega) (by omega)).mpr (by omega)) q⟩
      rw [e2, tn_nI (by omega)]
      refine ⟨in_nI (by omega) (by omega), ?_⟩
      rintro _ rfl
      have e3 : (wI m' 270 (hN a) 1).1 266 2 = nI (hN a) := e2
      rw [e3]
      rintro _ rfl
      have r1 : RC (wI m' 270 (hN a) 1).1 0 a := r.fr (fun c h1 h2 _ _ => by rw [wI_n _ _ _ (by omega), c4 c (by omega) (by omega)])
      refine kC_any G d X _ a K r1 h (fun q hq => c1 q (by omega)) (by rw [wI_s, upd_s]; rfl) _ _ (fun m2 g1 g2 => ?_)
      refine hK m2 R ⟨fun q hq => ?_, g1, ?_, fun q hq => c3 q (by omega)⟩ (fun q h1 h2 h3 => by rw [g2 q h3, wI_n _ _ _ h3, c4 q h1 h2])
      · rw [g2 268 (by omega)]; exact c1 q (by omega)
      · rw [g2 269 (by omega)]; exact c2
    | succ N ih =>
      intro p hp m' R u3 u4 c1 c2 c3 c4
      have e2 : m'.1 266 2 = nI (hN a) := by rw [c4 266 (by omega) (by omega)]; exact hE.1
      refine vX0_layWords_25 G d (nI p) u3 u4 m' K ⟨fun q => ?_, fun _ => ⟨in_nI (by omega) (by omega), ?_⟩⟩
      · exfalso
        rw [e2, lt_nI (by omega) (by omega)] at q
        omega
      rw [tn_nI (by omega)]
      rintro _ rfl
      have r1 : RC (wI m' 268 p 0).1 0 a := r.fr (fun c h1 h2 _ _ => by rw [wI_n _ _ _ (by omega), c4 c (by omega) (by omega)])
      have hE1 : EarH (wI m' 268 p 0) a := ⟨e2, fun k hk => by rw [wI_n _ _ _ (by omega), c4 267 (by omega) (by omega)]; exact hE.2 k hk⟩
      refine kC_lay1 G d p _ a K R r1 h hE1 (by omega) (by rw [wI_s, upd_s]) c2 _ (fun m2 R2 u2 g1 g2 g3 g4 g5 g6 g7 => ?_)
      refine ih (p + 1) (by omega) m2 R2 _ _ (fun q hq => ?_) g3 (fun q hq => ?_) (fun q h1 h2 => by rw [g7 q h1 h2, wI_n _ _ _ h1, c4 q h1 h2])
      · by_cases e : q = p
        · rw [e]; exact g1
        · obtain ⟨F, z1, z2, z3, z4⟩ := c1 q (by omega)
          refine ⟨F, z1, ?_, z3, z4⟩
          rw [g2 q e, wI_s, upd_n _ _ e]; exact z2
      · by_cases e : q = p
        · rw [e]; exact g6
        · intro v k hv hh hk
          rw [g5 q (by omega)] at hk
          exact g4 _ _ (c3 q (by omega) v k hv hh hk)
  refine key (hN a + 1) 0 (by omega) _ (fun q => if q = 0 then 1 else 0) _ _ (fun q hq => by omega) ⟨fun q hq => ?_, by decide⟩ (fun q hq => by omega) (fun q h1 h2 => by rw [wI_n _ _ _ h2, f2 q h2])
  rw [wI_s]
  by_cases e : q = 0
  · subst e
    rw [upd_s]
    refine ⟨rfl, by decide, fun k hk => ?_⟩
    have hk : (1 : Nat).testBit k = true := hk
    rw [Nat.testBit_one_eq_true_iff_self_eq_zero] at hk
    omega
  · have e2 : (fun q => if q = 0 then 1 else 0) q = (0 : Nat) := if_neg e
    rw [upd_n _ _ e, f1 q (by omega), e2]
    refine ⟨rfl, by decide, fun k hk => ?_⟩
    rw [Nat.zero_testBit] at hk
    cases hk
/-! with sense -/
def laO (la : Nat) : Option Nat := if la = 10 then none else some la
theorem sen_may (X : Nat → Nat → Int32) (a : Nat → Int32) (la w p : Nat) : sen X a true la w p = mayV X a w p (laO la) := by
  unfold sen laO
  by_cases e : la = 10
  · rw [if_pos e, if_pos e]; rfl
  · rw [if_neg e, if_neg e]; rfl
/-- what was counted behind the places e that are above lo -/
def SW (X : Nat → Nat → Int32) (m : Mem) (a : Nat → Int32) (R : Nat → Nat) (lo : Nat) : Prop := ∀ fr k w, w < tn (a 1) → herB a w fr = true → (R fr).testBit k = true → lo < fr + lenW a w → VV X a false (fr + lenW a w) 0 0 ≠ 0 → m.1 271 (((fr + lenW a w) * 25 + (k + 1)) * 10 + w) = nI (VV X a true (fr + lenW a w) w (k + 1))
theorem cell_nI (e k w : Nat) : ((nI e * 25 + (nI k + 1)) * 10) + nI w = nI ((e * 25 + (k + 1)) * 10 + w) := by
  rw [nI_1, show (25 : Int32) = nI 25 from rfl, show (10 : Int32) = nI 10 from rfl, pk_mul, nI_add, pk_mul, nI_add]
theorem Laid.fr {X : Nat → Nat → Int32} {m m' : Mem} {a : Nat → Int32} {R : Nat → Nat} (h : Laid X m a R) (h8 : m'.1 268 = m.1 268) (h9 : m'.1 269 = m.1 269) (h0 : m'.1 270 = m.1 270) : Laid X m' a R := by
  unfold Laid at h ⊢
  rw [h8, h9, h0]
  exact h
theorem kC_behind (G : GP) (d : Nat) (X : Nat → Nat → Int32) (e k la : Nat) (m : Mem) (a : Nat → Int32) (K : Int32 → Mem → Prop) (R : Nat → Nat) (r : RC m.1 0 a) (h : WF a) (hE : EarH m a) (hL : Laid X m a R) (hT : ∀ t, t < tn (a 2) → TT X t) (hX : ∀ q, 238 ≤ q → q ≤ 261 → m.1 q = X q) (hd : FDa X a (m.1 265)) (he : e ≤ hN a) (hk : k ≤ e) (hla : (la = 10 ∧ k = 0) ∨ (la < tn (a 1) ∧ 0 < k)) (hS : ∀ w, w < tn (a 1) → herB a w e = true → VV X a false (e + lenW a w) 0 0 ≠ 0 → m.1 271 (((e + lenW a w) * 25 + (k + 1)) * 10 + w) = nI (VV X a true (e + lenW a w) w (k + 1)))
    (hK : ∀ m' : Mem, (∀ q, q ≠ 263 → q ≠ 264 → q ≠ 265 → m'.1 q = m.1 q) → FDa X a (m'.1 265) → K (nI (VV X a true e la k)) m') : Evi G (d + 4) mX0_waysBehind [.ref (ga G 266), .int (nI e), .int (nI k), .int (laI (laO la))] m K := by
  have h10 := h.nw10
  have hn := hN_le h
  refine vX0_waysBehind G d (nI e) (nI k) (laI (laO la)) m K ?_
  rw [hE.1, eq_nI (by omega) (by omega)]
  refine ⟨fun q => ?_, fun q => ?_⟩
  · rw [VV_s h (by omega)] at hK
    refine loopD (P := fun w => ∀ (m' : Mem) (u6 u7 : Value), (∀ q, q ≠ 263 → q ≠ 264 → q ≠ 265 → m'.1 q = m.1 q) → FDa X a (m'.1 265) → Gw G (d + 4) mX0_waysBehind 16 [.ref (ga G 266), .int (nI e), .int (nI k), .int (laI (laO la)), .int (nI (sm (fun w => herB a w e && sen X a true la w k) (fun w => VV X a true (e + lenW a w) w (k + 1)) w)), .int (nI w), u6, u7] [] m' (Qi K)) (tn (a 1)) ?_ ?_ m uu uu (fun _ _ _ _ => rfl) hd
    · intro w hw hP m' u6 u7 f1 d1
      have hs := sm_le (fun w => herB a w e && sen X a true la w k) (fun w => VV X a true (e + lenW a w) w (k + 1)) w
      have r1 : RC m'.1 0 a := r.fr (fun c h1 h2 _ _ => f1 c (by omega) (by omega) (by omega))
      have e4 : m'.1 2 4 = nI (tn (a 1)) := r1.nw.trans h.nwE
      obtain ⟨l1, l2, l3⟩ := h.lenW hw
      have e7 : m'.1 7 w = nI (lenW a w) := (show m'.1 7 w = _ from r1.len w hw).trans l1
      have hf := fit_bit (v := w) (hL.1 e (by omega)) hw h10
      have ss := sm_s (fun w => herB a w e && sen X a true la w k) (fun w => VV X a true (e + lenW a w) w (k + 1)) w
      have skip : VV X a true (e + lenW a w) w (k + 1) = 0 → sm (fun w => herB a w e && sen X a true la w k) (fun w => VV X a true (e + lenW a w) w (k + 1)) (w + 1) = sm (fun w => herB a w e && sen X a true la w k) (fun w => VV X a true (e + lenW a w) w (k + 1)) w := by
        intro z
        rw [ss, z]
        split <;> omega
      refine vX0_waysBehind_16 G d (nI e) (nI k) (laI (laO la)) _ (nI w) u6 u7 m' K ?_
      rw [e4, tn_nI (by omega), tn_nI (by omega), e7, nI_add, f1 268 (by omega) (by omega) (by omega), hf]
      refine ⟨fun q => ?_, fun _ => ⟨in_nI (by omega) (by omega), ?_⟩⟩
      · rw [le_nI (by omega) (by omega)] at q
        omega
      rintro _ rfl
      refine ⟨in_nI (by omega) (by omega), fun hb => ?_, fun hb => ?_⟩
      · have hle := herB_le hb
        rw [tn_nI (by omega), cell_nI, tn_nI (by omega), f1 270 (by omega) (by omega) (by omega), f1 271 (by omega) (by omega) (by omega), hL.2.1 _ hle]
        have v0 := VV_le X a false h _ 0 0 hle
        have v1 := VV_le X a true h _ w (k + 1) hle
        refine ⟨in_nI (by omega) (by omega), fun z => ?_, fun z => ⟨in_nI (by omega) (by omega), ?_⟩⟩
        · rintro _ rfl
          have z := (le_nI (b := 0) (by omega) (by omega)).mp z
          rw [nI_1, ← skip (VV_zero h true (hN a - (e + lenW a w)) _ _ _ 0 0 (by omega) (by omega))]
          exact hP m' _ _ f1 d1
        · have z : ¬ nI (VV X a false (e + lenW a w) 0 0) ≤ nI 0 := z
          rw [le_nI (by omega) (by omega)] at z
          rw [hS w hw hb (by omega)]
          rintro _ rfl
          refine ⟨fun y => ?_, fun y => ?_⟩
          · rintro _ rfl
            have y := (le_nI (b := 0) (by omega) (by omega)).mp y
            rw [nI_1, ← skip (by omega)]
            exact hP m' _ _ f1 d1
          · refine kC_may G d w k (laO la) m' a _ X r1 h hw ?_ hT (fun q h1 h2 => by rw [f1 q (by omega) (by omega) (by omega)]; exact hX q h1 h2) d1 (fun m2 f2 d2 => ?_)
            · rcases hla with ⟨z1, z2⟩ | ⟨z1, z2⟩
              · exact Or.inl ⟨by unfold laO; rw [if_pos z1], z2⟩
              · exact Or.inr ⟨la, by unfold laO; rw [if_neg (by omega)], z1, z2, by omega⟩
            · have f3 : ∀ q, q ≠ 263 → q ≠ 264 → q ≠ 265 → m2.1 q = m.1 q := fun q h1 h2 h3 => (f2 q h1 h2 h3).trans (f1 q h1 h2 h3)
              rw [← sen_may]
              cases hse : sen X a true la w k
              · refine ⟨fun _ => ?_, fun x => absurd rfl x⟩
                rintro _ rfl
                have := hP m2 (.int (nI (e + lenW a w))) (.int (nI (VV X a true (e + lenW a w) w (k + 1)))) f3 d2
                rw [ss, hse, Bool.and_false, if_neg (by simp)] at this
                rw [nI_1]
                exact this
              · refine ⟨fun x => absurd x (by decide), fun _ => ?_⟩
                rw [imin_L hs v1]
                rintro _ rfl _ rfl
                have := hP m2 (.int (nI (e + lenW a w))) (.int (nI (VV X a true (e + lenW a w) w (k + 1)))) f3 d2
                rw [ss, hse, hb, Bool.and_true, if_pos rfl] at this
                rw [nI_1]
                exact this
      · rintro _ rfl
        have := hP m' (.int (nI (e + lenW a w))) uu f1 d1
        rw [ss, if_neg (fun z => hb (by rw [Bool.and_eq_true] at z; exact z.1))] at this
        rw [nI_1]
        exact this
    · intro m' u6 u7 f1 d1
      have r1 : RC m'.1 0 a := r.fr (fun c h1 h2 _ _ => f1 c (by omega) (by omega) (by omega))
      have e4 : m'.1 2 4 = nI (tn (a 1)) := r1.nw.trans h.nwE
      exact vX0_waysBehind_16 G d (nI e) (nI k) (laI (laO la)) _ (nI (tn (a 1))) u6 u7 m' K ⟨fun _ => hK m' f1 d1, fun q => absurd (by rw [e4]; exact Int32.le_refl _) q⟩
  · subst q
    have := hK m (fun _ _ _ _ => rfl) hd
    rw [VV_n] at this
    exact this
