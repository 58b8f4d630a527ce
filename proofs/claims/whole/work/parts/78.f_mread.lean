/-! how often it can be read: the model -/
def SenT (X : Nat → Nat → Int32) (m : Mem) (a : Nat → Int32) (se : Bool) (n : Nat) : Prop := (∀ w, w < tn (a 1) → m.1 286 w = b2 (sen X a se 10 w 0)) ∧ ∀ w v p, w < tn (a 1) → v < tn (a 1) → 1 ≤ p → p ≤ n → m.1 285 (250 * w + 25 * v + p) = b2 (sen X a se w v p)
theorem ix285 (w v p : Nat) : ((250 : Int32) * nI w) + (25 * nI v) + nI p = nI (250 * w + 25 * v + p) := by simp only [lit, pk_mul, nI_add]
theorem ix284 (w v p : Nat) : ((275 : Int32) * nI w + 25 * nI v) + nI p = nI (275 * w + 25 * v + p) := by simp only [lit, pk_mul, nI_add]
theorem qX12_laySense (G : GP) (d : Nat) (X : Nat → Nat → Int32) (a0 : Int32) (se : Bool) (hse : se = !decide (a0 = 0)) (n : Nat) (m : Mem) (K : Mem → Prop) (h : WF (m.1 274)) (hn : n ≤ 24) (hT : ∀ t, t < tn (m.1 274 2) → TT X t) (hX : m.1 276 = X 276) (hK : ∀ m' : Mem, SenT X m' (m.1 274) se n → (∀ q, q ≠ 280 → q ≠ 282 → q ≠ 285 → q ≠ 286 → m'.1 q = m.1 q) → K m') : Evv G (d + 5) mX12_laySense [.ref (ga G 273), .int a0, .int (nI n)] m K := by
  have h10 := h.nw10
  have nb : ∀ b : Bool, vp_nar .boolean (b2 b) = b2 b := fun b => by cases b <;> decide
  generalize hA : m.1 274 = a at *
  refine vX12_laySense G d a0 (nI n) m K ?_
  refine loopD (P := fun w => ∀ (m' : Mem) (u4 u5 : Value), (∀ x, x < w → m'.1 286 x = b2 (sen X a se 10 x 0)) → (∀ x v p, x < w → v < tn (a 1) → 1 ≤ p → p ≤ n → m'.1 285 (250 * x + 25 * v + p) = b2 (sen X a se x v p)) → (∀ q, q ≠ 280 → q ≠ 282 → q ≠ 285 → q ≠ 286 → m'.1 q = m.1 q) → Gw G (d + 5) mX12_laySense 2 [.ref (ga G 273), .int a0, .int (nI n), .int (nI w), u4, u5] [] m' (Qv K)) (tn (a 1)) ?_ ?_ m uu uu (fun x hx => by omega) (fun x v p hx => by omega) (fun _ _ _ _ _ => rfl)
  · intro w hw hP m' u4 u5 g1 g2 g3
    have e4 : m'.1 274 = a := (g3 274 (by omega) (by omega) (by omega) (by omega)).trans hA
    -- the loop over the next word
    have nxt : ∀ (m2 : Mem) (u5 : Value), (∀ x, x < w + 1 → m2.1 286 x = b2 (sen X a se 10 x 0)) → (∀ x v p, x < w → v < tn (a 1) → 1 ≤ p → p ≤ n → m2.1 285 (250 * x + 25 * v + p) = b2 (sen X a se x v p)) → (∀ q, q ≠ 280 → q ≠ 282 → q ≠ 285 → q ≠ 286 → m2.1 q = m.1 q) → Gw G (d + 5) mX12_laySense 38 [.ref (ga G 273), .int a0, .int (nI n), .int (nI w), .int 0, u5] [] m2 (Qv K) := by
      intro m2 u5 c1 c2 c3
      refine loopD (P := fun v => ∀ (m3 : Mem) (u5 : Value), (∀ x, x < w + 1 → m3.1 286 x = b2 (sen X a se 10 x 0)) → (∀ x y p, x < w → y < tn (a 1) → 1 ≤ p → p ≤ n → m3.1 285 (250 * x + 25 * y + p) = b2 (sen X a se x y p)) → (∀ y p, y < v → 1 ≤ p → p ≤ n → m3.1 285 (250 * w + 25 * y + p) = b2 (sen X a se w y p)) → (∀ q, q ≠ 280 → q ≠ 282 → q ≠ 285 → q ≠ 286 → m3.1 q = m.1 q) → Gw G (d + 5) mX12_laySense 38 [.ref (ga G 273), .int a0, .int (nI n), .int (nI w), .int (nI v), u5] [] m3 (Qv K)) (tn (a 1)) ?_ ?_ m2 u5 c1 c2 (fun y p hy => by omega) c3
      · intro v hv hQ m3 u5 k1 k2 k3 k4
        have e5 : m3.1 274 = a := (k4 274 (by omega) (by omega) (by omega) (by omega)).trans hA
        refine vX12_laySense_38 G d a0 (nI n) (nI w) (nI v) u5 m3 K ?_
        rw [e5, h.nwE, le_nI (by omega) (by omega)]
        refine ⟨fun q => by omega, fun _ => ?_⟩
        have key : ∀ N p, p + N = n + 1 → 1 ≤ p → ∀ m4 : Mem, (∀ x, x < w + 1 → m4.1 286 x = b2 (sen X a se 10 x 0)) → (∀ x y p, x < w → y < tn (a 1) → 1 ≤ p → p ≤ n → m4.1 285 (250 * x + 25 * y + p) = b2 (sen X a se x y p)) → (∀ y p, y < v → 1 ≤ p → p ≤ n → m4.1 285 (250 * w + 25 * y + p) = b2 (sen X a se w y p)) → (∀ j, 1 ≤ j → j < p → m4.1 285 (250 * w + 25 * v + j) = b2 (sen X a se w v j)) → (∀ q, q ≠ 280 → q ≠ 282 → q ≠ 285 → q ≠ 286 → m4.1 q = m.1 q) → Gw G (d + 5) mX12_laySense 52 [.ref (ga G 273), .int a0, .int (nI n), .int (nI w), .int (nI v), .int (nI p)] [] m4 (Qv K) := by
          intro N
          induction N with
          | zero =>
            intro p hp _ m4 j1 j2 j3 j4 j5
            refine vX12_laySense_52 G d a0 (nI n) (nI w) (nI v) (nI p) m4 K ⟨fun _ => ?_, fun q => absurd ((lt_nI (by omega) (by omega)).mpr (by omega)) q⟩
            rintro _ rfl
            rw [nI_1]
            refine hQ m4 _ j1 j2 (fun y p' hy h1 h2 => ?_) j5
            by_cases z : y = v
            · rw [z]; exact j4 p' h1 (by omega)
            · exact j3 y p' (by omega) h1 h2
          | succ N ih =>
            intro p hp hp1 m4 j1 j2 j3 j4 j5
            have e6 : m4.1 274 = a := (j5 274 (by omega) (by omega) (by omega) (by omega)).trans hA
            have fin : ∀ (m5 : Mem) (b : Bool), b = sen X a se w v p → (∀ q, q ≠ 280 → q ≠ 282 → m5.1 q = m4.1 q) → ∀ m6 : Mem, m6 = wI m5 285 (250 * w + 25 * v + p) (vp_nar .boolean (b2 b)) → ∀ x : Int32, x = nI p + 1 → Gw G (d + 5) mX12_laySense 52 [.ref (ga G 273), .int a0, .int (nI n), .int (nI w), .int (nI v), .int x] [] m6 (Qv K) := by
              rintro m5 b hb f5 _ rfl _ rfl
              rw [nI_1, nb, hb]
              refine ih (p + 1) (by omega) (by omega) _ (fun x hx => ?_) (fun x y p' hx hy h1 h2 => ?_) (fun y p' hy h1 h2 => ?_) (fun j h1 h2 => ?_) (fun q h1 h2 h3 h4 => ?_)
              · rw [wI_n _ _ _ (by omega), f5 286 (by omega) (by omega)]; exact j1 x hx
              · rw [wI_s, upd_n _ _ (by omega), f5 285 (by omega) (by omega)]; exact j2 x y p' hx hy h1 h2
              · rw [wI_s, upd_n _ _ (by omega), f5 285 (by omega) (by omega)]; exact j3 y p' hy h1 h2
              · rw [wI_s]
                by_cases z : j = p
                · rw [z, upd_s]
                · rw [upd_n _ _ (by omega), f5 285 (by omega) (by omega)]; exact j4 j h1 (by omega)
              · rw [wI_n _ _ _ h3, f5 q h1 h2, j5 q h1 h2 h3 h4]
            refine vX12_laySense_52 G d a0 (nI n) (nI w) (nI v) (nI p) m4 K ?_
            rw [lt_nI (by omega) (by omega), ix285, tn_nI (by omega)]
            refine ⟨fun q => by omega, fun _ => ⟨fun q => ⟨in_nI (by omega) (by omega), ?_⟩, fun q => ?_⟩⟩
            · have hs : se = false := by rw [hse, decide_eq_true q]; rfl
              exact fin m4 true (by rw [hs]; rfl) (fun _ _ _ => rfl)
            · have hs : se = true := by rw [hse, decide_eq_false q]; rfl
              have hsen : sen X a se w v p = fol X a w v p := by rw [hs]; unfold sen; rw [if_neg (by omega)]; rfl
              have e7 : Evi G (d + 4) mX12_isFollowing [.ref (ga G 273), .int (m4.1 274 3), .int (nI w), .int (nI v), .int (nI p)] m4 (fun r11 m10 => ((r11 = 0) → vp_in (nI (250 * w + 25 * v + p)) 2500 ∧ ∀ m12 : Mem, m12 = wI m10 285 (250 * w + 25 * v + p) (vp_nar .boolean 0) → ∀ x13 : Int32, x13 = nI p + 1 → Gw G (d + 5) mX12_laySense 52 [.ref (ga G 273), .int a0, .int (nI n), .int (nI w), .int (nI v), .int x13] [] m12 (Qv K)) ∧ ((¬ r11 = 0) → vp_in (nI (250 * w + 25 * v + p)) 2500 ∧ ∀ m14 : Mem, m14 = wI m10 285 (250 * w + 25 * v + p) (vp_nar .boolean 1) → ∀ x15 : Int32, x15 = nI p + 1 → Gw G (d + 5) mX12_laySense 52 [.ref (ga G 273), .int a0, .int (nI n), .int (nI w), .int (nI v), .int x15] [] m14 (Qv K))) := by
                refine qX12_fol G d w v p m4 _ X (by rw [e6]; exact h) (by rw [e6]; exact hw) (by rw [e6]; exact hv) (by omega) (by rw [e6]; exact hT) ((j5 276 (by omega) (by omega) (by omega) (by omega)).trans hX) (fun m5 f5 => ?_)
                rw [e6, ← hsen]
                cases z : sen X a se w v p
                · exact ⟨fun _ => ⟨in_nI (by omega) (by omega), fin m5 false z.symm f5⟩, fun y => absurd rfl y⟩
                · exact ⟨fun y => absurd y (by decide), fun _ => ⟨in_nI (by omega) (by omega), fin m5 true z.symm f5⟩⟩
              exact e7
        exact key n 1 (by omega) (by omega) m3 k1 k2 k3 (fun j h1 h2 => by omega) k4
      · intro m3 u5 k1 k2 k3 k4
        have e5 : m3.1 274 = a := (k4 274 (by omega) (by omega) (by omega) (by omega)).trans hA
        refine vX12_laySense_38 G d a0 (nI n) (nI w) (nI (tn (a 1))) u5 m3 K ?_
        rw [e5]
        refine ⟨fun _ => ?_, fun q => absurd (by rw [← h.nwE]; exact Int32.le_refl _) q⟩
        rintro _ rfl
        rw [nI_1]
        refine hP m3 _ _ k1 (fun x v p hx hv h1 h2 => ?_) k4
        by_cases z : x = w
        · rw [z]; exact k3 v p hv h1 h2
        · exact k2 x v p (by omega) hv h1 h2
    have fin : ∀ (m5 : Mem) (b : Bool), b = sen X a se 10 w 0 → (∀ q, q ≠ 280 → q ≠ 282 → m5.1 q = m'.1 q) → ∀ m6 : Mem, m6 = wI m5 286 w (vp_nar .boolean (b2 b)) → Gw G (d + 5) mX12_laySense 38 [.ref (ga G 273), .int a0, .int (nI n), .int (nI w), .int 0, uu] [] m6 (Qv K) := by
      rintro m5 b hb f5 _ rfl
      rw [nb, hb]
      refine nxt _ uu (fun x hx => ?_) (fun x v p hx hv h1 h2 => ?_) (fun q h1 h2 h3 h4 => ?_)
      · rw [wI_s]
        by_cases z : x = w
        · rw [z, upd_s]
        · rw [upd_n _ _ z, f5 286 (by omega) (by omega)]; exact g1 x (by omega)
      · rw [wI_n _ _ _ (by omega), f5 285 (by omega) (by omega)]; exact g2 x v p hx hv h1 h2
      · rw [wI_n _ _ _ h4, f5 q h1 h2, g3 q h1 h2 h3 h4]
    refine vX12_laySense_2 G d a0 (nI n) (nI w) u4 u5 m' K ?_
    rw [e4, h.nwE, le_nI (by omega) (by omega), tn_nI (by omega)]
    refine ⟨fun q => by omega, fun _ => ⟨fun q => ⟨in_nI (by omega) (by omega), ?_⟩, fun q => ?_⟩⟩
    · have hs : se = false := by rw [hse, decide_eq_true q]; rfl
      exact fin m' true (by rw [hs]; rfl) (fun _ _ _ => rfl)
    · have hs : se = true := by rw [hse, decide_eq_false q]; rfl
      have hsen : sen X a se 10 w 0 = bgn X a w := by rw [hs]; unfold sen; rw [if_pos rfl]; rfl
      refine qX12_bgn G d w m' _ X (by rw [e4]; exact h) (by rw [e4]; exact hw) (by rw [e4]; exact hT) ((g3 276 (by omega) (by omega) (by omega) (by omega)).trans hX) (fun m5 f5 => ?_)
      rw [e4, ← hsen]
      cases z : sen X a se 10 w 0
      · exact ⟨fun _ => ⟨in_nI (by omega) (by omega), fin m5 false z.symm f5⟩, fun y => absurd rfl y⟩
      · exact ⟨fun y => absurd y (by decide), fun _ => ⟨in_nI (by omega) (by omega), fin m5 true z.symm f5⟩⟩
  · intro m' u4 u5 g1 g2 g3
    have e4 : m'.1 274 = a := (g3 274 (by omega) (by omega) (by omega) (by omega)).trans hA
    refine vX12_laySense_2 G d a0 (nI n) (nI (tn (a 1))) u4 u5 m' K ?_
    rw [e4]
    exact ⟨fun _ => hK m' ⟨g1, g2⟩ g3, fun q => absurd (by rw [← h.nwE]; exact Int32.le_refl _) q⟩
theorem qX12_here (G : GP) (d : Nat) (w fr : Nat) (m : Mem) (K : Int32 → Mem → Prop) (h : WF (m.1 274)) (hH : ∀ k, k < hN (m.1 274) → m.1 283 k = hR (m.1 274) k) (hw : w < tn (m.1 274 1)) (hf : fr ≤ 24) (hK : K (b2 (herB (m.1 274) w fr)) m) : Evi G (d + 2) mX12_isHere [.ref (ga G 273), .int (nI w), .int (nI fr), .int (nI (hN (m.1 274)))] m K := by
  have h10 := h.nw10
  have hn := hN_le h
  obtain ⟨l1, l2, l3⟩ := h.lenW hw
  have ix : (34 : Int32) + 9 * nI w + 2 = nI (36 + 9 * w) := by
    simp only [lit, pk_mul, nI_add]
    exact congrArg nI (by omega)
  have iy : ∀ k : Nat, (34 : Int32) + 9 * nI w + (3 + nI k) = nI (37 + 9 * w + k) := fun k => by
    simp only [lit, pk_mul, nI_add]
    exact congrArg nI (by omega)
  refine vX12_isHere G d (nI w) (nI fr) (nI (hN (m.1 274))) m K ?_
  rw [ix, tn_nI (by omega), l1, nI_add, le_nI (by omega) (by omega)]
  refine ⟨in_nI (by omega) (by omega), fun q => ?_, fun q => ?_⟩
  · have e : herB (m.1 274) w fr = hrB (m.1 274) w fr (lenW (m.1 274) w) := by unfold herB; rw [decide_eq_true q, Bool.true_and]
    rw [e] at hK
    refine loopD (P := fun i => ∀ u : Value, hrB (m.1 274) w fr i = true → Gw G (d + 2) mX12_isHere 17 [.ref (ga G 273), .int (nI w), .int (nI fr), u, .int (nI i)] [] m (Qi K)) (lenW (m.1 274) w) ?_ ?_ _ rfl
    · intro i hi hP u hb
      refine vX12_isHere_17 G d (nI w) (nI fr) u (nI i) m K ?_
      rw [ix, iy, tn_nI (by omega), l1, nI_add, tn_nI (by omega), tn_nI (by omega), hH (fr + i) (by omega), le_nI (by omega) (by omega)]
      refine ⟨in_nI (by omega) (by omega), fun q2 => by omega, fun _ => ⟨in_nI (by omega) (by omega), in_nI (by omega) (by omega), fun q2 => ?_, fun q2 => ?_⟩⟩
      · rintro _ rfl
        rw [nI_1]
        exact hP _ (hrB_go hb q2)
      · rw [hrB_stop hi q2] at hK
        exact hK
    · intro u hb
      rw [hb] at hK
      refine vX12_isHere_17 G d (nI w) (nI fr) u _ m K ?_
      rw [ix, tn_nI (by omega), l1]
      exact ⟨in_nI (by omega) (by omega), fun _ => hK, fun q2 => absurd (Int32.le_refl _) q2⟩
  · have e : herB (m.1 274) w fr = false := by unfold herB; rw [decide_eq_false q, Bool.false_and]
    rw [e] at hK
    exact hK
theorem qX12_sense (G : GP) (d : Nat) (X : Nat → Nat → Int32) (se : Bool) (la w p n : Nat) (m : Mem) (a : Nat → Int32) (K : Int32 → Mem → Prop) (h : WF a) (hS : SenT X m a se n) (hn : n ≤ 24) (hw : w < tn (a 1)) (hla : (la = 10 ∧ p = 0) ∨ (la < tn (a 1) ∧ 1 ≤ p ∧ p ≤ n)) (hK : K (b2 (sen X a se la w p)) m) : Evi G d mX12_isSense [.ref (ga G 273), .int (nI la), .int (nI w), .int (nI p)] m K := by
  have h10 := h.nw10
  have b01 : ∀ b : Bool, b2 b = 0 ∨ b2 b = 1 := fun b => by cases b; exact Or.inl rfl; exact Or.inr rfl
  refine vX12_isSense G d (nI la) (nI w) (nI p) m K ?_
  rcases hla with ⟨rfl, rfl⟩ | ⟨l1, l2, l3⟩
  · refine ⟨fun q => absurd rfl q, fun _ => ⟨in_nI (by omega) (by omega), ?_⟩⟩
    rw [tn_nI (by omega), hS.1 w hw]
    exact ⟨b01 _, hK⟩
  · refine ⟨fun _ => ?_, fun q => ?_⟩
    · rw [ix285, tn_nI (by omega), hS.2 la w p l1 hw l2 l3]
      exact ⟨in_nI (by omega) (by omega), b01 _, hK⟩
    · exfalso
      have q := (eq_nI (b := 10) (by omega) (by omega)).mp q
      omega
/-- the place in the model's table -/
def wA4 (fr la p : Nat) : Nat := 275 * fr + 25 * la + p
theorem qX12_from (G : GP) (d : Nat) (X : Nat → Nat → Int32) (se : Bool) (fr la p : Nat) (m : Mem) (K : Int32 → Mem → Prop) (h : WF (m.1 274)) (hH : ∀ k, k < hN (m.1 274) → m.1 283 k = hR (m.1 274) k) (hS : SenT X m (m.1 274) se (hN (m.1 274))) (hf : fr ≤ hN (m.1 274)) (hp : p ≤ fr) (hla : (la = 10 ∧ p = 0) ∨ (la < tn (m.1 274 1) ∧ 1 ≤ p))
    (hV : ∀ w, w < tn (m.1 274 1) → herB (m.1 274) w fr = true → m.1 284 (wA4 (fr + lenW (m.1 274) w) w (p + 1)) = nI (VV X (m.1 274) se (fr + lenW (m.1 274) w) w (p + 1))) (hK : K (nI (VV X (m.1 274) se fr la p)) m) : Evi G (d + 3) mX12_waysFrom [.ref (ga G 273), .int (nI fr), .int (nI la), .int (nI p), .int (nI (hN (m.1 274)))] m K := by
  have h10 := h.nw10
  have hn := hN_le h
  refine vX12_waysFrom G d (nI fr) (nI la) (nI p) (nI (hN (m.1 274))) m K ?_
  rw [eq_nI (by omega) (by omega)]
  refine ⟨fun q => ?_, fun q => ?_⟩
  · rw [VV_s h (by omega)] at hK
    refine loopD (P := fun w => Gw G (d + 3) mX12_waysFrom 14 [.ref (ga G 273), .int (nI fr), .int (nI la), .int (nI p), .int (nI (hN (m.1 274))), .int (nI (sm (fun w => herB (m.1 274) w fr && sen X (m.1 274) se la w p) (fun w => VV X (m.1 274) se (fr + lenW (m.1 274) w) w (p + 1)) w)), .int (nI w)] [] m (Qi K)) (tn (m.1 274 1)) ?_ ?_
    · intro w hw hP
      obtain ⟨l1, l2, l3⟩ := h.lenW hw
      have hs := sm_le (fun w => herB (m.1 274) w fr && sen X (m.1 274) se la w p) (fun w => VV X (m.1 274) se (fr + lenW (m.1 274) w) w (p + 1)) w
      rw [sm_s] at hP
      have ix : (34 : Int32) + 9 * nI w + 2 = nI (36 + 9 * w) := by
        simp only [lit, pk_mul, nI_add]
        exact congrArg nI (by omega)
      refine vX12_waysFrom_14 G d (nI fr) (nI la) (nI p) (nI (hN (m.1 274))) _ (nI w) m K ⟨fun z => ?_, fun _ => ?_⟩
      · exfalso
        rw [h.nwE, le_nI (by omega) (by omega)] at z
        omega
      · refine qX12_here G d w fr m _ h hH hw (by omega) ?_
        cases hb : herB (m.1 274) w fr
        · refine ⟨fun _ => ?_, fun z => absurd rfl z⟩
          rintro _ rfl
          rw [hb, Bool.false_and, if_neg (by simp)] at hP
          rw [nI_1]
          exact hP
        · refine ⟨fun z => absurd z (by decide), fun _ => ?_⟩
          have hle := herB_le hb
          refine qX12_sense G (d + 2) X se la w p (hN (m.1 274)) m (m.1 274) _ h hS hn hw (by omega) ?_
          cases hc : sen X (m.1 274) se la w p
          · refine ⟨fun z => absurd rfl z, fun _ => ?_⟩
            rintro _ rfl
            rw [hc, Bool.and_false, if_neg (by simp)] at hP
            rw [nI_1]
            exact hP
          · refine ⟨fun _ => ?_, fun z => absurd z (by decide)⟩
            rw [hb, hc, Bool.and_true, if_pos rfl] at hP
            rw [ix, tn_nI (n := 36 + 9 * w) (by omega), l1, nI_add, nI_1, ix284, tn_nI (by omega)]
            refine ⟨in_nI (by omega) (by omega), in_nI (by omega) (by omega), ?_⟩
            have hv := VV_le X (m.1 274) se h (fr + lenW (m.1 274) w) w (p + 1) hle
            have e5 : m.1 284 (275 * (fr + lenW (m.1 274) w) + 25 * w + (p + 1)) = nI (VV X (m.1 274) se (fr + lenW (m.1 274) w) w (p + 1)) := hV w hw hb
            rw [e5, nI_add]
            rintro _ rfl
            rw [show (1000000 : Int32) = nI 1000000 from rfl, le_nI (by omega) (by omega)]
            refine ⟨fun z => ?_, fun z => ?_⟩
            · rintro _ rfl
              rw [Nat.min_eq_right z] at hP
              rw [nI_1]
              exact hP
            · rintro _ rfl
              rw [Nat.min_eq_left (by omega)] at hP
              rw [nI_1]
              exact hP
    · exact vX12_waysFrom_14 G d (nI fr) (nI la) (nI p) (nI (hN (m.1 274))) _ (nI (tn (m.1 274 1))) m K ⟨fun _ => hK, fun z => absurd (by rw [← h.nwE]; exact Int32.le_refl _) z⟩
  · rw [q, VV_n] at hK
    exact hK
