/-! READINGS -/
def sm (c : Nat → Bool) (t : Nat → Nat) (n : Nat) : Nat := fold (fun w s => if c w then min 1000000 (s + t w) else s) 0 n 0
theorem sm_s (c : Nat → Bool) (t : Nat → Nat) (n : Nat) : sm c t (n + 1) = if c n then min 1000000 (sm c t n + t n) else sm c t n := by
  unfold sm
  rw [fold_app, Nat.zero_add]
theorem sm_le (c : Nat → Bool) (t : Nat → Nat) : ∀ n, sm c t n ≤ 1000000
  | 0 => by unfold sm fold; omega
  | n + 1 => by
    have := sm_le c t n
    rw [sm_s]
    split <;> omega
theorem sm_congr {c c' : Nat → Bool} {t t' : Nat → Nat} : ∀ n, (∀ w, w < n → c w = c' w ∧ (c w = true → t w = t' w)) → sm c t n = sm c' t' n
  | 0, _ => rfl
  | n + 1, h => by
    rw [sm_s, sm_s, sm_congr n (fun w hw => h w (by omega)), ← (h n (by omega)).1]
    split
    · rename_i q
      rw [(h n (by omega)).2 q]
    · rfl
theorem sm_skip {c c' : Nat → Bool} {t : Nat → Nat} : ∀ n, (∀ w, w < n → (c' w = true → c w = true) ∧ (c w = true → c' w = false → t w = 0)) → sm c t n = sm c' t n
  | 0, _ => rfl
  | n + 1, h => by
    have h1 := sm_le c' t n
    rw [sm_s, sm_s, sm_skip n (fun w hw => h w (by omega))]
    obtain ⟨h2, h3⟩ := h n (by omega)
    cases e : c n
    · cases e' : c' n
      · rfl
      · rw [h2 e'] at e; cases e
    · cases e' : c' n
      · rw [h3 e e', if_pos rfl, if_neg (by simp)]; omega
      · rfl
theorem sm_0 {c : Nat → Bool} {t : Nat → Nat} : ∀ n, sm c t n = 0 ↔ ∀ w, w < n → c w = true → t w = 0
  | 0 => by
    unfold sm fold
    exact ⟨fun _ w hw => by omega, fun _ => rfl⟩
  | n + 1 => by
    have ih := sm_0 (c := c) (t := t) n
    rw [sm_s]
    constructor
    · intro h w hw hc
      cases e : c n
      · rw [e, if_neg (by simp)] at h
        by_cases z : w = n
        · rw [z, e] at hc; cases hc
        · exact ih.mp h w (by omega) hc
      · rw [e, if_pos rfl] at h
        by_cases z : w = n
        · rw [z]; omega
        · exact ih.mp (by omega) w (by omega) hc
    · intro h
      have h0 := ih.mpr (fun w hw hc => h w (by omega) hc)
      split
      · rename_i q
        rw [h0, h n (by omega) q]; omega
      · exact h0
/-- a word stands there in what was heard -/
def hrB (a : Nat → Int32) (w fr : Nat) : Nat → Bool
  | 0 => true
  | k + 1 => hrB a w fr k && decide (hR a (fr + k) = a (37 + 9 * w + k))
def herB (a : Nat → Int32) (w fr : Nat) : Bool := decide (fr + lenW a w ≤ hN a) && hrB a w fr (lenW a w)
theorem hrB_f {a : Nat → Int32} {w fr : Nat} : ∀ {j i : Nat}, hrB a w fr i = false → hrB a w fr (i + j) = false
  | 0, _, h => h
  | j + 1, i, h => by
    show (hrB a w fr (i + j) && _) = false
    rw [hrB_f (j := j) h]
    rfl
theorem hrB_stop {a : Nat → Int32} {w fr i n : Nat} (hi : i < n) (h : ¬ hR a (fr + i) = a (37 + 9 * w + i)) : hrB a w fr n = false := by
  obtain ⟨j, rfl⟩ : ∃ j, n = (i + 1) + j := ⟨n - (i + 1), by omega⟩
  refine hrB_f ?_
  show (hrB a w fr i && decide _) = false
  rw [decide_eq_false h, Bool.and_false]
theorem hrB_go {a : Nat → Int32} {w fr i : Nat} (h : hrB a w fr i = true) (e : hR a (fr + i) = a (37 + 9 * w + i)) : hrB a w fr (i + 1) = true := by
  show (hrB a w fr i && decide _) = true
  rw [decide_eq_true e, h]
  rfl
theorem herB_le {a : Nat → Int32} {w fr : Nat} (h : herB a w fr = true) : fr + lenW a w ≤ hN a := by
  unfold herB at h
  rw [Bool.and_eq_true] at h
  exact of_decide_eq_true h.1
noncomputable def sen (X : Nat → Nat → Int32) (a : Nat → Int32) (se : Bool) (la w p : Nat) : Bool := !se || (if la = 10 then bgn X a w else fol X a la w p)
noncomputable def wy (X : Nat → Nat → Int32) (a : Nat → Int32) (se : Bool) : Nat → Nat → Nat → Nat → Nat
  | 0, _, _, _ => 1
  | f + 1, fr, la, p => if fr = hN a then 1 else sm (fun w => herB a w fr && sen X a se la w p) (fun w => wy X a se f (fr + lenW a w) w (p + 1)) (tn (a 1))
noncomputable def VV (X : Nat → Nat → Int32) (a : Nat → Int32) (se : Bool) (fr la p : Nat) : Nat := wy X a se (hN a + 1 - fr) fr la p
theorem wy_fuel {X : Nat → Nat → Int32} {a : Nat → Int32} {se : Bool} (h : WF a) : ∀ (f f' fr la p : Nat), fr ≤ hN a → hN a < fr + f → hN a < fr + f' → wy X a se f fr la p = wy X a se f' fr la p
  | 0, _, fr, _, _, h1, h2, _ => by omega
  | f + 1, 0, fr, _, _, h1, _, h3 => by omega
  | f + 1, f' + 1, fr, la, p, h1, h2, h3 => by
    unfold wy
    by_cases e : fr = hN a
    · rw [if_pos e, if_pos e]
    · rw [if_neg e, if_neg e]
      refine sm_congr _ (fun w hw => ⟨rfl, fun hc => ?_⟩)
      rw [Bool.and_eq_true] at hc
      have h4 := herB_le hc.1
      have h5 := (h.lenW hw).2.1
      exact wy_fuel h f f' _ _ _ h4 (by omega) (by omega)
theorem VV_n (X : Nat → Nat → Int32) (a : Nat → Int32) (se : Bool) (la p : Nat) : VV X a se (hN a) la p = 1 := by
  unfold VV
  rw [show hN a + 1 - hN a = 0 + 1 by omega]
  unfold wy
  rw [if_pos rfl]
theorem VV_s {X : Nat → Nat → Int32} {a : Nat → Int32} {se : Bool} (h : WF a) {fr la p : Nat} (hf : fr < hN a) : VV X a se fr la p = sm (fun w => herB a w fr && sen X a se la w p) (fun w => VV X a se (fr + lenW a w) w (p + 1)) (tn (a 1)) := by
  have e : VV X a se fr la p = wy X a se (hN a - fr + 1) fr la p := by unfold VV; rw [show hN a + 1 - fr = hN a - fr + 1 by omega]
  rw [e]
  unfold wy
  rw [if_neg (by omega)]
  refine sm_congr _ (fun w hw => ⟨rfl, fun hc => ?_⟩)
  rw [Bool.and_eq_true] at hc
  have h4 := herB_le hc.1
  have h5 := (h.lenW hw).2.1
  exact wy_fuel h _ _ _ _ _ h4 (by omega) (by omega)
theorem VV_le (X : Nat → Nat → Int32) (a : Nat → Int32) (se : Bool) (h : WF a) (fr la p : Nat) (hf : fr ≤ hN a) : VV X a se fr la p ≤ 1000000 := by
  by_cases e : fr = hN a
  · rw [e, VV_n]; omega
  · rw [VV_s h (by omega)]; exact sm_le _ _ _
/-- sense aside, what was ahead doesn't matter -/
theorem VV_any {X : Nat → Nat → Int32} {a : Nat → Int32} {s : Nat → Nat → Nat → Bool} (h : WF a) (se : Bool) (hs : ∀ la w p, sen X a se la w p = true) : ∀ (k fr la la' p p' : Nat), fr + k = hN a → VV X a se fr la p = VV X a false fr la' p' := by
  intro k
  induction k using Nat.strongRecOn with
  | _ k ih =>
    intro fr la la' p p' hk
    by_cases e : fr = hN a
    · rw [e, VV_n, VV_n]
    · rw [VV_s h (by omega), VV_s h (by omega)]
      refine sm_congr _ (fun w hw => ⟨?_, fun hc => ?_⟩)
      · rw [hs]; rfl
      · rw [Bool.and_eq_true] at hc
        have h4 := herB_le hc.1
        have h5 := (h.lenW hw).2.1
        exact ih (hN a - (fr + lenW a w)) (by omega) _ _ _ _ _ (by omega)
theorem VV_zero {X : Nat → Nat → Int32} {a : Nat → Int32} (h : WF a) (se : Bool) : ∀ (k fr la p la' p' : Nat), fr + k = hN a → VV X a false fr la' p' = 0 → VV X a se fr la p = 0 := by
  intro k
  induction k using Nat.strongRecOn with
  | _ k ih =>
    intro fr la p la' p' hk h0
    by_cases e : fr = hN a
    · rw [e, VV_n] at h0; omega
    · rw [VV_s h (by omega), sm_0] at h0 ⊢
      intro w hw hc
      rw [Bool.and_eq_true] at hc
      have h4 := herB_le hc.1
      have h5 := (h.lenW hw).2.1
      refine ih (hN a - (fr + lenW a w)) (by omega) _ _ _ _ _ (by omega) (h0 w hw ?_)
      rw [hc.1]
      rfl
/-! the class lays words -/
/-- what was heard lies in the ear -/
def EarH (m : Mem) (a : Nat → Int32) : Prop := m.1 266 2 = nI (hN a) ∧ ∀ k, k < hN a → m.1 267 k = hR a k
theorem kC_stands (G : GP) (d : Nat) (w fr : Nat) (m : Mem) (a : Nat → Int32) (K : Int32 → Mem → Prop) (r : RC m.1 0 a) (h : WF a) (hE : EarH m a) (hw : w < tn (a 1)) (hf : fr ≤ 24) (hK : K (b2 (herB a w fr)) m) : Evi G (d + 2) mX0_stands [.ref (ga G 266), .int (nI w), .int (nI fr)] m K := by
  have h10 := h.nw10
  have hn := hN_le h
  obtain ⟨l1, l2, l3⟩ := h.lenW hw
  have e7 : m.1 7 w = nI (lenW a w) := (show m.1 7 w = _ from r.len w hw).trans l1
  refine vX0_stands G d (nI w) (nI fr) m K ?_
  rw [tn_nI (by omega), e7, hE.1]
  refine ⟨in_nI (by omega) (by omega), ?_⟩
  rintro _ rfl
  rw [nI_add, le_nI (by omega) (by omega)]
  refine ⟨fun q => ?_, fun q => ?_⟩
  · have e : herB a w fr = hrB a w fr (lenW a w) := by unfold herB; rw [decide_eq_true q, Bool.true_and]
    rw [e] at hK
    refine loopD (P := fun i => hrB a w fr i = true → Gw G (d + 2) mX0_stands 28 [.ref (ga G 266), .int (nI w), .int (nI fr), .int (nI (lenW a w)), .int (nI i)] [] m (Qi K)) (lenW a w) ?_ ?_ rfl
    · intro i hi hP hb
      obtain ⟨z1, z2⟩ := strC_is r h hw (k := i) (by omega)
      refine vX0_stands_28 G d (nI w) (nI fr) (nI (lenW a w)) (nI i) m K ?_
      rw [nI_add, tn_nI (by omega), hE.2 (fr + i) (by omega), z2, le_nI (by omega) (by omega)]
      refine ⟨fun q2 => by omega, fun _ => ⟨in_nI (by omega) (by omega), z1, fun q2 => ?_, fun q2 => ?_⟩⟩
      · rintro _ rfl
        rw [nI_1]
        exact hP (hrB_go hb q2)
      · rw [hrB_stop hi q2] at hK
        exact hK
    · intro hb
      rw [hb] at hK
      exact vX0_stands_28 G d (nI w) (nI fr) (nI (lenW a w)) _ m K ⟨fun _ => hK, fun q2 => absurd (Int32.le_refl _) q2⟩
  · have e : herB a w fr = false := by unfold herB; rw [decide_eq_false q, Bool.false_and]
    rw [e] at hK
    exact hK
/-- words laid at a place, below w -/
def FitA (a : Nat → Int32) (g : Nat → Int32) (p w : Nat) : Prop := ∃ F, F < 1024 ∧ g p = nI F ∧ (∀ v, v < w → F.testBit v = herB a v p) ∧ ∀ v, w ≤ v → F.testBit v = false
/-- places that are come to -/
def ReA (g : Nat → Int32) (R : Nat → Nat) : Prop := (∀ p, p ≤ 24 → g p = nI (R p) ∧ R p < 33554432 ∧ ∀ k, (R p).testBit k = true → k ≤ p) ∧ (R 0).testBit 0 = true
def ReC (a : Nat → Int32) (R : Nat → Nat) (p w : Nat) : Prop := ∀ v k, v < w → herB a v p = true → (R p).testBit k = true → (R (p + lenW a v)).testBit (k + 1) = true
theorem fit_bit {a g : Nat → Int32} {p w v : Nat} (h : FitA a g p w) (hv : v < w) (hw : w ≤ 10) : (¬ (g p >>> (nI v &&& 31)) &&& 1 = 0) ↔ herB a v p = true := by
  obtain ⟨F, f1, f2, f3, -⟩ := h
  rw [f2, bit_0 (by omega) (by omega), f3 v hv, Bool.not_eq_false]
theorem or_bits {s v : Nat} (h : s < 1024) (hv : v < 10) : nI s ||| ((1 : Int32) <<< (nI v &&& 31)) = nI (s ||| 1 <<< v) := by
  rw [shl1_nI v (by omega), or_nI]
theorem kC_lay1 (G : GP) (d : Nat) (p : Nat) (m : Mem) (a : Nat → Int32) (K : Mem → Prop) (R : Nat → Nat) (r : RC m.1 0 a) (h : WF a) (hE : EarH m a) (hp : p ≤ hN a) (h8 : m.1 268 p = 0) (hR : ReA (m.1 269) R) (u : Value)
    (hK : ∀ (m' : Mem) (R' : Nat → Nat) (u' : Value), FitA a (m'.1 268) p (tn (a 1)) → (∀ q, q ≠ p → m'.1 268 q = m.1 268 q) → ReA (m'.1 269) R' → (∀ q k, (R q).testBit k = true → (R' q).testBit k = true) → (∀ q, q ≤ p → R' q = R q) → ReC a R' p (tn (a 1)) → (∀ q, q ≠ 268 → q ≠ 269 → m'.1 q = m.1 q) → Gw G (d + 3) mX0_layWords 25 [.ref (ga G 266), .ref (ga G 2), .int (nI (p + 1)), u', uu] [] m' (Qv K)) :
    Gw G (d + 3) mX0_layWords 42 [.ref (ga G 266), .ref (ga G 2), .int (nI p), .int 0, u] [] m (Qv K) := by
  have h10 := h.nw10
  have hn := hN_le h
  refine loopD (P := fun w => ∀ (m' : Mem) (R' : Nat → Nat) (u : Value), FitA a (m'.1 268) p w → (∀ q, q ≠ p → m'.1 268 q = m.1 268 q) → ReA (m'.1 269) R' → (∀ q k, (R q).testBit k = true → (R' q).testBit k = true) → (∀ q, q ≤ p → R' q = R q) → ReC a R' p w → (∀ q, q ≠ 268 → q ≠ 269 → m'.1 q = m.1 q) → Gw G (d + 3) mX0_layWords 42 [.ref (ga G 266), .ref (ga G 2), .int (nI p), .int (nI w), u] [] m' (Qv K)) (tn (a 1)) ?_ ?_ m R u ⟨0, by omega, h8, fun v hv => by omega, fun v _ => Nat.zero_testBit v⟩ (fun _ _ => rfl) hR (fun _ _ z => z) (fun _ _ => rfl) (fun v k hv => by omega) (fun _ _ _ => rfl)
  · intro w hw hP m' R' u c1 c2 c3 c4 c5 c6 c7
    have r1 : RC m'.1 0 a := r.fr (fun c h1 h2 _ _ => c7 c (by omega) (by omega))
    have e4 : m'.1 2 4 = nI (tn (a 1)) := r1.nw.trans h.nwE
    have hE1 : EarH m' a := ⟨by rw [c7 266 (by omega) (by omega)]; exact hE.1, fun k hk => by rw [c7 267 (by omega) (by omega)]; exact hE.2 k hk⟩
    obtain ⟨l1, l2, l3⟩ := h.lenW hw
    obtain ⟨F, f1, f2, f3, f4⟩ := c1
    refine vX0_layWords_42 G d (nI p) (nI w) u m' K ⟨fun q => ?_, fun _ => ?_⟩
    · exfalso
      rw [e4, le_nI (by omega) (by omega)] at q
      omega
    · refine kC_stands G d w p m' a _ r1 h hE1 hw (by omega) ?_
      have bits : ∀ b : Bool, herB a w p = b → ∀ F', F' = (if b then F ||| 1 <<< w else F) → F' < 1024 ∧ (∀ v, v < w + 1 → F'.testBit v = herB a v p) ∧ ∀ v, w + 1 ≤ v → F'.testBit v = false := by
        intro b hb F' hF
        cases b
        · rw [if_neg (by simp)] at hF
          subst hF
          refine ⟨f1, fun v hv => ?_, fun v hv => f4 v (by omega)⟩
          by_cases e : v = w
          · rw [e, hb]; exact f4 w (Nat.le_refl _)
          · exact f3 v (by omega)
        · rw [if_pos rfl] at hF
          subst hF
          refine ⟨or_lt f1 (by omega), fun v hv => ?_, fun v hv => ?_⟩
          · rw [tb_or]
            by_cases e : v = w
            · rw [e, hb]; simp
            · rw [decide_eq_false e, Bool.or_false]; exact f3 v (by omega)
          · rw [tb_or, decide_eq_false (by omega), Bool.or_false]; exact f4 v (by omega)
      cases hb : herB a w p
      · obtain ⟨g1, g2, g3⟩ := bits false hb F rfl
        refine ⟨fun _ => ?_, fun q => absurd rfl q⟩
        rintro _ rfl
        rw [nI_1]
        refine hP m' R' _ ⟨F, g1, f2, g2, g3⟩ c2 c3 c4 c5 (fun v k hv hh => ?_) c7
        by_cases e : v = w
        · rw [e, hb] at hh; cases hh
        · exact c6 v k (by omega) hh
      · obtain ⟨g1, g2, g3⟩ := bits true hb _ rfl
        have hle := herB_le hb
        refine ⟨fun q => absurd q (by decide), fun _ => ?_⟩
        rw [tn_nI (by omega), f2, or_bits f1 (by omega)]
        refine ⟨in_nI (by omega) (by omega), in_nI (by omega) (by omega), ?_⟩
        rintro _ rfl
        have e7 : (wI m' 268 p (nI (F ||| 1 <<< w))).1 7 (nI w).toNatClampNeg = nI (lenW a w) := by
          rw [tn_nI (by omega)]
          exact (show m'.1 7 w = _ from r1.len w hw).trans l1
        rw [e7, nI_add, tn_nI (by omega)]
        obtain ⟨p1, p2, p3⟩ := c3.1 p (by omega)
        obtain ⟨q1, q2, q3⟩ := c3.1 (p + lenW a w) (by omega)
        have e1 : (wI m' 268 p (nI (F ||| 1 <<< w))).1 269 p = nI (R' p) := p1
        have e2 : (wI m' 268 p (nI (F ||| 1 <<< w))).1 269 (p + lenW a w) = nI (R' (p + lenW a w)) := q1
        rw [e1, e2]
        have e3 : nI (R' p) <<< ((1 : Int32) &&& 31) = nI (R' p <<< 1) := shl_nI (v := 1) (by omega) (by omega)
        rw [e3, or_nI]
        refine ⟨in_nI (by omega) (by omega), in_nI (by omega) (by omega), in_nI (by omega) (by omega), in_nI (by omega) (by omega), ?_⟩
        rintro _ rfl _ rfl
        rw [nI_1]
        have hbit : ∀ k, (R' (p + lenW a w) ||| R' p <<< 1).testBit k = ((R' (p + lenW a w)).testBit k || (decide (k ≥ 1) && (R' p).testBit (k - 1))) := fun k => by
          rw [Nat.testBit_or, Nat.testBit_shiftLeft]
        have hsm : R' p < 2 ^ 24 := by
          refine Nat.lt_pow_two_of_testBit _ (fun i hi => ?_)
          cases e : (R' p).testBit i
          · rfl
          · have := p3 i e
            exfalso
            have : p ≤ 23 := by omega
            omega
        refine hP _ (fun q => if q = p + lenW a w then R' (p + lenW a w) ||| R' p <<< 1 else R' q) _ ⟨_, g1, ?_, g2, g3⟩ ?_ ⟨fun q hq => ?_, ?_⟩ ?_ ?_ ?_ ?_
        · rw [wI_n _ _ _ (by omega), wI_s, upd_s]
          rfl
        · intro q hq
          rw [wI_n _ _ _ (by omega), wI_s, upd_n _ _ hq]; exact c2 q hq
        · rw [wI_s, wI_n _ _ _ (by omega)]
          by_cases e : q = p + lenW a w
          · subst e
            rw [upd_s]
            simp only [if_pos]
            refine ⟨True.intro, ?_, fun k hk => ?_⟩
            · refine Nat.or_lt_two_pow (n := 25) q2 ?_
              rw [Nat.shiftLeft_eq]; omega
            · rw [hbit, Bool.or_eq_true] at hk
              rcases hk with hk | hk
              · exact q3 k hk
              · rw [Bool.and_eq_true] at hk
                have := p3 _ hk.2
                omega
          · rw [upd_n _ _ e]
            simp only [if_neg e]
            exact c3.1 q hq
        · simp only [if_neg (show ¬ 0 = p + lenW a w by omega)]
          exact c3.2
        · intro q k hk
          by_cases e : q = p + lenW a w
          · simp only [if_pos e]
            rw [hbit, ← e, c4 q k hk]
            rfl
          · simp only [if_neg e]
            exact c4 q k hk
        · intro q hq
          simp only [if_neg (show ¬ q = p + lenW a w by omega)]
          exact c5 q hq
        · intro v k hv hh hk
          simp only [if_neg (show ¬ p = p + lenW a w by omega)] at hk
          by_cases e : v = w
          · subst e
            simp only [if_pos]
            rw [hbit, Bool.or_eq_true]
            right
            rw [Bool.and_eq_true]
            exact ⟨decide_eq_true (by omega), by rw [Nat.add_sub_cancel]; exact hk⟩
          · have := c6 v k (by omega) hh hk
            by_cases e2 : p + lenW a v = p + lenW a w
            · simp only [if_pos e2]
              rw [hbit, ← e2, this]
              rfl
            · simp only [if_neg e2]
              exact this
        · intro q h1 h2
          rw [wI_n _ _ _ h2, wI_n _ _ _ h1, c7 q h1 h2]
  · intro m' R' u c1 c2 c3 c4 c5 c6 c7
    have r1 : RC m'.1 0 a := r.fr (fun c h1 h2 _ _ => c7 c (by omega) (by omega))
    have e4 : m'.1 2 4 = nI (tn (a 1)) := r1.nw.trans h.nwE
    refine vX0_layWords_42 G d (nI p) (nI (tn (a 1))) u m' K ⟨fun q => ?_, fun q => absurd (by rw [e4]; exact Int32.le_refl _) q⟩
    rintro _ rfl
    rw [nI_1]
    exact hK m' R' _ c1 c2 c3 c4 c5 c6 c7
