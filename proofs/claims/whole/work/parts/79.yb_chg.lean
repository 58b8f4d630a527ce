/-! changes: the model's search; the case -/
def Mc (aj : Nat → List Nat) (δ : Nat → Nat) (r k x : Nat) (v : Int32) : Prop :=
  (δ x ≤ r ∧ v = nI (δ x)) ∨ (r < δ x ∧ (∃ j, j < k ∧ δ j = r ∧ x ∈ aj j) ∧ v = nI (r + 1)) ∨ (r < δ x ∧ ¬ (∃ j, j < k ∧ δ j = r ∧ x ∈ aj j) ∧ v = -1)
theorem Mc.no {aj : Nat → List Nat} {δ : Nat → Nat} {r k x : Nat} {v : Int32} (c : Mc aj δ r k x v) (h : ¬ (δ k = r ∧ x ∈ aj k)) : Mc aj δ r (k + 1) x v := by
  rcases c with c | ⟨c1, ⟨j, j1, j2⟩, c3⟩ | ⟨c1, c2, c3⟩
  · exact Or.inl c
  · exact Or.inr (Or.inl ⟨c1, ⟨j, by omega, j2⟩, c3⟩)
  · refine Or.inr (Or.inr ⟨c1, fun ⟨j, j1, j2⟩ => ?_, c3⟩)
    by_cases e : j = k
    · rw [e] at j2; exact h j2
    · exact c2 ⟨j, by omega, j2⟩
section MChg
variable {n N : Nat} {R P h : Nat → Nat} {nb : Nat → Nat → Nat} {aj : Nat → List Nat} {t : Nat} {δ : Nat → Nat}
theorem Mc.up (D : Dst N t aj δ) {r x : Nat} {v : Int32} (hx : x < N) (c : Mc aj δ r N x v) : Mc aj δ (r + 1) 0 x v := by
  obtain ⟨d0, d1, d2, d3⟩ := D
  rcases c with ⟨c1, c2⟩ | ⟨c1, ⟨j, j1, j2, j3⟩, c3⟩ | ⟨c1, c2, c3⟩
  · exact Or.inl ⟨by omega, c2⟩
  · have h1 := d1 j x j1 hx j3
    exact Or.inl ⟨by omega, by rw [c3]; congr 1; omega⟩
  · refine Or.inr (Or.inr ⟨?_, fun ⟨j, j1, _⟩ => absurd j1 (Nat.not_lt_zero j), c3⟩)
    have h2 : x ≠ t := fun e => by have := (d0 x hx).mpr e; omega
    obtain ⟨j, j1, j2, j3⟩ := d2 x hx h2
    have : δ x ≠ r + 1 := fun e => c2 ⟨j, j1, by omega, j2⟩
    omega
theorem Mc.v1 (D : Dst N t aj δ) (hN : N ≤ 120) {r k x : Nat} {v : Int32} (hx : x < N) (c : Mc aj δ r k x v) (hv : v = -1) : r < δ x ∧ ¬ (∃ j, j < k ∧ δ j = r ∧ x ∈ aj j) := by
  have h3 := D.2.2.2 x hx
  rcases c with ⟨c1, c2⟩ | ⟨c1, c2, c3⟩ | ⟨c1, c2, c3⟩
  · exact absurd (c2.symm.trans hv) (m1_nI (by omega))
  · exact absurd (c3.symm.trans hv) (m1_nI (by omega))
  · exact ⟨c1, c2⟩
theorem Mc.vr (D : Dst N t aj δ) (hN : N ≤ 120) {r k x : Nat} {v : Int32} (hx : x < N) (hr : r < N) (c : Mc aj δ r k x v) : v = nI r ↔ δ x = r := by
  have h3 := D.2.2.2 x hx
  rcases c with ⟨c1, c2⟩ | ⟨c1, c2, c3⟩ | ⟨c1, c2, c3⟩
  · rw [c2, eq_nI (by omega) (by omega)]
  · rw [c3, eq_nI (by omega) (by omega)]; omega
  · rw [c3]
    exact ⟨fun z => absurd z.symm (m1_nI (by omega)), fun z => by omega⟩
/-- the row of the rounds -/
theorem mchg (G : GP) (d : Nat) (T : Tab n N R P h nb aj) (D : Dst N t aj δ) (ht : t < N) {f : Nat} (hf : f < N) (hft : f ≠ t) (row : Int32) (m : Mem) (K : Int32 → Mem → Prop) (hK : ∀ m' : Mem, Fmc m m' → ((row = 0 → K (nI (δ f)) m') ∧ (row ≠ 0 → ∀ k, k < N → LowK aj δ f k → K (nI (R k)) m'))) : Evi G (d + 3) mX12_changes [.ref (ga G 273), .int (nI n), .int (nI (R f)), .int (nI (R t)), .int row] m K := by
  obtain ⟨h2, h5, hN2, hN⟩ := T.sz
  have hp := p10_le h5
  have hp0 : 1 ≤ 10 ^ n := Nat.one_le_pow _ _ (by omega)
  have hRf := T.R_lt hf
  have hRt := T.R_lt ht
  have hδf := D.2.2.2 f hf
  obtain ⟨f1, f2⟩ := T.rw f hf
  obtain ⟨t1, t2⟩ := T.rw t ht
  have es : nI (10 ^ n) - 1 = nI (10 ^ n - 1) := sub_nI (a := 10 ^ n) (b := 1) hp0
  refine vX12_changes G d _ _ _ _ m K ⟨fun _ => ?_, fun z => absurd ⟨(le_nI (a := 2) (by omega) (by omega)).mpr h2, (le_nI (b := 5) (by omega) (by omega)).mpr h5⟩ z⟩
  refine kX12_tens G (d + 2) h5 m _ ?_
  rw [es]
  refine ⟨fun _ => ?_, fun z => absurd ⟨(le_nI (a := 0) (by omega) (by omega)).mpr (Nat.zero_le _), (le_nI (by omega) (by omega)).mpr (by omega)⟩ z⟩
  refine kX12_tens G (d + 2) h5 m _ ?_
  rw [es]
  refine ⟨fun _ => ?_, fun z => absurd ⟨(le_nI (a := 0) (by omega) (by omega)).mpr (Nat.zero_le _), (le_nI (by omega) (by omega)).mpr (by omega)⟩ z⟩
  refine kX12_isRow G (d + 1) h2 h5 (by omega) m _ (fun _ => ⟨fun z => absurd z (by decide), fun _ => ?_⟩) (fun z => absurd f2 z)
  refine kX12_isRow G (d + 1) h2 h5 (by omega) m _ (fun _ => ⟨fun _ => ⟨fun _ => ?_, fun z => absurd ((T.R_eq hf ht).mp z) hft⟩, fun z => absurd z (by decide)⟩) (fun z => absurd t2 z)
  refine qX12_layRows G d T m _ (fun m9 fr9 n9 r9 => ?_)
  -- the loops
  have fin : ∀ (r k : Nat) (m2 : Mem), r < N → k ≤ N → Fmc m m2 → (∀ x, x < N → m2.1 291 x = nI (R x)) → (∀ x, x < N → Mc aj δ r k x (m2.1 292 x)) → m2.1 292 f ≠ -1 → ((row = 0 → K (m2.1 292 f) m2) ∧ (row ≠ 0 → Evi G (d + 2) mX12_nextOf [.ref (ga G 273), .int (nI (R f)), .int (nI n), .int (m2.1 292 f - 1)] m2 (fun r16 m15 => K r16 m15))) := fun r k m2 hr hk fr rr mc hne => by
    have ev : m2.1 292 f = nI (δ f) ∧ δ f ≤ r + 1 := by
      rcases mc f hf with ⟨c1, c2⟩ | ⟨c1, ⟨j, j1, j2, j3⟩, c3⟩ | ⟨c1, c2, c3⟩
      · exact ⟨c2, by omega⟩
      · have hj : j < N := by omega
        have := D.2.1 j f hj hf j3
        exact ⟨by rw [c3]; congr 1; omega, by omega⟩
      · exact absurd c3 hne
    obtain ⟨ev1, ev2⟩ := ev
    have h0 : δ f ≠ 0 := fun e => hft ((D.1 f hf).mp e)
    obtain ⟨k1, k2⟩ := hK m2 fr
    rw [ev1]
    refine ⟨k1, fun z => qX12_nextOf G d T D hf hft m2 rr (fun x hx => ?_) _ (k2 z)⟩
    have hδx := D.2.2.2 x hx
    rw [show nI (δ f) - 1 = nI (δ f - 1) from sub_nI (b := 1) (by omega)]
    rcases mc x hx with ⟨c1, c2⟩ | ⟨c1, c2, c3⟩ | ⟨c1, c2, c3⟩
    · rw [c2, eq_nI (by omega) (by omega)]; omega
    · rw [c3, eq_nI (by omega) (by omega)]; omega
    · rw [c3]
      exact ⟨fun z => absurd z.symm (m1_nI (by omega)), fun z => by omega⟩
  have main : ∀ (w r : Nat) (m2 : Mem) (u3 u6 u7 : Value), r + w = N → r ≤ δ f → Fmc m m2 → m2.1 273 34 = nI N → (∀ x, x < N → m2.1 291 x = nI (R x)) → (∀ x, x < N → Mc aj δ r 0 x (m2.1 292 x)) → Gw G (d + 3) mX12_changes 120 [.ref (ga G 273), .int (nI n), .int (nI (R f)), u3, .int row, .int (nI r), u6, u7] [] m2 (Qi K) := by
    intro w
    induction w with
    | zero => intro r m2 u3 u6 u7 e hr; omega
    | succ w ih =>
      intro r m2 u3 u6 u7 e hr fr n2 rr mc
      refine vX12_changes_120 G d _ _ u3 _ _ u6 u7 m2 K ?_
      rw [n2]
      refine ⟨fun z => absurd ((le_nI (a := N) (b := r) (by omega) (by omega)).mp z) (by omega), fun _ => ?_⟩
      -- the rows k
      have kl : ∀ (v k : Nat) (m3 : Mem) (u3 u7 : Value), k + v = N → (f < k → r < δ f) → Fmc m m3 → m3.1 273 34 = nI N → (∀ x, x < N → m3.1 291 x = nI (R x)) → (∀ x, x < N → Mc aj δ r k x (m3.1 292 x)) → Gw G (d + 3) mX12_changes 132 [.ref (ga G 273), .int (nI n), .int (nI (R f)), u3, .int row, .int (nI r), .int (nI k), u7] [] m3 (Qi K) := by
        intro v
        induction v with
        | zero =>
          intro k m3 u3 u7 ek hfk fr3 n3 rr3 mc3
          have : k = N := by omega
          subst this
          refine vX12_changes_132 G d _ _ u3 _ _ _ u7 m3 K ?_
          rw [n3]
          refine ⟨fun _ x14 e14 => ?_, fun z => absurd ((le_nI (by omega) (by omega)).mpr (Nat.le_refl _)) z⟩
          rw [e14, ← nI_succ]
          exact ih (r + 1) m3 _ _ _ (by omega) (hfk hf) fr3 n3 rr3 (fun x hx => (mc3 x hx).up D hx)
        | succ v ihv =>
          intro k m3 u3 u7 ek hfk fr3 n3 rr3 mc3
          have tk : (nI k).toNatClampNeg = k := tn_nI (by omega)
          have vk : vp_in (nI k) 120 := in_nI (by omega) (by omega)
          have sk : nI k + 1 = nI (k + 1) := nI_add k 1
          have hδk := D.2.2.2 k (by omega)
          have hRk := T.R_lt (show k < N by omega)
          -- the row of others
          have go : (f < k + 1 → r < δ f) → ∀ (u3 : Value), Gw G (d + 3) mX12_changes 196 [.ref (ga G 273), .int (nI n), .int (nI (R f)), u3, .int row, .int (nI r), .int (nI k), .int 0] [] m3 (Qi K) := fun hfk1 u3 => by
            have el : ∀ (q e : Nat) (m4 : Mem) (u3 : Value), e + q = N → Fmc m m4 → m4.1 273 34 = nI N → (∀ x, x < N → m4.1 291 x = nI (R x)) → (δ k = r ∨ e = 0) → (∀ x, x < N → Mc aj δ r (if x < e then k + 1 else k) x (m4.1 292 x)) → Gw G (d + 3) mX12_changes 196 [.ref (ga G 273), .int (nI n), .int (nI (R f)), u3, .int row, .int (nI r), .int (nI k), .int (nI e)] [] m4 (Qi K) := by
              intro q
              induction q with
              | zero =>
                intro e m4 u3 ee fr4 n4 rr4 hk4 mc4
                refine vX12_changes_196 G d _ _ u3 _ _ _ _ m4 K ?_
                rw [n4]
                refine ⟨fun _ x17 e17 => ?_, fun z => absurd ((le_nI (by omega) (by omega)).mpr (by omega)) z⟩
                rw [e17, sk]
                refine ihv (k + 1) m4 _ _ (by omega) hfk1 fr4 n4 rr4 (fun x hx => ?_)
                have := mc4 x hx
                rw [if_pos (by omega)] at this
                exact this
              | succ q ihq =>
                intro e m4 u3 ee fr4 n4 rr4 hk4 mc4
                have te : (nI e).toNatClampNeg = e := tn_nI (by omega)
                have ve : vp_in (nI e) 120 := in_nI (by omega) (by omega)
                have se : nI e + 1 = nI (e + 1) := nI_add e 1
                have hRe := T.R_lt (show e < N by omega)
                have isr : m4.1 292 k = nI r ↔ δ k = r := (mc4 k (by omega)).vr D hN (by omega) (by omega)
                refine vX12_changes_196 G d _ _ u3 _ _ _ _ m4 K ?_
                rw [n4, tk, te, isr, rr4 k (by omega), rr4 e (by omega), sk, se]
                refine ⟨fun z => absurd ((le_nI (a := N) (b := e) (by omega) (by omega)).mp z) (by omega), fun _ => ⟨vk, fun z x18 e18 => ?_, fun z => ⟨ve, fun y x19 e19 => ?_, fun y => ⟨vk, ve, ?_⟩⟩⟩⟩
                · rw [e18]
                  refine ihv (k + 1) m4 _ _ (by omega) hfk1 fr4 n4 rr4 (fun x hx => ?_)
                  have e0 : e = 0 := by rcases hk4 with q | q; exact absurd q z; exact q
                  have := mc4 x hx
                  rw [if_neg (by omega)] at this
                  exact this.no (fun w => z w.1)
                · rw [e19]
                  refine ihq (e + 1) m4 _ (by omega) fr4 n4 rr4 (Or.inl z) (fun x hx => ?_)
                  have := mc4 x hx
                  by_cases q : x = e
                  · subst q
                    rw [if_neg (by omega)] at this
                    rw [if_pos (by omega)]
                    rcases this with c | ⟨c1, ⟨j, j1, j2⟩, c3⟩ | ⟨c1, c2, c3⟩
                    · exact Or.inl c
                    · exact Or.inr (Or.inl ⟨c1, ⟨j, by omega, j2⟩, c3⟩)
                    · exact absurd c3 y
                  · by_cases q2 : x < e
                    · rw [if_pos q2] at this; rw [if_pos (by omega)]; exact this
                    · rw [if_neg q2] at this; rw [if_neg (by omega)]; exact this
                · have hme := mc4 e (by omega)
                  rw [if_neg (Nat.lt_irrefl e)] at hme
                  obtain ⟨y1, y2⟩ := hme.v1 D hN (by omega) y
                  refine kX12_isChange G (d + 1) h2 h5 (by omega) (by omega) m4 _ (fun hc => ⟨fun w => absurd w (by decide), fun _ => ⟨ve, fun m23 e23 x24 e24 => ?_⟩⟩) (fun hc => ⟨fun _ x22 e22 => ?_, fun w => absurd rfl w⟩)
                  · have hA := (T.ic k (by omega) e (by omega)).mp hc
                    rw [show nI r + 1 = nI (r + 1) from nI_add r 1] at e23
                    have c2 : m23.1 292 = upd (m4.1 292) e (nI (r + 1)) := by rw [e23, wI_s]
                    rw [e24]
                    refine ihq (e + 1) m23 _ (by omega) (by rw [e23]; exact fr4.w2) (by rw [e23, wI_n _ _ _ (by omega)]; exact n4) (fun x hx => by rw [e23, wI_n _ _ _ (by omega)]; exact rr4 x hx) (Or.inl z) (fun x hx => ?_)
                    rw [c2]
                    by_cases q : x = e
                    · subst q
                      rw [upd_s, if_pos (by omega)]
                      exact Or.inr (Or.inl ⟨y1, ⟨k, by omega, z, hA⟩, rfl⟩)
                    · rw [upd_n _ _ q]
                      have := mc4 x hx
                      by_cases q2 : x < e
                      · rw [if_pos q2] at this; rw [if_pos (by omega)]; exact this
                      · rw [if_neg q2] at this; rw [if_neg (by omega)]; exact this
                  · rw [e22]
                    refine ihq (e + 1) m4 _ (by omega) fr4 n4 rr4 (Or.inl z) (fun x hx => ?_)
                    have := mc4 x hx
                    by_cases q : x = e
                    · subst q
                      rw [if_neg (by omega)] at this
                      rw [if_pos (by omega)]
                      exact this.no (fun w => hc ((T.ic k (by omega) x (by omega)).mpr w.2))
                    · by_cases q2 : x < e
                      · rw [if_pos q2] at this; rw [if_pos (by omega)]; exact this
                      · rw [if_neg q2] at this; rw [if_neg (by omega)]; exact this
            exact el N 0 m3 u3 (by omega) fr3 n3 rr3 (Or.inr rfl) (fun x hx => by rw [if_neg (Nat.not_lt_zero x)]; exact mc3 x hx)
          refine vX12_changes_132 G d _ _ u3 _ _ _ u7 m3 K ?_
          rw [n3, tk, rr3 k (by omega), T.R_eq (show k < N by omega) hf]
          refine ⟨fun z => absurd ((le_nI (a := N) (b := k) (by omega) (by omega)).mp z) (by omega), fun _ => ⟨vk, fun z => go (fun w => hfk (by omega)) _, fun z => ⟨vk, fun y => ?_, fun y => ?_⟩⟩⟩
          · subst z
            have hv1 : m3.1 292 k = -1 := by
              rcases mc3 k hf with ⟨c1, c2⟩ | ⟨c1, c2, c3⟩ | ⟨c1, c2, c3⟩
              · rw [c2] at y; exact absurd y (neg_nI _ (by omega))
              · rw [c3] at y; exact absurd y (neg_nI _ (by omega))
              · exact c3
            exact go (fun _ => ((mc3 k hf).v1 D hN hf hv1).1) _
          · subst z
            obtain ⟨g1, g2⟩ := fin r k m3 (by omega) (by omega) fr3 rr3 mc3 (fun w => y (by rw [w]; decide))
            exact ⟨fun w => ⟨vk, g1 w⟩, fun w => ⟨vk, g2 w⟩⟩
      exact kl N 0 m2 _ _ (by omega) (fun w => absurd w (Nat.not_lt_zero f)) fr n2 rr mc
  -- the first row of rounds
  have ini : ∀ (w k : Nat) (m2 : Mem) (u6 u7 : Value), k + w = N → Fmc m m2 → m2.1 273 34 = nI N → (∀ x, x < N → m2.1 291 x = nI (R x)) → (∀ x, x < k → m2.1 292 x = if x = t then 0 else -1) → Gw G (d + 3) mX12_changes 79 [.ref (ga G 273), .int (nI n), .int (nI (R f)), .int (nI (R t)), .int row, .int (nI k), u6, u7] [] m2 (Qi K) := by
    intro w
    induction w with
    | zero =>
      intro k m2 u6 u7 e fr n2 rr h0
      have : k = N := by omega
      subst this
      refine vX12_changes_79 G d _ _ _ _ _ u6 u7 m2 K ?_
      rw [n2]
      refine ⟨fun _ => ?_, fun z => absurd ((le_nI (by omega) (by omega)).mpr (Nat.le_refl _)) z⟩
      refine main k 0 m2 _ _ _ (by omega) (Nat.zero_le _) fr n2 rr (fun x hx => ?_)
      rw [h0 x hx]
      by_cases q : x = t
      · rw [if_pos q]
        have := (D.1 x hx).mpr q
        exact Or.inl ⟨by omega, by rw [this]; rfl⟩
      · rw [if_neg q]
        have : δ x ≠ 0 := fun z => q ((D.1 x hx).mp z)
        exact Or.inr (Or.inr ⟨by omega, fun ⟨j, j1, _⟩ => absurd j1 (Nat.not_lt_zero j), rfl⟩)
    | succ w ih =>
      intro k m2 u6 u7 e fr n2 rr h0
      have tk : (nI k).toNatClampNeg = k := tn_nI (by omega)
      have vk : vp_in (nI k) 120 := in_nI (by omega) (by omega)
      have sk : nI k + 1 = nI (k + 1) := nI_add k 1
      have nx : ∀ (m3 : Mem) (v : Int32), m3 = wI m2 292 k v → v = (if k = t then 0 else -1) → ∀ (u6 u7 : Value), Gw G (d + 3) mX12_changes 79 [.ref (ga G 273), .int (nI n), .int (nI (R f)), .int (nI (R t)), .int row, .int (nI (k + 1)), u6, u7] [] m3 (Qi K) := fun m3 v e3 ev u6 u7 => by
        refine ih (k + 1) m3 u6 u7 (by omega) (by rw [e3]; exact fr.w2) (by rw [e3, wI_n _ _ _ (by omega)]; exact n2) (fun x hx => by rw [e3, wI_n _ _ _ (by omega)]; exact rr x hx) (fun x hx => ?_)
        rw [e3, wI_s]
        by_cases q : x = k
        · rw [q, upd_s]; exact ev
        · rw [upd_n _ _ q]; exact h0 x (by omega)
      refine vX12_changes_79 G d _ _ _ _ _ u6 u7 m2 K ?_
      rw [n2, tk, rr k (by omega), T.R_eq (show k < N by omega) ht, sk]
      refine ⟨fun z => absurd ((le_nI (a := N) (b := k) (by omega) (by omega)).mp z) (by omega), fun _ => ⟨vk, fun z => ⟨vk, fun m10 e10 x11 e11 => ?_⟩, fun z => ⟨vk, fun m12 e12 x13 e13 => ?_⟩⟩⟩
      · rw [e11]; exact nx m10 _ e10 (by rw [if_neg z]) _ _
      · rw [e13]; exact nx m12 _ e12 (by rw [if_pos z]) _ _
  exact ini N 0 m9 _ _ (by omega) fr9 n9 r9 (fun x hx => absurd hx (Nat.not_lt_zero x))
end MChg
