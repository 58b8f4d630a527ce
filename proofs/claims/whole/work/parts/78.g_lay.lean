def okL (a : Nat → Int32) (la p : Nat) : Prop := (la = 10 ∧ p = 0) ∨ (la < tn (a 1) ∧ 1 ≤ p)
def WayT (X : Nat → Nat → Int32) (m : Mem) (a : Nat → Int32) (se : Bool) (lo : Nat) : Prop := ∀ fr la p, lo ≤ fr → fr ≤ hN a → p ≤ fr → okL a la p → m.1 284 (wA4 fr la p) = nI (VV X a se fr la p)
theorem wA4_inj {a : Nat → Int32} (h : WF a) {fr la p fr' la' p' : Nat} (h1 : p ≤ 24) (h2 : p' ≤ 24) (h3 : okL a la p) (h4 : okL a la' p') (e : wA4 fr la p = wA4 fr' la' p') : fr = fr' ∧ la = la' ∧ p = p' := by
  have h10 := h.nw10
  unfold okL at h3 h4
  unfold wA4 at e
  omega
theorem qX12_layWays (G : GP) (d : Nat) (X : Nat → Nat → Int32) (a0 : Int32) (se : Bool) (hse : se = !decide (a0 = 0)) (m : Mem) (K : Int32 → Mem → Prop) (h : WF (m.1 274)) (hT : ∀ t, t < tn (m.1 274 2) → TT X t) (hX : m.1 276 = X 276) (hK : ∀ m' : Mem, WayT X m' (m.1 274) se 0 → SenT X m' (m.1 274) se (hN (m.1 274)) → (∀ k, k < hN (m.1 274) → m'.1 283 k = hR (m.1 274) k) → (∀ q, q < 280 → m'.1 q = m.1 q) → K (nI (hN (m.1 274))) m') : Evi G (d + 6) mX12_layWays [.ref (ga G 273), .int a0] m K := by
  have h10 := h.nw10
  have hn := hN_le h
  refine vX12_layWays G d a0 m K ?_
  refine qX12_heardL G (d + 5) m _ h (fun m1 e1 e2 _ => ?_)
  have g4 : m1.1 274 = m.1 274 := e2 274 (by omega)
  refine qX12_laySense G d X a0 se hse (hN (m.1 274)) m1 _ (by rw [g4]; exact h) hn (by rw [g4]; exact hT) ((e2 276 (by omega)).trans hX) (fun m2 s2 f2 => ?_)
  rw [g4] at s2
  generalize hA : m.1 274 = a at *
  have h2 : ∀ k, k < hN a → m2.1 283 k = hR a k := fun k hk => by rw [f2 283 (by omega) (by omega) (by omega) (by omega)]; exact e1 k hk
  have fr2 : ∀ q, q < 280 → m2.1 q = m.1 q := fun q hq => by rw [f2 q (by omega) (by omega) (by omega) (by omega), e2 q (by omega)]
  have key : ∀ f, f ≤ hN a + 1 → ∀ (m3 : Mem) (u1 u4 u5 : Value), WayT X m3 a se f → (∀ q, q ≠ 284 → m3.1 q = m2.1 q) → Gw G (d + 6) mX12_layWays 13 [.ref (ga G 273), u1, .int (nI (hN a)), .int (nI f - 1), u4, u5] [] m3 (Qi K) := by
    intro f
    induction f with
    | zero =>
      intro _ m3 u1 u4 u5 w3 f3
      refine vX12_layWays_13 G d u1 (nI (hN a)) (nI 0 - 1) u4 u5 m3 K ⟨fun _ => ?_, fun q => absurd (by decide) q⟩
      refine hK m3 w3 ⟨fun w hw => ?_, fun w v p h1 h2 h3 h4 => ?_⟩ (fun k hk => ?_) (fun q hq => by rw [f3 q (by omega)]; exact fr2 q hq)
      · rw [f3 286 (by omega)]; exact s2.1 w hw
      · rw [f3 285 (by omega)]; exact s2.2 w v p h1 h2 h3 h4
      · rw [f3 283 (by omega)]; exact h2 k hk
    | succ f ih =>
      intro hf m3 u1 u4 u5 w3 f3
      rw [nI_pred]
      refine vX12_layWays_13 G d u1 (nI (hN a)) (nI f) u4 u5 m3 K ⟨fun q => absurd q (nI_pos (by omega)), fun _ => ?_⟩
      have key2 : ∀ N p, p + N = f + 1 → ∀ (m4 : Mem) (u1 u5 : Value), WayT X m4 a se (f + 1) → (∀ la p', p' < p → okL a la p' → m4.1 284 (wA4 f la p') = nI (VV X a se f la p')) → (∀ q, q ≠ 284 → m4.1 q = m2.1 q) → Gw G (d + 6) mX12_layWays 20 [.ref (ga G 273), u1, .int (nI (hN a)), .int (nI f), .int (nI p), u5] [] m4 (Qi K) := by
        intro N
        induction N with
        | zero =>
          intro p hp m4 u1 u5 w4 z4 f4
          refine vX12_layWays_20 G d u1 (nI (hN a)) (nI f) (nI p) u5 m4 K ⟨fun _ => ?_, fun q => absurd ((lt_nI (by omega) (by omega)).mpr (by omega)) q⟩
          rintro _ rfl
          rw [sub1_nI]
          refine ih (by omega) m4 _ _ _ (fun fr la p' h1 h2 h3 h4 => ?_) f4
          by_cases e : fr = f
          · subst e
            exact z4 la p' (by omega) h4
          · exact w4 fr la p' (by omega) h2 h3 h4
        | succ N ihp =>
          intro p hp m4 u1 u5 w4 z4 f4
          refine vX12_layWays_20 G d u1 (nI (hN a)) (nI f) (nI p) u5 m4 K ⟨fun q => ?_, fun _ => ?_⟩
          · exfalso
            rw [lt_nI (by omega) (by omega)] at q
            omega
          refine loopD (P := fun l => ∀ (m5 : Mem) (u1 : Value), WayT X m5 a se (f + 1) → (∀ la p', p' < p → okL a la p' → m5.1 284 (wA4 f la p') = nI (VV X a se f la p')) → (∀ la, la < l → okL a la p → m5.1 284 (wA4 f la p) = nI (VV X a se f la p)) → (∀ q, q ≠ 284 → m5.1 q = m2.1 q) → Gw G (d + 6) mX12_layWays 29 [.ref (ga G 273), u1, .int (nI (hN a)), .int (nI f), .int (nI p), .int (nI l)] [] m5 (Qi K)) 11 ?_ ?_ m4 _ w4 z4 (fun la hl => by omega) f4
          · intro l hl hQ m5 u1 w5 z5 y5 f5
            have g5 : m5.1 274 = a := ((f5 274 (by omega)).trans (fr2 274 (by omega))).trans hA
            have skip : ¬ okL a l p → ∀ x : Int32, x = nI l + 1 → Gw G (d + 6) mX12_layWays 29 [.ref (ga G 273), uu, .int (nI (hN a)), .int (nI f), .int (nI p), .int x] [] m5 (Qi K) := by
              rintro hno _ rfl
              rw [nI_1]
              refine hQ m5 _ w5 z5 (fun la h1 h2 => ?_) f5
              by_cases e : la = l
              · subst e
                exact absurd h2 hno
              · exact y5 la (by omega) h2
            have comp : okL a l p → Evi G (d + 5) mX12_waysFrom [.ref (ga G 273), .int (nI f), .int (nI l), .int (nI p), .int (nI (hN a))] m5 (fun r7 m6 => vp_in (((275 : Int32) * nI f + (25 : Int32) * nI l) + nI p) 6875 ∧ ∀ m8 : Mem, m8 = wI m6 284 (((275 : Int32) * nI f + (25 : Int32) * nI l) + nI p).toNatClampNeg r7 → ∀ x9 : Int32, x9 = nI l + 1 → Gw G (d + 6) mX12_layWays 29 [.ref (ga G 273), uu, .int (nI (hN a)), .int (nI f), .int (nI p), .int x9] [] m8 (Qi K)) := by
              intro hok
              have := qX12_from G (d + 2) X se f l p m5 (fun r7 m6 => vp_in (((275 : Int32) * nI f + (25 : Int32) * nI l) + nI p) 6875 ∧ ∀ m8 : Mem, m8 = wI m6 284 (((275 : Int32) * nI f + (25 : Int32) * nI l) + nI p).toNatClampNeg r7 → ∀ x9 : Int32, x9 = nI l + 1 → Gw G (d + 6) mX12_layWays 29 [.ref (ga G 273), uu, .int (nI (hN a)), .int (nI f), .int (nI p), .int x9] [] m8 (Qi K)) (by rw [g5]; exact h) (by rw [g5, f5 283 (by omega)]; exact h2) (by rw [g5]; exact ⟨fun w hw => by rw [f5 286 (by omega)]; exact s2.1 w hw, fun w v p h1 h2 h3 h4 => by rw [f5 285 (by omega)]; exact s2.2 w v p h1 h2 h3 h4⟩) (by rw [g5]; omega) (by omega) (by rw [g5]; exact hok) (by
                rw [g5]
                intro w hw hb
                have hle := herB_le hb
                have hl1 := (h.lenW hw).2.1
                exact w5 _ w (p + 1) (by omega) hle (by omega) (Or.inr ⟨hw, by omega⟩)) (by
                rw [g5, ix284, tn_nI (by omega)]
                refine ⟨in_nI (by omega) (by omega), ?_⟩
                rintro _ rfl _ rfl
                rw [nI_1]
                refine hQ _ _ (fun fr la p' h1 h2 h3 h4 => ?_) (fun la p' h1 h2 => ?_) (fun la h1 h2 => ?_) (fun q hq => by rw [wI_n _ _ _ hq]; exact f5 q hq)
                · rw [wI_s, upd_n _ _ (fun e => ?_)]
                  · exact w5 fr la p' h1 h2 h3 h4
                  · have := (wA4_inj h (by omega) (by omega) h4 hok e).1
                    omega
                · rw [wI_s, upd_n _ _ (fun e => ?_)]
                  · exact z5 la p' h1 h2
                  · have := (wA4_inj h (by omega) (by omega) h2 hok e).2.2
                    omega
                · rw [wI_s]
                  by_cases e : la = l
                  · subst e
                    exact upd_s _ _ _
                  · rw [upd_n _ _ (fun e2 : wA4 f la p = 275 * f + 25 * l + p => e (wA4_inj (fr := f) (fr' := f) h (by omega) (by omega) h2 hok e2).2.1)]
                    exact y5 la (by omega) h2)
              rw [g5] at this
              exact this
            refine vX12_layWays_29 G d u1 (nI (hN a)) (nI f) (nI p) (nI l) m5 K ?_
            rw [g5, h.nwE, show (11 : Int32) = nI 11 from rfl, show (10 : Int32) = nI 10 from rfl, show (0 : Int32) = nI 0 from rfl, le_nI (by omega) (by omega), le_nI (by omega) (by omega), le_nI (by omega) (by omega), eq_nI (by omega) (by omega), eq_nI (by omega) (by omega)]
            unfold okL at skip comp
            refine ⟨fun q => by omega, fun _ => ⟨fun q => ⟨fun q2 => ⟨fun q3 => by omega, fun q3 => skip (by omega)⟩, fun q2 => ⟨fun q3 => by omega, fun q3 => comp (Or.inl ⟨q3, q2⟩)⟩⟩, fun q => ⟨fun q2 => skip (by omega), fun q2 => ⟨fun q3 => ⟨fun q4 => comp (Or.inr ⟨by omega, by omega⟩), fun q4 => by omega⟩, fun q3 => ⟨fun q4 => skip (by omega), fun q4 => by omega⟩⟩⟩⟩⟩
          · intro m5 u1 w5 z5 y5 f5
            refine vX12_layWays_29 G d u1 (nI (hN a)) (nI f) (nI p) (nI 11) m5 K ⟨fun _ => ?_, fun q => absurd (by decide) q⟩
            rintro _ rfl
            rw [nI_1]
            refine ihp (p + 1) (by omega) m5 _ _ w5 (fun la p' h1 h2 => ?_) f5
            by_cases e : p' = p
            · subst e
              refine y5 la ?_ h2
              unfold okL at h2
              omega
            · exact z5 la p' (by omega) h2
      exact key2 (f + 1) 0 (by omega) m3 _ _ w3 (fun la p' hp => by omega) f3
  have := key (hN a + 1) (Nat.le_refl _) m2 (.int a0) uu uu (fun fr la p h1 h2 => by omega) (fun _ _ => rfl)
  rw [nI_pred] at this
  exact this
theorem Inv.ear {n : Nat} {f : Nat → Nat → Int32} {m1 m2 : Mem} (h : Inv TXc n f) (f1 : ∀ q, q < 263 ∨ 272 < q → m1.1 q = f q) (d1 : FDa f (f 274) (m1.1 265)) (f2 : ∀ q, q < 280 → m2.1 q = m1.1 q) : Inv TXc (n + 1) m2.1 := by
  refine h.idle.fnd (fun c hc h5 => ?_) (by rw [f2 265 (by omega)]; exact d1)
  have hc : ¬ (c = 10 ∨ c = 11 ∨ (235 ≤ c ∧ c ≤ 237) ∨ c = 263 ∨ c = 264 ∨ (266 ≤ c ∧ c ≤ 272) ∨ c = 277 ∨ 279 ≤ c) := hc
  rw [f2 c (by omega), f1 c (by omega)]
theorem qX12_readings (G : GP) (d : Nat) (X : Nat → Nat → Int32) (a0 : Int32) (se : Bool) (hse : se = !decide (a0 = 0)) (m : Mem) (K : Int32 → Mem → Prop) (h : WF (m.1 274)) (hT : ∀ t, t < tn (m.1 274 2) → TT X t) (hX : m.1 276 = X 276) (hK : ∀ m' : Mem, (∀ q, q < 280 → m'.1 q = m.1 q) → K (nI (VV X (m.1 274) se 0 10 0)) m') : Evi G (d + 7) mX12_readings [.ref (ga G 273), .int a0] m K := by
  refine vX12_readings G d a0 m K ?_
  refine qX12_layWays G d X a0 se hse m _ h hT hX (fun m1 w1 s1 h1 f1 => ⟨vp_in_dec (by decide), ?_⟩)
  have e : m1.1 284 250 = nI (VV X (m.1 274) se 0 10 0) := w1 0 10 0 (by omega) (by omega) (by omega) (Or.inl ⟨rfl, rfl⟩)
  have := hK m1 f1
  rw [← e] at this
  exact this
theorem case_readings (G : GP) (d : Nat) {n : Nat} (a0 : Int32) (m : Mem) (h : Inv TXc n m.1) : Evi G (d + 6) mX11_readings [.ref (ga G 0), .int a0] m (Same G TXc n (d + 7) mX12_readings [.int a0]) := by
  refine vX11_readings G d a0 m _ ?_
  refine kC_ways G d m.1 a0 _ rfl m (m.1 274) _ h.2.2.1 h.1 h.tt (fun _ _ _ => rfl) h.fd (fun m1 R f1 d1 _ => ?_)
  have g4 : m1.1 274 = m.1 274 := f1 274 (by omega)
  refine qX12_readings G d m.1 a0 _ rfl m1 _ (by rw [g4]; exact h.1) (by rw [g4]; exact h.tt) (f1 276 (by omega)) (fun m2 f2 => ?_)
  rw [g4]
  exact ⟨rfl, h.ear f1 d1 f2⟩
/-! the first reading -/
noncomputable def rdC (X : Nat → Nat → Int32) (a : Nat → Int32) (se : Bool) (fr la k w : Nat) : Bool := herB a w fr && (sen X a se la w k && decide (VV X a se (fr + lenW a w) w (k + 1) ≠ 0))
def LowR (c : Nat → Bool) (n w : Nat) : Prop := w < n ∧ c w = true ∧ ∀ v, v < w → c v = false
theorem LowR.fn {c : Nat → Bool} {n w w' : Nat} (h : LowR c n w) (h' : LowR c n w') : w = w' := by
  rcases Nat.lt_trichotomy w w' with z | z | z
  · have := h'.2.2 w z; rw [h.2.1] at this; cases this
  · exact z
  · have := h.2.2 w' z; rw [h'.2.1] at this; cases this
def ResR (X : Nat → Nat → Int32) (a : Nat → Int32) (se : Bool) (i : Int32) : Nat → Nat → Nat → Nat → Int32 → Prop
  | 0, _, _, _, _ => False
  | f + 1, fr, la, k, r => (fr = hN a ∧ ((i = -1 ∧ r = nI k) ∨ (¬ i = -1 ∧ r = -2))) ∨ (fr < hN a ∧ ∃ w, LowR (rdC X a se fr la k) (tn (a 1)) w ∧ ((nI k = i ∧ r = nI w) ∨ (¬ nI k = i ∧ ResR X a se i f (fr + lenW a w) w (k + 1) r)))
theorem ResR.fn {X : Nat → Nat → Int32} {a : Nat → Int32} {se : Bool} {i : Int32} : ∀ {f fr la k : Nat} {r r' : Int32}, ResR X a se i f fr la k r → ResR X a se i f fr la k r' → r = r'
  | 0, _, _, _, _, _, h, _ => h.elim
  | f + 1, fr, la, k, r, r', h, h' => by
    rcases h with ⟨h1, h2⟩ | ⟨h1, w, h2, h3⟩ <;> rcases h' with ⟨k1, k2⟩ | ⟨k1, v, k2, k3⟩
    · rcases h2 with ⟨a1, a2⟩ | ⟨a1, a2⟩ <;> rcases k2 with ⟨b1, b2⟩ | ⟨b1, b2⟩
      · rw [a2, b2]
      · exact absurd a1 b1
      · exact absurd b1 a1
      · rw [a2, b2]
    · omega
    · omega
    · have := h2.fn k2
      subst this
      rcases h3 with ⟨a1, a2⟩ | ⟨a1, a2⟩ <;> rcases k3 with ⟨b1, b2⟩ | ⟨b1, b2⟩
      · rw [a2, b2]
      · exact absurd a1 b1
      · exact absurd b1 a1
      · exact ResR.fn a2 b2
theorem rd_ex {X : Nat → Nat → Int32} {a : Nat → Int32} {se : Bool} (h : WF a) {fr la k : Nat} (hf : fr < hN a) (h0 : VV X a se fr la k ≠ 0) : ∃ w, LowR (rdC X a se fr la k) (tn (a 1)) w := by
  rw [VV_s h hf] at h0
  have : ∃ w, w < tn (a 1) ∧ rdC X a se fr la k w = true := by
    rcases Classical.em (∃ w, w < tn (a 1) ∧ rdC X a se fr la k w = true) with z | z
    · exact z
    · exfalso
      refine h0 ((sm_0 _).mpr (fun w hw hc => ?_))
      rcases Classical.em (VV X a se (fr + lenW a w) w (k + 1) = 0) with y | y
      · exact y
      · exfalso
        refine z ⟨w, hw, ?_⟩
        rw [Bool.and_eq_true] at hc
        unfold rdC
        rw [hc.1, hc.2, decide_eq_true y]
        rfl
  obtain ⟨w, h1, h2⟩ := pk_least _ this
  exact ⟨w, h1.1, h1.2, fun v hv => by
    cases e : rdC X a se fr la k v
    · rfl
    · exact absurd ⟨by omega, e⟩ (h2 v hv)⟩
theorem rd_ok {X : Nat → Nat → Int32} {a : Nat → Int32} {se : Bool} {fr la k w : Nat} (h : rdC X a se fr la k w = true) : herB a w fr = true ∧ sen X a se la w k = true ∧ VV X a se (fr + lenW a w) w (k + 1) ≠ 0 := by
  unfold rdC at h
  rw [Bool.and_eq_true, Bool.and_eq_true] at h
  exact ⟨h.1, h.2.1, of_decide_eq_true h.2.2⟩
