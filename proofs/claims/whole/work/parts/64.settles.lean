theorem orb_back {f : Nat → Nat} {w T j : Nat} (hj : j < T) (he : orb f w T = orb f w j) : ∀ e i, j ≤ i → 10 ≤ i + e → i < 10 + (T - j) → ∃ n, 10 ≤ n ∧ n < 10 + (T - j) ∧ orb f w n = orb f w i
  | 0, i, h1, h2, h3 => ⟨i, by omega, h3, rfl⟩
  | e + 1, i, h1, h2, h3 => by
    by_cases q : 10 ≤ i
    · exact ⟨i, q, h3, rfl⟩
    · obtain ⟨n, a1, a2, a3⟩ := orb_back hj he e (i + (T - j)) (by omega) (by omega) (by omega)
      refine ⟨n, a1, a2, a3.trans ?_⟩
      have : ∀ x, orb f w (j + x + (T - j)) = orb f w (j + x) := by
        intro x
        rw [show j + x + (T - j) = T + x by omega, ← orb_add f w T x, he, orb_add]
      have := this (i - j)
      rw [show j + (i - j) = i by omega] at this
      exact this
theorem qX9_allFrom (G : GP) (d : Nat) (w : Nat) (m : Mem) (K : Int32 → Mem → Prop) (f : Nat → Nat) (N : Nat) (hN : N ≤ 10) (hw : w < N) (hf : ∀ v, v < N → f v < N ∧ m.1 109 v = nI (f v)) (hK : K (nI (SS (orb f w) 0 10)) m) : Evi G d mX9_allFrom [.ref (ga G 107), .int (nI w)] m K := by
  have ho : ∀ i, orb f w i < N := orb_lt (fun v hv => (hf v hv).1) hw
  refine vX9_allFrom G d (nI w) m K ?_
  refine loopD (P := fun i => ∀ u, Gw G d mX9_allFrom 7 [.ref (ga G 107), u, .int (nI (SS (orb f w) 0 i)), .int (nI (orb f w i)), .int (nI i)] [] m (Qi K)) 10 ?_ ?_ _
  · intro i hi hP u
    have h1 := ho i
    refine vX9_allFrom_7 G d u _ _ (nI i) m K ⟨fun q => ?_, fun _ => ?_⟩
    · have q := (le_nI (a := 10) (by omega) (by omega)).mp q
      omega
    · rintro _ rfl
      refine ⟨in_nI (by omega) (by omega), ?_⟩
      rintro _ rfl _ rfl
      rw [tn_nI (by omega), (hf _ h1).2, shl1_nI _ (by omega), or_nI, nI_1, show SS (orb f w) 0 i ||| 1 <<< orb f w i = SS (orb f w) 0 (i + 1) by rw [SS_s, Nat.zero_add]]
      exact hP _
  · intro u
    exact vX9_allFrom_7 G d u _ _ (nI 10) m K ⟨fun _ => hK, fun q => absurd (by decide) q⟩
theorem qX11_roundOf (G : GP) (d : Nat) (w : Nat) (m : Mem) (K : Int32 → Mem → Prop) (f : Nat → Nat) (N : Nat) (hN : N ≤ 10) (hw : w < N) (hf : ∀ v, v < N → f v < N ∧ m.1 109 v = nI (f v)) (hK : K (nI (SS (orb f (orb f w 10)) 0 10)) m) : Evi G (d + 1) mX11_roundOf [.ref (ga G 0), .int (nI w)] m K := by
  have ho : ∀ i, orb f w i < N := orb_lt (fun v hv => (hf v hv).1) hw
  refine vX11_roundOf G d (nI w) m K ?_
  refine loopD (P := fun i => ∀ u, Gw G (d + 1) mX11_roundOf 4 [.ref (ga G 0), u, .int (nI (orb f w i)), .int (nI i)] [] m (Qi K)) 10 ?_ ?_ _
  · intro i hi hP u
    have h1 := ho i
    refine vX11_roundOf_4 G d u _ (nI i) m K ⟨fun q => ?_, fun _ => ⟨in_nI (by omega) (by omega), ?_⟩⟩
    · have q := (le_nI (a := 10) (by omega) (by omega)).mp q
      omega
    · rintro _ rfl _ rfl
      rw [tn_nI (by omega), (hf _ h1).2, nI_1]
      exact hP _
  · intro u
    refine vX11_roundOf_4 G d u _ (nI 10) m K ⟨fun _ => ?_, fun q => absurd (by decide) q⟩
    exact qX9_allFrom G d _ m _ f N hN (ho 10) hf hK
theorem neg1_ne (n : Nat) (h : n < 2147483648) : ¬ nI n = -1 := fun e => by
  have : (nI n).toInt = -1 := by rw [e]; decide
  rw [nI_toInt (by omega)] at this
  omega
theorem neg1_lt (n : Nat) (h : n < 2147483648) : ¬ nI n ≤ -1 := fun e => by
  rw [Int32.le_iff_toInt_le, nI_toInt (by omega)] at e
  have : (-1 : Int32).toInt = -1 := by decide
  omega
theorem runV_eq (e : Nat → Bool) (f n v : Nat) (h1 : n ≤ v) (h2 : v < n + f) (h3 : ∀ k, n ≤ k → k < v → e k = true) (h4 : e v = false) : runV e f n = v := by
  have hle := runV_le e f n
  rcases Nat.lt_trichotomy (runV e f n) v with q | q | q
  · have := runV_end e f n (by omega)
    rw [h3 _ hle.1 q] at this
    exact absurd this (by decide)
  · exact q
  · have := runV_all e f n v h1 q
    rw [h4] at this
    exact absurd this (by decide)
theorem case_settles (G : GP) (d : Nat) {TX : (Nat → Nat → Int32) → Prop} (hT : TXok TX) {n : Nat} (a0 a1 : Int32) (m : Mem) (h : Inv TX n m.1) : Evi G (d + 2) mX11_settles [.ref (ga G 0), .int a0, .int a1] m (Same G TX n (d + 2) mX12_settles [.int a0, .int a1]) := by
  have r := h.2.2.1
  have hW := h.1
  obtain ⟨e1, -, e3⟩ := hW.nw.is (by omega)
  have e2 : m.1 2 4 = nI (tn (m.1 274 1)) := r.nw.trans e1
  generalize hN : tn (m.1 274 1) = N at *
  generalize hff : (fun v => tn (m.1 274 (42 + 9 * v))) = f at *
  have hfm : ∀ v, v < N → f v < N ∧ m.1 274 (42 + 9 * v) = nI (f v) := fun v hv => by
    obtain ⟨u, h1, h2⟩ := hW.has v (by omega)
    have : f v = u := by rw [← hff]; show tn (m.1 274 (42 + 9 * v)) = u; rw [h2]; exact tn_nI (by omega)
    rw [this]
    exact ⟨by omega, h2⟩
  have hfc : ∀ v, v < N → f v < N ∧ m.1 109 v = nI (f v) := fun v hv => ⟨(hfm v hv).1, (r.has v (by omega)).trans (hfm v hv).2⟩
  by_cases hw0 : (0 ≤ a0 ∧ a0 < m.1 2 4)
  · have hw0' := hw0
    rw [e2, one_nI (by omega)] at hw0
    obtain ⟨w, hw, rfl⟩ := hw0
    have ho : ∀ i, orb f w i < N := orb_lt (fun v hv => (hfm v hv).1) hw
    have ho10 : ∀ i, orb f w i < 10 := fun i => by have := ho i; omega
    have hwm : 0 ≤ nI w ∧ nI w ≤ m.1 274 1 - 1 := by rw [e1, oneM_nI (by omega)]; exact ⟨w, hw, rfl⟩
    have rset : ∀ T j, j < T → T ≤ 10 → orb f w T = orb f w j → SS (orb f (orb f w 10)) 0 10 = SS (orb f w) j (T - j) := by
      intro T j hj hT10 he
      apply Nat.eq_of_testBit_eq
      intro v
      rw [Bool.eq_iff_iff, SS_tb, SS_tb]
      constructor
      · rintro ⟨i, x1, x2, x3⟩
        rw [orb_add] at x3
        obtain ⟨k, y1, y2, y3⟩ := orb_in hj he (10 + i)
        exact ⟨k, y3 (by omega), by omega, y2.symm.trans x3⟩
      · rintro ⟨i, x1, x2, x3⟩
        obtain ⟨k, y1, y2, y3⟩ := orb_back hj he 10 i x1 (by omega) (by omega)
        refine ⟨k - 10, by omega, by omega, ?_⟩
        rw [orb_add, show 10 + (k - 10) = k by omega, y3, x3]
    -- the model, for any answer
    have model : ∀ (res : Int32), (0 ≤ a1 ∧ a1 ≤ 2) → (∀ T j, j < T → T ≤ 10 → orb f w T = orb f w j → (∀ i k, i < k → k < T → orb f w i ≠ orb f w k) → (a1 = 0 → res = nI T) ∧ (a1 = 1 → res = nI (T - j)) ∧ (a1 = 2 → ∀ v, v < 10 → (∃ i, j ≤ i ∧ i < T ∧ orb f w i = v) → (∀ u, u < v → ¬ ∃ i, j ≤ i ∧ i < T ∧ orb f w i = u) → res = nI v)) → Same G TX n (d + 2) mX12_settles [.int (nI w), .int a1] res m := by
      intro res h02 hres
      refine vX12_settles G d (nI w) a1 m _ ⟨fun _ => ⟨fun _ => ?_, fun q => absurd h02 q⟩, fun q => absurd hwm q⟩
      refine loopD (P := fun i => ∀ m' : Mem, (∀ v, v < i → m'.1 290 v = -1) → (∀ c, c ≠ 290 → m'.1 c = m.1 c) → ∀ u4 u5, Gw G (d + 2) mX12_settles 21 [.ref (ga G 273), .int (nI w), .int a1, .int (nI i), u4, u5] [] m' (Qi (fun r' m2 => res = r' ∧ Inv TX (n + 1) m2.1))) 10 ?_ ?_ m (fun v hv => by omega) (fun _ _ => rfl) _ _
      · intro i hi hP m' q1 q2 u4 u5
        refine vX12_settles_21 G d (nI w) a1 (nI i) u4 u5 m' _ ⟨fun q => ?_, fun _ => ⟨in_nI (by omega) (by omega), ?_⟩⟩
        · have q := (le_nI (a := 10) (by omega) (by omega)).mp q
          omega
        · rintro _ rfl _ rfl
          rw [nI_1, tn_nI (by omega)]
          refine hP _ (fun v hv => ?_) (fun c hc => by rw [wI_n _ _ _ hc, q2 c hc]) _ _
          rw [wI_s]
          by_cases e : v = i
          · rw [e, upd_s]
          · rw [upd_n _ _ e]; exact q1 v (by omega)
      · intro m' q1 q2 u4 u5
        refine vX12_settles_21 G d (nI w) a1 (nI 10) u4 u5 m' _ ⟨fun _ => ?_, fun q => absurd (by decide) q⟩
        have lows : ∀ T j, j < T → T ≤ 10 → orb f w T = orb f w j → (∀ i k, i < k → k < T → orb f w i ≠ orb f w k) → a1 = 2 → ∀ m' : Mem, (∀ k, k < T → m'.1 290 (orb f w k) = nI k) → (∀ v, v < 10 → (∀ k, k < T → orb f w k ≠ v) → m'.1 290 v = -1) → Inv TX (n + 1) m'.1 → ∀ e v, v + e = 10 → (∀ u, u < v → ¬ ∃ i, j ≤ i ∧ i < T ∧ orb f w i = u) → ∀ u1 u2 u3, Gw G (d + 2) mX12_settles 106 [.ref (ga G 273), u1, u2, u3, .int (nI (orb f w T)), .int (nI v)] [] m' (Qi (fun r' m2 => res = r' ∧ Inv TX (n + 1) m2.1)) := by
          intro T j hj hT10 he hinj ha1 m' k1 k2 kI e
          have hjv := ho10 j
          induction e with
          | zero =>
            intro v hv hall u1 u2 u3
            exact absurd ⟨j, by omega, hj, rfl⟩ (hall (orb f w j) (by omega))
          | succ e ih =>
            intro v hv hall u1 u2 u3
            have cw : m'.1 290 (tn (nI (orb f w T))) = nI j := by
              rw [show tn (nI (orb f w T)) = orb f w T from tn_nI (by have := ho10 T; omega), he]
              exact k1 j hj
            have c1 : (nI (orb f w T)).toNatClampNeg = tn (nI (orb f w T)) := rfl
            refine vX12_settles_106 G d u1 u2 u3 _ (nI v) m' _ ⟨in_nI (by omega) (by omega), in_nI (ho10 T) (by omega), fun q => ?_, fun q => ?_⟩
            · rw [c1, cw, tn_nI (by omega)] at q
              have hin : ∃ i, j ≤ i ∧ i < T ∧ orb f w i = v := by
                by_cases hx : ∃ k, k < T ∧ orb f w k = v
                · obtain ⟨k, x1, x2⟩ := hx
                  rw [← x2, k1 k x1, le_nI (by omega) (by omega)] at q
                  exact ⟨k, q, x1, x2⟩
                · exfalso
                  rw [k2 v (by omega) (fun k x1 x2 => hx ⟨k, x1, x2⟩)] at q
                  exact neg1_lt j (by omega) q
              exact ⟨(hres T j hj hT10 he hinj).2.2 ha1 v (by omega) hin hall, kI⟩
            · rw [c1, cw, tn_nI (by omega)] at q
              rintro _ rfl
              rw [nI_1]
              refine ih (v + 1) (by omega) (fun u hu => ?_) _ _ _
              by_cases e : u = v
              · rintro ⟨i, x1, x2, x3⟩
                refine q ?_
                rw [← e, ← x3, k1 i x2, le_nI (by omega) (by omega)]
                exact x1
              · exact hall u (by omega)
        have fin : ∀ T j, j < T → T ≤ 10 → orb f w T = orb f w j → (∀ i k, i < k → k < T → orb f w i ≠ orb f w k) → ∀ m' : Mem, (∀ k, k < T → m'.1 290 (orb f w k) = nI k) → (∀ v, v < 10 → (∀ k, k < T → orb f w k ≠ v) → m'.1 290 v = -1) → (∀ c, c ≠ 290 → m'.1 c = m.1 c) → ∀ u1 u5, Gw G (d + 2) mX12_settles 45 [.ref (ga G 273), u1, .int a1, .int (nI T), .int (nI (orb f w T)), u5] [] m' (Qi (fun r' m2 => res = r' ∧ Inv TX (n + 1) m2.1)) := by
          intro T j hj hT10 he hinj m' k1 k2 k3 u1 u5
          have hI : Inv TX (n + 1) m'.1 := h.idle.scr hT (fun c hc => k3 c (fun e => hc (by unfold Scr; omega)))
          have cw : m'.1 290 (nI (orb f w T)).toNatClampNeg = nI j := by
            rw [show (nI (orb f w T)).toNatClampNeg = orb f w T from tn_nI (by have := ho10 T; omega), he]
            exact k1 j hj
          refine vX12_settles_45 G d u1 a1 (nI T) _ u5 m' _ ⟨in_nI (ho10 T) (by omega), fun _ => ⟨fun q => ?_, fun q => ⟨fun q2 => ⟨in_nI (ho10 T) (by omega), ?_, hI⟩, fun q2 => ⟨(hres T j hj hT10 he hinj).1 q2, hI⟩⟩⟩, fun q => ?_⟩
          · have ha1 : a1 = 2 := Int32.le_antisymm h02.2 q
            exact lows T j hj hT10 he hinj ha1 m' k1 k2 hI 10 0 (by omega) (fun u hu => by omega) _ _ _
          · have ha1 : a1 = 1 := by
              obtain ⟨k, hk, rfl⟩ := (oneC_nI (n := 2) (by omega)).mp h02
              have : k = 0 ∨ k = 1 ∨ k = 2 := by omega
              rcases this with rfl | rfl | rfl
              · exact absurd rfl q2
              · rfl
              · exact absurd (by decide) q
            rw [cw, sub_nI (by omega)]
            exact (hres T j hj hT10 he hinj).2.1 ha1
          · rw [cw] at q
            exact absurd q (neg1_ne j (by omega))
        have key : ∀ e i, i + e = 10 → (∀ x k, x < k → k < i → orb f w x ≠ orb f w k) → ∀ m' : Mem, (∀ k, k < i → m'.1 290 (orb f w k) = nI k) → (∀ v, v < 10 → (∀ k, k < i → orb f w k ≠ v) → m'.1 290 v = -1) → (∀ c, c ≠ 290 → m'.1 c = m.1 c) → ∀ u1 u5, Gw G (d + 2) mX12_settles 45 [.ref (ga G 273), u1, .int a1, .int (nI i), .int (nI (orb f w i)), u5] [] m' (Qi (fun r' m2 => res = r' ∧ Inv TX (n + 1) m2.1)) := by
          intro e
          induction e with
          | zero =>
            intro i hi hinj m' k1 k2 k3 u1 u5
            have hi10 : i = 10 := by omega
            subst hi10
            by_cases hx : ∃ k, k < 10 ∧ orb f w k = orb f w 10
            · obtain ⟨k, x1, x2⟩ := hx
              exact fin 10 k x1 (by omega) x2.symm hinj m' k1 k2 k3 u1 u5
            · exfalso
              have := SS_pop ho10 0 11 (fun i k _ h2 h3 => by
                by_cases e : k = 10
                · rw [e]; exact fun e2 => hx ⟨i, by omega, e2⟩
                · exact hinj i k h2 (by omega))
              have h2 := pop_le _ (SS_lt ho10 0 11)
              omega
          | succ e ih =>
            intro i hi hinj m' k1 k2 k3 u1 u5
            by_cases hx : ∃ k, k < i ∧ orb f w k = orb f w i
            · obtain ⟨k, x1, x2⟩ := hx
              exact fin i k x1 (by omega) x2.symm hinj m' k1 k2 k3 u1 u5
            · have hi1 := ho10 i
              have hi2 := ho i
              have c0 : m'.1 290 (orb f w i) = -1 := k2 _ hi1 (fun k x1 x2 => hx ⟨k, x1, x2⟩)
              have ix : ((34 : Int32) + (9 : Int32) * nI (orb f w i)) + 8 = nI (42 + 9 * orb f w i) := by
                simp only [lit, pk_mul, nI_add]
                exact congrArg nI (by omega)
              refine vX12_settles_45 G d u1 a1 (nI i) _ u5 m' _ ⟨in_nI hi1 (by omega), fun q => ?_, fun _ => ⟨in_nI hi1 (by omega), ?_⟩⟩
              · rw [tn_nI (by omega)] at q
                exact absurd c0 q
              · rintro _ rfl _ rfl
                rw [ix, tn_nI (by omega), tn_nI (by omega), nI_1]
                refine ⟨in_nI (by omega) (by omega), ?_⟩
                rintro _ rfl
                rw [wI_n _ _ _ (by omega), k3 274 (by omega), (hfm _ hi2).2]
                refine ih (i + 1) (by omega) ?_ _ ?_ ?_ ?_ _ _
                · intro x k y1 y2
                  by_cases e : k = i
                  · rw [e]; exact fun e2 => hx ⟨x, by omega, e2⟩
                  · exact hinj x k y1 (by omega)
                · intro k hk
                  rw [wI_s]
                  by_cases e : k = i
                  · rw [e, upd_s]
                  · rw [upd_n _ _ (fun e2 => hx ⟨k, by omega, e2⟩)]
                    exact k1 k (by omega)
                · intro v hv hall
                  rw [wI_s, upd_n _ _ (fun e2 => hall i (by omega) e2.symm)]
                  exact k2 v hv (fun k hk => hall k (by omega))
                · intro c hc
                  rw [wI_n _ _ _ hc, k3 c hc]
        exact key 10 0 (by omega) (fun x k _ _ => by omega) m' (fun k hk => by omega) (fun v hv _ => q1 v hv) q2 _ _
    refine vX11_settles G d (nI w) a1 m _ ⟨fun _ => ⟨fun q => ?_, fun q => ?_, fun q => ?_, fun q => ?_⟩, fun q => absurd hw0' q⟩
    · refine qX9_allFrom G (d + 1) w m _ f N e3 hw hfc ?_
      refine model _ (by rw [q]; decide) (fun T j hj hT10 he hinj => ⟨fun _ => ?_, fun q2 => absurd (q.symm.trans q2) (by decide), fun q2 => absurd (q.symm.trans q2) (by decide)⟩)
      rw [bitC_pop _ (SS_lt ho10 0 10)]
      have : SS (orb f w) 0 10 = SS (orb f w) 0 T := by
        apply Nat.eq_of_testBit_eq
        intro v
        rw [Bool.eq_iff_iff, SS_tb, SS_tb]
        constructor
        · rintro ⟨i, x1, x2, x3⟩
          obtain ⟨k, y1, y2, y3⟩ := orb_in hj he i
          exact ⟨k, by omega, by omega, y2.symm.trans x3⟩
        · rintro ⟨i, x1, x2, x3⟩
          exact ⟨i, x1, by omega, x3⟩
      rw [this, SS_pop ho10 0 T (fun i k _ h2 h3 => hinj i k h2 (by omega))]
    · refine qX11_roundOf G d w m _ f N e3 hw hfc ?_
      refine model _ (by rw [q]; decide) (fun T j hj hT10 he hinj => ⟨fun q2 => absurd (q.symm.trans q2) (by decide), fun _ => ?_, fun q2 => absurd (q.symm.trans q2) (by decide)⟩)
      have hS := rset T j hj hT10 he
      rw [hS, bitC_pop _ (SS_lt ho10 j (T - j)), SS_pop ho10 j (T - j) (fun i k h1 h2 h3 => hinj i k h2 (by omega))]
    · refine qX11_roundOf G d w m _ f N e3 hw hfc ?_
      refine model _ (by rw [q]; decide) (fun T j hj hT10 he hinj => ⟨fun q2 => absurd (q.symm.trans q2) (by decide), fun q2 => absurd (q.symm.trans q2) (by decide), fun _ v hv hin hno => ?_⟩)
      have hS := rset T j hj hT10 he
      have tb : ∀ u, (SS (orb f w) j (T - j)).testBit u = true ↔ ∃ i, j ≤ i ∧ i < T ∧ orb f w i = u := fun u => by
        rw [SS_tb, show j + (T - j) = T by omega]
      rw [hS, bitC_low _ (SS_lt ho10 j (T - j)) (fun e => by
        have := (tb v).mpr hin
        rw [e, Nat.zero_testBit] at this
        exact absurd this (by decide))]
      refine congrArg nI (runV_eq _ 10 0 v (by omega) (by omega) (fun u _ hu => ?_) ?_)
      · have := hno u hu
        rw [← tb, Bool.not_eq_true] at this
        show (!(SS (orb f w) j (T - j)).testBit u) = true
        rw [this]; rfl
      · have := (tb v).mpr hin
        show (!(SS (orb f w) j (T - j)).testBit v) = false
        rw [this]; rfl
    · refine vX12_settles G d (nI w) a1 m _ ⟨fun _ => ⟨fun q2 => ?_, fun _ => ⟨rfl, h.idle⟩⟩, fun q => absurd hwm q⟩
      obtain ⟨k, hk, rfl⟩ := (oneC_nI (n := 2) (by omega)).mp q2
      exfalso
      have : k = 0 ∨ k = 1 ∨ k = 2 := by omega
      rcases this with rfl | rfl | rfl
      · exact q.1 rfl
      · exact q.2.1 rfl
      · exact q.2.2 rfl
  · refine vX11_settles G d a0 a1 m _ ⟨fun q => absurd q hw0, fun _ => ?_⟩
    refine vX12_settles G d a0 a1 m _ ⟨fun q => absurd ?_ hw0, fun _ => ⟨rfl, h.idle⟩⟩
    rw [e1, oneM_nI (by omega)] at q
    rw [e2, one_nI (by omega)]
    exact q
