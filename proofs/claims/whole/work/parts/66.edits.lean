/-! how far apart: the least number of strokes changed, left out or put in -/
def edR (prev : Nat → Nat) (x : Int32) (q : Nat → Int32) (i1 : Nat) : Nat → Nat
  | 0 => i1
  | k + 1 => min (prev k + (if x = q k then 0 else 1)) (min (prev (k + 1)) (edR prev x q i1 k) + 1)
def ed (p q : Nat → Int32) : Nat → Nat → Nat
  | 0 => fun k => k
  | i + 1 => edR (ed p q i) (p i) q (i + 1)
theorem ed_ss (p q : Nat → Int32) (i k : Nat) : ed p q (i + 1) (k + 1) = min (ed p q i k + (if p i = q k then 0 else 1)) (min (ed p q i (k + 1)) (ed p q (i + 1) k) + 1) := rfl
theorem ed_s0 (p q : Nat → Int32) (i : Nat) : ed p q (i + 1) 0 = i + 1 := rfl
theorem ed_0 (p q : Nat → Int32) (k : Nat) : ed p q 0 k = k := rfl
theorem ed_x0 (p q : Nat → Int32) : ∀ i, ed p q i 0 = i
  | 0 => rfl
  | _ + 1 => rfl
theorem ed_le (p q : Nat → Int32) : ∀ i k, ed p q i k ≤ i + k
  | 0, k => by rw [ed_0]; omega
  | i + 1, 0 => by rw [ed_s0]; omega
  | i + 1, k + 1 => by
    have := ed_le p q i (k + 1)
    rw [ed_ss]
    omega
theorem ed_sym (p q : Nat → Int32) : ∀ i k, ed p q i k = ed q p k i
  | 0, k => by rw [ed_0, ed_x0]
  | i + 1, 0 => by rw [ed_s0, ed_0]
  | i + 1, k + 1 => by
    rw [ed_ss, ed_ss, ed_sym p q i k, ed_sym p q i (k + 1), ed_sym p q (i + 1) k, Nat.min_comm (ed q p (k + 1) i)]
    by_cases h : p i = q k
    · rw [if_pos h, if_pos h.symm]
    · rw [if_neg h, if_neg (fun e => h e.symm)]
  termination_by i k => i + k
theorem ed_congr {p q p' q' : Nat → Int32} : ∀ i k, (∀ x, x < i → p x = p' x) → (∀ x, x < k → q x = q' x) → ed p q i k = ed p' q' i k
  | 0, k, _, _ => rfl
  | i + 1, 0, _, _ => rfl
  | i + 1, k + 1, h1, h2 => by
    rw [ed_ss, ed_ss, ed_congr i k (fun x hx => h1 x (by omega)) (fun x hx => h2 x (by omega)), ed_congr i (k + 1) (fun x hx => h1 x (by omega)) h2, ed_congr (i + 1) k h1 (fun x hx => h2 x (by omega)), h1 i (by omega), h2 k (by omega)]
  termination_by i k => i + k
theorem qX2_edits (G : GP) (d : Nat) (w : Nat) (p1 p1l : Nat) (hp1 : SH[p1]? = some (100, p1l, [])) (fr cnt : Nat) (m : Mem) (K : Int32 → Mem → Prop) (R W : Nat → Int32) (sz : Nat) (hw : w < 10) (hp : p1 ≠ 10) (hc : cnt ≤ 24) (hfr : fr + cnt ≤ p1l) (hpl : p1l ≤ 1000) (hsz : sz ≤ 4) (h7 : m.1 7 w = nI sz) (hR : ∀ i, i < cnt → m.1 p1 (fr + i) = R i) (hW : ∀ j, j < sz → m.1 6 (4 * w + j) = W j) (hK : ∀ m' : Mem, (∀ c, c ≠ 10 → m'.1 c = m.1 c) → K (nI (ed R W cnt sz)) m') : Evi G (d + 1) mX2_edits [.ref (ga G 2), .int (nI w), .ref (ga G p1), .int (nI fr), .int (nI cnt)] m K := by
  refine vX2_edits G d (nI w) p1 p1l hp1 (nI fr) (nI cnt) m K ⟨in_nI hw (by omega), ?_⟩
  rintro _ rfl
  rw [tn_nI (by omega), h7]
  -- the rows of the table
  have k36 : ∀ e i, i + e = cnt → ∀ m' : Mem, (∀ c, c ≠ 10 → m'.1 c = m.1 c) → (∀ j, j ≤ sz → m'.1 10 j = nI (ed R W i j)) → ∀ u7 u8 u9 u10, Gw G (d + 1) mX2_edits 36 [.ref (ga G 2), .int (nI w), .ref (ga G p1), .int (nI fr), .int (nI cnt), .int (nI sz), .int (nI i), u7, u8, u9, u10] [] m' (Qi K) := by
    intro e
    induction e with
    | zero =>
      intro i hi m' e1 e2 u7 u8 u9 u10
      have : i = cnt := by omega
      subst this
      refine vX2_edits_36 G d (nI w) p1 p1l hp1 (nI fr) (nI i) (nI sz) (nI i) u7 u8 u9 u10 m' K ⟨fun _ => ⟨in_nI (by omega) (by omega), ?_⟩, fun q => absurd (Int32.le_refl _) q⟩
      rw [tn_nI (by omega), e2 sz (Nat.le_refl _)]
      exact hK m' e1
    | succ e ih =>
      intro i hi m' e1 e2 u7 u8 u9 u10
      refine vX2_edits_36 G d (nI w) p1 p1l hp1 (nI fr) (nI cnt) (nI sz) (nI i) u7 u8 u9 u10 m' K ⟨fun q => ?_, fun _ => ?_⟩
      · rw [le_nI (by omega) (by omega)] at q
        omega
      · rintro _ rfl _ rfl
        rw [e2 0 (by omega), nI_1]
        -- one row
        have k64 : ∀ f j, j + f = sz → ∀ m' : Mem, (∀ c, c ≠ 10 → m'.1 c = m.1 c) → (∀ k, k ≤ j → m'.1 10 k = nI (ed R W (i + 1) k)) → (∀ k, j < k → k ≤ sz → m'.1 10 k = nI (ed R W i k)) → ∀ u9 u10, Gw G (d + 1) mX2_edits 64 [.ref (ga G 2), .int (nI w), .ref (ga G p1), .int (nI fr), .int (nI cnt), .int (nI sz), .int (nI i), .int (nI (ed R W i j)), .int (nI (j + 1)), u9, u10] [] m' (Qi K) := by
          intro f
          induction f with
          | zero =>
            intro j hj m' f1 f2 f3 u9 u10
            refine vX2_edits_64 G d (nI w) p1 p1l hp1 (nI fr) (nI cnt) (nI sz) (nI i) _ (nI (j + 1)) u9 u10 m' K ⟨fun _ => ?_, fun q => absurd ((lt_nI (by omega) (by omega)).mpr (by omega)) q⟩
            rintro _ rfl
            rw [nI_1]
            exact ih (i + 1) (by omega) m' f1 (fun k hk => f2 k (by omega)) _ _ _ _
          | succ f ih2 =>
            intro j hj m' f1 f2 f3 u9 u10
            have x1 : nI fr + nI i = nI (fr + i) := nI_add _ _
            have x2 : ((nI w * 4) + nI (j + 1)) - 1 = nI (4 * w + j) := by rw [ix_c]; exact sub_nI (a := 4 * w + (j + 1)) (b := 1) (by omega)
            have x3 : nI (j + 1) - 1 = nI j := sub_nI (a := j + 1) (b := 1) (by omega)
            have y1 : m'.1 p1 (nI fr + nI i).toNatClampNeg = R i := by rw [x1, tn_nI (by omega), f1 p1 hp]; exact hR i (by omega)
            have y2 : m'.1 6 (((nI w * 4) + nI (j + 1)) - 1).toNatClampNeg = W j := by rw [x2, tn_nI (by omega), f1 6 (by omega)]; exact hW j (by omega)
            have y3 : m'.1 10 (nI (j + 1)).toNatClampNeg = nI (ed R W i (j + 1)) := by rw [tn_nI (by omega)]; exact f3 (j + 1) (by omega) (by omega)
            have y4 : m'.1 10 (nI (j + 1) - 1).toNatClampNeg = nI (ed R W (i + 1) j) := by rw [x3, tn_nI (by omega)]; exact f2 j (by omega)
            have b1 := ed_le R W i j
            have b2 := ed_le R W i (j + 1)
            have b3 := ed_le R W (i + 1) j
            have go : ∀ x : Int32, x = nI (ed R W (i + 1) (j + 1)) → ∀ u9 u10, Gw G (d + 1) mX2_edits 64 [.ref (ga G 2), .int (nI w), .ref (ga G p1), .int (nI fr), .int (nI cnt), .int (nI sz), .int (nI i), .int (nI (ed R W i (j + 1))), .int (nI (j + 1) + 1), u9, u10] [] (wI m' 10 (nI (j + 1)).toNatClampNeg x) (Qi K) := by
              intro x hx u9 u10
              rw [nI_1, tn_nI (by omega)]
              refine ih2 (j + 1) (by omega) _ (fun c hc => by rw [wI_n _ _ _ hc, f1 c hc]) (fun k hk => ?_) (fun k h1 h2 => ?_) _ _
              · rw [wI_s]
                by_cases e : k = j + 1
                · rw [e, upd_s]; exact hx
                · rw [upd_n _ _ e]; exact f2 k (by omega)
              · rw [wI_s, upd_n _ _ (by omega)]
                exact f3 k (by omega) h2
            refine vX2_edits_64 G d (nI w) p1 p1l hp1 (nI fr) (nI cnt) (nI sz) (nI i) _ (nI (j + 1)) u9 u10 m' K ⟨fun q => ?_, fun _ => ⟨by rw [x1]; exact in_nI (by omega) (by omega), by rw [x2]; exact in_nI (by omega) (by omega), fun q => ?_, fun q => ⟨in_nI (by omega) (by omega), ?_⟩⟩⟩
            · rw [lt_nI (by omega) (by omega)] at q
              omega
            · rw [y1, y2] at q
              rintro _ rfl
              refine ⟨in_nI (by omega) (by omega), ?_⟩
              rintro _ rfl
              refine ⟨by rw [x3]; exact in_nI (by omega) (by omega), in_nI (by omega) (by omega), ?_⟩
              rintro _ rfl _ rfl
              rw [y3]
              refine go _ ?_ _ _
              rw [y4, imin_nI (by omega) (by omega), nI_1, nI_1, imin_nI (by omega) (by omega), ed_ss, if_neg q]
            · rw [y1, y2] at q
              rintro _ rfl
              refine ⟨by rw [x3]; exact in_nI (by omega) (by omega), in_nI (by omega) (by omega), ?_⟩
              rintro _ rfl _ rfl
              rw [y3]
              refine go _ ?_ _ _
              rw [y4, imin_nI (by omega) (by omega), nI_1, imin_nI (by omega) (by omega), ed_ss, if_pos q]
              rfl
        have := k64 sz 0 (by omega) (wI m' 10 0 (nI (i + 1))) (fun c hc => by rw [wI_n _ _ _ hc, e1 c hc]) (fun k hk => ?_) (fun k h1 h2 => ?_) uu uu
        · exact this
        · rw [show k = 0 by omega, wI_s, upd_s, ed_s0]
        · rw [wI_s, upd_n _ _ (by omega)]
          exact e2 k h2
  have k11 : ∀ e j, j + e = sz + 1 → ∀ m' : Mem, (∀ c, c ≠ 10 → m'.1 c = m.1 c) → (∀ k, k < j → m'.1 10 k = nI k) → ∀ u7 u8 u9 u10, Gw G (d + 1) mX2_edits 11 [.ref (ga G 2), .int (nI w), .ref (ga G p1), .int (nI fr), .int (nI cnt), .int (nI sz), .int (nI j), u7, u8, u9, u10] [] m' (Qi K) := by
    intro e
    induction e with
    | zero =>
      intro j hj m' e1 e2 u7 u8 u9 u10
      refine vX2_edits_11 G d (nI w) p1 p1l hp1 (nI fr) (nI cnt) (nI sz) (nI j) u7 u8 u9 u10 m' K ⟨fun _ => ?_, fun q => absurd ((lt_nI (by omega) (by omega)).mpr (by omega)) q⟩
      exact k36 cnt 0 (by omega) m' e1 (fun k hk => by rw [ed_0]; exact e2 k (by omega)) _ _ _ _
    | succ e ih =>
      intro j hj m' e1 e2 u7 u8 u9 u10
      refine vX2_edits_11 G d (nI w) p1 p1l hp1 (nI fr) (nI cnt) (nI sz) (nI j) u7 u8 u9 u10 m' K ⟨fun q => ?_, fun _ => ⟨in_nI (by omega) (by omega), ?_⟩⟩
      · rw [lt_nI (by omega) (by omega)] at q
        omega
      · rintro _ rfl _ rfl
        rw [tn_nI (by omega), nI_1]
        refine ih (j + 1) (by omega) _ (fun c hc => by rw [wI_n _ _ _ hc, e1 c hc]) (fun k hk => ?_) _ _ _ _
        rw [wI_s]
        by_cases e : k = j
        · rw [e, upd_s]
        · rw [upd_n _ _ e]; exact e2 k (by omega)
  exact k11 (sz + 1) 0 (by omega) m (fun _ _ => rfl) (fun k hk => by omega) _ _ _ _
theorem qX12_farOf (G : GP) (d : Nat) (n q : Nat) (m : Mem) (K : Int32 → Mem → Prop) (P Q : Nat → Int32) (hn : n ≤ 24) (hq : q ≤ 24) (hP : ∀ i, i < n → m.1 287 i = P i) (hQ : ∀ k, k < q → m.1 288 k = Q k) (hK : ∀ m' : Mem, (∀ c, c ≠ 289 → m'.1 c = m.1 c) → K (nI (ed P Q n q)) m') : Evi G d mX12_farOf [.ref (ga G 273), .int (nI n), .int (nI q)] m K := by
  refine vX12_farOf G d (nI n) (nI q) m K ?_
  have ix : ∀ i k, (25 : Int32) * nI i + nI k = nI (25 * i + k) := fun i k => by simp only [lit, pk_mul, nI_add]
  have k2 : ∀ e i, i + e = n + 1 → ∀ m' : Mem, (∀ c, c ≠ 289 → m'.1 c = m.1 c) → (∀ i' k, i' < i → k ≤ q → m'.1 289 (25 * i' + k) = nI (ed P Q i' k)) → ∀ u4 u5, Gw G d mX12_farOf 2 [.ref (ga G 273), .int (nI n), .int (nI q), .int (nI i), u4, u5] [] m' (Qi K) := by
    intro e
    induction e with
    | zero =>
      intro i hi m' e1 e2 u4 u5
      refine vX12_farOf_2 G d (nI n) (nI q) (nI i) u4 u5 m' K ⟨fun _ => ?_, fun c => absurd ((lt_nI (by omega) (by omega)).mpr (by omega)) c⟩
      rw [ix, tn_nI (by omega), e2 n q (by omega) (by omega)]
      exact ⟨in_nI (by omega) (by omega), hK m' e1⟩
    | succ e ih =>
      intro i hi m' e1 e2 u4 u5
      refine vX12_farOf_2 G d (nI n) (nI q) (nI i) u4 u5 m' K ⟨fun c => ?_, fun _ => ?_⟩
      · rw [lt_nI (by omega) (by omega)] at c
        omega
      · have k10 : ∀ f k, k + f = q + 1 → ∀ m' : Mem, (∀ c, c ≠ 289 → m'.1 c = m.1 c) → (∀ i' k, i' < i → k ≤ q → m'.1 289 (25 * i' + k) = nI (ed P Q i' k)) → (∀ k', k' < k → m'.1 289 (25 * i + k') = nI (ed P Q i k')) → ∀ u5, Gw G d mX12_farOf 10 [.ref (ga G 273), .int (nI n), .int (nI q), .int (nI i), .int (nI k), u5] [] m' (Qi K) := by
          intro f
          induction f with
          | zero =>
            intro k hk m' f1 f2 f3 u5
            refine vX12_farOf_10 G d (nI n) (nI q) (nI i) (nI k) u5 m' K ⟨fun _ => ?_, fun c => absurd ((lt_nI (by omega) (by omega)).mpr (by omega)) c⟩
            rintro _ rfl
            rw [nI_1]
            refine ih (i + 1) (by omega) m' f1 (fun i' k' h1 h2 => ?_) _ _
            by_cases e : i' = i
            · rw [e]; exact f3 k' (by omega)
            · exact f2 i' k' (by omega) h2
          | succ f ih2 =>
            intro k hk m' f1 f2 f3 u5
            have leaf : ∀ x : Int32, x = nI (ed P Q i k) → (vp_in (((25 : Int32) * nI i) + nI k) 625 ∧ ∀ m3 : Mem, m3 = wI m' 289 (((25 : Int32) * nI i) + nI k).toNatClampNeg x → ∀ x4 : Int32, x4 = nI k + 1 → Gw G d mX12_farOf 10 [.ref (ga G 273), .int (nI n), .int (nI q), .int (nI i), .int x4, .int x] [] m3 (Qi K)) := by
              intro x hx
              rw [ix]
              refine ⟨in_nI (by omega) (by omega), ?_⟩
              rintro _ rfl _ rfl
              rw [nI_1, tn_nI (by omega)]
              refine ih2 (k + 1) (by omega) _ (fun c hc => by rw [wI_n _ _ _ hc, f1 c hc]) (fun i' k' h1 h2 => ?_) (fun k' h1 => ?_) _
              · rw [wI_s, upd_n _ _ (by omega)]
                exact f2 i' k' h1 h2
              · rw [wI_s]
                by_cases e : k' = k
                · rw [e, upd_s]; exact hx
                · rw [upd_n _ _ (by omega)]; exact f3 k' (by omega)
            have nlt : ¬ nI q < nI k := fun c => by rw [lt_nI (by omega) (by omega)] at c; omega
            rcases i with _ | i
            · refine vX12_farOf_10 G d (nI n) (nI q) (nI 0) (nI k) u5 m' K ⟨fun c => absurd c nlt, fun _ => ⟨fun c => absurd rfl c, fun _ => ⟨fun _ => leaf _ ?_, fun c => absurd (by decide) c⟩⟩⟩
              rw [ed_0]
            · have ni : ¬ nI (i + 1) = 0 := fun c => by have := (eq_nI (b := 0) (by omega) (by omega)).mp c; omega
              have nil : ¬ nI (i + 1) ≤ 0 := fun c => by have := (le_nI (b := 0) (by omega) (by omega)).mp c; omega
              rcases k with _ | k
              · refine vX12_farOf_10 G d (nI n) (nI q) (nI (i + 1)) (nI 0) u5 m' K ⟨fun c => absurd c nlt, fun _ => ⟨fun _ => ⟨fun c => absurd rfl c, fun _ => ⟨fun c => absurd c nil, fun _ => ⟨fun _ => leaf _ ?_, fun c => absurd (by decide) c⟩⟩⟩, fun c => absurd c ni⟩⟩
                rw [ed_s0]
              · have nk : ¬ nI (k + 1) = 0 := fun c => by have := (eq_nI (b := 0) (by omega) (by omega)).mp c; omega
                have nkl : ¬ nI (k + 1) ≤ 0 := fun c => by have := (le_nI (b := 0) (by omega) (by omega)).mp c; omega
                have e1 : nI (i + 1) - 1 = nI i := sub_nI (a := i + 1) (b := 1) (by omega)
                have e2 : nI (k + 1) - 1 = nI k := sub_nI (a := k + 1) (b := 1) (by omega)
                have g1 : ((25 : Int32) * (nI (i + 1) - 1) + nI (k + 1)) - 1 = nI (25 * i + k) := by
                  rw [e1, ix]; exact sub_nI (a := 25 * i + (k + 1)) (b := 1) (by omega)
                have g2 : (25 : Int32) * (nI (i + 1) - 1) + nI (k + 1) = nI (25 * i + (k + 1)) := by rw [e1, ix]
                have g3 : ((25 : Int32) * nI (i + 1) + nI (k + 1)) - 1 = nI (25 * (i + 1) + k) := by
                  rw [ix]; exact sub_nI (a := 25 * (i + 1) + (k + 1)) (b := 1) (by omega)
                have h1 : m'.1 289 (((25 : Int32) * (nI (i + 1) - 1) + nI (k + 1)) - 1).toNatClampNeg = nI (ed P Q i k) := by rw [g1, tn_nI (by omega)]; exact f2 i k (by omega) (by omega)
                have h2 : m'.1 289 ((25 : Int32) * (nI (i + 1) - 1) + nI (k + 1)).toNatClampNeg = nI (ed P Q i (k + 1)) := by rw [g2, tn_nI (by omega)]; exact f2 i (k + 1) (by omega) (by omega)
                have h3 : m'.1 289 (((25 : Int32) * nI (i + 1) + nI (k + 1)) - 1).toNatClampNeg = nI (ed P Q (i + 1) k) := by rw [g3, tn_nI (by omega)]; exact f3 k (by omega)
                have v1 : vp_in (((25 : Int32) * (nI (i + 1) - 1) + nI (k + 1)) - 1) 625 := by rw [g1]; exact in_nI (by omega) (by omega)
                have v2 : vp_in ((25 : Int32) * (nI (i + 1) - 1) + nI (k + 1)) 625 := by rw [g2]; exact in_nI (by omega) (by omega)
                have v3 : vp_in (((25 : Int32) * nI (i + 1) + nI (k + 1)) - 1) 625 := by rw [g3]; exact in_nI (by omega) (by omega)
                have p1 : m'.1 287 (nI (i + 1) - 1).toNatClampNeg = P i := by rw [e1, tn_nI (by omega), f1 287 (by omega)]; exact hP i (by omega)
                have p2 : m'.1 288 (nI (k + 1) - 1).toNatClampNeg = Q k := by rw [e2, tn_nI (by omega), f1 288 (by omega)]; exact hQ k (by omega)
                have b1 := ed_le P Q i k
                have b2 := ed_le P Q i (k + 1)
                have b3 := ed_le P Q (i + 1) k
                have es := ed_ss P Q i k
                refine vX12_farOf_10 G d (nI n) (nI q) (nI (i + 1)) (nI (k + 1)) u5 m' K ⟨fun c => absurd c nlt, fun _ => ⟨fun _ => ⟨fun _ => ⟨v1, by rw [e1]; exact in_nI (by omega) (by omega), by rw [e2]; exact in_nI (by omega) (by omega), fun c => ?_, fun c => ?_⟩, fun c => absurd c nk⟩, fun c => absurd c ni⟩⟩
                · rw [p1, p2] at c
                  rw [if_neg c] at es
                  rw [h1, h2, h3, nI_1 (ed P Q i k), nI_1 (ed P Q i (k + 1)), nI_1 (ed P Q (i + 1) k)]
                  rintro _ rfl
                  refine ⟨fun c => absurd c nil, fun _ => ⟨fun c => absurd c nkl, fun _ => ⟨v2, fun c1 => ⟨v3, fun c2 => leaf _ ?_, fun c2 => ⟨v3, ?_⟩⟩, fun c1 => ⟨v2, ?_⟩⟩⟩⟩
                  · rw [le_nI (by omega) (by omega)] at c1 c2
                    rw [es]; exact congrArg nI (by omega)
                  · rw [le_nI (by omega) (by omega)] at c1 c2
                    rintro _ rfl
                    refine leaf _ ?_
                    rw [es]; exact congrArg nI (by omega)
                  · rw [le_nI (by omega) (by omega)] at c1
                    rintro _ rfl
                    refine ⟨v3, fun c2 => leaf _ ?_, fun c2 => ⟨v3, ?_⟩⟩
                    · rw [le_nI (by omega) (by omega)] at c2
                      rw [es]; exact congrArg nI (by omega)
                    · rw [le_nI (by omega) (by omega)] at c2
                      rintro _ rfl
                      refine leaf _ ?_
                      rw [es]; exact congrArg nI (by omega)
                · rw [p1, p2] at c
                  rw [if_pos c] at es
                  rw [h1, h2, h3, nI_1 (ed P Q i (k + 1)), nI_1 (ed P Q (i + 1) k), show nI (ed P Q i k) + 0 = nI (ed P Q i k) by simp]
                  rintro _ rfl
                  refine ⟨fun c => absurd c nil, fun _ => ⟨fun c => absurd c nkl, fun _ => ⟨v2, fun c1 => ⟨v3, fun c2 => leaf _ ?_, fun c2 => ⟨v3, ?_⟩⟩, fun c1 => ⟨v2, ?_⟩⟩⟩⟩
                  · rw [le_nI (by omega) (by omega)] at c1 c2
                    rw [es]; exact congrArg nI (by omega)
                  · rw [le_nI (by omega) (by omega)] at c1 c2
                    rintro _ rfl
                    refine leaf _ ?_
                    rw [es]; exact congrArg nI (by omega)
                  · rw [le_nI (by omega) (by omega)] at c1
                    rintro _ rfl
                    refine ⟨v3, fun c2 => leaf _ ?_, fun c2 => ⟨v3, ?_⟩⟩
                    · rw [le_nI (by omega) (by omega)] at c2
                      rw [es]; exact congrArg nI (by omega)
                    · rw [le_nI (by omega) (by omega)] at c2
                      rintro _ rfl
                      refine leaf _ ?_
                      rw [es]; exact congrArg nI (by omega)
        exact k10 (q + 1) 0 (by omega) m' e1 e2 (fun k' h => by omega) _
  exact k2 (n + 1) 0 (by omega) m (fun _ _ => rfl) (fun i' k h _ => by omega) _ _
