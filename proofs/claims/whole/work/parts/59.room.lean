/-! bells: newBell, farthest -/
theorem imin_nI {a b : Nat} (ha : a < 2147483648) (hb : b < 2147483648) : imin (nI a) (nI b) = nI (min a b) := by
  unfold imin
  by_cases h : b < a
  · rw [if_pos ((lt_nI hb ha).mpr h), Nat.min_eq_right (by omega)]
  · rw [if_neg (fun q => h ((lt_nI hb ha).mp q)), Nat.min_eq_left (by omega)]
theorem imax_nI {a b : Nat} (ha : a < 2147483648) (hb : b < 2147483648) : imax (nI a) (nI b) = nI (max a b) := by
  unfold imax
  by_cases h : a < b
  · rw [if_pos ((lt_nI ha hb).mpr h), Nat.max_eq_right (by omega)]
  · rw [if_neg (fun q => h ((lt_nI ha hb).mp q)), Nat.max_eq_left (by omega)]
theorem iabs_nI : ∀ a, a < 10 → ∀ b, b < 10 → iabs (nI a - nI b) = nI ((a - b) + (b - a)) := by decide +kernel
def roomV (q : Nat → Nat) (p N : Nat) : Nat := fold (fun b s => min s ((q b - p) + (p - q b))) 0 N 10
theorem foldmin_le (h : Nat → Nat) : ∀ (k i s : Nat), s ≤ 10 → fold (fun b s => min s (h b)) i k s ≤ 10
  | 0, _, _, hs => hs
  | k + 1, i, s, hs => foldmin_le h k (i + 1) _ (by show min s (h i) ≤ 10; omega)
theorem roomV_le (q : Nat → Nat) (p N : Nat) : roomV q p N ≤ 10 := foldmin_le (fun b => (q b - p) + (p - q b)) N 0 10 (by omega)
theorem qX2_room (G : GP) (d : Nat) (p : Nat) (hp : p < 10) (m : Mem) (K : Int32 → Mem → Prop) (N : Nat) (q : Nat → Nat) (hN : m.1 2 0 = nI N) (h6 : N ≤ 6) (hq : ∀ b, b < N → q b < 10 ∧ m.1 4 b = nI (q b)) (hK : K (nI (roomV q p N)) m) : Evi G (d + 1) mX2_roomAround [.ref (ga G 2), .int (nI p)] m K := by
  refine vX2_roomAround G d (nI p) m K ?_
  refine loopI (P := fun i (s : Nat) => Gw G (d + 1) mX2_roomAround 5 [.ref (ga G 2), .int (nI p), .int (nI s), .int (nI i)] [] m (Qi K)) (fun _ s => s ≤ 10) (fun b s => min s ((q b - p) + (p - q b))) N ?_ N 0 10 (by omega) (by omega) (fun _ => ?_)
  · intro i s hi hs
    refine ⟨by omega, fun hP => vX2_roomAround_5 G d (nI p) (nI s) (nI i) m K ⟨fun hc => ?_, fun _ => ⟨in_nI (by omega) (by omega), ?_⟩⟩⟩
    · rw [hN, le_nI (by omega) (by omega)] at hc
      omega
    · rintro _ rfl _ rfl
      obtain ⟨h1, h2⟩ := hq i hi
      rw [tn_nI (by omega), h2, iabs_nI _ h1 _ hp, imin_nI (by omega) (by omega), nI_1]
      exact hP
  · refine vX2_roomAround_5 G d (nI p) _ (nI N) m K ⟨fun _ => hK, fun hc => absurd ?_ hc⟩
    rw [hN]
    exact (le_nI (by omega) (by omega)).mpr (Nat.le_refl _)
theorem qX12_room (G : GP) (d : Nat) (p : Nat) (hp : p < 10) (m : Mem) (K : Int32 → Mem → Prop) (N : Nat) (q : Nat → Nat) (hN : m.1 274 0 = nI N) (h6 : N ≤ 6) (hq : ∀ b, b < N → q b < 10 ∧ m.1 274 (17 + 3 * b) = nI (q b)) (hK : K (nI (roomV q p N)) m) : Evi G (d + 1) mX12_farFrom [.ref (ga G 273), .int (nI p)] m K := by
  refine vX12_farFrom G d (nI p) m K ?_
  refine loopI (P := fun i (s : Nat) => ∀ u, Gw G (d + 1) mX12_farFrom 5 [.ref (ga G 273), .int (nI p), .int (nI s), .int (nI i), u] [] m (Qi K)) (fun _ s => s ≤ 10) (fun b s => min s ((q b - p) + (p - q b))) N ?_ N 0 10 (by omega) (by omega) (fun _ u => ?_) uu
  · intro i s hi hs
    refine ⟨by omega, fun hP u => ?_⟩
    obtain ⟨h1, h2⟩ := hq i hi
    have e : ((16 : Int32) + (3 : Int32) * nI i) + 1 = nI (17 + 3 * i) := by
      simp only [lit, pk_mul, nI_add]
      exact congrArg nI (by omega)
    have hv : vp_in (((16 : Int32) + (3 : Int32) * nI i) + 1) 5968 := by rw [e]; exact in_nI (by omega) (by omega)
    refine vX12_farFrom_5 G d (nI p) (nI s) (nI i) u m K ⟨fun hc => ?_, fun _ => ⟨hv, fun hc => ⟨hv, ?_⟩, fun hc => ⟨hv, ?_⟩⟩⟩
    · rw [hN, le_nI (by omega) (by omega)] at hc
      omega
    all_goals
      rw [e, tn_nI (by omega), h2, le_nI (by omega) (by omega)] at hc
      rintro _ rfl
      rw [e, tn_nI (by omega), h2, sub_nI (by omega)]
      refine ⟨fun hs2 => ?_, fun hs2 => ?_⟩
      all_goals
        rw [le_nI (by omega) (by omega)] at hs2
        rintro _ rfl
        rw [nI_1]
    · rw [show min s ((q i - p) + (p - q i)) = s by omega] at hP
      exact hP _
    · rw [show min s ((q i - p) + (p - q i)) = q i - p by omega] at hP
      exact hP _
    · rw [show min s ((q i - p) + (p - q i)) = s by omega] at hP
      exact hP _
    · rw [show min s ((q i - p) + (p - q i)) = p - q i by omega] at hP
      exact hP _
  · refine vX12_farFrom_5 G d (nI p) _ (nI N) u m K ⟨fun _ => hK, fun hc => absurd ?_ hc⟩
    rw [hN]
    exact (le_nI (by omega) (by omega)).mpr (Nat.le_refl _)
theorem kC_room (G : GP) (d : Nat) (p : Nat) (hp : p < 10) (m : Mem) (K : Int32 → Mem → Prop) (a : Nat → Int32) (r : RC m.1 0 a) (h : WF a) (hK : K (nI (roomV (fun b => tn (a (17 + 3 * b))) p (tn (a 0)))) m) : Evi G (d + 1) mX2_roomAround [.ref (ga G 2), .int (nI p)] m K := by
  obtain ⟨e1, -, e3⟩ := h.nb.is (by omega)
  refine qX2_room G d p hp m K _ _ (r.nb.trans e1) e3 (fun b hb => ?_) hK
  obtain ⟨f1, -, f3⟩ := (h.pitch b hb).is (by omega)
  exact ⟨by omega, (r.pitch b hb).trans f1⟩
theorem qM_room (G : GP) (d : Nat) (p : Nat) (hp : p < 10) (m : Mem) (K : Int32 → Mem → Prop) (h : WF (m.1 274)) (hK : K (nI (roomV (fun b => tn (m.1 274 (17 + 3 * b))) p (tn (m.1 274 0)))) m) : Evi G (d + 1) mX12_farFrom [.ref (ga G 273), .int (nI p)] m K := by
  obtain ⟨e1, -, e3⟩ := h.nb.is (by omega)
  refine qX12_room G d p hp m K _ _ e1 e3 (fun b hb => ?_) hK
  obtain ⟨f1, -, f3⟩ := (h.pitch b hb).is (by omega)
  exact ⟨by omega, f1⟩
theorem case_newBell (G : GP) (d : Nat) {TX : (Nat → Nat → Int32) → Prop} {n : Nat} (a0 : Int32) (m : Mem) (h : Inv TX n m.1) : Evi G (d + 2) mX11_newBell [.ref (ga G 0), .int a0] m (Same G TX n (d + 2) mX12_newBell [.int a0]) := by
  have hR := h.2.2.1
  have hW := h.1
  refine vX11_newBell G d a0 m _ ⟨fun hc => ?_, fun hc => ?_⟩
  · obtain ⟨k, h1, h2, rfl⟩ := bd_of (lo := 1) (hi := 9) hc.1 hc.2 (by omega) (by omega)
    have key : ∀ i, i ≤ 10 → ∀ r, Gw G (d + 2) mX12_newBell 2 [.ref (ga G 273), .int (nI k), .int (nI i)] [] m (Qi (fun r' m2 => r = r' ∧ Inv TX (n + 1) m2.1)) → Same G TX n (d + 2) mX12_newBell [.int (nI k)] r m ∨ ∃ j, j < i ∧ ¬ roomV (fun b => tn (m.1 274 (17 + 3 * b))) j (tn (m.1 274 0)) < k := by
      intro i hi r hg
      by_cases hj : ∃ j, j < i ∧ ¬ roomV (fun b => tn (m.1 274 (17 + 3 * b))) j (tn (m.1 274 0)) < k
      · exact Or.inr hj
      · refine Or.inl (vX12_newBell G d (nI k) m _ ?_)
        have : ∀ e, e ≤ i → Gw G (d + 2) mX12_newBell 2 [.ref (ga G 273), .int (nI k), .int (nI (i - e))] [] m (Qi (fun r' m2 => r = r' ∧ Inv TX (n + 1) m2.1)) := by
          intro e
          induction e with
          | zero => intro _; exact hg
          | succ e ih =>
            intro he
            have ih := ih (by omega)
            refine vX12_newBell_2 G d (nI k) (nI (i - (e + 1))) m _ ⟨fun q => ?_, fun _ => ⟨fun _ => ?_, fun q => absurd hc q⟩⟩
            · have q := (le_nI (a := 10) (by omega) (by omega)).mp q
              omega
            · refine qM_room G d _ (by omega) m _ hW ⟨fun _ => ?_, fun q => ?_⟩
              · rintro _ rfl
                rw [nI_1, show i - (e + 1) + 1 = i - e by omega]
                exact ih
              · exfalso
                have := roomV_le (fun b => tn (m.1 274 (17 + 3 * b))) (i - (e + 1)) (tn (m.1 274 0))
                rw [lt_nI (by omega) (by omega)] at q
                exact hj ⟨_, by omega, q⟩
        have := this i (Nat.le_refl _)
        rw [Nat.sub_self] at this
        exact this
    have : ∀ e i, i + e = 10 → (∀ j, j < i → roomV (fun b => tn (m.1 274 (17 + 3 * b))) j (tn (m.1 274 0)) < k) → Gw G (d + 2) mX11_newBell 14 [.ref (ga G 0), .int (nI k), .int (nI i)] [] m (Qi (Same G TX n (d + 2) mX12_newBell [.int (nI k)])) := by
      intro e
      induction e with
      | zero =>
        intro i hi hj
        refine vX11_newBell_14 G d (nI k) (nI i) m _ ⟨fun _ => ?_, fun q => absurd ((lt_nI (a := 9) (by omega) (by omega)).mpr (by omega)) q⟩
        refine (key i (by omega) (-1) ?_).elim (fun h1 => h1) (fun ⟨j, h1, h2⟩ => absurd (hj j h1) h2)
        · exact vX12_newBell_2 G d (nI k) (nI i) m _ ⟨fun _ => ⟨rfl, h.idle⟩, fun q => absurd ((le_nI (a := 10) (by omega) (by omega)).mpr (by omega)) q⟩
      | succ e ih =>
        intro i hi hj
        refine vX11_newBell_14 G d (nI k) (nI i) m _ ⟨fun q => ?_, fun _ => ?_⟩
        · have q := (lt_nI (a := 9) (by omega) (by omega)).mp q
          omega
        · refine kC_room G d i (by omega) m _ (m.1 274) hR hW ⟨fun q => ?_, fun q => ?_⟩
          · have hle := roomV_le (fun b => tn (m.1 274 (17 + 3 * b))) i (tn (m.1 274 0))
            rw [lt_nI (by omega) (by omega)] at q
            rintro _ rfl
            rw [nI_1]
            refine ih (i + 1) (by omega) (fun j h1 => ?_)
            by_cases e : j = i
            · rw [e]; exact q
            · exact hj j (by omega)
          · refine (key i (by omega) (nI i) ?_).elim (fun h1 => h1) (fun ⟨j, h1, h2⟩ => absurd (hj j h1) h2)
            · refine vX12_newBell_2 G d (nI k) (nI i) m _ ⟨fun q => ?_, fun _ => ⟨fun _ => ?_, fun q => absurd hc q⟩⟩
              · have q := (le_nI (a := 10) (by omega) (by omega)).mp q
                omega
              · exact qM_room G d _ (by omega) m _ hW ⟨fun q2 => absurd q2 q, fun _ => ⟨rfl, h.idle⟩⟩
    exact this 10 0 (by omega) (fun j hj => by omega)
  · refine vX12_newBell G d a0 m _ ?_
    exact vX12_newBell_2 G d a0 0 m _ ⟨fun q => absurd q (by decide), fun _ => ⟨fun q => absurd q hc, fun _ => ⟨rfl, h.idle⟩⟩⟩
def farV (a : Nat → Int32) (N : Nat) : Nat := fold (fun p s => max s (roomV (fun b => tn (a (17 + 3 * b))) p (tn (a 0)))) 0 N 0
theorem case_farthest (G : GP) (d : Nat) {TX : (Nat → Nat → Int32) → Prop} {n : Nat} (m : Mem) (h : Inv TX n m.1) : Evi G (d + 2) mX11_farthest [.ref (ga G 0)] m (Same G TX n (d + 2) mX12_farthest []) := by
  have hR := h.2.2.1
  have hW := h.1
  refine vX11_farthest G d m _ ?_
  refine loopI (P := fun i (s : Nat) => Gw G (d + 2) mX11_farthest 4 [.ref (ga G 0), .int (nI s), .int (nI i)] [] m (Qi (Same G TX n (d + 2) mX12_farthest []))) (fun _ s => s ≤ 10) (fun p s => max s (roomV (fun b => tn (m.1 274 (17 + 3 * b))) p (tn (m.1 274 0)))) 10 ?_ 10 0 0 (by omega) (by omega) (fun _ => ?_)
  · intro i s hi hs
    have hle := roomV_le (fun b => tn (m.1 274 (17 + 3 * b))) i (tn (m.1 274 0))
    refine ⟨by omega, fun hP => vX11_farthest_4 G d (nI s) (nI i) m _ ⟨fun q => ?_, fun _ => ?_⟩⟩
    · have q := (lt_nI (a := 9) (by omega) (by omega)).mp q
      omega
    · refine kC_room G d i (by omega) m _ (m.1 274) hR hW ?_
      rintro _ rfl _ rfl
      rw [imax_nI (by omega) (by omega), nI_1]
      exact hP
  · refine vX11_farthest_4 G d _ (nI 10) m _ ⟨fun _ => ?_, fun q => absurd (by decide) q⟩
    refine vX12_farthest G d m _ ?_
    generalize hv : fold (fun p s => max s (roomV (fun b => tn (m.1 274 (17 + 3 * b))) p (tn (m.1 274 0)))) 0 10 0 = v
    refine loopI (P := fun i (s : Nat) => Gw G (d + 2) mX12_farthest 4 [.ref (ga G 273), .int (nI s), .int (nI i)] [] m (Qi (fun r' m2 => nI v = r' ∧ Inv TX (n + 1) m2.1))) (fun _ s => s ≤ 10) (fun p s => max s (roomV (fun b => tn (m.1 274 (17 + 3 * b))) p (tn (m.1 274 0)))) 10 ?_ 10 0 0 (by omega) (by omega) (fun _ => ?_)
    · intro i s hi hs
      have hle := roomV_le (fun b => tn (m.1 274 (17 + 3 * b))) i (tn (m.1 274 0))
      refine ⟨by omega, fun hP => vX12_farthest_4 G d (nI s) (nI i) m _ ⟨fun q => ?_, fun _ => ?_⟩⟩
      · have q := (le_nI (a := 10) (by omega) (by omega)).mp q
        omega
      · refine qM_room G d i (by omega) m _ hW ⟨fun q => ?_, fun q => ?_⟩
        · rintro _ rfl
          rw [le_nI (by omega) (by omega)] at q
          rw [Nat.max_eq_left (by omega)] at hP
          rw [nI_1]
          exact hP
        · refine qM_room G d i (by omega) m _ hW ?_
          rintro _ rfl
          rw [le_nI (by omega) (by omega)] at q
          rw [Nat.max_eq_right (by omega)] at hP
          rw [nI_1]
          exact hP
    · rw [hv]
      exact vX12_farthest_4 G d _ (nI 10) m _ ⟨fun _ => ⟨rfl, h.idle⟩, fun q => absurd (by decide) q⟩
