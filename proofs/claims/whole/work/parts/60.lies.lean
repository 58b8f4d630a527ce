/-! two towers: lies -/
theorem WF.tl0 {a : Nat → Int32} (h : WF a) : bd (a 6) 0 12 := h.tl 0 (by omega)
theorem WF.tl1 {a : Nat → Int32} (h : WF a) : bd (a 7) 0 12 := h.tl 1 (by omega)
def runV (e : Nat → Bool) : Nat → Nat → Nat
  | 0, n => n
  | f + 1, n => if e n then runV e f (n + 1) else n
theorem runV_le (e : Nat → Bool) : ∀ f n, n ≤ runV e f n ∧ runV e f n ≤ n + f
  | 0, n => ⟨Nat.le_refl _, Nat.le_refl _⟩
  | f + 1, n => by
    have := runV_le e f (n + 1)
    unfold runV
    split <;> omega
def runT (a : Nat → Int32) (i k : Nat) : Nat := runV (fun n => decide (a (140 + i + n) = a (152 + k + n))) (min (tn (a 6) - i) (tn (a 7) - k)) 0
theorem runT_le (a : Nat → Int32) (i k : Nat) : runT a i k ≤ tn (a 6) - i ∧ runT a i k ≤ tn (a 7) - k := by
  have := runV_le (fun n => decide (a (140 + i + n) = a (152 + k + n))) (min (tn (a 6) - i) (tn (a 7) - k)) 0
  unfold runT
  omega
theorem qX12_run (G : GP) (d : Nat) (i k : Nat) (m : Mem) (K : Int32 → Mem → Prop) (h : WF (m.1 274)) (hi : i ≤ tn (m.1 274 6)) (hk : k ≤ tn (m.1 274 7)) (hK : K (nI (runT (m.1 274) i k)) m) : Evi G d mX12_runFrom [.ref (ga G 273), .int (nI i), .int (nI k)] m K := by
  obtain ⟨e6, -, l6⟩ := h.tl0.is (by omega)
  obtain ⟨e7, -, l7⟩ := h.tl1.is (by omega)
  refine vX12_runFrom G d (nI i) (nI k) m K ?_
  have key : ∀ f n, n + f = min (tn (m.1 274 6) - i) (tn (m.1 274 7) - k) → K (nI (runV (fun n => decide (m.1 274 (140 + i + n) = m.1 274 (152 + k + n))) f n)) m → Gw G d mX12_runFrom 2 [.ref (ga G 273), .int (nI i), .int (nI k), .int (nI n)] [] m (Qi K) := by
    intro f
    induction f with
    | zero =>
      intro n hn hK
      refine vX12_runFrom_2 G d (nI i) (nI k) (nI n) m K ⟨fun _ => hK, fun q => ⟨fun _ => hK, fun q2 => ?_⟩⟩
      exfalso
      rw [e6, nI_add, le_nI (by omega) (by omega)] at q
      rw [e7, nI_add, le_nI (by omega) (by omega)] at q2
      omega
    | succ f ih =>
      intro n hn hK
      have c1 : ((140 : Int32) + nI i) + nI n = nI (140 + i + n) := by simp only [lit, nI_add]
      have c2 : ((152 : Int32) + nI k) + nI n = nI (152 + k + n) := by simp only [lit, nI_add]
      unfold runV at hK
      refine vX12_runFrom_2 G d (nI i) (nI k) (nI n) m K ⟨fun q => ?_, fun _ => ⟨fun q => ?_, fun _ => ⟨by rw [c1]; exact in_nI (by omega) (by omega), by rw [c2]; exact in_nI (by omega) (by omega), fun q => ?_, fun q => ?_⟩⟩⟩
      · exfalso
        rw [e6, nI_add, le_nI (by omega) (by omega)] at q
        omega
      · exfalso
        rw [e7, nI_add, le_nI (by omega) (by omega)] at q
        omega
      · rw [c1, c2, tn_nI (by omega), tn_nI (by omega)] at q
        rw [if_neg (by simpa using q)] at hK
        exact hK
      · rw [c1, c2, tn_nI (by omega), tn_nI (by omega)] at q
        rw [if_pos (by simpa using q)] at hK
        rintro _ rfl
        rw [nI_1]
        exact ih (n + 1) (by omega) hK
  exact key _ 0 (by omega) hK
theorem kC_runAt (G : GP) (d : Nat) (i k : Nat) (m : Mem) (a : Nat → Int32) (K : Int32 → Mem → Prop) (r : RC m.1 0 a) (h : WF a) (hi : i ≤ tn (a 6)) (hk : k ≤ tn (a 7)) (hK : K (nI (runT a i k)) m) : Evi G (d + 1) mX9_runAt [.ref (ga G 107), .int (nI i), .int (nI k)] m K := by
  obtain ⟨e6, -, l6⟩ := h.tl0.is (by omega)
  obtain ⟨e7, -, l7⟩ := h.tl1.is (by omega)
  have f6 : m.1 112 0 = nI (tn (a 6)) := (r.tl 0 (by omega)).trans e6
  have f7 : m.1 112 1 = nI (tn (a 7)) := (r.tl 1 (by omega)).trans e7
  refine vX9_runAt G d (nI i) (nI k) m K ?_
  rintro _ rfl
  rw [f6, f7, sub_nI hi, sub_nI hk, imin_nI (by omega) (by omega)]
  have key : ∀ f n, n + f = min (tn (a 6) - i) (tn (a 7) - k) → K (nI (runV (fun n => decide (a (140 + i + n) = a (152 + k + n))) f n)) m → Gw G (d + 1) mX9_runAt 23 [.ref (ga G 107), .int (nI i), .int (nI k), .int (nI (min (tn (a 6) - i) (tn (a 7) - k))), .int (nI n)] [] m (Qi K) := by
    intro f
    induction f with
    | zero =>
      intro n hn hK
      refine vX9_runAt_23 G d (nI i) (nI k) _ (nI n) m K ⟨fun _ => hK, fun q => absurd ?_ q⟩
      exact (le_nI (by omega) (by omega)).mpr (by omega)
    | succ f ih =>
      intro n hn hK
      have c1 : nI i + nI n = nI (i + n) := nI_add _ _
      have c2 : ((12 : Int32) + nI k) + nI n = nI (12 + k + n) := by simp only [lit, nI_add]
      have d1 : m.1 113 (i + n) = a (140 + i + n) := by
        have := r.tow 0 (i + n) (by omega) (by rw [Nat.add_zero]; omega)
        rw [Nat.mul_zero, Nat.zero_add, Nat.add_zero, Nat.add_zero] at this
        rw [this, Nat.add_assoc]
      have d2 : m.1 113 (12 + k + n) = a (152 + k + n) := by
        have := r.tow 1 (k + n) (by omega) (show k + n < tn (a 7) by omega)
        rw [Nat.mul_one, Nat.add_zero] at this
        rw [Nat.add_assoc, this, Nat.add_assoc 152]
      unfold runV at hK
      refine vX9_runAt_23 G d (nI i) (nI k) _ (nI n) m K ⟨fun q => ?_, fun _ => ⟨by rw [c1]; exact in_nI (by omega) (by omega), by rw [c2]; exact in_nI (by omega) (by omega), fun q => ?_, fun q => ?_⟩⟩
      · exfalso
        rw [le_nI (by omega) (by omega)] at q
        omega
      · rw [c1, c2, tn_nI (by omega), tn_nI (by omega), d1, d2] at q
        rw [if_neg (by simpa using q)] at hK
        exact hK
      · rw [c1, c2, tn_nI (by omega), tn_nI (by omega), d1, d2] at q
        rw [if_pos (by simpa using q)] at hK
        rintro _ rfl
        rw [nI_1]
        exact ih (n + 1) (by omega) hK
  exact key _ 0 (by omega) hK
def lieV (a : Nat → Int32) : Int32 := if runT a 0 0 < min (tn (a 6)) (tn (a 7)) then nI (runT a 0 0) else if tn (a 6) = tn (a 7) then -1 else nI (runT a 0 0)
theorem kC_firstLie (G : GP) (d : Nat) (m : Mem) (a : Nat → Int32) (K : Int32 → Mem → Prop) (r : RC m.1 0 a) (h : WF a) (hK : K (lieV a) m) : Evi G (d + 1) mX9_firstLie [.ref (ga G 107)] m K := by
  obtain ⟨e6, -, l6⟩ := h.tl0.is (by omega)
  obtain ⟨e7, -, l7⟩ := h.tl1.is (by omega)
  have f6 : m.1 112 0 = nI (tn (a 6)) := (r.tl 0 (by omega)).trans e6
  have f7 : m.1 112 1 = nI (tn (a 7)) := (r.tl 1 (by omega)).trans e7
  refine vX9_firstLie G d m K ?_
  rintro _ rfl
  rw [f6, f7, imin_nI (by omega) (by omega)]
  have key : ∀ f n, n + f = min (tn (a 6)) (tn (a 7)) → runT a 0 0 = runV (fun n => decide (a (140 + 0 + n) = a (152 + 0 + n))) f n → Gw G (d + 1) mX9_firstLie 18 [.ref (ga G 107), .int (nI (min (tn (a 6)) (tn (a 7)))), .int (nI n)] [] m (Qi K) := by
    intro f
    induction f with
    | zero =>
      intro n hn hr
      have hr : runT a 0 0 = n := hr
      unfold lieV at hK
      refine vX9_firstLie_18 G d _ (nI n) m K ⟨fun _ => ⟨fun q => ?_, fun q => ?_⟩, fun q => absurd ((le_nI (by omega) (by omega)).mpr (by omega)) q⟩
      · rw [f6, f7, eq_nI (by omega) (by omega)] at q
        rw [if_neg (by omega), if_neg q, hr, show n = min (tn (a 6)) (tn (a 7)) by omega] at hK
        exact hK
      · rw [f6, f7, eq_nI (by omega) (by omega)] at q
        rw [if_neg (by omega), if_pos q] at hK
        exact hK
    | succ f ih =>
      intro n hn hr
      have c2 : ((12 : Int32) + nI n) = nI (12 + n) := by simp only [lit, nI_add]
      have d1 : m.1 113 n = a (140 + 0 + n) := by
        have := r.tow 0 n (by omega) (by rw [Nat.add_zero]; omega)
        rw [Nat.mul_zero, Nat.zero_add, Nat.add_zero, Nat.add_zero] at this
        exact this
      have d2 : m.1 113 (12 + n) = a (152 + 0 + n) := r.tow 1 n (by omega) (show n < tn (a 7) by omega)
      unfold runV at hr
      refine vX9_firstLie_18 G d _ (nI n) m K ⟨fun q => ?_, fun _ => ⟨in_nI (by omega) (by omega), by rw [c2]; exact in_nI (by omega) (by omega), fun q => ?_, fun q => ?_⟩⟩
      · exfalso
        rw [le_nI (by omega) (by omega)] at q
        omega
      · rw [c2, tn_nI (by omega), tn_nI (by omega), d1, d2] at q
        rw [if_pos (by simpa using q)] at hr
        rintro _ rfl
        rw [nI_1]
        exact ih (n + 1) (by omega) hr
      · rw [c2, tn_nI (by omega), tn_nI (by omega), d1, d2] at q
        rw [if_neg (by simpa using q)] at hr
        unfold lieV at hK
        rw [if_pos (by omega), hr] at hK
        exact hK
  exact key _ 0 (by omega) rfl
def longV (a : Nat → Int32) : Nat := fold (fun i s => fold (fun j s => max s (runT a i j)) 0 (tn (a 7)) s) 0 (tn (a 6)) 0
theorem fold_le {f : Nat → Nat → Nat} {B : Nat} (hf : ∀ i s, s ≤ B → f i s ≤ B) : ∀ (k i s : Nat), s ≤ B → fold f i k s ≤ B
  | 0, _, _, h => h
  | k + 1, i, s, h => fold_le hf k (i + 1) (f i s) (hf i s h)
theorem kC_longest (G : GP) (d : Nat) (m : Mem) (a : Nat → Int32) (K : Int32 → Mem → Prop) (r : RC m.1 0 a) (h : WF a) (hK : K (nI (longV a)) m) : Evi G (d + 2) mX9_longestRun [.ref (ga G 107)] m K := by
  obtain ⟨e6, -, l6⟩ := h.tl0.is (by omega)
  obtain ⟨e7, -, l7⟩ := h.tl1.is (by omega)
  have f6 : m.1 112 0 = nI (tn (a 6)) := (r.tl 0 (by omega)).trans e6
  have f7 : m.1 112 1 = nI (tn (a 7)) := (r.tl 1 (by omega)).trans e7
  have hb : ∀ i j s, s ≤ 12 → max s (runT a i j) ≤ 12 := fun i j s hs => by have := runT_le a i j; omega
  refine vX9_longestRun G d m K ?_
  refine loopI (P := fun i (s : Nat) => ∀ u, Gw G (d + 2) mX9_longestRun 4 [.ref (ga G 107), .int (nI s), .int (nI i), u] [] m (Qi K)) (fun _ s => s ≤ 12) (fun i s => fold (fun j s => max s (runT a i j)) 0 (tn (a 7)) s) (tn (a 6)) ?_ (tn (a 6)) 0 0 (by omega) (by omega) (fun _ u => ?_) uu
  · intro i s hi hs
    refine ⟨fold_le (fun j s => hb i j s) _ _ _ hs, fun hP u => vX9_longestRun_4 G d (nI s) (nI i) u m K ⟨fun q => ?_, fun _ => ?_⟩⟩
    · rw [f6, le_nI (by omega) (by omega)] at q
      omega
    · refine loopI (P := fun j (s : Nat) => Gw G (d + 2) mX9_longestRun 16 [.ref (ga G 107), .int (nI s), .int (nI i), .int (nI j)] [] m (Qi K)) (fun _ s => s ≤ 12) (fun j s => max s (runT a i j)) (tn (a 7)) ?_ (tn (a 7)) 0 s (by omega) hs (fun _ => ?_)
      · intro j s hj hs
        refine ⟨hb i j s hs, fun hP => vX9_longestRun_16 G d (nI s) (nI i) (nI j) m K ⟨fun q => ?_, fun _ => ?_⟩⟩
        · rw [f7, le_nI (by omega) (by omega)] at q
          omega
        · refine kC_runAt G d i j m a _ r h (by omega) (by omega) ?_
          rintro _ rfl _ rfl
          have := runT_le a i j
          rw [imax_nI (by omega) (by omega), nI_1]
          exact hP
      · refine vX9_longestRun_16 G d _ (nI i) (nI (tn (a 7))) m K ⟨fun _ => ?_, fun q => absurd ?_ q⟩
        · rintro _ rfl
          rw [nI_1]
          exact hP _
        · rw [f7]
          exact (le_nI (by omega) (by omega)).mpr (Nat.le_refl _)
  · refine vX9_longestRun_4 G d _ _ u m K ⟨fun _ => hK, fun q => absurd ?_ q⟩
    rw [f6]
    exact (le_nI (by omega) (by omega)).mpr (Nat.le_refl _)
theorem case_lies (G : GP) (d : Nat) {TX : (Nat → Nat → Int32) → Prop} {n : Nat} (a0 : Int32) (m : Mem) (h : Inv TX n m.1) : Evi G (d + 3) mX11_lies [.ref (ga G 0), .int a0] m (Same G TX n (d + 3) mX12_lies [.int a0]) := by
  have r := h.2.2.1
  have hW := h.1
  obtain ⟨e6, -, l6⟩ := hW.tl0.is (by omega)
  obtain ⟨e7, -, l7⟩ := hW.tl1.is (by omega)
  have hrl := runT_le (m.1 274) 0 0
  refine vX11_lies G d a0 m _ ⟨fun q => ?_, fun q => ?_⟩
  · refine kC_firstLie G (d + 1) m (m.1 274) _ r hW ?_
    refine vX12_lies G (d + 2) a0 m _ (qX12_run G (d + 2) 0 0 m _ hW (by omega) (by omega) ⟨fun q2 => absurd q q2, fun _ => ?_⟩)
    rw [e6, e7]
    have h12 : tn (nI (tn (m.1 274 6))) = tn (m.1 274 6) := tn_nI (by omega)
    unfold lieV
    rw [eq_nI (by omega) (by omega), eq_nI (by omega) (by omega)]
    refine ⟨fun q1 => ⟨?_, h.idle⟩, fun q1 => ⟨fun q2 => ⟨?_, h.idle⟩, fun q2 => ⟨?_, h.idle⟩⟩⟩
    · by_cases c : runT (m.1 274) 0 0 < min (tn (m.1 274 6)) (tn (m.1 274 7))
      · rw [if_pos c]
      · rw [if_neg c, if_neg (by omega)]
    · by_cases c : runT (m.1 274) 0 0 < min (tn (m.1 274 6)) (tn (m.1 274 7))
      · rw [if_pos c]
      · rw [if_neg c, if_neg (by omega)]
    · rw [if_neg (by omega), if_pos (by omega)]
  · refine kC_longest G d m (m.1 274) _ r hW ?_
    refine vX12_lies G (d + 2) a0 m _ (qX12_run G (d + 2) 0 0 m _ hW (by omega) (by omega) ⟨fun _ => ?_, fun q2 => absurd q2 q⟩)
    have hb : ∀ i j s, s ≤ 12 → max s (runT (m.1 274) i j) ≤ 12 := fun i j s hs => by have := runT_le (m.1 274) i j; omega
    generalize hv : longV (m.1 274) = v
    refine loopI (P := fun i (s : Nat) => ∀ u1 u2 u, Gw G (d + 3) mX12_lies 44 [.ref (ga G 273), u1, u2, .int (nI s), .int (nI i), u] [] m (Qi (fun r' m2 => nI v = r' ∧ Inv TX (n + 1) m2.1))) (fun _ s => s ≤ 12) (fun i s => fold (fun j s => max s (runT (m.1 274) i j)) 0 (tn (m.1 274 7)) s) (tn (m.1 274 6)) ?_ (tn (m.1 274 6)) 0 0 (by omega) (by omega) (fun _ u1 u2 u => ?_) _ _ uu
    · intro i s hi hs
      refine ⟨fold_le (fun j s => hb i j s) _ _ _ hs, fun hP u1 u2 u => vX12_lies_44 G (d + 2) u1 u2 (nI s) (nI i) u m _ ⟨fun q => ?_, fun _ => ?_⟩⟩
      · rw [e6, le_nI (by omega) (by omega)] at q
        omega
      · refine loopI (P := fun j (s : Nat) => ∀ u1 u2, Gw G (d + 3) mX12_lies 59 [.ref (ga G 273), u1, u2, .int (nI s), .int (nI i), .int (nI j)] [] m (Qi (fun r' m2 => nI v = r' ∧ Inv TX (n + 1) m2.1))) (fun _ s => s ≤ 12) (fun j s => max s (runT (m.1 274) i j)) (tn (m.1 274 7)) ?_ (tn (m.1 274 7)) 0 s (by omega) hs (fun _ u1 u2 => ?_) uu uu
        · intro j s hj hs
          have := runT_le (m.1 274) i j
          refine ⟨hb i j s hs, fun hP u1 u2 => vX12_lies_59 G (d + 2) u1 u2 (nI s) (nI i) (nI j) m _ ⟨fun q => ?_, fun _ => ?_⟩⟩
          · rw [e7, le_nI (by omega) (by omega)] at q
            omega
          · refine qX12_run G (d + 2) i j m _ hW (by omega) (by omega) ⟨fun q => ?_, fun q => qX12_run G (d + 2) i j m _ hW (by omega) (by omega) ?_⟩
            · rintro _ rfl
              rw [le_nI (by omega) (by omega)] at q
              rw [Nat.max_eq_left q] at hP
              rw [nI_1]
              exact hP _ _
            · rintro _ rfl
              rw [le_nI (by omega) (by omega)] at q
              rw [Nat.max_eq_right (by omega)] at hP
              rw [nI_1]
              exact hP _ _
        · refine vX12_lies_59 G (d + 2) u1 u2 _ (nI i) (nI (tn (m.1 274 7))) m _ ⟨fun _ => ?_, fun q => absurd ?_ q⟩
          · rintro _ rfl
            rw [nI_1]
            exact hP _ _ _
          · rw [← e7]
            exact Int32.le_refl _
    · refine vX12_lies_44 G (d + 2) u1 u2 _ _ u m _ ⟨fun _ => ⟨?_, h.idle⟩, fun q => absurd ?_ q⟩
      · rw [← hv]; rfl
      · rw [← e6]
        exact Int32.le_refl _
