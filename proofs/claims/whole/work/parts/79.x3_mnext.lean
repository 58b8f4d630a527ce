/-! THE MODEL'S nextToken -/
theorem kX12_isSign (G : GP) (d : Nat) (c : Nat) (hc : c < 256) (m : Mem) (K : Int32 → Mem → Prop) (hK : K (if c ∈ sgL then 1 else 0) m) : Evi G d mX12_isSign [.int (nI c)] m K := by
  refine vX12_isSign G d (nI c) m K ?_
  have q : ∀ v, v ∈ sgL → nI c = nI v → K 1 m := fun v hv z => by
    have hv2 : v < 256 := (show ∀ x ∈ sgL, x < 256 by decide) v hv
    have e := (eq_nI (a := c) (b := v) (by omega) (by omega)).mp z
    rw [e, if_pos hv] at hK
    exact hK
  refine ⟨q 35 (by decide), q 40 (by decide), q 41 (by decide), q 42 (by decide), q 43 (by decide), q 45 (by decide), q 47 (by decide), q 58 (by decide), q 59 (by decide), q 60 (by decide), q 61 (by decide), q 62 (by decide), q 94 (by decide), fun z => ?_⟩
  obtain ⟨z35, z40, z41, z42, z43, z45, z47, z58, z59, z60, z61, z62, z94⟩ := z
  have hm : ¬ c ∈ sgL := fun hm => by
    simp only [sgL, List.mem_cons, List.not_mem_nil, or_false] at hm
    rcases hm with r | r | r | r | r | r | r | r | r | r | r | r | r
    · exact z35 (by rw [r]; rfl)
    · exact z40 (by rw [r]; rfl)
    · exact z41 (by rw [r]; rfl)
    · exact z42 (by rw [r]; rfl)
    · exact z43 (by rw [r]; rfl)
    · exact z45 (by rw [r]; rfl)
    · exact z47 (by rw [r]; rfl)
    · exact z58 (by rw [r]; rfl)
    · exact z59 (by rw [r]; rfl)
    · exact z60 (by rw [r]; rfl)
    · exact z61 (by rw [r]; rfl)
    · exact z62 (by rw [r]; rfl)
    · exact z94 (by rw [r]; rfl)
  rw [if_neg hm] at hK
  exact hK
def TS (b : Nat → Nat) (n q : Nat) (m : Mem) : Prop := MB b n m ∧ m.1 273 8 = nI (tkE b (rnE b 0 q)) ∧ m.1 273 9 = nI (rnE b 0 q) ∧ m.1 273 10 = nI (tkM b (rnE b 0 q)) ∧ (srt (b (rnE b 0 q)) = 1 → m.1 273 11 = nI (nuM b (rnE b 0 q) (rnE b 1 (rnE b 0 q) - rnE b 0 q))) ∧ (srt (b (rnE b 0 q)) = 2 → m.2.1 273 12 = Int64.ofNat (wv (ltr b (rnE b 0 q) (rnE b 2 (rnE b 0 q) - rnE b 0 q))))
theorem tkE_sg {b : Nat → Nat} {p : Nat} (h0 : b p ≠ 256) (h1 : ¬ srt (b p) = 1) (h2 : ¬ srt (b p) = 2) : tkE b p = if (b p = 60 ∨ b p = 62) ∧ b (p + 1) = 61 then p + 2 else p + 1 := by
  unfold tkE; rw [if_neg h0, if_neg h1, if_neg h2]
theorem tkM_sg {b : Nat → Nat} {p : Nat} (h0 : b p ≠ 256) (h1 : ¬ srt (b p) = 1) (h2 : ¬ srt (b p) = 2) : tkM b p = if b p = 60 ∧ b (p + 1) = 61 then 4 else if b p = 62 ∧ b (p + 1) = 61 then 5 else if b p ∈ sgL then b p else 3 := by
  unfold tkM; rw [if_neg h0, if_neg h1, if_neg h2]
theorem ntT (G : GP) (d : Nat) {b : Nat → Nat} {n : Nat} (h : BT b n) (p : Nat) (u1 : Value) (m : Mem) (K : Mem → Prop) (hp : p ≤ n) (hz : ¬ srt (b p) = 0) (hB : MB b n m) (h8 : m.1 273 8 = nI p) (hK : ∀ m', MV m m' → TS b n p m' → K m') : Gw G (d + 1) mX12_nextToken 0 [.ref (ga G 273), u1] [] m (Qv K) := by
  have hn := h.1
  have hrn : rnE b 0 p = p := rnE_n hz
  have ok := hB.ok h (k := p) (by omega)
  have n32 : ¬ byC b p = 32 := fun z => hz (srt0.mpr (Or.inl ((byC_eq (v := 32) (h.le p) (by omega)).mp z)))
  have n10 : ¬ byC b p = 10 := fun z => hz (srt0.mpr (Or.inr ((byC_eq (v := 10) (h.le p) (by omega)).mp z)))
  refine vX12_nextToken_0 G d u1 m K ?_
  rw [h8, hB.at' h (by omega)]
  refine ⟨ok, fun z => absurd z n32, fun _ => ⟨ok, fun _ m2 e2 => ?_, fun z => absurd z n10⟩⟩
  have v2 : MV m m2 := by rw [e2]; exact (MV.rf m).w (by omega)
  have hB2 := hB.mv v2
  have q8 : m2.1 273 8 = nI p := by rw [e2, w73n _ _ (by omega), h8]
  have q9 : m2.1 273 9 = nI p := by rw [e2, w73]
  rw [q8, hB2.at' h (by omega)]
  refine ⟨hB2.ok h (by omega), fun x3 ex => ?_⟩
  rw [ex, byC_nn (h.le p)]
  refine ⟨fun q0 => ?_, fun q0 m30 e30 => ?_⟩
  · have hpn : p < n := by
      rcases Nat.lt_or_ge p n with q | q
      · exact q
      · exact absurd (h.2.1 p q) q0
    have hc256 := h.2.2 p hpn
    have ec : byC b p = nI (b p) := if_neg q0
    rw [byC_fig (h.le p), byC_let (h.le p)]
    refine ⟨fun z m4 e4 m5 e5 => ?_, fun z1 => ⟨fun z m6 e6 m7 e7 => ?_, fun z2 => ?_⟩⟩
    · have v4 : MV m m4 := by rw [e4]; exact v2.w (by omega)
      have v5 : MV m m5 := by rw [e5]; exact v4.w (by omega)
      refine nt85 G d h p (n - p) 0 _ m5 K (by omega) (hB.mv v5) (by rw [e5, w73n _ _ (by omega), e4, w73n _ _ (by omega), q8]; rfl) (by rw [e5, w73]; rfl) (by unfold nuM; omega) (fun m' k1 k2 k3 k4 k5 => hK m' (v5.tr' k1) ?_)
      unfold TS
      rw [hrn]
      refine ⟨hB.mv (v5.tr' k1), ?_, ?_, ?_, fun _ => k5, fun y => absurd (z.symm.trans y) (by omega)⟩
      · rw [k2]; unfold tkE; rw [if_neg q0, if_pos z]; rfl
      · rw [k3, e5, w73n _ _ (by omega), e4, w73n _ _ (by omega), q9]
      · rw [k4, e5, w73n _ _ (by omega), e4, w73]; unfold tkM; rw [if_neg q0, if_pos z]; rfl
    · have v6 : MV m m6 := by rw [e6]; exact v2.w (by omega)
      have v7 : MV m m7 := by rw [e7]; exact v6.wl
      have n7 : m7.1 = m6.1 := by rw [e7]; rfl
      refine nt168 G d h p (n - p) 0 _ m7 K (by omega) (hB.mv v7) (by rw [n7, e6, w73n _ _ (by omega), q8]; rfl) (fun i hi => absurd hi (Nat.not_lt_zero i)) (by rw [e7, lW73]; rfl) (fun m' k1 k2 k3 k4 k5 => hK m' (v7.tr' k1) ?_)
      unfold TS
      rw [hrn]
      refine ⟨hB.mv (v7.tr' k1), ?_, ?_, ?_, fun y => absurd y z1, fun _ => k5⟩
      · rw [k2]; unfold tkE; rw [if_neg q0, if_neg z1, if_pos z]; rfl
      · rw [k3, n7, e6, w73n _ _ (by omega), q9]
      · rw [k4, n7, e6, w73]; unfold tkM; rw [if_neg q0, if_neg z1, if_pos z]; rfl
    · have e60 : nI (b p) = 60 ↔ b p = 60 := eq_nI (b := 60) (by omega) (by omega)
      have e62 : nI (b p) = 62 ↔ b p = 62 := eq_nI (b := 62) (by omega) (by omega)
      rw [ec, e60, e62]
      have tE' := tkE_sg q0 z1 z2
      have tM' := tkM_sg q0 z1 z2
      have fin : ∀ m', MV m m' → m'.1 273 8 = nI (tkE b p) → m'.1 273 9 = nI p → m'.1 273 10 = nI (tkM b p) → K m' := fun m' k1 k2 k3 k4 => hK m' k1 (by
        unfold TS
        rw [hrn]
        exact ⟨hB.mv k1, k2, k3, k4, fun y => absurd y z1, fun y => absurd y z2⟩)
      refine kX12_isSign G d (b p) hc256 m2 _ ?_
      by_cases hs : b p ∈ sgL
      · refine ⟨fun y => absurd y (by rw [if_pos hs]; decide), fun _ m20 e20 m21 e21 => ?_⟩
        have v20 : MV m m20 := by rw [e20]; exact v2.w (by omega)
        have v21 : MV m m21 := by rw [e21]; exact v20.w (by omega)
        have hB21 := hB.mv v21
        have h21 : m21.1 273 8 = nI (p + 1) := by rw [e21, w73, e20, w73n _ _ (by omega), q8, nI_succ]
        have h29 : m21.1 273 9 = nI p := by rw [e21, w73n _ _ (by omega), e20, w73n _ _ (by omega), q9]
        have h20 : m21.1 273 10 = nI (b p) := by rw [e21, w73n _ _ (by omega), e20, w73]
        have t61 : bytM m21 (m21.1 273 8) = 61 ↔ b (p + 1) = 61 := by
          rw [h21, hB21.at' h (by omega)]; exact byC_eq (v := 61) (h.le _) (by omega)
        have ok21 : ¬ m21.1 273 5 ≤ m21.1 273 8 → vp_in (m21.1 273 8) 300 := by rw [h21]; exact hB21.ok h (by omega)
        rw [t61]
        have one : ¬ ((b p = 60 ∨ b p = 62) ∧ b (p + 1) = 61) → K m21 := fun y => fin m21 v21 (by rw [h21, tE', if_neg y]) h29 (by rw [h20, tM', if_neg (fun w => y ⟨Or.inl w.1, w.2⟩), if_neg (fun w => y ⟨Or.inr w.1, w.2⟩), if_pos hs])
        refine ⟨fun z60 => ⟨ok21, fun ne => one (fun w => ne w.2), fun ee => ⟨fun y => absurd z60 y, fun _ m24 e24 m25 e25 => ?_⟩⟩, fun n60 => ⟨fun n62 => one (fun w => w.1.elim n60 n62), fun z62 => ⟨ok21, fun ne => one (fun w => ne w.2), fun ee => ⟨fun _ m26 e26 m27 e27 => ?_, fun y => absurd y n60⟩⟩⟩⟩
        · refine fin m25 (by rw [e25, e24]; exact (v21.w (by omega)).w (by omega)) ?_ ?_ ?_
          · rw [e25, w73, e24, w73n _ _ (by omega), h21, tE', if_pos ⟨Or.inl z60, ee⟩, ← nI_succ]
          · rw [e25, w73n _ _ (by omega), e24, w73n _ _ (by omega), h29]
          · rw [e25, w73n _ _ (by omega), e24, w73, tM', if_pos ⟨z60, ee⟩]; rfl
        · refine fin m27 (by rw [e27, e26]; exact (v21.w (by omega)).w (by omega)) ?_ ?_ ?_
          · rw [e27, w73, e26, w73n _ _ (by omega), h21, tE', if_pos ⟨Or.inr z62, ee⟩, ← nI_succ]
          · rw [e27, w73n _ _ (by omega), e26, w73n _ _ (by omega), h29]
          · rw [e27, w73n _ _ (by omega), e26, w73, tM', if_neg (fun w => n60 w.1), if_pos ⟨z62, ee⟩]; rfl
      · have n60 : ¬ b p = 60 := fun y => hs (by rw [y]; decide)
        have n62 : ¬ b p = 62 := fun y => hs (by rw [y]; decide)
        refine ⟨fun _ m10 e10 m11 e11 => ⟨fun y => absurd y n60, fun _ => ⟨fun _ => ?_, fun y => absurd y n62⟩⟩, fun y => absurd (by rw [if_neg hs]) y⟩
        refine fin m11 (by rw [e11, e10]; exact (v2.w (by omega)).w (by omega)) ?_ ?_ ?_
        · rw [e11, w73, e10, w73n _ _ (by omega), q8, tE', if_neg (fun w => w.1.elim n60 n62), nI_succ]
        · rw [e11, w73n _ _ (by omega), e10, w73n _ _ (by omega), q9]
        · rw [e11, w73n _ _ (by omega), e10, w73, tM', if_neg (fun w => n60 w.1), if_neg (fun w => n62 w.1), if_neg hs]; rfl
  · have q1 : b p = 256 := Classical.byContradiction q0
    have v30 : MV m m30 := by rw [e30]; exact v2.w (by omega)
    refine hK m30 v30 ?_
    unfold TS
    rw [hrn, q1]
    refine ⟨hB.mv v30, ?_, ?_, ?_, fun y => absurd y (by decide), fun y => absurd y (by decide)⟩
    · rw [e30, w73n _ _ (by omega), q8]; unfold tkE; rw [if_pos q1]
    · rw [e30, w73n _ _ (by omega), q9]
    · rw [e30, w73]; unfold tkM; rw [if_pos q1]; rfl
theorem TS.bl {b : Nat → Nat} {n q : Nat} {m : Mem} (hq : q ≤ 300) (hz : srt (b q) = 0) (h : TS b n (q + 1) m) : TS b n q m := by
  unfold TS; rw [rnE_s hq hz]; exact h
theorem nt0 (G : GP) (d : Nat) {b : Nat → Nat} {n : Nat} (h : BT b n) : ∀ (f q : Nat) (u1 : Value) (m : Mem) (K : Mem → Prop), q + f = n → MB b n m → m.1 273 8 = nI q → (∀ m', MV m m' → TS b n q m' → K m') → Gw G (d + 1) mX12_nextToken 0 [.ref (ga G 273), u1] [] m (Qv K) := by
  intro f
  induction f with
  | zero => exact fun q u1 m K e hB h8 hK => ntT G d h q u1 m K (by omega) (fun z => by have := h.in' (by omega) z; omega) hB h8 hK
  | succ f ih =>
    intro q u1 m K e hB h8 hK
    by_cases hz : srt (b q) = 0
    · have hn := h.1
      have go : ∀ m1 : Mem, m1 = wI m 273 8 (nI q + 1) → Gw G (d + 1) mX12_nextToken 0 [.ref (ga G 273), uu] [] m1 (Qv K) := fun m1 e1 => by
        have v1 : MV m m1 := by rw [e1]; exact (MV.rf m).w (by omega)
        exact ih (q + 1) uu m1 K (by omega) (hB.mv v1) (by rw [e1, w73, nI_succ]) (fun m' k1 k2 => hK m' (v1.tr' k1) (k2.bl (by omega) hz))
      have ok := hB.ok h (k := q) (by omega)
      refine vX12_nextToken_0 G d u1 m K ?_
      rw [h8, hB.at' h (by omega)]
      refine ⟨ok, fun _ => go, fun n32 => ⟨ok, fun n10 => ?_, fun _ => go⟩⟩
      exfalso
      rcases srt0.mp hz with y | y
      · exact n32 ((byC_eq (v := 32) (h.le q) (by omega)).mpr y)
      · exact n10 ((byC_eq (v := 10) (h.le q) (by omega)).mpr y)
    · exact ntT G d h q u1 m K (by omega) hz hB h8 hK
theorem qX12_nextToken (G : GP) (d : Nat) {b : Nat → Nat} {n q : Nat} (h : BT b n) (m : Mem) (K : Mem → Prop) (hq : q ≤ n) (hB : MB b n m) (h8 : m.1 273 8 = nI q) (hK : ∀ m', MV m m' → TS b n q m' → K m') : Evv G (d + 1) mX12_nextToken [.ref (ga G 273)] m K :=
  vX12_nextToken G d m K (nt0 G d h (n - q) q uu m K (by omega) hB h8 hK)
