/-- so many hours, each a step; those that can pass -/
def hrs : Nat → (Nat → Int32) → (Nat → Int32) × Int32
  | 0, a => (a, 1)
  | k + 1, a => if tn (a 10) < 9999 then hrs k (passF (keepF a)) else (a, 0)
theorem keep_10 {a : Nat → Int32} (h : WF a) : keepF a 10 = a 10 := keepF_lo (h.ns.is (by omega)).2.2 (by omega) (by omega)
theorem pass_i {a : Nat → Int32} {i : Nat} (h : i ≠ 8 ∧ i ≠ 9 ∧ i ≠ 10 ∧ i ≠ 12) : passF a i = a i := by
  unfold passF
  rw [upd_n _ _ h.2.2.2, upd_n _ _ h.2.1, upd_n _ _ h.1, upd_n _ _ h.2.2.1]
theorem pass_10 (a : Nat → Int32) : passF a 10 = nI (tn (a 10) + 1) := by
  unfold passF
  simp (disch := omega) only [upd_n, upd_s]
theorem hrs_WF : ∀ (k : Nat) (a : Nat → Int32), WF a → WF (hrs k a).1
  | 0, _, h => h
  | k + 1, a, h => by
    unfold hrs
    by_cases q : tn (a 10) < 9999
    · rw [if_pos q]
      exact hrs_WF k _ (h.keep.pass (by rw [keep_10 h]; exact q))
    · rw [if_neg q]
      exact h
theorem hrs_i {i : Nat} (hi : i ≠ 8 ∧ i ≠ 9 ∧ i ≠ 10 ∧ i ≠ 12) (h4 : i ≠ 4) (h188 : i < 188) : ∀ (k : Nat) (a : Nat → Int32), WF a → (hrs k a).1 i = a i
  | 0, _, _ => rfl
  | k + 1, a, h => by
    unfold hrs
    by_cases q : tn (a 10) < 9999
    · rw [if_pos q, hrs_i hi h4 h188 k _ (h.keep.pass (by rw [keep_10 h]; exact q)), pass_i hi, keepF_lo (h.ns.is (by omega)).2.2 (by omega) h4]
    · rw [if_neg q]
theorem hrs_ok : ∀ (k : Nat) (a : Nat → Int32), WF a → tn (a 10) + k ≤ 9999 → (hrs k a).2 = 1
  | 0, _, _, _ => rfl
  | k + 1, a, h, hk => by
    unfold hrs
    rw [if_pos (by omega)]
    refine hrs_ok k _ (h.keep.pass (by rw [keep_10 h]; omega)) ?_
    rw [pass_10, keep_10 h]
    have : tn (nI (tn (a 10) + 1)) = tn (a 10) + 1 := tn_nI (by omega)
    omega
theorem hrs_01 : ∀ (k : Nat) (a : Nat → Int32), (hrs k a).2 = 0 ∨ (hrs k a).2 = 1
  | 0, _ => Or.inr rfl
  | k + 1, a => by
    unfold hrs
    by_cases q : tn (a 10) < 9999
    · rw [if_pos q]
      exact hrs_01 k _
    · rw [if_neg q]
      exact Or.inl rfl
theorem kC_hours (G : GP) (d : Nat) (n : Nat) (hn : n ≤ 9999) (K : Int32 → Mem → Prop) (m : Mem) (a : Nat → Int32) (r : RC m.1 0 a) (h : WF a) (hK : ∀ m' : Mem, RC m'.1 0 (hrs n a).1 → FrS m.1 m'.1 → K (hrs n a).2 m') : Evi G (d + 4) mX11_passHours [.ref (ga G 0), .int (nI n)] m K := by
  refine vX11_passHours G d (nI n) m K ?_
  have key : ∀ (k i : Nat) (a : Nat → Int32) (m : Mem), i + k = n → RC m.1 0 a → WF a → (∀ m' : Mem, RC m'.1 0 (hrs k a).1 → FrS m.1 m'.1 → K (hrs k a).2 m') → Gw G (d + 4) mX11_passHours 2 [.ref (ga G 0), .int (nI n), .int (nI i)] [] m (Qi K) := by
    intro k
    induction k with
    | zero =>
      intro i a m hi r' h' hK'
      have : i = n := by omega
      subst this
      exact vX11_passHours_2 G d (nI i) (nI i) m K ⟨fun _ => hK' m r' (FrS.rf _), fun hc => absurd ((le_nI (by omega) (by omega)).mpr (Nat.le_refl i)) hc⟩
    | succ k ih =>
      intro i a m hi r h hK
      have q10 := h.now.hour.is (by omega)
      have f2 : m.1 12 2 = nI (tn (a 10)) := (show m.1 12 2 = a 10 from r.now.hour).trans q10.1
      have b10 : tn (a 10) ≤ 9999 := q10.2.2
      refine vX11_passHours_2 G d (nI n) (nI i) m K ⟨fun hc => ?_, fun _ => ⟨fun q => ?_, fun q => ?_⟩⟩
      · rw [le_nI (by omega) (by omega)] at hc
        omega
      · rw [f2] at q
        have q : nI (tn (a 10)) < nI 9999 := q
        rw [lt_nI (by omega) (by omega)] at q
        refine kC_keep G d m a _ r h (fun m1 r1 f1 => ?_)
        refine kC_pass G (d + 2) m1 (keepF a) _ r1 h.keep (by rw [keep_10 h]; exact q) (fun m2 r2 f2 => ?_)
        rintro _ rfl
        rw [nI_1]
        refine ih (i + 1) _ m2 (by omega) r2 (h.keep.pass (by rw [keep_10 h]; exact q)) (fun m' r' f' => ?_)
        have e : hrs (k + 1) a = hrs k (passF (keepF a)) := by
          show (if tn (a 10) < 9999 then hrs k (passF (keepF a)) else (a, 0)) = _
          rw [if_pos q]
        have := hK m'
        rw [e] at this
        exact this r' ((f1.tr f2).tr f')
      · rw [f2] at q
        have q : ¬ nI (tn (a 10)) < nI 9999 := q
        rw [lt_nI (by omega) (by omega)] at q
        have e : hrs (k + 1) a = (a, 0) := by
          show (if tn (a 10) < 9999 then hrs k (passF (keepF a)) else (a, 0)) = _
          rw [if_neg q]
        have := hK m
        rw [e] at this
        exact this r (FrS.rf _)
  exact key n 0 a m (by omega) r h hK
theorem qX12_hours (G : GP) (d : Nat) (n : Nat) (hn : n ≤ 9999) (K : Int32 → Mem → Prop) (m : Mem) (h : WF (m.1 274)) (hK : K (hrs n (m.1 274)).2 (wA m 274 (hrs n (m.1 274)).1)) : Evi G (d + 3) mX12_arePassed [.ref (ga G 273), .int (nI n)] m K := by
  refine vX12_arePassed G d (nI n) m K ?_
  have key : ∀ (k i : Nat) (m : Mem), i + k = n → WF (m.1 274) → K (hrs k (m.1 274)).2 (wA m 274 (hrs k (m.1 274)).1) → Gw G (d + 3) mX12_arePassed 2 [.ref (ga G 273), .int (nI n), .int (nI i)] [] m (Qi K) := by
    intro k
    induction k with
    | zero =>
      intro i m hi h' hK'
      have : i = n := by omega
      subst this
      have e : wA m 274 (hrs 0 (m.1 274)).1 = m := wA_id m 274
      rw [e] at hK'
      exact vX12_arePassed_2 G d (nI i) (nI i) m K ⟨fun _ => hK', fun hc => absurd ((le_nI (by omega) (by omega)).mpr (Nat.le_refl i)) hc⟩
    | succ k ih =>
      intro i m hi h hK
      have q10 := h.now.hour.is (by omega)
      have b10 : tn (m.1 274 10) ≤ 9999 := q10.2.2
      have f2 : m.1 274 10 = nI (tn (m.1 274 10)) := q10.1
      refine vX12_arePassed_2 G d (nI n) (nI i) m K ⟨fun hc => ?_, fun _ => ⟨fun q => ?_, fun q => ?_⟩⟩
      · rw [le_nI (by omega) (by omega)] at hc
        omega
      · have q : tn (m.1 274 10) < 9999 := by
          rcases Nat.lt_or_ge (tn (m.1 274 10)) 9999 with z | z
          · exact z
          · exact absurd (f2.trans (congrArg nI (show tn (m.1 274 10) = 9999 by omega))) q
        refine qX12_keep G (d + 2) m _ h.ns ?_
        refine qX12_pass G d _ _ (by rw [wA_s]; exact h.keep) ?_
        rintro _ rfl
        rw [wA_s, wA_wA, nI_1]
        refine ih (i + 1) _ (by omega) (by rw [wA_s]; exact h.keep.pass (by rw [keep_10 h]; exact q)) ?_
        rw [wA_s, wA_wA]
        have e : hrs (k + 1) (m.1 274) = hrs k (passF (keepF (m.1 274))) := by
          show (if tn (m.1 274 10) < 9999 then hrs k (passF (keepF (m.1 274))) else (m.1 274, 0)) = _
          rw [if_pos q]
        rw [e] at hK
        exact hK
      · have z : ¬ tn (m.1 274 10) < 9999 := by
          rw [f2] at q
          have q : nI (tn (m.1 274 10)) = nI 9999 := q
          rw [eq_nI (by omega) (by omega)] at q
          omega
        have e : hrs (k + 1) (m.1 274) = (m.1 274, 0) := by
          show (if tn (m.1 274 10) < 9999 then hrs k (passF (keepF (m.1 274))) else (m.1 274, 0)) = _
          rw [if_neg z]
        rw [e, wA_id] at hK
        exact hK
  exact key n 0 m (by omega) h hK
theorem case_hour (G : GP) (d : Nat) {TX : (Nat → Nat → Int32) → Prop} (hT : TXok TX) {n : Nat} (a0 : Int32) (m : Mem) (h : Inv TX n m.1) : Evi G (d + 5) mX11_hour [.ref (ga G 0), .int a0] m (Same G TX n (d + 5) mX12_hour [.int a0]) := by
  have hR := h.2.2.1
  have hw := h.2.2.2.2.2.2.2.1
  have q10 := h.1.now.hour.is (by omega)
  have b10 : tn (m.1 274 10) ≤ 9999 := q10.2.2
  have f10 : m.1 274 10 = nI (tn (m.1 274 10)) := q10.1
  have f2 : m.1 12 2 = m.1 274 10 := hR.now.hour
  refine vX11_hour G d a0 m _ ⟨fun q => ⟨fun q2 => ?_, fun q2 => ?_⟩, fun q => ?_⟩
  · have q' := q
    obtain ⟨k, k1, k60, rfl⟩ := bd_of (lo := 1) (hi := 60) q.1 q.2 (by omega) (by omega)
    rw [f2, f10, nI_add] at q2
    have q2 : nI (tn (m.1 274 10) + k) ≤ nI 9999 := q2
    rw [le_nI (by omega) (by omega)] at q2
    refine kC_hours G d k (by omega) _ m (m.1 274) hR h.1 (fun m1 r1 f1 => ?_)
    have f274 : m1.1 274 = m.1 274 := f1 274 (by omega)
    refine vX12_hour G (d + 1) (nI k) m1 _ ⟨fun _ => ⟨fun q3 => ?_, fun _ => ?_⟩, fun q3 => absurd q' q3⟩
    · exfalso
      rw [f274, f10, nI_add] at q3
      have q3 : nI 9999 < nI (tn (m.1 274 10) + k) := q3
      rw [lt_nI (by omega) (by omega)] at q3
      omega
    · refine qX12_hours G (d + 1) k (by omega) _ m1 (by rw [f274]; exact h.1) ?_
      rw [f274]
      have ok := hrs_ok k (m.1 274) h.1 (by omega)
      rw [ok]
      refine ⟨fun z => absurd z (by decide), fun _ => ⟨?_, h.step hT (fun c hc => ?_) ?_ ?_ ?_ ?_⟩⟩
      · rw [wA_s]
        exact r1.now.hour
      · rw [wA_n _ _ (by omega), f1 c (by omega)]
      · rw [wA_s]
        exact hrs_WF k _ h.1
      · rw [wA_s]
        exact r1.fr (fun c h1 h2 _ _ => wA_n _ _ (by omega))
      · rw [wA_s]
        exact hrs_i (by omega) (by omega) (by omega) k _ h.1
      · rw [wA_s, hrs_i (by omega) (by omega) (by omega) k _ h.1]
        omega
  · refine vX12_hour G (d + 1) a0 m _ ⟨fun _ => ⟨fun _ => ⟨rfl, h.idle⟩, fun q3 => absurd ?_ q2⟩, fun _ => ⟨rfl, h.idle⟩⟩
    rw [f2]
    exact zl.mp q3
  · exact vX12_hour G (d + 1) a0 m _ ⟨fun q3 => absurd q3 q, fun _ => ⟨rfl, h.idle⟩⟩
