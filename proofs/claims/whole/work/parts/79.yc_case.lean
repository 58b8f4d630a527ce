/-! changes: the case -/
theorem Inv.chg {n : Nat} {f g : Nat → Nat → Int32} (h : Inv TXc n f) (hg : ∀ c, c ≠ 236 → c ≠ 237 → c ≠ 273 → c ≠ 291 → c ≠ 292 → g c = f c) (h3 : ∀ p, p ≠ 34 → g 273 p = f 273 p) : Inv TXc (n + 1) g := by
  refine Inv.idle ?_
  obtain ⟨a1, a2, a3, a4, a5, a6, a7, a8, a9⟩ := h
  have e4 : g 274 = f 274 := hg 274 (by omega) (by omega) (by omega) (by omega) (by omega)
  have e5 : g 275 = f 275 := hg 275 (by omega) (by omega) (by omega) (by omega) (by omega)
  have q : ∀ c, c < 236 → g c = f c := fun c hc => hg c (by omega) (by omega) (by omega) (by omega) (by omega)
  refine ⟨by rw [e4]; exact a1, by rw [e5]; exact a2, ?_, ?_, a5.fr ?_ ?_ ?_ ?_, a6.fr ?_ ?_ ?_, TXc_ok f g ⟨?_, ?_, ?_, ?_, ?_, ?_⟩ a7, by rw [e4]; exact a8, by rw [e5]; exact a9⟩
  · rw [e4]; exact a3.fr (fun c h1 h2 _ _ => q c (by omega))
  · rw [e5]; exact a4.fr (fun c h1 h2 _ _ => q c (by omega))
  · rw [q 228 (by omega)]
  · exact h3 5 (by omega)
  · exact hg 278 (by omega) (by omega) (by omega) (by omega) (by omega)
  · rw [q 229 (by omega)]
  · rw [q 233 (by omega)]
  · exact h3 6 (by omega)
  · exact h3 7 (by omega)
  · rintro c (⟨h1, h2⟩ | rfl | rfl | rfl | rfl)
    · exact hg c (by omega) (by omega) (by omega) (by omega) (by omega)
    · exact hg 265 (by omega) (by omega) (by omega) (by omega) (by omega)
    · exact hg 276 (by omega) (by omega) (by omega) (by omega) (by omega)
    · exact q 8 (by omega)
    · exact q 9 (by omega)
  all_goals first | rw [q 1 (by omega)] | rw [q 2 (by omega)] | rw [e4] | rw [e5]
section ChgCase
variable {n N : Nat} {R P h : Nat → Nat} {nb : Nat → Nat → Nat} {aj : Nat → List Nat} {t : Nat} {δ : Nat → Nat}
theorem mchgE (G : GP) (d : Nat) (T : Tab n N R P h nb aj) {f : Nat} (hf : f < N) (row : Int32) (m : Mem) (K : Int32 → Mem → Prop) (h0 : row = 0 → K 0 m) (h1 : row ≠ 0 → K (nI (R f)) m) : Evi G (d + 3) mX12_changes [.ref (ga G 273), .int (nI n), .int (nI (R f)), .int (nI (R f)), .int row] m K := by
  obtain ⟨h2, h5, hN2, hN⟩ := T.sz
  have hp := p10_le h5
  have hp0 : 1 ≤ 10 ^ n := Nat.one_le_pow _ _ (by omega)
  have hRf := T.R_lt hf
  obtain ⟨f1, f2⟩ := T.rw f hf
  have es : nI (10 ^ n) - 1 = nI (10 ^ n - 1) := sub_nI (a := 10 ^ n) (b := 1) hp0
  refine vX12_changes G d _ _ _ _ m K ⟨fun _ => ?_, fun z => absurd ⟨(le_nI (a := 2) (by omega) (by omega)).mpr h2, (le_nI (b := 5) (by omega) (by omega)).mpr h5⟩ z⟩
  refine kX12_tens G (d + 2) h5 m _ ?_
  rw [es]
  refine ⟨fun _ => ?_, fun z => absurd ⟨(le_nI (a := 0) (by omega) (by omega)).mpr (Nat.zero_le _), (le_nI (by omega) (by omega)).mpr (by omega)⟩ z⟩
  refine kX12_tens G (d + 2) h5 m _ ?_
  rw [es]
  refine ⟨fun _ => ?_, fun z => absurd ⟨(le_nI (a := 0) (by omega) (by omega)).mpr (Nat.zero_le _), (le_nI (by omega) (by omega)).mpr (by omega)⟩ z⟩
  refine kX12_isRow G (d + 1) h2 h5 (by omega) m _ (fun _ => ⟨fun z => absurd z (by decide), fun _ => ?_⟩) (fun z => absurd f2 z)
  exact kX12_isRow G (d + 1) h2 h5 (by omega) m _ (fun _ => ⟨fun _ => ⟨fun z => absurd rfl z, fun _ => ⟨h0, h1⟩⟩, fun z => absurd z (by decide)⟩) (fun z => absurd f2 z)
end ChgCase
theorem mchgN (G : GP) (d : Nat) (a0 a1 a2 a3 : Int32) (m : Mem) (K : Int32 → Mem → Prop) (hno : ∀ n, 2 ≤ n → n ≤ 5 → a0 = nI n → isVd n a1 → ¬ isVd n a2) (hK : K (-1) m) : Evi G (d + 3) mX12_changes [.ref (ga G 273), .int a0, .int a1, .int a2, .int a3] m K := by
  refine vX12_changes G d _ _ _ _ m K ⟨fun z => ?_, fun _ => hK⟩
  obtain ⟨n, h5, rfl⟩ := of_range (x := a0) (n := 5) (by omega) (Int32.le_trans (by decide) z.1) z.2
  have h2 : 2 ≤ n := (le_nI (a := 2) (by omega) (by omega)).mp z.1
  have hp := p10_le h5
  have hp0 : 1 ≤ 10 ^ n := Nat.one_le_pow _ _ (by omega)
  have es : nI (10 ^ n) - 1 = nI (10 ^ n - 1) := sub_nI (a := 10 ^ n) (b := 1) hp0
  refine kX12_tens G (d + 2) h5 m _ ?_
  rw [es]
  refine ⟨fun z1 => ?_, fun _ => hK⟩
  obtain ⟨V, hV, rfl⟩ := of_range (by omega) z1.1 z1.2
  refine kX12_tens G (d + 2) h5 m _ ?_
  rw [es]
  refine ⟨fun z2 => ?_, fun _ => hK⟩
  obtain ⟨W, hW, rfl⟩ := of_range (by omega) z2.1 z2.2
  refine kX12_isRow G (d + 1) h2 h5 (by omega) m _ (fun y1 => ⟨fun q => absurd q (by decide), fun _ => ?_⟩) (fun _ => ⟨fun _ => hK, fun q => absurd rfl q⟩)
  refine kX12_isRow G (d + 1) h2 h5 (by omega) m _ (fun y2 => ?_) (fun _ => ⟨fun q => absurd rfl q, fun _ => hK⟩)
  exact absurd ⟨W, by omega, y2, rfl⟩ (hno n h2 h5 rfl ⟨V, by omega, y1, rfl⟩)
theorem case_changes (G : GP) (d : Nat) {n : Nat} (a0 a1 a2 a3 : Int32) (m : Mem) (hI : Inv TXc n m.1) : Evi G (d + 4) mX11_changes [.ref (ga G 0), .int a0, .int a1, .int a2, .int a3] m (Same G TXc n (d + 3) mX12_changes [.int a0, .int a1, .int a2, .int a3]) := by
  refine vX11_changes G d a0 a1 a2 a3 m _ ?_
  by_cases hv : ∃ n, 2 ≤ n ∧ n ≤ 5 ∧ a0 = nI n ∧ isVd n a1 ∧ isVd n a2
  · obtain ⟨n, h2, h5, rfl, v1, v2⟩ := hv
    obtain ⟨N, R, P, h, nb, aj, T⟩ := tab_ex h2 h5
    obtain ⟨f, hf, rfl⟩ := T.vd.mp v1
    obtain ⟨t, ht, rfl⟩ := T.vd.mp v2
    obtain ⟨δ, D⟩ := T.dist ht
    refine kX4_fewest G d T D ht hf a3 m _ (fun m' fr => ?_)
    have inv : ∀ m2, Fmc m' m2 → Inv TXc (_ + 1) m2.1 := fun m2 fm => hI.chg (fun c h1 h2 h3 h4 h5 => (fm.1 c h3 h4 h5).trans (fr c h1 h2)) (fun p hp => (fm.2 p hp).trans (by rw [fr 273 (by omega) (by omega)]))
    by_cases e : f = t
    · subst e
      have δ0 : δ f = 0 := (D.1 f hf).mpr rfl
      refine ⟨fun z => ?_, fun z _ => ?_, fun _ y => absurd rfl y⟩
      · exact mchgE G d T hf a3 m' _ (fun _ => ⟨by rw [δ0]; rfl, inv m' (Fmc.rf m')⟩) (fun y => absurd z y)
      · exact mchgE G d T hf a3 m' _ (fun y => absurd y z) (fun _ => ⟨rfl, inv m' (Fmc.rf m')⟩)
    · refine ⟨fun z => ?_, fun _ y => absurd y e, fun z _ k k1 k2 => ?_⟩
      · exact mchg G d T D ht hf e a3 m' _ (fun m2 fm => ⟨fun _ => ⟨rfl, inv m2 fm⟩, fun y => absurd z y⟩)
      · refine mchg G d T D ht hf e a3 m' _ (fun m2 fm => ⟨fun y => absurd y z, fun _ k' k1' k2' => ⟨?_, inv m2 fm⟩⟩)
        have h1 := k2.2.2 k' k2'.1 k2'.2.1
        have h3 := k2'.2.2 k k2.1 k2.2.1
        rw [show k = k' by omega]
  · have hno : ∀ n, 2 ≤ n → n ≤ 5 → a0 = nI n → isVd n a1 → ¬ isVd n a2 := fun n h2 h5 e v1 v2 => hv ⟨n, h2, h5, e, v1, v2⟩
    exact kX4_fewestN G d a0 a1 a2 a3 m _ hno (mchgN G d a0 a1 a2 a3 m _ hno ⟨rfl, hI.idle⟩)
