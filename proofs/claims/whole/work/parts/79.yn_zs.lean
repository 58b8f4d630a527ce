/-! THE START: constants, classes, rows -/
abbrev gvT : Cond := Jvm.Cond.and given_1 narrow_1
def tmS : Nat → Term := fun i => if i = 0 then .string RX7 60 else .string RX7 53
theorem gv_el0 : ∀ j, j < 184 → (flatC gvT)[39 + j]? = some (Cond.eq (.elem (.field (.string RX7 60) "java/lang/String" "value" "[B") (.int (Int32.ofNat j))) (.int ((byS.getD 0 []).getD j 0))) := by decide +kernel
theorem gv_el1 : ∀ j, j < 13 → (flatC gvT)[227 + j]? = some (Cond.eq (.elem (.field (.string RX7 53) "java/lang/String" "value" "[B") (.int (Int32.ofNat j))) (.int ((byS.getD 1 []).getD j 0))) := by decide +kernel
theorem ZS_start {args : Array Value} {s : State} {A : Nat → Prop} (hgv : gvT.before args s = true) (hts : ∀ w ∈ lw_tbl, w.before args s = true) (hA : ∀ a : Nat, a < s.heap.size → ¬ A a) : ∃ aK aV : Nat → Nat, ZS aK aV A s s.heap := by
  have hs := flat_of_before _ hgv
  have g : ∀ (k : Nat) (c : Cond), (flatC gvT)[k]? = some c → c.before args s = true := fun k c h => hs c (List.mem_of_getElem? h)
  have tw : ∀ {w : Cond}, w ∈ tblG → w.before args s = true := fun hw => hts _ (List.mem_filter.mp hw).1
  obtain ⟨aK, aV, hS, hE⟩ := vk_Sof (args := args) (s := s) (N := 2) (tm := tmS) (len := lnS) (byt := byS) (A := A)
    (fun i hi => by rcases (show i = 0 ∨ i = 1 by omega) with e | e <;> subst e <;> decide)
    (fun i hi => by
      rcases (show i = 0 ∨ i = 1 by omega) with e | e <;> subst e
      · exact g 35 _ (by decide +kernel)
      · exact g 223 _ (by decide +kernel))
    (fun i hi => by
      rcases (show i = 0 ∨ i = 1 by omega) with e | e <;> subst e
      · exact g 36 _ (by decide +kernel)
      · exact g 224 _ (by decide +kernel))
    (fun i hi => by
      rcases (show i = 0 ∨ i = 1 by omega) with e | e <;> subst e
      · exact g 37 _ (by decide +kernel)
      · exact g 225 _ (by decide +kernel))
    (fun i hi => by
      rcases (show i = 0 ∨ i = 1 by omega) with e | e <;> subst e
      · exact g 38 _ (by decide +kernel)
      · exact g 226 _ (by decide +kernel))
    (fun i hi j hj => by
      rcases (show i = 0 ∨ i = 1 by omega) with e | e <;> subst e
      · exact g (39 + j) _ (gv_el0 j hj)
      · exact g (227 + j) _ (gv_el1 j hj))
    (fun i j hi hj hij => by
      rcases (show (i = 0 ∧ j = 1) ∨ (i = 1 ∧ j = 0) by omega) with ⟨e1, e2⟩ | ⟨e1, e2⟩ <;> subst e1 <;> subst e2
      · exact Or.inl (g 240 _ (by decide +kernel))
      · exact Or.inr (g 240 _ (by decide +kernel)))
    hA
  refine ⟨aK, aV, vk_R.of (hts _ (List.mem_of_getElem? (i := 636) (by decide +kernel))) (hE 0 (by omega)), vk_R.of (hts _ (List.mem_of_getElem? (i := 681) (by decide +kernel))) (hE 1 (by omega)), hS, va_Zof (hts _ (List.mem_of_getElem? (i := 646) (by decide +kernel))) (tw wi_J0) (va_eqi (g 4 _ (by decide +kernel))) hA, va_Zqof (hts _ (List.mem_of_getElem? (i := 654) (by decide +kernel))) (tw wi_J3) (g 5 _ (by decide +kernel)) hA⟩
theorem AO_start {args : Array Value} {s : State} (hts : ∀ w ∈ lw_tbl, w.before args s = true) : va_AO RX5 s ∧ va_AO RX8 s := ⟨va_AO.of (hts _ (List.mem_of_getElem? (i := 260) (by decide +kernel))), va_AO.of (hts _ (List.mem_of_getElem? (i := 342) (by decide +kernel)))⟩
theorem cls_start {args : Array Value} {s : State} (hts : ∀ w ∈ tblG, w.before args s = true) : ∃ (dC : Nat → ClassId) (dI : Nat → Nat → Nat), ∀ (k : Nat) (q : vw_C), vwCl[k]? = some q → u_Kn s q.1 q.2.1 q.2.2 (dC k) (dI k) := by
  obtain ⟨c0, i0, h0⟩ := u_known (C := RX0) (T := TX0) (N := 9) (n := 9) hts inX0 (hts _ lin_X0)
  obtain ⟨c1, i1, h1⟩ := u_known (C := RX1) (T := TX1) (N := 5) (n := 5) hts inX1 (hts _ lin_X1)
  obtain ⟨c2, i2, h2⟩ := u_known (C := RX2) (T := TX2) (N := 11) (n := 11) hts inX2 (hts _ lin_X2)
  obtain ⟨c3, i3, h3⟩ := u_known (C := RX3) (T := TX3) (N := 13) (n := 13) hts inX3 (hts _ lin_X3)
  obtain ⟨c4, i4, h4⟩ := u_known (C := RX4) (T := TX4) (N := 2) (n := 2) hts inX4 (hts _ lin_X4)
  obtain ⟨c5, i5, h5⟩ := u_known (C := RX5) (T := TX5) (N := 8) (n := 8) hts inX5 (hts _ lin_X5)
  obtain ⟨c6, i6, h6⟩ := u_known (C := RX6) (T := TX6) (N := 3) (n := 3) hts inX6 (hts _ lin_X6)
  obtain ⟨c7, i7, h7⟩ := u_known (C := RX7) (T := TX7) (N := 5) (n := 5) hts inX7 (hts _ lin_X7)
  obtain ⟨c8, i8, h8⟩ := u_known (C := RX8) (T := TX8) (N := 9) (n := 9) hts inX8 (hts _ lin_X8)
  obtain ⟨c9, i9, h9⟩ := u_known (C := RX9) (T := TX9) (N := 7) (n := 7) hts inX9 (hts _ lin_X9)
  obtain ⟨c10, i10, h10⟩ := u_known (C := RX10) (T := TX10) (N := 7) (n := 7) hts inX10 (hts _ lin_X10)
  obtain ⟨c11, i11, h11⟩ := u_known (C := RX11) (T := TX11) (N := 8) (n := 8) hts inX11 (hts _ lin_X11)
  obtain ⟨c12, i12, h12⟩ := u_known (C := RX12) (T := TX12) (N := 35) (n := 35) hts inX12 (hts _ lin_X12)
  refine ⟨fun k => match k with
    | 0 => c0
    | 1 => c1
    | 2 => c2
    | 3 => c3
    | 4 => c4
    | 5 => c5
    | 6 => c6
    | 7 => c7
    | 8 => c8
    | 9 => c9
    | 10 => c10
    | 11 => c11
    | _ => c12, fun k => match k with
    | 0 => i0
    | 1 => i1
    | 2 => i2
    | 3 => i3
    | 4 => i4
    | 5 => i5
    | 6 => i6
    | 7 => i7
    | 8 => i8
    | 9 => i9
    | 10 => i10
    | 11 => i11
    | _ => i12, ?_⟩
  intro k q hq
  match k, hq with
  | 0, hq => cases hq; exact h0
  | 1, hq => cases hq; exact h1
  | 2, hq => cases hq; exact h2
  | 3, hq => cases hq; exact h3
  | 4, hq => cases hq; exact h4
  | 5, hq => cases hq; exact h5
  | 6, hq => cases hq; exact h6
  | 7, hq => cases hq; exact h7
  | 8, hq => cases hq; exact h8
  | 9, hq => cases hq; exact h9
  | 10, hq => cases hq; exact h10
  | 11, hq => cases hq; exact h11
  | 12, hq => cases hq; exact h12
  | k + 13, hq => exact absurd (List.getElem?_eq_some_iff.mp hq).1 (by rw [show vwCl.length = 13 from rfl]; omega)
theorem row_start {args : Array Value} {s : State} (hts : ∀ w ∈ tblG, w.before args s = true) (hA5 : va_AO RX5 s) (hA8 : va_AO RX8 s) : ∃ gyf : Nat → ClassId, ∀ (k : Nat) (q : ClassId × FieldType), ([(gyf 0, .int), (gyf 1, .byte), (gyf 2, .boolean), (gyf 3, .long), (gyf 4, .object "BellTongue$Text"), (gyf 5, .object "BellTongue$Season")] : List (ClassId × FieldType))[k]? = some q → ArrOfT s q.1 q.2 ∧ va_RA s q.1 q.2 := by
  obtain ⟨c0, k0, p0, a0, b0, d0⟩ := Cond.arrayClass_spec (args := args) (first := s) (o := none) (s := s) (idx := []) (hts _ lar_int)
  obtain ⟨c1, k1, p1, a1, b1, d1⟩ := Cond.arrayClass_spec (args := args) (first := s) (o := none) (s := s) (idx := []) (hts _ lar_byte)
  obtain ⟨c2, k2, p2, a2, b2, d2⟩ := Cond.arrayClass_spec (args := args) (first := s) (o := none) (s := s) (idx := []) (hts _ lar_boolean)
  obtain ⟨c3, k3, p3, a3, b3, d3⟩ := Cond.arrayClass_spec (args := args) (first := s) (o := none) (s := s) (idx := []) (hts _ lar_long)
  obtain ⟨p4, c4, k4, e4, _, b4, d4, a4⟩ := Cond.arrayOver_spec (args := #[]) (first := s) (o := none) (s := s) (idx := []) hA8
  obtain ⟨p5, c5, k5, e5, _, b5, d5, a5⟩ := Cond.arrayOver_spec (args := #[]) (first := s) (o := none) (s := s) (idx := []) hA5
  refine ⟨fun k => match k with
    | 0 => c0
    | 1 => c1
    | 2 => c2
    | 3 => c3
    | 4 => c4
    | _ => c5, ?_⟩
  intro k q hq
  match k, hq with
  | 0, hq => cases hq; exact ⟨fun N z => ⟨(fun k h => by cases h), k0, b0, p0, d0⟩, a0⟩
  | 1, hq => cases hq; exact ⟨fun N z => ⟨(fun k h => by cases h), k1, b1, p1, d1⟩, a1⟩
  | 2, hq => cases hq; exact ⟨fun N z => ⟨(fun k h => by cases h), k2, b2, p2, d2⟩, a2⟩
  | 3, hq => cases hq; exact ⟨fun N z => ⟨(fun k h => by cases h), k3, b3, p3, d3⟩, a3⟩
  | 4, hq => cases hq; exact ⟨fun N z => ⟨(fun k h => by cases h), k4, b4, p4, d4⟩, k4, p4, b4, d4, e4, a4⟩
  | 5, hq => cases hq; exact ⟨fun N z => ⟨(fun k h => by cases h), k5, b5, p5, d5⟩, k5, p5, b5, d5, e5, a5⟩
  | k + 6, hq => exact absurd (List.getElem?_eq_some_iff.mp hq).1 (by simp)
