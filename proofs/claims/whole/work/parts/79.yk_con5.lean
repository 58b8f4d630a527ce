/-! THE MODEL'S CONSTRUCTOR -/
def aA0 : Nat → Int32 := upd (upd (upd (upd (fun _ => 0) 12 101) 3 (-1)) 8 2) 11 9
def MO (m : Mem) : Prop := (∀ q, 273 ≤ q → q < 293 → q ≠ 274 → q ≠ 275 → m.1 q = iM q) ∧ m.1 274 = aA0 ∧ m.1 275 = aA0 ∧ ∀ q, 273 ≤ q → q < 293 → m.2.1 q = (fun _ => 0) ∧ m.2.2 q = Mr q
theorem eX12_init (G : GP) (d : Nat) (m0 : Mem) (hF0 : Fz 273 m0) (hM0 : MC 0 273 m0) (Q : Nat → Mem → Prop) (hQ : ∀ m', MO m' → (∀ q, q < 273 → Eq3 m0 m' q) → Q 293 m') : Ec G (d + 1) mX12_init 19 26609 [.ref (ga G 273)] 274 m0 Q := by
  refine Ec.go [.ref (ga G 273)] rfl (by decide) (Nat.le_of_ble_eq_true rfl) rfl ?_
  obtain ⟨i0_273, l0_273, z0_273⟩ := hF0 273 (by omega)
  have r0_273 : m0.2.2 273 = fun k => [0, 0, 0, 0, 0, 0, 0, 0, 0, 0, 0, 0, 0, 0, 0, 0, 0, 0, 0, 0, 0, 0, 0, 0, 0, 0, 0, 0, 0, 0, 0, 0, 0, 0, 0].getD k 0 := by rw [z0_273, zeroL 35]; rfl
  have hF : Fz 274 m0 := hF0.up
  refine co_aload_n dX12_init_0 rfl ?_
  refine co_objInit dX12_init_1 lo_X12 wobj (by omega) (Nat.le_of_ble_eq_true rfl) ?_
  refine co_aload_n dX12_init_4 rfl ?_
  refine co_sipush (v := 5968) dX12_init_5 (by decide) ?_
  refine co_newa (ty := .int) (ix := 0) (a0 := (5968, .inl (fun _ => 0))) dX12_init_8 (by omega) rfl lar_int rfl (fun _ _ h => h) sh_274 kcI (fun _ => rfl) ⟨by decide, by decide⟩ (by decide) (by decide) (by decide) ?_
  have hR274 : Fz 274 m0 := hF
  have hF := hF.up
  obtain ⟨i0_274, l0_274, z0_274⟩ := hR274 274 (by omega)
  refine co_putR (k := 0) (ty := .array .int) dX12_init_10 sh_273 (by omega) rfl inX12 (Nat.le_of_ble_eq_true rfl) lf_X12_7 tyX12 tyX12_ok nmX12 rfl rfl rfl (by decide +kernel) rfl rfl (by omega) ?_
  obtain ⟨m1, e1⟩ : ∃ z : Mem, z = wR m0 273 0 274 := ⟨_, rfl⟩
  rw [← e1]
  have hF1 : Fz 275 m1 := by rw [e1]; exact hF.wR (by omega)
  have r1_273 : m1.2.2 273 = fun k => [274, 0, 0, 0, 0, 0, 0, 0, 0, 0, 0, 0, 0, 0, 0, 0, 0, 0, 0, 0, 0, 0, 0, 0, 0, 0, 0, 0, 0, 0, 0, 0, 0, 0, 0].getD k 0 := by rw [e1, wR_s, r0_273, va_upL (by decide)]; rfl
  have i1_273 : m1.1 273 = (fun _ => 0) := by rw [e1]; exact i0_273
  have l1_273 : m1.2.1 273 = (fun _ => 0) := by rw [e1]; exact l0_273
  have i1_274 : m1.1 274 = (fun _ => 0) := by rw [e1]; exact i0_274
  have l1_274 : m1.2.1 274 = (fun _ => 0) := by rw [e1]; exact l0_274
  have z1_274 : m1.2.2 274 = (fun _ => 0) := by rw [e1, wR_n _ _ _ (by omega)]; exact z0_274
  have q1 : ∀ q, q ≠ 273 → Eq3 m0 m1 q := fun q h => by rw [e1]; exact (Eq3.rf _ _).wR h
  refine co_aload_n dX12_init_13 rfl ?_
  refine co_sipush (v := 5968) dX12_init_14 (by decide) ?_
  refine co_newa (ty := .int) (ix := 0) (a0 := (5968, .inl (fun _ => 0))) dX12_init_17 (by omega) rfl lar_int rfl (fun _ _ h => h) sh_275 kcI (fun _ => rfl) ⟨by decide, by decide⟩ (by decide) (by decide) (by decide) ?_
  have hR275 : Fz 275 m1 := hF1
  have hF1 := hF1.up
  refine co_putR (k := 1) (ty := .array .int) dX12_init_19 sh_273 (by omega) rfl inX12 (Nat.le_of_ble_eq_true rfl) lf_X12_13 tyX12 tyX12_ok nmX12 rfl rfl rfl (by decide +kernel) rfl rfl (by omega) ?_
  obtain ⟨m2, e2⟩ : ∃ z : Mem, z = wR m1 273 1 275 := ⟨_, rfl⟩
  rw [← e2]
  have hF2 : Fz 276 m2 := by rw [e2]; exact hF1.wR (by omega)
  have r2_273 : m2.2.2 273 = fun k => [274, 275, 0, 0, 0, 0, 0, 0, 0, 0, 0, 0, 0, 0, 0, 0, 0, 0, 0, 0, 0, 0, 0, 0, 0, 0, 0, 0, 0, 0, 0, 0, 0, 0, 0].getD k 0 := by rw [e2, wR_s, r1_273, va_upL (by decide)]; rfl
  have i2_273 : m2.1 273 = (fun _ => 0) := by rw [e2]; exact i1_273
  have l2_273 : m2.2.1 273 = (fun _ => 0) := by rw [e2]; exact l1_273
  have i2_274 : m2.1 274 = (fun _ => 0) := by rw [e2]; exact i1_274
  have l2_274 : m2.2.1 274 = (fun _ => 0) := by rw [e2]; exact l1_274
  have z2_274 : m2.2.2 274 = (fun _ => 0) := by rw [e2, wR_n _ _ _ (by omega)]; exact z1_274
  have q2 : ∀ q, q ≠ 273 → Eq3 m1 m2 q := fun q h => by rw [e2]; exact (Eq3.rf _ _).wR h
  refine co_aload_n dX12_init_22 rfl ?_
  refine co_sipush (v := 3204) dX12_init_23 (by decide) ?_
  refine co_newa (ty := .int) (ix := 0) (a0 := (3204, .inl (fun _ => 0))) dX12_init_26 (by omega) rfl lar_int rfl (fun _ _ h => h) sh_276 kcI (fun _ => rfl) ⟨by decide, by decide⟩ (by decide) (by decide) (by decide) ?_
  have hR276 : Fz 276 m2 := hF2
  have hF2 := hF2.up
  refine co_putR (k := 2) (ty := .array .int) dX12_init_28 sh_273 (by omega) rfl inX12 (Nat.le_of_ble_eq_true rfl) lf_X12_16 tyX12 tyX12_ok nmX12 rfl rfl rfl (by decide +kernel) rfl rfl (by omega) ?_
  obtain ⟨m3, e3⟩ : ∃ z : Mem, z = wR m2 273 2 276 := ⟨_, rfl⟩
  rw [← e3]
  have hF3 : Fz 277 m3 := by rw [e3]; exact hF2.wR (by omega)
  have r3_273 : m3.2.2 273 = fun k => [274, 275, 276, 0, 0, 0, 0, 0, 0, 0, 0, 0, 0, 0, 0, 0, 0, 0, 0, 0, 0, 0, 0, 0, 0, 0, 0, 0, 0, 0, 0, 0, 0, 0, 0].getD k 0 := by rw [e3, wR_s, r2_273, va_upL (by decide)]; rfl
  have i3_273 : m3.1 273 = (fun _ => 0) := by rw [e3]; exact i2_273
  have l3_273 : m3.2.1 273 = (fun _ => 0) := by rw [e3]; exact l2_273
  have i3_274 : m3.1 274 = (fun _ => 0) := by rw [e3]; exact i2_274
  have l3_274 : m3.2.1 274 = (fun _ => 0) := by rw [e3]; exact l2_274
  have z3_274 : m3.2.2 274 = (fun _ => 0) := by rw [e3, wR_n _ _ _ (by omega)]; exact z2_274
  have q3 : ∀ q, q ≠ 273 → Eq3 m2 m3 q := fun q h => by rw [e3]; exact (Eq3.rf _ _).wR h
  refine co_aload_n dX12_init_31 rfl ?_
  refine co_iconst (v := 4) dX12_init_32 (by decide) ?_
  refine co_newa (ty := .int) (ix := 0) (a0 := (4, .inl (fun _ => 0))) dX12_init_33 (by omega) rfl lar_int rfl (fun _ _ h => h) sh_277 kcI (fun _ => rfl) ⟨by decide, by decide⟩ (by decide) (by decide) (by decide) ?_
  have hR277 : Fz 277 m3 := hF3
  have hF3 := hF3.up
  refine co_putR (k := 3) (ty := .array .int) dX12_init_35 sh_273 (by omega) rfl inX12 (Nat.le_of_ble_eq_true rfl) lf_X12_19 tyX12 tyX12_ok nmX12 rfl rfl rfl (by decide +kernel) rfl rfl (by omega) ?_
  obtain ⟨m4, e4⟩ : ∃ z : Mem, z = wR m3 273 3 277 := ⟨_, rfl⟩
  rw [← e4]
  have hF4 : Fz 278 m4 := by rw [e4]; exact hF3.wR (by omega)
  have r4_273 : m4.2.2 273 = fun k => [274, 275, 276, 277, 0, 0, 0, 0, 0, 0, 0, 0, 0, 0, 0, 0, 0, 0, 0, 0, 0, 0, 0, 0, 0, 0, 0, 0, 0, 0, 0, 0, 0, 0, 0].getD k 0 := by rw [e4, wR_s, r3_273, va_upL (by decide)]; rfl
  have i4_273 : m4.1 273 = (fun _ => 0) := by rw [e4]; exact i3_273
  have l4_273 : m4.2.1 273 = (fun _ => 0) := by rw [e4]; exact l3_273
  have i4_274 : m4.1 274 = (fun _ => 0) := by rw [e4]; exact i3_274
  have l4_274 : m4.2.1 274 = (fun _ => 0) := by rw [e4]; exact l3_274
  have z4_274 : m4.2.2 274 = (fun _ => 0) := by rw [e4, wR_n _ _ _ (by omega)]; exact z3_274
  have q4 : ∀ q, q ≠ 273 → Eq3 m3 m4 q := fun q h => by rw [e4]; exact (Eq3.rf _ _).wR h
  refine co_aload_n dX12_init_38 rfl ?_
  refine co_sipush (v := 300) dX12_init_39 (by decide) ?_
  refine co_newa (ty := .int) (ix := 0) (a0 := (300, .inl (fun _ => 0))) dX12_init_42 (by omega) rfl lar_int rfl (fun _ _ h => h) sh_278 kcI (fun _ => rfl) ⟨by decide, by decide⟩ (by decide) (by decide) (by decide) ?_
  have hR278 : Fz 278 m4 := hF4
  have hF4 := hF4.up
  refine co_putR (k := 4) (ty := .array .int) dX12_init_44 sh_273 (by omega) rfl inX12 (Nat.le_of_ble_eq_true rfl) lf_X12_22 tyX12 tyX12_ok nmX12 rfl rfl rfl (by decide +kernel) rfl rfl (by omega) ?_
  obtain ⟨m5, e5⟩ : ∃ z : Mem, z = wR m4 273 4 278 := ⟨_, rfl⟩
  rw [← e5]
  have hF5 : Fz 279 m5 := by rw [e5]; exact hF4.wR (by omega)
  have r5_273 : m5.2.2 273 = fun k => [274, 275, 276, 277, 278, 0, 0, 0, 0, 0, 0, 0, 0, 0, 0, 0, 0, 0, 0, 0, 0, 0, 0, 0, 0, 0, 0, 0, 0, 0, 0, 0, 0, 0, 0].getD k 0 := by rw [e5, wR_s, r4_273, va_upL (by decide)]; rfl
  have i5_273 : m5.1 273 = (fun _ => 0) := by rw [e5]; exact i4_273
  have l5_273 : m5.2.1 273 = (fun _ => 0) := by rw [e5]; exact l4_273
  have i5_274 : m5.1 274 = (fun _ => 0) := by rw [e5]; exact i4_274
  have l5_274 : m5.2.1 274 = (fun _ => 0) := by rw [e5]; exact l4_274
  have z5_274 : m5.2.2 274 = (fun _ => 0) := by rw [e5, wR_n _ _ _ (by omega)]; exact z4_274
  have q5 : ∀ q, q ≠ 273 → Eq3 m4 m5 q := fun q h => by rw [e5]; exact (Eq3.rf _ _).wR h
  refine co_aload_n dX12_init_47 rfl ?_
  refine co_iconst (v := -1) dX12_init_48 (by decide) ?_
  refine co_putI (k := 6) dX12_init_49 sh_273 (by omega) rfl inX12 (Nat.le_of_ble_eq_true rfl) lf_X12_25 tyX12 tyX12_ok nmX12 rfl rfl (by decide +kernel) ?_
  obtain ⟨m6, e6⟩ : ∃ z : Mem, z = wI m5 273 6 (-1) := ⟨_, rfl⟩
  rw [← e6]
  have hF6 : Fz 279 m6 := by rw [e6]; exact hF5.wI (by omega)
  have r6_273 : m6.2.2 273 = fun k => [274, 275, 276, 277, 278, 0, 0, 0, 0, 0, 0, 0, 0, 0, 0, 0, 0, 0, 0, 0, 0, 0, 0, 0, 0, 0, 0, 0, 0, 0, 0, 0, 0, 0, 0].getD k 0 := by rw [e6]; exact r5_273
  have i6_273 : m6.1 273 = (upd (fun _ => 0) 6 (-1)) := by rw [e6, wI_s, i5_273]
  have l6_273 : m6.2.1 273 = (fun _ => 0) := by rw [e6]; exact l5_273
  have i6_274 : m6.1 274 = (fun _ => 0) := by rw [e6, wI_n _ _ _ (by omega)]; exact i5_274
  have l6_274 : m6.2.1 274 = (fun _ => 0) := by rw [e6]; exact l5_274
  have z6_274 : m6.2.2 274 = (fun _ => 0) := by rw [e6]; exact z5_274
  have q6 : ∀ q, q ≠ 273 → Eq3 m5 m6 q := fun q h => by rw [e6]; exact (Eq3.rf _ _).wI h
  refine co_aload_n dX12_init_52 rfl ?_
  refine co_iconst (v := -1) dX12_init_53 (by decide) ?_
  refine co_putI (k := 7) dX12_init_54 sh_273 (by omega) rfl inX12 (Nat.le_of_ble_eq_true rfl) lf_X12_29 tyX12 tyX12_ok nmX12 rfl rfl (by decide +kernel) ?_
  obtain ⟨m7, e7⟩ : ∃ z : Mem, z = wI m6 273 7 (-1) := ⟨_, rfl⟩
  rw [← e7]
  have hF7 : Fz 279 m7 := by rw [e7]; exact hF6.wI (by omega)
  have r7_273 : m7.2.2 273 = fun k => [274, 275, 276, 277, 278, 0, 0, 0, 0, 0, 0, 0, 0, 0, 0, 0, 0, 0, 0, 0, 0, 0, 0, 0, 0, 0, 0, 0, 0, 0, 0, 0, 0, 0, 0].getD k 0 := by rw [e7]; exact r6_273
  have i7_273 : m7.1 273 = (upd (upd (fun _ => 0) 6 (-1)) 7 (-1)) := by rw [e7, wI_s, i6_273]
  have l7_273 : m7.2.1 273 = (fun _ => 0) := by rw [e7]; exact l6_273
  have i7_274 : m7.1 274 = (fun _ => 0) := by rw [e7, wI_n _ _ _ (by omega)]; exact i6_274
  have l7_274 : m7.2.1 274 = (fun _ => 0) := by rw [e7]; exact l6_274
  have z7_274 : m7.2.2 274 = (fun _ => 0) := by rw [e7]; exact z6_274
  have q7 : ∀ q, q ≠ 273 → Eq3 m6 m7 q := fun q h => by rw [e7]; exact (Eq3.rf _ _).wI h
  refine co_aload_n dX12_init_57 rfl ?_
  refine co_sipush (v := 160) dX12_init_58 (by decide) ?_
  refine co_newa (ty := .int) (ix := 0) (a0 := (160, .inl (fun _ => 0))) dX12_init_61 (by omega) rfl lar_int rfl (fun _ _ h => h) sh_279 kcI (fun _ => rfl) ⟨by decide, by decide⟩ (by decide) (by decide) (by decide) ?_
  have hR279 : Fz 279 m7 := hF7
  have hF7 := hF7.up
  refine co_putR (k := 16) (ty := .array .int) dX12_init_63 sh_273 (by omega) rfl inX12 (Nat.le_of_ble_eq_true rfl) lf_X12_32 tyX12 tyX12_ok nmX12 rfl rfl rfl (by decide +kernel) rfl rfl (by omega) ?_
  obtain ⟨m8, e8⟩ : ∃ z : Mem, z = wR m7 273 16 279 := ⟨_, rfl⟩
  rw [← e8]
  have hF8 : Fz 280 m8 := by rw [e8]; exact hF7.wR (by omega)
  have r8_273 : m8.2.2 273 = fun k => [274, 275, 276, 277, 278, 0, 0, 0, 0, 0, 0, 0, 0, 0, 0, 0, 279, 0, 0, 0, 0, 0, 0, 0, 0, 0, 0, 0, 0, 0, 0, 0, 0, 0, 0].getD k 0 := by rw [e8, wR_s, r7_273, va_upL (by decide)]; rfl
  have i8_273 : m8.1 273 = (upd (upd (fun _ => 0) 6 (-1)) 7 (-1)) := by rw [e8]; exact i7_273
  have l8_273 : m8.2.1 273 = (fun _ => 0) := by rw [e8]; exact l7_273
  have i8_274 : m8.1 274 = (fun _ => 0) := by rw [e8]; exact i7_274
  have l8_274 : m8.2.1 274 = (fun _ => 0) := by rw [e8]; exact l7_274
  have z8_274 : m8.2.2 274 = (fun _ => 0) := by rw [e8, wR_n _ _ _ (by omega)]; exact z7_274
  have q8 : ∀ q, q ≠ 273 → Eq3 m7 m8 q := fun q h => by rw [e8]; exact (Eq3.rf _ _).wR h
  refine co_aload_n dX12_init_66 rfl ?_
  refine co_bipush (v := 13) dX12_init_67 (by decide) ?_
  refine co_newa (ty := .int) (ix := 0) (a0 := (13, .inl (fun _ => 0))) dX12_init_69 (by omega) rfl lar_int rfl (fun _ _ h => h) sh_280 kcI (fun _ => rfl) ⟨by decide, by decide⟩ (by decide) (by decide) (by decide) ?_
  have hR280 : Fz 280 m8 := hF8
  have hF8 := hF8.up
  refine co_putR (k := 21) (ty := .array .int) dX12_init_71 sh_273 (by omega) rfl inX12 (Nat.le_of_ble_eq_true rfl) lf_X12_35 tyX12 tyX12_ok nmX12 rfl rfl rfl (by decide +kernel) rfl rfl (by omega) ?_
  obtain ⟨m9, e9⟩ : ∃ z : Mem, z = wR m8 273 21 280 := ⟨_, rfl⟩
  rw [← e9]
  have hF9 : Fz 281 m9 := by rw [e9]; exact hF8.wR (by omega)
  have r9_273 : m9.2.2 273 = fun k => [274, 275, 276, 277, 278, 0, 0, 0, 0, 0, 0, 0, 0, 0, 0, 0, 279, 0, 0, 0, 0, 280, 0, 0, 0, 0, 0, 0, 0, 0, 0, 0, 0, 0, 0].getD k 0 := by rw [e9, wR_s, r8_273, va_upL (by decide)]; rfl
  have i9_273 : m9.1 273 = (upd (upd (fun _ => 0) 6 (-1)) 7 (-1)) := by rw [e9]; exact i8_273
  have l9_273 : m9.2.1 273 = (fun _ => 0) := by rw [e9]; exact l8_273
  have i9_274 : m9.1 274 = (fun _ => 0) := by rw [e9]; exact i8_274
  have l9_274 : m9.2.1 274 = (fun _ => 0) := by rw [e9]; exact l8_274
  have z9_274 : m9.2.2 274 = (fun _ => 0) := by rw [e9, wR_n _ _ _ (by omega)]; exact z8_274
  have q9 : ∀ q, q ≠ 273 → Eq3 m8 m9 q := fun q h => by rw [e9]; exact (Eq3.rf _ _).wR h
  refine co_aload_n dX12_init_74 rfl ?_
  refine co_sipush (v := 330) dX12_init_75 (by decide) ?_
  refine co_newa (ty := .long) (ix := 3) (a0 := (330, .inr (.inl (fun _ => 0)))) dX12_init_78 (by omega) rfl lar_long rfl (fun _ _ h => h) sh_281 kcL (fun _ => rfl) ⟨by decide, by decide⟩ (by decide) (by decide) (by decide) ?_
  have hR281 : Fz 281 m9 := hF9
  have hF9 := hF9.up
  refine co_putR (k := 22) (ty := .array .long) dX12_init_80 sh_273 (by omega) rfl inX12 (Nat.le_of_ble_eq_true rfl) lf_X12_38 tyX12 tyX12_ok nmX12 rfl rfl rfl (by decide +kernel) rfl rfl (by omega) ?_
  obtain ⟨m10, e10⟩ : ∃ z : Mem, z = wR m9 273 22 281 := ⟨_, rfl⟩
  rw [← e10]
  have hF10 : Fz 282 m10 := by rw [e10]; exact hF9.wR (by omega)
  have r10_273 : m10.2.2 273 = fun k => [274, 275, 276, 277, 278, 0, 0, 0, 0, 0, 0, 0, 0, 0, 0, 0, 279, 0, 0, 0, 0, 280, 281, 0, 0, 0, 0, 0, 0, 0, 0, 0, 0, 0, 0].getD k 0 := by rw [e10, wR_s, r9_273, va_upL (by decide)]; rfl
  have i10_273 : m10.1 273 = (upd (upd (fun _ => 0) 6 (-1)) 7 (-1)) := by rw [e10]; exact i9_273
  have l10_273 : m10.2.1 273 = (fun _ => 0) := by rw [e10]; exact l9_273
  have i10_274 : m10.1 274 = (fun _ => 0) := by rw [e10]; exact i9_274
  have l10_274 : m10.2.1 274 = (fun _ => 0) := by rw [e10]; exact l9_274
  have z10_274 : m10.2.2 274 = (fun _ => 0) := by rw [e10, wR_n _ _ _ (by omega)]; exact z9_274
  have q10 : ∀ q, q ≠ 273 → Eq3 m9 m10 q := fun q h => by rw [e10]; exact (Eq3.rf _ _).wR h
  refine co_aload_n dX12_init_83 rfl ?_
  refine co_sipush (v := 330) dX12_init_84 (by decide) ?_
  refine co_newa (ty := .boolean) (ix := 2) (a0 := (330, .inl (fun _ => 0))) dX12_init_87 (by omega) rfl lar_boolean rfl (fun _ _ h => h) sh_282 kcZ (fun _ => rfl) ⟨by decide, by decide⟩ (by decide) (by decide) (by decide) ?_
  have hR282 : Fz 282 m10 := hF10
  have hF10 := hF10.up
  refine co_putR (k := 23) (ty := .array .boolean) dX12_init_89 sh_273 (by omega) rfl inX12 (Nat.le_of_ble_eq_true rfl) lf_X12_42 tyX12 tyX12_ok nmX12 rfl rfl rfl (by decide +kernel) rfl rfl (by omega) ?_
  obtain ⟨m11, e11⟩ : ∃ z : Mem, z = wR m10 273 23 282 := ⟨_, rfl⟩
  rw [← e11]
  have hF11 : Fz 283 m11 := by rw [e11]; exact hF10.wR (by omega)
  have r11_273 : m11.2.2 273 = fun k => [274, 275, 276, 277, 278, 0, 0, 0, 0, 0, 0, 0, 0, 0, 0, 0, 279, 0, 0, 0, 0, 280, 281, 282, 0, 0, 0, 0, 0, 0, 0, 0, 0, 0, 0].getD k 0 := by rw [e11, wR_s, r10_273, va_upL (by decide)]; rfl
  have i11_273 : m11.1 273 = (upd (upd (fun _ => 0) 6 (-1)) 7 (-1)) := by rw [e11]; exact i10_273
  have l11_273 : m11.2.1 273 = (fun _ => 0) := by rw [e11]; exact l10_273
  have i11_274 : m11.1 274 = (fun _ => 0) := by rw [e11]; exact i10_274
  have l11_274 : m11.2.1 274 = (fun _ => 0) := by rw [e11]; exact l10_274
  have z11_274 : m11.2.2 274 = (fun _ => 0) := by rw [e11, wR_n _ _ _ (by omega)]; exact z10_274
  have q11 : ∀ q, q ≠ 273 → Eq3 m10 m11 q := fun q h => by rw [e11]; exact (Eq3.rf _ _).wR h
  refine co_aload_n dX12_init_92 rfl ?_
  refine co_bipush (v := 24) dX12_init_93 (by decide) ?_
  refine co_newa (ty := .int) (ix := 0) (a0 := (24, .inl (fun _ => 0))) dX12_init_95 (by omega) rfl lar_int rfl (fun _ _ h => h) sh_283 kcI (fun _ => rfl) ⟨by decide, by decide⟩ (by decide) (by decide) (by decide) ?_
  have hR283 : Fz 283 m11 := hF11
  have hF11 := hF11.up
  refine co_putR (k := 24) (ty := .array .int) dX12_init_97 sh_273 (by omega) rfl inX12 (Nat.le_of_ble_eq_true rfl) lf_X12_46 tyX12 tyX12_ok nmX12 rfl rfl rfl (by decide +kernel) rfl rfl (by omega) ?_
  obtain ⟨m12, e12⟩ : ∃ z : Mem, z = wR m11 273 24 283 := ⟨_, rfl⟩
  rw [← e12]
  have hF12 : Fz 284 m12 := by rw [e12]; exact hF11.wR (by omega)
  have r12_273 : m12.2.2 273 = fun k => [274, 275, 276, 277, 278, 0, 0, 0, 0, 0, 0, 0, 0, 0, 0, 0, 279, 0, 0, 0, 0, 280, 281, 282, 283, 0, 0, 0, 0, 0, 0, 0, 0, 0, 0].getD k 0 := by rw [e12, wR_s, r11_273, va_upL (by decide)]; rfl
  have i12_273 : m12.1 273 = (upd (upd (fun _ => 0) 6 (-1)) 7 (-1)) := by rw [e12]; exact i11_273
  have l12_273 : m12.2.1 273 = (fun _ => 0) := by rw [e12]; exact l11_273
  have i12_274 : m12.1 274 = (fun _ => 0) := by rw [e12]; exact i11_274
  have l12_274 : m12.2.1 274 = (fun _ => 0) := by rw [e12]; exact l11_274
  have z12_274 : m12.2.2 274 = (fun _ => 0) := by rw [e12, wR_n _ _ _ (by omega)]; exact z11_274
  have q12 : ∀ q, q ≠ 273 → Eq3 m11 m12 q := fun q h => by rw [e12]; exact (Eq3.rf _ _).wR h
  refine co_aload_n dX12_init_100 rfl ?_
  refine co_sipush (v := 6875) dX12_init_101 (by decide) ?_
  refine co_newa (ty := .int) (ix := 0) (a0 := (6875, .inl (fun _ => 0))) dX12_init_104 (by omega) rfl lar_int rfl (fun _ _ h => h) sh_284 kcI (fun _ => rfl) ⟨by decide, by decide⟩ (by decide) (by decide) (by decide) ?_
  have hR284 : Fz 284 m12 := hF12
  have hF12 := hF12.up
  refine co_putR (k := 25) (ty := .array .int) dX12_init_106 sh_273 (by omega) rfl inX12 (Nat.le_of_ble_eq_true rfl) lf_X12_49 tyX12 tyX12_ok nmX12 rfl rfl rfl (by decide +kernel) rfl rfl (by omega) ?_
  obtain ⟨m13, e13⟩ : ∃ z : Mem, z = wR m12 273 25 284 := ⟨_, rfl⟩
  rw [← e13]
  have hF13 : Fz 285 m13 := by rw [e13]; exact hF12.wR (by omega)
  have r13_273 : m13.2.2 273 = fun k => [274, 275, 276, 277, 278, 0, 0, 0, 0, 0, 0, 0, 0, 0, 0, 0, 279, 0, 0, 0, 0, 280, 281, 282, 283, 284, 0, 0, 0, 0, 0, 0, 0, 0, 0].getD k 0 := by rw [e13, wR_s, r12_273, va_upL (by decide)]; rfl
  have i13_273 : m13.1 273 = (upd (upd (fun _ => 0) 6 (-1)) 7 (-1)) := by rw [e13]; exact i12_273
  have l13_273 : m13.2.1 273 = (fun _ => 0) := by rw [e13]; exact l12_273
  have i13_274 : m13.1 274 = (fun _ => 0) := by rw [e13]; exact i12_274
  have l13_274 : m13.2.1 274 = (fun _ => 0) := by rw [e13]; exact l12_274
  have z13_274 : m13.2.2 274 = (fun _ => 0) := by rw [e13, wR_n _ _ _ (by omega)]; exact z12_274
  have q13 : ∀ q, q ≠ 273 → Eq3 m12 m13 q := fun q h => by rw [e13]; exact (Eq3.rf _ _).wR h
  refine co_aload_n dX12_init_109 rfl ?_
  refine co_sipush (v := 2500) dX12_init_110 (by decide) ?_
  refine co_newa (ty := .boolean) (ix := 2) (a0 := (2500, .inl (fun _ => 0))) dX12_init_113 (by omega) rfl lar_boolean rfl (fun _ _ h => h) sh_285 kcZ (fun _ => rfl) ⟨by decide, by decide⟩ (by decide) (by decide) (by decide) ?_
  have hR285 : Fz 285 m13 := hF13
  have hF13 := hF13.up
  refine co_putR (k := 26) (ty := .array .boolean) dX12_init_115 sh_273 (by omega) rfl inX12 (Nat.le_of_ble_eq_true rfl) lf_X12_52 tyX12 tyX12_ok nmX12 rfl rfl rfl (by decide +kernel) rfl rfl (by omega) ?_
  obtain ⟨m14, e14⟩ : ∃ z : Mem, z = wR m13 273 26 285 := ⟨_, rfl⟩
  rw [← e14]
  have hF14 : Fz 286 m14 := by rw [e14]; exact hF13.wR (by omega)
  have r14_273 : m14.2.2 273 = fun k => [274, 275, 276, 277, 278, 0, 0, 0, 0, 0, 0, 0, 0, 0, 0, 0, 279, 0, 0, 0, 0, 280, 281, 282, 283, 284, 285, 0, 0, 0, 0, 0, 0, 0, 0].getD k 0 := by rw [e14, wR_s, r13_273, va_upL (by decide)]; rfl
  have i14_273 : m14.1 273 = (upd (upd (fun _ => 0) 6 (-1)) 7 (-1)) := by rw [e14]; exact i13_273
  have l14_273 : m14.2.1 273 = (fun _ => 0) := by rw [e14]; exact l13_273
  have i14_274 : m14.1 274 = (fun _ => 0) := by rw [e14]; exact i13_274
  have l14_274 : m14.2.1 274 = (fun _ => 0) := by rw [e14]; exact l13_274
  have z14_274 : m14.2.2 274 = (fun _ => 0) := by rw [e14, wR_n _ _ _ (by omega)]; exact z13_274
  have q14 : ∀ q, q ≠ 273 → Eq3 m13 m14 q := fun q h => by rw [e14]; exact (Eq3.rf _ _).wR h
  refine co_aload_n dX12_init_118 rfl ?_
  refine co_bipush (v := 10) dX12_init_119 (by decide) ?_
  refine co_newa (ty := .boolean) (ix := 2) (a0 := (10, .inl (fun _ => 0))) dX12_init_121 (by omega) rfl lar_boolean rfl (fun _ _ h => h) sh_286 kcZ (fun _ => rfl) ⟨by decide, by decide⟩ (by decide) (by decide) (by decide) ?_
  have hR286 : Fz 286 m14 := hF14
  have hF14 := hF14.up
  refine co_putR (k := 27) (ty := .array .boolean) dX12_init_123 sh_273 (by omega) rfl inX12 (Nat.le_of_ble_eq_true rfl) lf_X12_55 tyX12 tyX12_ok nmX12 rfl rfl rfl (by decide +kernel) rfl rfl (by omega) ?_
  obtain ⟨m15, e15⟩ : ∃ z : Mem, z = wR m14 273 27 286 := ⟨_, rfl⟩
  rw [← e15]
  have hF15 : Fz 287 m15 := by rw [e15]; exact hF14.wR (by omega)
  have r15_273 : m15.2.2 273 = fun k => [274, 275, 276, 277, 278, 0, 0, 0, 0, 0, 0, 0, 0, 0, 0, 0, 279, 0, 0, 0, 0, 280, 281, 282, 283, 284, 285, 286, 0, 0, 0, 0, 0, 0, 0].getD k 0 := by rw [e15, wR_s, r14_273, va_upL (by decide)]; rfl
  have i15_273 : m15.1 273 = (upd (upd (fun _ => 0) 6 (-1)) 7 (-1)) := by rw [e15]; exact i14_273
  have l15_273 : m15.2.1 273 = (fun _ => 0) := by rw [e15]; exact l14_273
  have i15_274 : m15.1 274 = (fun _ => 0) := by rw [e15]; exact i14_274
  have l15_274 : m15.2.1 274 = (fun _ => 0) := by rw [e15]; exact l14_274
  have z15_274 : m15.2.2 274 = (fun _ => 0) := by rw [e15, wR_n _ _ _ (by omega)]; exact z14_274
  have q15 : ∀ q, q ≠ 273 → Eq3 m14 m15 q := fun q h => by rw [e15]; exact (Eq3.rf _ _).wR h
  refine co_aload_n dX12_init_126 rfl ?_
  refine co_bipush (v := 24) dX12_init_127 (by decide) ?_
  refine co_newa (ty := .int) (ix := 0) (a0 := (24, .inl (fun _ => 0))) dX12_init_129 (by omega) rfl lar_int rfl (fun _ _ h => h) sh_287 kcI (fun _ => rfl) ⟨by decide, by decide⟩ (by decide) (by decide) (by decide) ?_
  have hR287 : Fz 287 m15 := hF15
  have hF15 := hF15.up
  refine co_putR (k := 28) (ty := .array .int) dX12_init_131 sh_273 (by omega) rfl inX12 (Nat.le_of_ble_eq_true rfl) lf_X12_58 tyX12 tyX12_ok nmX12 rfl rfl rfl (by decide +kernel) rfl rfl (by omega) ?_
  obtain ⟨m16, e16⟩ : ∃ z : Mem, z = wR m15 273 28 287 := ⟨_, rfl⟩
  rw [← e16]
  have hF16 : Fz 288 m16 := by rw [e16]; exact hF15.wR (by omega)
  have r16_273 : m16.2.2 273 = fun k => [274, 275, 276, 277, 278, 0, 0, 0, 0, 0, 0, 0, 0, 0, 0, 0, 279, 0, 0, 0, 0, 280, 281, 282, 283, 284, 285, 286, 287, 0, 0, 0, 0, 0, 0].getD k 0 := by rw [e16, wR_s, r15_273, va_upL (by decide)]; rfl
  have i16_273 : m16.1 273 = (upd (upd (fun _ => 0) 6 (-1)) 7 (-1)) := by rw [e16]; exact i15_273
  have l16_273 : m16.2.1 273 = (fun _ => 0) := by rw [e16]; exact l15_273
  have i16_274 : m16.1 274 = (fun _ => 0) := by rw [e16]; exact i15_274
  have l16_274 : m16.2.1 274 = (fun _ => 0) := by rw [e16]; exact l15_274
  have z16_274 : m16.2.2 274 = (fun _ => 0) := by rw [e16, wR_n _ _ _ (by omega)]; exact z15_274
  have q16 : ∀ q, q ≠ 273 → Eq3 m15 m16 q := fun q h => by rw [e16]; exact (Eq3.rf _ _).wR h
  refine co_aload_n dX12_init_134 rfl ?_
  refine co_bipush (v := 24) dX12_init_135 (by decide) ?_
  refine co_newa (ty := .int) (ix := 0) (a0 := (24, .inl (fun _ => 0))) dX12_init_137 (by omega) rfl lar_int rfl (fun _ _ h => h) sh_288 kcI (fun _ => rfl) ⟨by decide, by decide⟩ (by decide) (by decide) (by decide) ?_
  have hR288 : Fz 288 m16 := hF16
  have hF16 := hF16.up
  refine co_putR (k := 29) (ty := .array .int) dX12_init_139 sh_273 (by omega) rfl inX12 (Nat.le_of_ble_eq_true rfl) lf_X12_61 tyX12 tyX12_ok nmX12 rfl rfl rfl (by decide +kernel) rfl rfl (by omega) ?_
  obtain ⟨m17, e17⟩ : ∃ z : Mem, z = wR m16 273 29 288 := ⟨_, rfl⟩
  rw [← e17]
  have hF17 : Fz 289 m17 := by rw [e17]; exact hF16.wR (by omega)
  have r17_273 : m17.2.2 273 = fun k => [274, 275, 276, 277, 278, 0, 0, 0, 0, 0, 0, 0, 0, 0, 0, 0, 279, 0, 0, 0, 0, 280, 281, 282, 283, 284, 285, 286, 287, 288, 0, 0, 0, 0, 0].getD k 0 := by rw [e17, wR_s, r16_273, va_upL (by decide)]; rfl
  have i17_273 : m17.1 273 = (upd (upd (fun _ => 0) 6 (-1)) 7 (-1)) := by rw [e17]; exact i16_273
  have l17_273 : m17.2.1 273 = (fun _ => 0) := by rw [e17]; exact l16_273
  have i17_274 : m17.1 274 = (fun _ => 0) := by rw [e17]; exact i16_274
  have l17_274 : m17.2.1 274 = (fun _ => 0) := by rw [e17]; exact l16_274
  have z17_274 : m17.2.2 274 = (fun _ => 0) := by rw [e17, wR_n _ _ _ (by omega)]; exact z16_274
  have q17 : ∀ q, q ≠ 273 → Eq3 m16 m17 q := fun q h => by rw [e17]; exact (Eq3.rf _ _).wR h
  refine co_aload_n dX12_init_142 rfl ?_
  refine co_sipush (v := 625) dX12_init_143 (by decide) ?_
  refine co_newa (ty := .int) (ix := 0) (a0 := (625, .inl (fun _ => 0))) dX12_init_146 (by omega) rfl lar_int rfl (fun _ _ h => h) sh_289 kcI (fun _ => rfl) ⟨by decide, by decide⟩ (by decide) (by decide) (by decide) ?_
  have hR289 : Fz 289 m17 := hF17
  have hF17 := hF17.up
  refine co_putR (k := 30) (ty := .array .int) dX12_init_148 sh_273 (by omega) rfl inX12 (Nat.le_of_ble_eq_true rfl) lf_X12_64 tyX12 tyX12_ok nmX12 rfl rfl rfl (by decide +kernel) rfl rfl (by omega) ?_
  obtain ⟨m18, e18⟩ : ∃ z : Mem, z = wR m17 273 30 289 := ⟨_, rfl⟩
  rw [← e18]
  have hF18 : Fz 290 m18 := by rw [e18]; exact hF17.wR (by omega)
  have r18_273 : m18.2.2 273 = fun k => [274, 275, 276, 277, 278, 0, 0, 0, 0, 0, 0, 0, 0, 0, 0, 0, 279, 0, 0, 0, 0, 280, 281, 282, 283, 284, 285, 286, 287, 288, 289, 0, 0, 0, 0].getD k 0 := by rw [e18, wR_s, r17_273, va_upL (by decide)]; rfl
  have i18_273 : m18.1 273 = (upd (upd (fun _ => 0) 6 (-1)) 7 (-1)) := by rw [e18]; exact i17_273
  have l18_273 : m18.2.1 273 = (fun _ => 0) := by rw [e18]; exact l17_273
  have i18_274 : m18.1 274 = (fun _ => 0) := by rw [e18]; exact i17_274
  have l18_274 : m18.2.1 274 = (fun _ => 0) := by rw [e18]; exact l17_274
  have z18_274 : m18.2.2 274 = (fun _ => 0) := by rw [e18, wR_n _ _ _ (by omega)]; exact z17_274
  have q18 : ∀ q, q ≠ 273 → Eq3 m17 m18 q := fun q h => by rw [e18]; exact (Eq3.rf _ _).wR h
  refine co_aload_n dX12_init_151 rfl ?_
  refine co_bipush (v := 10) dX12_init_152 (by decide) ?_
  refine co_newa (ty := .int) (ix := 0) (a0 := (10, .inl (fun _ => 0))) dX12_init_154 (by omega) rfl lar_int rfl (fun _ _ h => h) sh_290 kcI (fun _ => rfl) ⟨by decide, by decide⟩ (by decide) (by decide) (by decide) ?_
  have hR290 : Fz 290 m18 := hF18
  have hF18 := hF18.up
  refine co_putR (k := 31) (ty := .array .int) dX12_init_156 sh_273 (by omega) rfl inX12 (Nat.le_of_ble_eq_true rfl) lf_X12_67 tyX12 tyX12_ok nmX12 rfl rfl rfl (by decide +kernel) rfl rfl (by omega) ?_
  obtain ⟨m19, e19⟩ : ∃ z : Mem, z = wR m18 273 31 290 := ⟨_, rfl⟩
  rw [← e19]
  have hF19 : Fz 291 m19 := by rw [e19]; exact hF18.wR (by omega)
  have r19_273 : m19.2.2 273 = fun k => [274, 275, 276, 277, 278, 0, 0, 0, 0, 0, 0, 0, 0, 0, 0, 0, 279, 0, 0, 0, 0, 280, 281, 282, 283, 284, 285, 286, 287, 288, 289, 290, 0, 0, 0].getD k 0 := by rw [e19, wR_s, r18_273, va_upL (by decide)]; rfl
  have i19_273 : m19.1 273 = (upd (upd (fun _ => 0) 6 (-1)) 7 (-1)) := by rw [e19]; exact i18_273
  have l19_273 : m19.2.1 273 = (fun _ => 0) := by rw [e19]; exact l18_273
  have i19_274 : m19.1 274 = (fun _ => 0) := by rw [e19]; exact i18_274
  have l19_274 : m19.2.1 274 = (fun _ => 0) := by rw [e19]; exact l18_274
  have z19_274 : m19.2.2 274 = (fun _ => 0) := by rw [e19, wR_n _ _ _ (by omega)]; exact z18_274
  have q19 : ∀ q, q ≠ 273 → Eq3 m18 m19 q := fun q h => by rw [e19]; exact (Eq3.rf _ _).wR h
  refine co_aload_n dX12_init_159 rfl ?_
  refine co_bipush (v := 120) dX12_init_160 (by decide) ?_
  refine co_newa (ty := .int) (ix := 0) (a0 := (120, .inl (fun _ => 0))) dX12_init_162 (by omega) rfl lar_int rfl (fun _ _ h => h) sh_291 kcI (fun _ => rfl) ⟨by decide, by decide⟩ (by decide) (by decide) (by decide) ?_
  have hR291 : Fz 291 m19 := hF19
  have hF19 := hF19.up
  refine co_putR (k := 32) (ty := .array .int) dX12_init_164 sh_273 (by omega) rfl inX12 (Nat.le_of_ble_eq_true rfl) lf_X12_70 tyX12 tyX12_ok nmX12 rfl rfl rfl (by decide +kernel) rfl rfl (by omega) ?_
  obtain ⟨m20, e20⟩ : ∃ z : Mem, z = wR m19 273 32 291 := ⟨_, rfl⟩
  rw [← e20]
  have hF20 : Fz 292 m20 := by rw [e20]; exact hF19.wR (by omega)
  have r20_273 : m20.2.2 273 = fun k => [274, 275, 276, 277, 278, 0, 0, 0, 0, 0, 0, 0, 0, 0, 0, 0, 279, 0, 0, 0, 0, 280, 281, 282, 283, 284, 285, 286, 287, 288, 289, 290, 291, 0, 0].getD k 0 := by rw [e20, wR_s, r19_273, va_upL (by decide)]; rfl
  have i20_273 : m20.1 273 = (upd (upd (fun _ => 0) 6 (-1)) 7 (-1)) := by rw [e20]; exact i19_273
  have l20_273 : m20.2.1 273 = (fun _ => 0) := by rw [e20]; exact l19_273
  have i20_274 : m20.1 274 = (fun _ => 0) := by rw [e20]; exact i19_274
  have l20_274 : m20.2.1 274 = (fun _ => 0) := by rw [e20]; exact l19_274
  have z20_274 : m20.2.2 274 = (fun _ => 0) := by rw [e20, wR_n _ _ _ (by omega)]; exact z19_274
  have q20 : ∀ q, q ≠ 273 → Eq3 m19 m20 q := fun q h => by rw [e20]; exact (Eq3.rf _ _).wR h
  refine co_aload_n dX12_init_167 rfl ?_
  refine co_bipush (v := 120) dX12_init_168 (by decide) ?_
  refine co_newa (ty := .int) (ix := 0) (a0 := (120, .inl (fun _ => 0))) dX12_init_170 (by omega) rfl lar_int rfl (fun _ _ h => h) sh_292 kcI (fun _ => rfl) ⟨by decide, by decide⟩ (by decide) (by decide) (by decide) ?_
  have hR292 : Fz 292 m20 := hF20
  have hF20 := hF20.up
  refine co_putR (k := 33) (ty := .array .int) dX12_init_172 sh_273 (by omega) rfl inX12 (Nat.le_of_ble_eq_true rfl) lf_X12_73 tyX12 tyX12_ok nmX12 rfl rfl rfl (by decide +kernel) rfl rfl (by omega) ?_
  obtain ⟨m21, e21⟩ : ∃ z : Mem, z = wR m20 273 33 292 := ⟨_, rfl⟩
  rw [← e21]
  have hF21 : Fz 293 m21 := by rw [e21]; exact hF20.wR (by omega)
  have r21_273 : m21.2.2 273 = fun k => [274, 275, 276, 277, 278, 0, 0, 0, 0, 0, 0, 0, 0, 0, 0, 0, 279, 0, 0, 0, 0, 280, 281, 282, 283, 284, 285, 286, 287, 288, 289, 290, 291, 292, 0].getD k 0 := by rw [e21, wR_s, r20_273, va_upL (by decide)]; rfl
  have i21_273 : m21.1 273 = (upd (upd (fun _ => 0) 6 (-1)) 7 (-1)) := by rw [e21]; exact i20_273
  have l21_273 : m21.2.1 273 = (fun _ => 0) := by rw [e21]; exact l20_273
  have i21_274 : m21.1 274 = (fun _ => 0) := by rw [e21]; exact i20_274
  have l21_274 : m21.2.1 274 = (fun _ => 0) := by rw [e21]; exact l20_274
  have z21_274 : m21.2.2 274 = (fun _ => 0) := by rw [e21, wR_n _ _ _ (by omega)]; exact z20_274
  have q21 : ∀ q, q ≠ 273 → Eq3 m20 m21 q := fun q h => by rw [e21]; exact (Eq3.rf _ _).wR h
  refine co_aload_n dX12_init_175 rfl ?_
  refine co_getR (k := 0) (r := 274) dX12_init_176 sh_273 (by omega) rfl inX12 (Nat.le_of_ble_eq_true rfl) lf_X12_7 rfl (by rw [r21_273]; rfl) (by omega) ?_
  refine co_bipush (v := 12) dX12_init_179 (by decide) ?_
  refine co_bipush (v := 101) dX12_init_181 (by decide) ?_
  refine co_iast dX12_init_183 sh_274 (by omega) (vp_in_dec (by decide)) ?_
  rw [show ((12 : Int32)).toNatClampNeg = 12 by decide]
  obtain ⟨m22, e22⟩ : ∃ z : Mem, z = wI m21 274 12 101 := ⟨_, rfl⟩
  rw [← e22]
  have hF22 : Fz 293 m22 := by rw [e22]; exact hF21.wI (by omega)
  have r22_273 : m22.2.2 273 = fun k => [274, 275, 276, 277, 278, 0, 0, 0, 0, 0, 0, 0, 0, 0, 0, 0, 279, 0, 0, 0, 0, 280, 281, 282, 283, 284, 285, 286, 287, 288, 289, 290, 291, 292, 0].getD k 0 := by rw [e22]; exact r21_273
  have i22_273 : m22.1 273 = (upd (upd (fun _ => 0) 6 (-1)) 7 (-1)) := by rw [e22, wI_n _ _ _ (by omega)]; exact i21_273
  have l22_273 : m22.2.1 273 = (fun _ => 0) := by rw [e22]; exact l21_273
  have i22_274 : m22.1 274 = (upd (fun _ => 0) 12 101) := by rw [e22, wI_s, i21_274]
  have l22_274 : m22.2.1 274 = (fun _ => 0) := by rw [e22]; exact l21_274
  have z22_274 : m22.2.2 274 = (fun _ => 0) := by rw [e22]; exact z21_274
  have q22 : ∀ q, q ≠ 274 → Eq3 m21 m22 q := fun q h => by rw [e22]; exact (Eq3.rf _ _).wI h
  refine co_aload_n dX12_init_184 rfl ?_
  refine co_getR (k := 0) (r := 274) dX12_init_185 sh_273 (by omega) rfl inX12 (Nat.le_of_ble_eq_true rfl) lf_X12_7 rfl (by rw [r22_273]; rfl) (by omega) ?_
  refine co_iconst (v := 3) dX12_init_188 (by decide) ?_
  refine co_iconst (v := -1) dX12_init_189 (by decide) ?_
  refine co_iast dX12_init_190 sh_274 (by omega) (vp_in_dec (by decide)) ?_
  rw [show ((3 : Int32)).toNatClampNeg = 3 by decide]
  obtain ⟨m23, e23⟩ : ∃ z : Mem, z = wI m22 274 3 (-1) := ⟨_, rfl⟩
  rw [← e23]
  have hF23 : Fz 293 m23 := by rw [e23]; exact hF22.wI (by omega)
  have r23_273 : m23.2.2 273 = fun k => [274, 275, 276, 277, 278, 0, 0, 0, 0, 0, 0, 0, 0, 0, 0, 0, 279, 0, 0, 0, 0, 280, 281, 282, 283, 284, 285, 286, 287, 288, 289, 290, 291, 292, 0].getD k 0 := by rw [e23]; exact r22_273
  have i23_273 : m23.1 273 = (upd (upd (fun _ => 0) 6 (-1)) 7 (-1)) := by rw [e23, wI_n _ _ _ (by omega)]; exact i22_273
  have l23_273 : m23.2.1 273 = (fun _ => 0) := by rw [e23]; exact l22_273
  have i23_274 : m23.1 274 = (upd (upd (fun _ => 0) 12 101) 3 (-1)) := by rw [e23, wI_s, i22_274]
  have l23_274 : m23.2.1 274 = (fun _ => 0) := by rw [e23]; exact l22_274
  have z23_274 : m23.2.2 274 = (fun _ => 0) := by rw [e23]; exact z22_274
  have q23 : ∀ q, q ≠ 274 → Eq3 m22 m23 q := fun q h => by rw [e23]; exact (Eq3.rf _ _).wI h
  refine co_aload_n dX12_init_191 rfl ?_
  refine co_getR (k := 0) (r := 274) dX12_init_192 sh_273 (by omega) rfl inX12 (Nat.le_of_ble_eq_true rfl) lf_X12_7 rfl (by rw [r23_273]; rfl) (by omega) ?_
  refine co_bipush (v := 8) dX12_init_195 (by decide) ?_
  refine co_iconst (v := 2) dX12_init_197 (by decide) ?_
  refine co_iast dX12_init_198 sh_274 (by omega) (vp_in_dec (by decide)) ?_
  rw [show ((8 : Int32)).toNatClampNeg = 8 by decide]
  obtain ⟨m24, e24⟩ : ∃ z : Mem, z = wI m23 274 8 2 := ⟨_, rfl⟩
  rw [← e24]
  have hF24 : Fz 293 m24 := by rw [e24]; exact hF23.wI (by omega)
  have r24_273 : m24.2.2 273 = fun k => [274, 275, 276, 277, 278, 0, 0, 0, 0, 0, 0, 0, 0, 0, 0, 0, 279, 0, 0, 0, 0, 280, 281, 282, 283, 284, 285, 286, 287, 288, 289, 290, 291, 292, 0].getD k 0 := by rw [e24]; exact r23_273
  have i24_273 : m24.1 273 = (upd (upd (fun _ => 0) 6 (-1)) 7 (-1)) := by rw [e24, wI_n _ _ _ (by omega)]; exact i23_273
  have l24_273 : m24.2.1 273 = (fun _ => 0) := by rw [e24]; exact l23_273
  have i24_274 : m24.1 274 = (upd (upd (upd (fun _ => 0) 12 101) 3 (-1)) 8 2) := by rw [e24, wI_s, i23_274]
  have l24_274 : m24.2.1 274 = (fun _ => 0) := by rw [e24]; exact l23_274
  have z24_274 : m24.2.2 274 = (fun _ => 0) := by rw [e24]; exact z23_274
  have q24 : ∀ q, q ≠ 274 → Eq3 m23 m24 q := fun q h => by rw [e24]; exact (Eq3.rf _ _).wI h
  refine co_aload_n dX12_init_199 rfl ?_
  refine co_getR (k := 0) (r := 274) dX12_init_200 sh_273 (by omega) rfl inX12 (Nat.le_of_ble_eq_true rfl) lf_X12_7 rfl (by rw [r24_273]; rfl) (by omega) ?_
  refine co_bipush (v := 11) dX12_init_203 (by decide) ?_
  refine co_bipush (v := 9) dX12_init_205 (by decide) ?_
  refine co_iast dX12_init_207 sh_274 (by omega) (vp_in_dec (by decide)) ?_
  rw [show ((11 : Int32)).toNatClampNeg = 11 by decide]
  obtain ⟨m25, e25⟩ : ∃ z : Mem, z = wI m24 274 11 9 := ⟨_, rfl⟩
  rw [← e25]
  have hF25 : Fz 293 m25 := by rw [e25]; exact hF24.wI (by omega)
  have r25_273 : m25.2.2 273 = fun k => [274, 275, 276, 277, 278, 0, 0, 0, 0, 0, 0, 0, 0, 0, 0, 0, 279, 0, 0, 0, 0, 280, 281, 282, 283, 284, 285, 286, 287, 288, 289, 290, 291, 292, 0].getD k 0 := by rw [e25]; exact r24_273
  have i25_273 : m25.1 273 = (upd (upd (fun _ => 0) 6 (-1)) 7 (-1)) := by rw [e25, wI_n _ _ _ (by omega)]; exact i24_273
  have l25_273 : m25.2.1 273 = (fun _ => 0) := by rw [e25]; exact l24_273
  have i25_274 : m25.1 274 = (upd (upd (upd (upd (fun _ => 0) 12 101) 3 (-1)) 8 2) 11 9) := by rw [e25, wI_s, i24_274]
  have l25_274 : m25.2.1 274 = (fun _ => 0) := by rw [e25]; exact l24_274
  have z25_274 : m25.2.2 274 = (fun _ => 0) := by rw [e25]; exact z24_274
  have q25 : ∀ q, q ≠ 274 → Eq3 m24 m25 q := fun q h => by rw [e25]; exact (Eq3.rf _ _).wI h
  refine co_aload_n dX12_init_208 rfl ?_
  refine co_getR (k := 0) (r := 274) dX12_init_209 sh_273 (by omega) rfl inX12 (Nat.le_of_ble_eq_true rfl) lf_X12_7 rfl (by rw [r25_273]; rfl) (by omega) ?_
  refine co_aload_n dX12_init_212 rfl ?_
  refine co_getR (k := 1) (r := 275) dX12_init_213 sh_273 (by omega) rfl inX12 (Nat.le_of_ble_eq_true rfl) lf_X12_13 rfl (by rw [r25_273]; rfl) (by omega) ?_
  have E25 : ∀ q, q ≠ 273 → q ≠ 274 → Eq3 m25 m25 q := fun q h273 h274 => Eq3.rf _ _
  have E24 : ∀ q, q ≠ 273 → q ≠ 274 → Eq3 m24 m25 q := fun q h273 h274 => (q25 q h274).tr (E25 q h273 h274)
  have E23 : ∀ q, q ≠ 273 → q ≠ 274 → Eq3 m23 m25 q := fun q h273 h274 => (q24 q h274).tr (E24 q h273 h274)
  have E22 : ∀ q, q ≠ 273 → q ≠ 274 → Eq3 m22 m25 q := fun q h273 h274 => (q23 q h274).tr (E23 q h273 h274)
  have E21 : ∀ q, q ≠ 273 → q ≠ 274 → Eq3 m21 m25 q := fun q h273 h274 => (q22 q h274).tr (E22 q h273 h274)
  have E20 : ∀ q, q ≠ 273 → q ≠ 274 → Eq3 m20 m25 q := fun q h273 h274 => (q21 q h273).tr (E21 q h273 h274)
  have E19 : ∀ q, q ≠ 273 → q ≠ 274 → Eq3 m19 m25 q := fun q h273 h274 => (q20 q h273).tr (E20 q h273 h274)
  have E18 : ∀ q, q ≠ 273 → q ≠ 274 → Eq3 m18 m25 q := fun q h273 h274 => (q19 q h273).tr (E19 q h273 h274)
  have E17 : ∀ q, q ≠ 273 → q ≠ 274 → Eq3 m17 m25 q := fun q h273 h274 => (q18 q h273).tr (E18 q h273 h274)
  have E16 : ∀ q, q ≠ 273 → q ≠ 274 → Eq3 m16 m25 q := fun q h273 h274 => (q17 q h273).tr (E17 q h273 h274)
  have E15 : ∀ q, q ≠ 273 → q ≠ 274 → Eq3 m15 m25 q := fun q h273 h274 => (q16 q h273).tr (E16 q h273 h274)
  have E14 : ∀ q, q ≠ 273 → q ≠ 274 → Eq3 m14 m25 q := fun q h273 h274 => (q15 q h273).tr (E15 q h273 h274)
  have E13 : ∀ q, q ≠ 273 → q ≠ 274 → Eq3 m13 m25 q := fun q h273 h274 => (q14 q h273).tr (E14 q h273 h274)
  have E12 : ∀ q, q ≠ 273 → q ≠ 274 → Eq3 m12 m25 q := fun q h273 h274 => (q13 q h273).tr (E13 q h273 h274)
  have E11 : ∀ q, q ≠ 273 → q ≠ 274 → Eq3 m11 m25 q := fun q h273 h274 => (q12 q h273).tr (E12 q h273 h274)
  have E10 : ∀ q, q ≠ 273 → q ≠ 274 → Eq3 m10 m25 q := fun q h273 h274 => (q11 q h273).tr (E11 q h273 h274)
  have E9 : ∀ q, q ≠ 273 → q ≠ 274 → Eq3 m9 m25 q := fun q h273 h274 => (q10 q h273).tr (E10 q h273 h274)
  have E8 : ∀ q, q ≠ 273 → q ≠ 274 → Eq3 m8 m25 q := fun q h273 h274 => (q9 q h273).tr (E9 q h273 h274)
  have E7 : ∀ q, q ≠ 273 → q ≠ 274 → Eq3 m7 m25 q := fun q h273 h274 => (q8 q h273).tr (E8 q h273 h274)
  have E6 : ∀ q, q ≠ 273 → q ≠ 274 → Eq3 m6 m25 q := fun q h273 h274 => (q7 q h273).tr (E7 q h273 h274)
  have E5 : ∀ q, q ≠ 273 → q ≠ 274 → Eq3 m5 m25 q := fun q h273 h274 => (q6 q h273).tr (E6 q h273 h274)
  have E4 : ∀ q, q ≠ 273 → q ≠ 274 → Eq3 m4 m25 q := fun q h273 h274 => (q5 q h273).tr (E5 q h273 h274)
  have E3 : ∀ q, q ≠ 273 → q ≠ 274 → Eq3 m3 m25 q := fun q h273 h274 => (q4 q h273).tr (E4 q h273 h274)
  have E2 : ∀ q, q ≠ 273 → q ≠ 274 → Eq3 m2 m25 q := fun q h273 h274 => (q3 q h273).tr (E3 q h273 h274)
  have E1 : ∀ q, q ≠ 273 → q ≠ 274 → Eq3 m1 m25 q := fun q h273 h274 => (q2 q h273).tr (E2 q h273 h274)
  have E0 : ∀ q, q ≠ 273 → q ≠ 274 → Eq3 m0 m25 q := fun q h273 h274 => (q1 q h273).tr (E1 q h273 h274)
  have hLow : MC 0 273 m25 := hM0.eq (fun q b1 b2 => E0 q (by omega) (by omega))
  have h273 : MC 273 274 m25 := (MC.one (a := 273) (i25_273.trans (by rw [iM_of sh_273]; rfl)) l25_273 (r25_273.trans (by rw [Mr_of sh_273])))
  have hRest : MC 275 293 m25 := ((((((((((((((((((MC.row (c := 275) sh_275 (by omega) hR275 (by omega) (E1 275 (by omega) (by omega))).join (MC.row (c := 276) sh_276 (by omega) hR276 (by omega) (E2 276 (by omega) (by omega)))).join (MC.row (c := 277) sh_277 (by omega) hR277 (by omega) (E3 277 (by omega) (by omega)))).join (MC.row (c := 278) sh_278 (by omega) hR278 (by omega) (E4 278 (by omega) (by omega)))).join (MC.row (c := 279) sh_279 (by omega) hR279 (by omega) (E7 279 (by omega) (by omega)))).join (MC.row (c := 280) sh_280 (by omega) hR280 (by omega) (E8 280 (by omega) (by omega)))).join (MC.row (c := 281) sh_281 (by omega) hR281 (by omega) (E9 281 (by omega) (by omega)))).join (MC.row (c := 282) sh_282 (by omega) hR282 (by omega) (E10 282 (by omega) (by omega)))).join (MC.row (c := 283) sh_283 (by omega) hR283 (by omega) (E11 283 (by omega) (by omega)))).join (MC.row (c := 284) sh_284 (by omega) hR284 (by omega) (E12 284 (by omega) (by omega)))).join (MC.row (c := 285) sh_285 (by omega) hR285 (by omega) (E13 285 (by omega) (by omega)))).join (MC.row (c := 286) sh_286 (by omega) hR286 (by omega) (E14 286 (by omega) (by omega)))).join (MC.row (c := 287) sh_287 (by omega) hR287 (by omega) (E15 287 (by omega) (by omega)))).join (MC.row (c := 288) sh_288 (by omega) hR288 (by omega) (E16 288 (by omega) (by omega)))).join (MC.row (c := 289) sh_289 (by omega) hR289 (by omega) (E17 289 (by omega) (by omega)))).join (MC.row (c := 290) sh_290 (by omega) hR290 (by omega) (E18 290 (by omega) (by omega)))).join (MC.row (c := 291) sh_291 (by omega) hR291 (by omega) (E19 291 (by omega) (by omega)))).join (MC.row (c := 292) sh_292 (by omega) hR292 (by omega) (E20 292 (by omega) (by omega))))
  have hMr274 : m25.2.2 274 = Mr 274 := z25_274.trans (by rw [Mr_of sh_274]; rfl)
  have allq : ∀ q, q < 293 → m25.2.2 q = Mr q := fun q hq => by
    rcases (show q < 273 ∨ q = 273 ∨ q = 274 ∨ 275 ≤ q by omega) with z | z | z | z
    · exact (hLow q (by omega) z).2.2
    · rw [z]; exact (h273 273 (by omega) (by omega)).2.2
    · rw [z]; exact hMr274
    · exact (hRest q z hq).2.2
  refine co_callE mX12_copy dX12_init_216 allq lm_X12_76 okX12_copy isX12_copy (As := [.ref (ga G 274), .ref (ga G 275)]) (S := []) rfl rfl (Nat.le_of_ble_eq_true rfl) (by decide) (by decide) (qX12_copyM G d m25 (fun m' => (∀ k, k < 5968 → m'.1 275 k = m25.1 274 k) ∧ (∀ k, 5968 ≤ k → m'.1 275 k = m25.1 275 k) ∧ (∀ q, q ≠ 275 → m'.1 q = m25.1 q) ∧ m'.2 = m25.2) (fun m' q1 q2 q3 q4 => ⟨q1, q2, q3, q4⟩)) (fun m' hq => ?_)
  obtain ⟨q1, q2, q3, q4⟩ := hq
  have q4a : m'.2.1 = m25.2.1 := by rw [q4]
  have q4b : m'.2.2 = m25.2.2 := by rw [q4]
  refine ⟨fun q hq => by rw [q4b]; exact allq q hq, fun q hq => ?_, ?_⟩
  · rw [q3 q (by omega), q4a, q4b]; exact hF25 q hq
  refine co_ret dX12_init_219 rfl rfl rfl ?_
  refine hQ m' ⟨fun q b1 b2 n1 n2 => ?_, ?_, ?_, fun q b1 b2 => ?_⟩ (fun q b => ?_)
  · rw [q3 q n2]
    rcases (show q = 273 ∨ 275 ≤ q by omega) with z | z
    · rw [z]; exact (h273 273 (by omega) (by omega)).1
    · exact (hRest q z b2).1
  · rw [q3 274 (by omega), i25_274]; rfl
  · funext k
    by_cases hk : k < 5968
    · rw [q1 k hk, i25_274]; rfl
    · rw [q2 k (by omega), (hRest 275 (by omega) (by omega)).1, iM_of sh_275]
      unfold aA0
      rw [upd_n _ _ (by omega), upd_n _ _ (by omega), upd_n _ _ (by omega), upd_n _ _ (by omega)]; rfl
  · rw [q4a, q4b]
    refine ⟨?_, allq q b2⟩
    rcases (show q = 273 ∨ q = 274 ∨ 275 ≤ q by omega) with z | z | z
    · rw [z]; exact l25_273
    · rw [z]; exact l25_274
    · exact (hRest q z b2).2.1
  · obtain ⟨x1, x2, x3⟩ := E0 q (by omega) (by omega)
    exact ⟨(q3 q (by omega)).trans x1, by rw [q4a]; exact x2, by rw [q4b]; exact x3⟩
