/-! THE CLASS'S OWN CONSTRUCTOR -/
theorem eX11_init (G : GP) (d : Nat) (hov5 : ∀ (U : State) (H : Heap), gZ G U H → va_AO RX5 U) (hov8 : ∀ (U : State) (H : Heap), gZ G U H → va_AO RX8 U) (m0 : Mem) (hF0 : Fz 0 m0) (Q : Nat → Mem → Prop) (hQ : ∀ m', MC 0 273 m' → (∀ q, q < 0 → Eq3 m0 m' q) → Q 273 m') : Ec G (d + 4) mX11_init 272 19708 [.ref (ga G 0)] 1 m0 Q := by
  refine Ec.go [.ref (ga G 0), uu] rfl (by decide) (Nat.le_of_ble_eq_true rfl) rfl ?_
  obtain ⟨i0_0, l0_0, z0_0⟩ := hF0 0 (by omega)
  have r0_0 : m0.2.2 0 = fun k => [0, 0, 0, 0, 0, 0, 0, 0].getD k 0 := by rw [z0_0, zeroL 8]; rfl
  have hF : Fz 1 m0 := hF0.up
  refine co_aload_n dX11_init_0 rfl ?_
  refine co_objInit dX11_init_1 lo_X11 wobj (by omega) (Nat.le_of_ble_eq_true rfl) ?_
  refine co_aload_n dX11_init_4 rfl ?_
  refine co_new dX11_init_5 (by omega) sh_1 rfl inX10 tyX10 tyX10_ok lcl_X11_7 lin_X10 wi_X10 (by decide) (by decide) (by decide) ?_
  refine co_dup dX11_init_8 rfl ?_
  have hZ1 : Fz 1 m0 := hF
  refine co_callN mX10_init "BellTongue" dX11_init_9 (by omega) ln_X11_9 okX10_init imX10_init rfl rfl (As := []) (S := [.ref (ga G 1), .ref (ga G 0)]) rfl rfl (Nat.le_of_ble_eq_true rfl) (by decide) (by decide) (eX10_init_1 G d hov5 m0 hZ1 (fun n' m' => n' = 114 ∧ MC 1 114 m' ∧ ∀ q, q < 1 → Eq3 m0 m' q) (fun m' q1 q2 => ⟨rfl, q1, q2⟩)) (fun n' m1 hq hF1 => ?_)
  obtain ⟨rfl, hM1, hE1⟩ := hq
  refine ⟨rfl, ?_⟩
  have r1_0 := (hE1 0 (by omega)).2.2.trans r0_0
  have i1_0 := (hE1 0 (by omega)).1.trans i0_0
  have l1_0 := (hE1 0 (by omega)).2.1.trans l0_0
  refine co_putR (k := 0) (ty := .object "BellTongue$World") dX11_init_12 sh_0 (by omega) rfl inX11 (Nat.le_of_ble_eq_true rfl) lf_X11_10 tyX11 tyX11_ok nmX11 rfl rfl rfl (by decide +kernel) rfl rfl (by omega) ?_
  obtain ⟨m2, e2⟩ : ∃ z : Mem, z = wR m1 0 0 1 := ⟨_, rfl⟩
  rw [← e2]
  have hF2 : Fz 114 m2 := by rw [e2]; exact hF1.wR (by omega)
  have r2_0 : m2.2.2 0 = fun k => [1, 0, 0, 0, 0, 0, 0, 0].getD k 0 := by rw [e2, wR_s, r1_0, va_upL (by decide)]; rfl
  have i2_0 : m2.1 0 = (fun _ => 0) := by rw [e2]; exact i1_0
  have l2_0 : m2.2.1 0 = (fun _ => 0) := by rw [e2]; exact l1_0
  have q2 : ∀ q, q ≠ 0 → Eq3 m1 m2 q := fun q h => by rw [e2]; exact (Eq3.rf _ _).wR h
  refine co_aload_n dX11_init_15 rfl ?_
  refine co_new dX11_init_16 (by omega) sh_114 rfl inX10 tyX10 tyX10_ok lcl_X11_7 lin_X10 wi_X10 (by decide) (by decide) (by decide) ?_
  refine co_dup dX11_init_19 rfl ?_
  have hZ3 : Fz 114 m2 := hF2
  refine co_callN mX10_init "BellTongue" dX11_init_20 (by omega) ln_X11_9 okX10_init imX10_init rfl rfl (As := []) (S := [.ref (ga G 114), .ref (ga G 0)]) rfl rfl (Nat.le_of_ble_eq_true rfl) (by decide) (by decide) (eX10_init_114 G d hov5 m2 hZ3 (fun n' m' => n' = 227 ∧ MC 114 227 m' ∧ ∀ q, q < 114 → Eq3 m2 m' q) (fun m' q1 q2 => ⟨rfl, q1, q2⟩)) (fun n' m3 hq hF3 => ?_)
  obtain ⟨rfl, hM3, hE3⟩ := hq
  refine ⟨rfl, ?_⟩
  have r3_0 := (hE3 0 (by omega)).2.2.trans r2_0
  have i3_0 := (hE3 0 (by omega)).1.trans i2_0
  have l3_0 := (hE3 0 (by omega)).2.1.trans l2_0
  refine co_putR (k := 1) (ty := .object "BellTongue$World") dX11_init_23 sh_0 (by omega) rfl inX11 (Nat.le_of_ble_eq_true rfl) lf_X11_16 tyX11 tyX11_ok nmX11 rfl rfl rfl (by decide +kernel) rfl rfl (by omega) ?_
  obtain ⟨m4, e4⟩ : ∃ z : Mem, z = wR m3 0 1 114 := ⟨_, rfl⟩
  rw [← e4]
  have hF4 : Fz 227 m4 := by rw [e4]; exact hF3.wR (by omega)
  have r4_0 : m4.2.2 0 = fun k => [1, 114, 0, 0, 0, 0, 0, 0].getD k 0 := by rw [e4, wR_s, r3_0, va_upL (by decide)]; rfl
  have i4_0 : m4.1 0 = (fun _ => 0) := by rw [e4]; exact i3_0
  have l4_0 : m4.2.1 0 = (fun _ => 0) := by rw [e4]; exact l3_0
  have q4 : ∀ q, q ≠ 0 → Eq3 m3 m4 q := fun q h => by rw [e4]; exact (Eq3.rf _ _).wR h
  refine co_aload_n dX11_init_26 rfl ?_
  refine co_iconst (v := 4) dX11_init_27 (by decide) ?_
  refine co_anew (ix := 4) (len := 4) dX11_init_28 (by omega) lcl_X11_19 hov8 rfl sh_227 (by omega) rfl ⟨by decide, by decide⟩ (by decide) (by decide) (by decide) ?_
  obtain ⟨i4_227, l4_227, z4_227⟩ := hF4 227 (by omega)
  have r4_227 : m4.2.2 227 = fun k => [0, 0, 0, 0].getD k 0 := by rw [z4_227, zeroL 4]; rfl
  have hF4 := hF4.up
  refine co_putR (k := 2) (ty := .array (.object "BellTongue$Text")) dX11_init_31 sh_0 (by omega) rfl inX11 (Nat.le_of_ble_eq_true rfl) lf_X11_21 tyX11 tyX11_ok nmX11 rfl rfl rfl (by decide +kernel) rfl rfl (by omega) ?_
  obtain ⟨m5, e5⟩ : ∃ z : Mem, z = wR m4 0 2 227 := ⟨_, rfl⟩
  rw [← e5]
  have hF5 : Fz 228 m5 := by rw [e5]; exact hF4.wR (by omega)
  have r5_0 : m5.2.2 0 = fun k => [1, 114, 227, 0, 0, 0, 0, 0].getD k 0 := by rw [e5, wR_s, r4_0, va_upL (by decide)]; rfl
  have i5_0 : m5.1 0 = (fun _ => 0) := by rw [e5]; exact i4_0
  have l5_0 : m5.2.1 0 = (fun _ => 0) := by rw [e5]; exact l4_0
  have r5_227 : m5.2.2 227 = fun k => [0, 0, 0, 0].getD k 0 := by rw [e5, wR_n _ _ _ (by omega)]; exact r4_227
  have i5_227 : m5.1 227 = (fun _ => 0) := by rw [e5]; exact i4_227
  have l5_227 : m5.2.1 227 = (fun _ => 0) := by rw [e5]; exact l4_227
  have q5 : ∀ q, q ≠ 0 → Eq3 m4 m5 q := fun q h => by rw [e5]; exact (Eq3.rf _ _).wR h
  refine co_aload_n dX11_init_34 rfl ?_
  refine co_new dX11_init_35 (by omega) sh_228 rfl inX7 tyX7 tyX7_ok lcl_X11_25 lin_X7 wi_X7 (by decide) (by decide) (by decide) ?_
  refine co_dup dX11_init_38 rfl ?_
  have hZ6 : Fz 228 m5 := hF5
  refine co_callN mX7_init "BellTongue" dX11_init_39 (by omega) ln_X11_27 okX7_init imX7_init rfl rfl (As := []) (S := [.ref (ga G 228), .ref (ga G 0)]) rfl rfl (Nat.le_of_ble_eq_true rfl) (by decide) (by decide) (eX7_init G (d + 2) m5 hZ6 (fun n' m' => n' = 233 ∧ MC 228 233 m' ∧ ∀ q, q < 228 → Eq3 m5 m' q) (fun m' q1 q2 => ⟨rfl, q1, q2⟩)) (fun n' m6 hq hF6 => ?_)
  obtain ⟨rfl, hM6, hE6⟩ := hq
  refine ⟨rfl, ?_⟩
  have r6_0 := (hE6 0 (by omega)).2.2.trans r5_0
  have i6_0 := (hE6 0 (by omega)).1.trans i5_0
  have l6_0 := (hE6 0 (by omega)).2.1.trans l5_0
  have r6_227 := (hE6 227 (by omega)).2.2.trans r5_227
  have i6_227 := (hE6 227 (by omega)).1.trans i5_227
  have l6_227 := (hE6 227 (by omega)).2.1.trans l5_227
  refine co_putR (k := 3) (ty := .object "BellTongue$Tape") dX11_init_42 sh_0 (by omega) rfl inX11 (Nat.le_of_ble_eq_true rfl) lf_X11_28 tyX11 tyX11_ok nmX11 rfl rfl rfl (by decide +kernel) rfl rfl (by omega) ?_
  obtain ⟨m7, e7⟩ : ∃ z : Mem, z = wR m6 0 3 228 := ⟨_, rfl⟩
  rw [← e7]
  have hF7 : Fz 233 m7 := by rw [e7]; exact hF6.wR (by omega)
  have r7_0 : m7.2.2 0 = fun k => [1, 114, 227, 228, 0, 0, 0, 0].getD k 0 := by rw [e7, wR_s, r6_0, va_upL (by decide)]; rfl
  have i7_0 : m7.1 0 = (fun _ => 0) := by rw [e7]; exact i6_0
  have l7_0 : m7.2.1 0 = (fun _ => 0) := by rw [e7]; exact l6_0
  have r7_227 : m7.2.2 227 = fun k => [0, 0, 0, 0].getD k 0 := by rw [e7, wR_n _ _ _ (by omega)]; exact r6_227
  have i7_227 : m7.1 227 = (fun _ => 0) := by rw [e7]; exact i6_227
  have l7_227 : m7.2.1 227 = (fun _ => 0) := by rw [e7]; exact l6_227
  have q7 : ∀ q, q ≠ 0 → Eq3 m6 m7 q := fun q h => by rw [e7]; exact (Eq3.rf _ _).wR h
  refine co_aload_n dX11_init_45 rfl ?_
  refine co_new dX11_init_46 (by omega) sh_233 rfl inX3 tyX3 tyX3_ok lcl_X11_32 lin_X3 wi_X3 (by decide) (by decide) (by decide) ?_
  refine co_dup dX11_init_49 rfl ?_
  refine co_aload_n dX11_init_50 rfl ?_
  refine co_getR (k := 3) (r := 228) dX11_init_51 sh_0 (by omega) rfl inX11 (Nat.le_of_ble_eq_true rfl) lf_X11_28 rfl (by rw [r7_0]; rfl) (by omega) ?_
  have hZ8 : Fz 233 m7 := hF7
  refine co_callI mX3_init dX11_init_54 (by omega) lm_X11_34 okX3_init imX3_init rfl rfl (As := [.ref (ga G 228)]) (S := [.ref (ga G 233), .ref (ga G 0)]) rfl rfl (Nat.le_of_ble_eq_true rfl) (by decide) (by decide) (eX3_init G (d + 2) m7 hZ8 (fun n' m' => n' = 235 ∧ MC 233 235 m' ∧ ∀ q, q < 233 → Eq3 m7 m' q) (fun m' q1 q2 => ⟨rfl, q1, q2⟩)) (fun n' m8 hq hF8 => ?_)
  obtain ⟨rfl, hM8, hE8⟩ := hq
  refine ⟨rfl, ?_⟩
  have r8_0 := (hE8 0 (by omega)).2.2.trans r7_0
  have i8_0 := (hE8 0 (by omega)).1.trans i7_0
  have l8_0 := (hE8 0 (by omega)).2.1.trans l7_0
  have r8_227 := (hE8 227 (by omega)).2.2.trans r7_227
  have i8_227 := (hE8 227 (by omega)).1.trans i7_227
  have l8_227 := (hE8 227 (by omega)).2.1.trans l7_227
  refine co_putR (k := 4) (ty := .object "BellTongue$Reader") dX11_init_57 sh_0 (by omega) rfl inX11 (Nat.le_of_ble_eq_true rfl) lf_X11_37 tyX11 tyX11_ok nmX11 rfl rfl rfl (by decide +kernel) rfl rfl (by omega) ?_
  obtain ⟨m9, e9⟩ : ∃ z : Mem, z = wR m8 0 4 233 := ⟨_, rfl⟩
  rw [← e9]
  have hF9 : Fz 235 m9 := by rw [e9]; exact hF8.wR (by omega)
  have r9_0 : m9.2.2 0 = fun k => [1, 114, 227, 228, 233, 0, 0, 0].getD k 0 := by rw [e9, wR_s, r8_0, va_upL (by decide)]; rfl
  have i9_0 : m9.1 0 = (fun _ => 0) := by rw [e9]; exact i8_0
  have l9_0 : m9.2.1 0 = (fun _ => 0) := by rw [e9]; exact l8_0
  have r9_227 : m9.2.2 227 = fun k => [0, 0, 0, 0].getD k 0 := by rw [e9, wR_n _ _ _ (by omega)]; exact r8_227
  have i9_227 : m9.1 227 = (fun _ => 0) := by rw [e9]; exact i8_227
  have l9_227 : m9.2.1 227 = (fun _ => 0) := by rw [e9]; exact l8_227
  have q9 : ∀ q, q ≠ 0 → Eq3 m8 m9 q := fun q h => by rw [e9]; exact (Eq3.rf _ _).wR h
  refine co_aload_n dX11_init_60 rfl ?_
  refine co_new dX11_init_61 (by omega) sh_235 rfl inX4 tyX4 tyX4_ok lcl_X11_41 lin_X4 wi_X4 (by decide) (by decide) (by decide) ?_
  refine co_dup dX11_init_64 rfl ?_
  have hZ10 : Fz 235 m9 := hF9
  refine co_callN mX4_init "BellTongue" dX11_init_65 (by omega) ln_X11_43 okX4_init imX4_init rfl rfl (As := []) (S := [.ref (ga G 235), .ref (ga G 0)]) rfl rfl (Nat.le_of_ble_eq_true rfl) (by decide) (by decide) (eX4_init G (d + 2) m9 hZ10 (fun n' m' => n' = 238 ∧ MC 235 238 m' ∧ ∀ q, q < 235 → Eq3 m9 m' q) (fun m' q1 q2 => ⟨rfl, q1, q2⟩)) (fun n' m10 hq hF10 => ?_)
  obtain ⟨rfl, hM10, hE10⟩ := hq
  refine ⟨rfl, ?_⟩
  have r10_0 := (hE10 0 (by omega)).2.2.trans r9_0
  have i10_0 := (hE10 0 (by omega)).1.trans i9_0
  have l10_0 := (hE10 0 (by omega)).2.1.trans l9_0
  have r10_227 := (hE10 227 (by omega)).2.2.trans r9_227
  have i10_227 := (hE10 227 (by omega)).1.trans i9_227
  have l10_227 := (hE10 227 (by omega)).2.1.trans l9_227
  refine co_putR (k := 5) (ty := .object "BellTongue$Ringers") dX11_init_68 sh_0 (by omega) rfl inX11 (Nat.le_of_ble_eq_true rfl) lf_X11_44 tyX11 tyX11_ok nmX11 rfl rfl rfl (by decide +kernel) rfl rfl (by omega) ?_
  obtain ⟨m11, e11⟩ : ∃ z : Mem, z = wR m10 0 5 235 := ⟨_, rfl⟩
  rw [← e11]
  have hF11 : Fz 238 m11 := by rw [e11]; exact hF10.wR (by omega)
  have r11_0 : m11.2.2 0 = fun k => [1, 114, 227, 228, 233, 235, 0, 0].getD k 0 := by rw [e11, wR_s, r10_0, va_upL (by decide)]; rfl
  have i11_0 : m11.1 0 = (fun _ => 0) := by rw [e11]; exact i10_0
  have l11_0 : m11.2.1 0 = (fun _ => 0) := by rw [e11]; exact l10_0
  have r11_227 : m11.2.2 227 = fun k => [0, 0, 0, 0].getD k 0 := by rw [e11, wR_n _ _ _ (by omega)]; exact r10_227
  have i11_227 : m11.1 227 = (fun _ => 0) := by rw [e11]; exact i10_227
  have l11_227 : m11.2.1 227 = (fun _ => 0) := by rw [e11]; exact l10_227
  have q11 : ∀ q, q ≠ 0 → Eq3 m10 m11 q := fun q h => by rw [e11]; exact (Eq3.rf _ _).wR h
  refine co_iconst (v := 0) dX11_init_71 (by decide) ?_
  refine co_istore_n dX11_init_72 (by decide) rfl ?_
  refine co_iload_n dX11_init_73 rfl ?_
  refine co_iconst (v := 4) dX11_init_74 (by decide) ?_
  refine co_icmp_ge 97 dX11_init_75 rfl ⟨fun z => absurd z (by decide), fun _ => ?_⟩
  refine co_aload_n dX11_init_78 rfl ?_
  refine co_getR (k := 2) (r := 227) dX11_init_79 sh_0 (by omega) rfl inX11 (Nat.le_of_ble_eq_true rfl) lf_X11_21 rfl (by rw [r11_0]; rfl) (by omega) ?_
  refine co_iload_n dX11_init_82 rfl ?_
  refine co_new dX11_init_83 (by omega) sh_238 rfl inX8 tyX8 tyX8_ok lcl_X11_19 lin_X8 wi_X8 (by decide) (by decide) (by decide) ?_
  refine co_dup dX11_init_86 rfl ?_
  have hZ12 : Fz 238 m11 := hF11
  refine co_callN mX8_init "BellTongue" dX11_init_87 (by omega) ln_X11_48 okX8_init imX8_init rfl rfl (As := []) (S := [.ref (ga G 238), .int 0, .ref (ga G 227)]) rfl rfl (Nat.le_of_ble_eq_true rfl) (by decide) (by decide) (eX8_init G (d + 2) ⟨sh_238, sh_239, sh_240, sh_241, sh_242, sh_243⟩ m11 hZ12 (fun n' m' => n' = 244 ∧ MC 238 244 m' ∧ ∀ q, q < 238 → Eq3 m11 m' q) (fun m' q1 q2 => ⟨rfl, q1, q2⟩)) (fun n' m12 hq hF12 => ?_)
  obtain ⟨rfl, hM12, hE12⟩ := hq
  refine ⟨rfl, ?_⟩
  have r12_0 := (hE12 0 (by omega)).2.2.trans r11_0
  have i12_0 := (hE12 0 (by omega)).1.trans i11_0
  have l12_0 := (hE12 0 (by omega)).2.1.trans l11_0
  have r12_227 := (hE12 227 (by omega)).2.2.trans r11_227
  have i12_227 := (hE12 227 (by omega)).1.trans i11_227
  have l12_227 := (hE12 227 (by omega)).2.1.trans l11_227
  refine co_aast (q := 227) (r := 238) (ix := 4) dX11_init_90 sh_227 (by omega) (by omega) rfl rfl sh_238 (by omega) (by omega) rfl (vp_in_dec (by decide)) ?_
  rw [show ((0 : Int32)).toNatClampNeg = 0 by decide]
  obtain ⟨m13, e13⟩ : ∃ z : Mem, z = wR m12 227 0 238 := ⟨_, rfl⟩
  rw [← e13]
  have hF13 : Fz 244 m13 := by rw [e13]; exact hF12.wR (by omega)
  have r13_0 : m13.2.2 0 = fun k => [1, 114, 227, 228, 233, 235, 0, 0].getD k 0 := by rw [e13, wR_n _ _ _ (by omega)]; exact r12_0
  have i13_0 : m13.1 0 = (fun _ => 0) := by rw [e13]; exact i12_0
  have l13_0 : m13.2.1 0 = (fun _ => 0) := by rw [e13]; exact l12_0
  have r13_227 : m13.2.2 227 = fun k => [238, 0, 0, 0].getD k 0 := by rw [e13, wR_s, r12_227, va_upL (by decide)]; rfl
  have i13_227 : m13.1 227 = (fun _ => 0) := by rw [e13]; exact i12_227
  have l13_227 : m13.2.1 227 = (fun _ => 0) := by rw [e13]; exact l12_227
  have q13 : ∀ q, q ≠ 227 → Eq3 m12 m13 q := fun q h => by rw [e13]; exact (Eq3.rf _ _).wR h
  refine co_iinc (v := 1) dX11_init_91 rfl (by decide) (by decide) rfl ?_
  refine co_goto 73 dX11_init_94 rfl ?_
  refine co_iload_n dX11_init_73 rfl ?_
  refine co_iconst (v := 4) dX11_init_74 (by decide) ?_
  refine co_icmp_ge 97 dX11_init_75 rfl ⟨fun z => absurd z (by decide), fun _ => ?_⟩
  refine co_aload_n dX11_init_78 rfl ?_
  refine co_getR (k := 2) (r := 227) dX11_init_79 sh_0 (by omega) rfl inX11 (Nat.le_of_ble_eq_true rfl) lf_X11_21 rfl (by rw [r13_0]; rfl) (by omega) ?_
  refine co_iload_n dX11_init_82 rfl ?_
  refine co_new dX11_init_83 (by omega) sh_244 rfl inX8 tyX8 tyX8_ok lcl_X11_19 lin_X8 wi_X8 (by decide) (by decide) (by decide) ?_
  refine co_dup dX11_init_86 rfl ?_
  have hZ14 : Fz 244 m13 := hF13
  refine co_callN mX8_init "BellTongue" dX11_init_87 (by omega) ln_X11_48 okX8_init imX8_init rfl rfl (As := []) (S := [.ref (ga G 244), .int 1, .ref (ga G 227)]) rfl rfl (Nat.le_of_ble_eq_true rfl) (by decide) (by decide) (eX8_init G (d + 2) ⟨sh_244, sh_245, sh_246, sh_247, sh_248, sh_249⟩ m13 hZ14 (fun n' m' => n' = 250 ∧ MC 244 250 m' ∧ ∀ q, q < 244 → Eq3 m13 m' q) (fun m' q1 q2 => ⟨rfl, q1, q2⟩)) (fun n' m14 hq hF14 => ?_)
  obtain ⟨rfl, hM14, hE14⟩ := hq
  refine ⟨rfl, ?_⟩
  have r14_0 := (hE14 0 (by omega)).2.2.trans r13_0
  have i14_0 := (hE14 0 (by omega)).1.trans i13_0
  have l14_0 := (hE14 0 (by omega)).2.1.trans l13_0
  have r14_227 := (hE14 227 (by omega)).2.2.trans r13_227
  have i14_227 := (hE14 227 (by omega)).1.trans i13_227
  have l14_227 := (hE14 227 (by omega)).2.1.trans l13_227
  refine co_aast (q := 227) (r := 244) (ix := 4) dX11_init_90 sh_227 (by omega) (by omega) rfl rfl sh_244 (by omega) (by omega) rfl (vp_in_dec (by decide)) ?_
  rw [show ((1 : Int32)).toNatClampNeg = 1 by decide]
  obtain ⟨m15, e15⟩ : ∃ z : Mem, z = wR m14 227 1 244 := ⟨_, rfl⟩
  rw [← e15]
  have hF15 : Fz 250 m15 := by rw [e15]; exact hF14.wR (by omega)
  have r15_0 : m15.2.2 0 = fun k => [1, 114, 227, 228, 233, 235, 0, 0].getD k 0 := by rw [e15, wR_n _ _ _ (by omega)]; exact r14_0
  have i15_0 : m15.1 0 = (fun _ => 0) := by rw [e15]; exact i14_0
  have l15_0 : m15.2.1 0 = (fun _ => 0) := by rw [e15]; exact l14_0
  have r15_227 : m15.2.2 227 = fun k => [238, 244, 0, 0].getD k 0 := by rw [e15, wR_s, r14_227, va_upL (by decide)]; rfl
  have i15_227 : m15.1 227 = (fun _ => 0) := by rw [e15]; exact i14_227
  have l15_227 : m15.2.1 227 = (fun _ => 0) := by rw [e15]; exact l14_227
  have q15 : ∀ q, q ≠ 227 → Eq3 m14 m15 q := fun q h => by rw [e15]; exact (Eq3.rf _ _).wR h
  refine co_iinc (v := 2) dX11_init_91 rfl (by decide) (by decide) rfl ?_
  refine co_goto 73 dX11_init_94 rfl ?_
  refine co_iload_n dX11_init_73 rfl ?_
  refine co_iconst (v := 4) dX11_init_74 (by decide) ?_
  refine co_icmp_ge 97 dX11_init_75 rfl ⟨fun z => absurd z (by decide), fun _ => ?_⟩
  refine co_aload_n dX11_init_78 rfl ?_
  refine co_getR (k := 2) (r := 227) dX11_init_79 sh_0 (by omega) rfl inX11 (Nat.le_of_ble_eq_true rfl) lf_X11_21 rfl (by rw [r15_0]; rfl) (by omega) ?_
  refine co_iload_n dX11_init_82 rfl ?_
  refine co_new dX11_init_83 (by omega) sh_250 rfl inX8 tyX8 tyX8_ok lcl_X11_19 lin_X8 wi_X8 (by decide) (by decide) (by decide) ?_
  refine co_dup dX11_init_86 rfl ?_
  have hZ16 : Fz 250 m15 := hF15
  refine co_callN mX8_init "BellTongue" dX11_init_87 (by omega) ln_X11_48 okX8_init imX8_init rfl rfl (As := []) (S := [.ref (ga G 250), .int 2, .ref (ga G 227)]) rfl rfl (Nat.le_of_ble_eq_true rfl) (by decide) (by decide) (eX8_init G (d + 2) ⟨sh_250, sh_251, sh_252, sh_253, sh_254, sh_255⟩ m15 hZ16 (fun n' m' => n' = 256 ∧ MC 250 256 m' ∧ ∀ q, q < 250 → Eq3 m15 m' q) (fun m' q1 q2 => ⟨rfl, q1, q2⟩)) (fun n' m16 hq hF16 => ?_)
  obtain ⟨rfl, hM16, hE16⟩ := hq
  refine ⟨rfl, ?_⟩
  have r16_0 := (hE16 0 (by omega)).2.2.trans r15_0
  have i16_0 := (hE16 0 (by omega)).1.trans i15_0
  have l16_0 := (hE16 0 (by omega)).2.1.trans l15_0
  have r16_227 := (hE16 227 (by omega)).2.2.trans r15_227
  have i16_227 := (hE16 227 (by omega)).1.trans i15_227
  have l16_227 := (hE16 227 (by omega)).2.1.trans l15_227
  refine co_aast (q := 227) (r := 250) (ix := 4) dX11_init_90 sh_227 (by omega) (by omega) rfl rfl sh_250 (by omega) (by omega) rfl (vp_in_dec (by decide)) ?_
  rw [show ((2 : Int32)).toNatClampNeg = 2 by decide]
  obtain ⟨m17, e17⟩ : ∃ z : Mem, z = wR m16 227 2 250 := ⟨_, rfl⟩
  rw [← e17]
  have hF17 : Fz 256 m17 := by rw [e17]; exact hF16.wR (by omega)
  have r17_0 : m17.2.2 0 = fun k => [1, 114, 227, 228, 233, 235, 0, 0].getD k 0 := by rw [e17, wR_n _ _ _ (by omega)]; exact r16_0
  have i17_0 : m17.1 0 = (fun _ => 0) := by rw [e17]; exact i16_0
  have l17_0 : m17.2.1 0 = (fun _ => 0) := by rw [e17]; exact l16_0
  have r17_227 : m17.2.2 227 = fun k => [238, 244, 250, 0].getD k 0 := by rw [e17, wR_s, r16_227, va_upL (by decide)]; rfl
  have i17_227 : m17.1 227 = (fun _ => 0) := by rw [e17]; exact i16_227
  have l17_227 : m17.2.1 227 = (fun _ => 0) := by rw [e17]; exact l16_227
  have q17 : ∀ q, q ≠ 227 → Eq3 m16 m17 q := fun q h => by rw [e17]; exact (Eq3.rf _ _).wR h
  refine co_iinc (v := 3) dX11_init_91 rfl (by decide) (by decide) rfl ?_
  refine co_goto 73 dX11_init_94 rfl ?_
  refine co_iload_n dX11_init_73 rfl ?_
  refine co_iconst (v := 4) dX11_init_74 (by decide) ?_
  refine co_icmp_ge 97 dX11_init_75 rfl ⟨fun z => absurd z (by decide), fun _ => ?_⟩
  refine co_aload_n dX11_init_78 rfl ?_
  refine co_getR (k := 2) (r := 227) dX11_init_79 sh_0 (by omega) rfl inX11 (Nat.le_of_ble_eq_true rfl) lf_X11_21 rfl (by rw [r17_0]; rfl) (by omega) ?_
  refine co_iload_n dX11_init_82 rfl ?_
  refine co_new dX11_init_83 (by omega) sh_256 rfl inX8 tyX8 tyX8_ok lcl_X11_19 lin_X8 wi_X8 (by decide) (by decide) (by decide) ?_
  refine co_dup dX11_init_86 rfl ?_
  have hZ18 : Fz 256 m17 := hF17
  refine co_callN mX8_init "BellTongue" dX11_init_87 (by omega) ln_X11_48 okX8_init imX8_init rfl rfl (As := []) (S := [.ref (ga G 256), .int 3, .ref (ga G 227)]) rfl rfl (Nat.le_of_ble_eq_true rfl) (by decide) (by decide) (eX8_init G (d + 2) ⟨sh_256, sh_257, sh_258, sh_259, sh_260, sh_261⟩ m17 hZ18 (fun n' m' => n' = 262 ∧ MC 256 262 m' ∧ ∀ q, q < 256 → Eq3 m17 m' q) (fun m' q1 q2 => ⟨rfl, q1, q2⟩)) (fun n' m18 hq hF18 => ?_)
  obtain ⟨rfl, hM18, hE18⟩ := hq
  refine ⟨rfl, ?_⟩
  have r18_0 := (hE18 0 (by omega)).2.2.trans r17_0
  have i18_0 := (hE18 0 (by omega)).1.trans i17_0
  have l18_0 := (hE18 0 (by omega)).2.1.trans l17_0
  have r18_227 := (hE18 227 (by omega)).2.2.trans r17_227
  have i18_227 := (hE18 227 (by omega)).1.trans i17_227
  have l18_227 := (hE18 227 (by omega)).2.1.trans l17_227
  refine co_aast (q := 227) (r := 256) (ix := 4) dX11_init_90 sh_227 (by omega) (by omega) rfl rfl sh_256 (by omega) (by omega) rfl (vp_in_dec (by decide)) ?_
  rw [show ((3 : Int32)).toNatClampNeg = 3 by decide]
  obtain ⟨m19, e19⟩ : ∃ z : Mem, z = wR m18 227 3 256 := ⟨_, rfl⟩
  rw [← e19]
  have hF19 : Fz 262 m19 := by rw [e19]; exact hF18.wR (by omega)
  have r19_0 : m19.2.2 0 = fun k => [1, 114, 227, 228, 233, 235, 0, 0].getD k 0 := by rw [e19, wR_n _ _ _ (by omega)]; exact r18_0
  have i19_0 : m19.1 0 = (fun _ => 0) := by rw [e19]; exact i18_0
  have l19_0 : m19.2.1 0 = (fun _ => 0) := by rw [e19]; exact l18_0
  have r19_227 : m19.2.2 227 = fun k => [238, 244, 250, 256].getD k 0 := by rw [e19, wR_s, r18_227, va_upL (by decide)]; rfl
  have i19_227 : m19.1 227 = (fun _ => 0) := by rw [e19]; exact i18_227
  have l19_227 : m19.2.1 227 = (fun _ => 0) := by rw [e19]; exact l18_227
  have q19 : ∀ q, q ≠ 227 → Eq3 m18 m19 q := fun q h => by rw [e19]; exact (Eq3.rf _ _).wR h
  refine co_iinc (v := 4) dX11_init_91 rfl (by decide) (by decide) rfl ?_
  refine co_goto 73 dX11_init_94 rfl ?_
  refine co_iload_n dX11_init_73 rfl ?_
  refine co_iconst (v := 4) dX11_init_74 (by decide) ?_
  refine co_icmp_ge 97 dX11_init_75 rfl ⟨fun _ => ?_, fun z => absurd (by decide) z⟩
  refine co_aload_n dX11_init_97 rfl ?_
  refine co_new dX11_init_98 (by omega) sh_262 rfl inX1 tyX1 tyX1_ok lcl_X11_49 lin_X1 wi_X1 (by decide) (by decide) (by decide) ?_
  refine co_dup dX11_init_101 rfl ?_
  refine co_aload_n dX11_init_102 rfl ?_
  refine co_getR (k := 0) (r := 1) dX11_init_103 sh_0 (by omega) rfl inX11 (Nat.le_of_ble_eq_true rfl) lf_X11_10 rfl (by rw [r19_0]; rfl) (by omega) ?_
  refine co_aload_n dX11_init_106 rfl ?_
  refine co_getR (k := 2) (r := 227) dX11_init_107 sh_0 (by omega) rfl inX11 (Nat.le_of_ble_eq_true rfl) lf_X11_21 rfl (by rw [r19_0]; rfl) (by omega) ?_
  have hZ20 : Fz 262 m19 := hF19
  refine co_callI mX1_init dX11_init_110 (by omega) lm_X11_51 okX1_init imX1_init rfl rfl (As := [.ref (ga G 1), .ref (ga G 227)]) (S := [.ref (ga G 262), .ref (ga G 0)]) rfl rfl (Nat.le_of_ble_eq_true rfl) (by decide) (by decide) (eX1_init G (d + 2) m19 hZ20 (fun n' m' => n' = 266 ∧ MC 262 266 m' ∧ ∀ q, q < 262 → Eq3 m19 m' q) (fun m' q1 q2 => ⟨rfl, q1, q2⟩)) (fun n' m20 hq hF20 => ?_)
  obtain ⟨rfl, hM20, hE20⟩ := hq
  refine ⟨rfl, ?_⟩
  have r20_0 := (hE20 0 (by omega)).2.2.trans r19_0
  have i20_0 := (hE20 0 (by omega)).1.trans i19_0
  have l20_0 := (hE20 0 (by omega)).2.1.trans l19_0
  have r20_227 := (hE20 227 (by omega)).2.2.trans r19_227
  have i20_227 := (hE20 227 (by omega)).1.trans i19_227
  have l20_227 := (hE20 227 (by omega)).2.1.trans l19_227
  refine co_putR (k := 6) (ty := .object "BellTongue$Judge") dX11_init_113 sh_0 (by omega) rfl inX11 (Nat.le_of_ble_eq_true rfl) lf_X11_54 tyX11 tyX11_ok nmX11 rfl rfl rfl (by decide +kernel) rfl rfl (by omega) ?_
  obtain ⟨m21, e21⟩ : ∃ z : Mem, z = wR m20 0 6 262 := ⟨_, rfl⟩
  rw [← e21]
  have hF21 : Fz 266 m21 := by rw [e21]; exact hF20.wR (by omega)
  have r21_0 : m21.2.2 0 = fun k => [1, 114, 227, 228, 233, 235, 262, 0].getD k 0 := by rw [e21, wR_s, r20_0, va_upL (by decide)]; rfl
  have i21_0 : m21.1 0 = (fun _ => 0) := by rw [e21]; exact i20_0
  have l21_0 : m21.2.1 0 = (fun _ => 0) := by rw [e21]; exact l20_0
  have r21_227 : m21.2.2 227 = fun k => [238, 244, 250, 256].getD k 0 := by rw [e21, wR_n _ _ _ (by omega)]; exact r20_227
  have i21_227 : m21.1 227 = (fun _ => 0) := by rw [e21]; exact i20_227
  have l21_227 : m21.2.1 227 = (fun _ => 0) := by rw [e21]; exact l20_227
  have q21 : ∀ q, q ≠ 0 → Eq3 m20 m21 q := fun q h => by rw [e21]; exact (Eq3.rf _ _).wR h
  refine co_aload_n dX11_init_116 rfl ?_
  refine co_new dX11_init_117 (by omega) sh_266 rfl inX0 tyX0 tyX0_ok lcl_X11_58 lin_X0 wi_X0 (by decide) (by decide) (by decide) ?_
  refine co_dup dX11_init_120 rfl ?_
  refine co_aload_n dX11_init_121 rfl ?_
  refine co_getR (k := 0) (r := 1) dX11_init_122 sh_0 (by omega) rfl inX11 (Nat.le_of_ble_eq_true rfl) lf_X11_10 rfl (by rw [r21_0]; rfl) (by omega) ?_
  refine co_aload_n dX11_init_125 rfl ?_
  refine co_getR (k := 6) (r := 262) dX11_init_126 sh_0 (by omega) rfl inX11 (Nat.le_of_ble_eq_true rfl) lf_X11_54 rfl (by rw [r21_0]; rfl) (by omega) ?_
  have hZ22 : Fz 266 m21 := hF21
  refine co_callI mX0_init dX11_init_129 (by omega) lm_X11_60 okX0_init imX0_init rfl rfl (As := [.ref (ga G 1), .ref (ga G 262)]) (S := [.ref (ga G 266), .ref (ga G 0)]) rfl rfl (Nat.le_of_ble_eq_true rfl) (by decide) (by decide) (eX0_init G (d + 2) m21 hZ22 (fun n' m' => n' = 273 ∧ MC 266 273 m' ∧ ∀ q, q < 266 → Eq3 m21 m' q) (fun m' q1 q2 => ⟨rfl, q1, q2⟩)) (fun n' m22 hq hF22 => ?_)
  obtain ⟨rfl, hM22, hE22⟩ := hq
  refine ⟨rfl, ?_⟩
  have r22_0 := (hE22 0 (by omega)).2.2.trans r21_0
  have i22_0 := (hE22 0 (by omega)).1.trans i21_0
  have l22_0 := (hE22 0 (by omega)).2.1.trans l21_0
  have r22_227 := (hE22 227 (by omega)).2.2.trans r21_227
  have i22_227 := (hE22 227 (by omega)).1.trans i21_227
  have l22_227 := (hE22 227 (by omega)).2.1.trans l21_227
  refine co_putR (k := 7) (ty := .object "BellTongue$Ear") dX11_init_132 sh_0 (by omega) rfl inX11 (Nat.le_of_ble_eq_true rfl) lf_X11_63 tyX11 tyX11_ok nmX11 rfl rfl rfl (by decide +kernel) rfl rfl (by omega) ?_
  obtain ⟨m23, e23⟩ : ∃ z : Mem, z = wR m22 0 7 266 := ⟨_, rfl⟩
  rw [← e23]
  have hF23 : Fz 273 m23 := by rw [e23]; exact hF22.wR (by omega)
  have r23_0 : m23.2.2 0 = fun k => [1, 114, 227, 228, 233, 235, 262, 266].getD k 0 := by rw [e23, wR_s, r22_0, va_upL (by decide)]; rfl
  have i23_0 : m23.1 0 = (fun _ => 0) := by rw [e23]; exact i22_0
  have l23_0 : m23.2.1 0 = (fun _ => 0) := by rw [e23]; exact l22_0
  have r23_227 : m23.2.2 227 = fun k => [238, 244, 250, 256].getD k 0 := by rw [e23, wR_n _ _ _ (by omega)]; exact r22_227
  have i23_227 : m23.1 227 = (fun _ => 0) := by rw [e23]; exact i22_227
  have l23_227 : m23.2.1 227 = (fun _ => 0) := by rw [e23]; exact l22_227
  have q23 : ∀ q, q ≠ 0 → Eq3 m22 m23 q := fun q h => by rw [e23]; exact (Eq3.rf _ _).wR h
  refine co_ret dX11_init_135 rfl rfl rfl ?_
  have E23 : ∀ q, q ≠ 0 → q ≠ 227 → Eq3 m23 m23 q := fun q h0 h227 => Eq3.rf _ _
  have E22 : ∀ q, q ≠ 0 → q ≠ 227 → Eq3 m22 m23 q := fun q h0 h227 => (q23 q h0).tr (E23 q h0 h227)
  have E21 : ∀ q, q ≠ 0 → q ≠ 227 → q < 266 → Eq3 m21 m23 q := fun q h0 h227 b => (hE22 q b).tr (E22 q h0 h227)
  have E20 : ∀ q, q ≠ 0 → q ≠ 227 → q < 266 → Eq3 m20 m23 q := fun q h0 h227 b => (q21 q h0).tr (E21 q h0 h227 b)
  have E19 : ∀ q, q ≠ 0 → q ≠ 227 → q < 262 → Eq3 m19 m23 q := fun q h0 h227 b => (hE20 q b).tr (E20 q h0 h227 (by omega))
  have E18 : ∀ q, q ≠ 0 → q ≠ 227 → q < 262 → Eq3 m18 m23 q := fun q h0 h227 b => (q19 q h227).tr (E19 q h0 h227 b)
  have E17 : ∀ q, q ≠ 0 → q ≠ 227 → q < 256 → Eq3 m17 m23 q := fun q h0 h227 b => (hE18 q b).tr (E18 q h0 h227 (by omega))
  have E16 : ∀ q, q ≠ 0 → q ≠ 227 → q < 256 → Eq3 m16 m23 q := fun q h0 h227 b => (q17 q h227).tr (E17 q h0 h227 b)
  have E15 : ∀ q, q ≠ 0 → q ≠ 227 → q < 250 → Eq3 m15 m23 q := fun q h0 h227 b => (hE16 q b).tr (E16 q h0 h227 (by omega))
  have E14 : ∀ q, q ≠ 0 → q ≠ 227 → q < 250 → Eq3 m14 m23 q := fun q h0 h227 b => (q15 q h227).tr (E15 q h0 h227 b)
  have E13 : ∀ q, q ≠ 0 → q ≠ 227 → q < 244 → Eq3 m13 m23 q := fun q h0 h227 b => (hE14 q b).tr (E14 q h0 h227 (by omega))
  have E12 : ∀ q, q ≠ 0 → q ≠ 227 → q < 244 → Eq3 m12 m23 q := fun q h0 h227 b => (q13 q h227).tr (E13 q h0 h227 b)
  have E11 : ∀ q, q ≠ 0 → q ≠ 227 → q < 238 → Eq3 m11 m23 q := fun q h0 h227 b => (hE12 q b).tr (E12 q h0 h227 (by omega))
  have E10 : ∀ q, q ≠ 0 → q ≠ 227 → q < 238 → Eq3 m10 m23 q := fun q h0 h227 b => (q11 q h0).tr (E11 q h0 h227 b)
  have E9 : ∀ q, q ≠ 0 → q ≠ 227 → q < 235 → Eq3 m9 m23 q := fun q h0 h227 b => (hE10 q b).tr (E10 q h0 h227 (by omega))
  have E8 : ∀ q, q ≠ 0 → q ≠ 227 → q < 235 → Eq3 m8 m23 q := fun q h0 h227 b => (q9 q h0).tr (E9 q h0 h227 b)
  have E7 : ∀ q, q ≠ 0 → q ≠ 227 → q < 233 → Eq3 m7 m23 q := fun q h0 h227 b => (hE8 q b).tr (E8 q h0 h227 (by omega))
  have E6 : ∀ q, q ≠ 0 → q ≠ 227 → q < 233 → Eq3 m6 m23 q := fun q h0 h227 b => (q7 q h0).tr (E7 q h0 h227 b)
  have E5 : ∀ q, q ≠ 0 → q ≠ 227 → q < 228 → Eq3 m5 m23 q := fun q h0 h227 b => (hE6 q b).tr (E6 q h0 h227 (by omega))
  have E4 : ∀ q, q ≠ 0 → q ≠ 227 → q < 228 → Eq3 m4 m23 q := fun q h0 h227 b => (q5 q h0).tr (E5 q h0 h227 b)
  have E3 : ∀ q, q ≠ 0 → q ≠ 227 → q < 228 → Eq3 m3 m23 q := fun q h0 h227 b => (q4 q h0).tr (E4 q h0 h227 b)
  have E2 : ∀ q, q ≠ 0 → q ≠ 227 → q < 114 → Eq3 m2 m23 q := fun q h0 h227 b => (hE3 q b).tr (E3 q h0 h227 (by omega))
  have E1 : ∀ q, q ≠ 0 → q ≠ 227 → q < 114 → Eq3 m1 m23 q := fun q h0 h227 b => (q2 q h0).tr (E2 q h0 h227 b)
  have E0 : ∀ q, q ≠ 0 → q ≠ 227 → q < 1 → Eq3 m0 m23 q := fun q h0 h227 b => (hE1 q b).tr (E1 q h0 h227 (by omega))
  exact hQ m23 (((((((((((((MC.one (a := 0) (i23_0.trans (by rw [iM_of sh_0]; rfl)) l23_0 (r23_0.trans (by rw [Mr_of sh_0]))).join (hM1.eq (fun q b1 b2 => E1 q (by omega) (by omega) (by omega)))).join (hM3.eq (fun q b1 b2 => E3 q (by omega) (by omega) (by omega)))).join (MC.one (a := 227) (i23_227.trans (by rw [iM_of sh_227]; rfl)) l23_227 (r23_227.trans (by rw [Mr_of sh_227])))).join (hM6.eq (fun q b1 b2 => E6 q (by omega) (by omega) (by omega)))).join (hM8.eq (fun q b1 b2 => E8 q (by omega) (by omega) (by omega)))).join (hM10.eq (fun q b1 b2 => E10 q (by omega) (by omega) (by omega)))).join (hM12.eq (fun q b1 b2 => E12 q (by omega) (by omega) (by omega)))).join (hM14.eq (fun q b1 b2 => E14 q (by omega) (by omega) (by omega)))).join (hM16.eq (fun q b1 b2 => E16 q (by omega) (by omega) (by omega)))).join (hM18.eq (fun q b1 b2 => E18 q (by omega) (by omega) (by omega)))).join (hM20.eq (fun q b1 b2 => E20 q (by omega) (by omega) (by omega)))).join (hM22.eq (fun q b1 b2 => E22 q (by omega) (by omega)))) (fun q b => E0 q (by omega) (by omega) (by omega))
