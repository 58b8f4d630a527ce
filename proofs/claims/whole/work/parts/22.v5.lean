theorem vX4_fewest (G : GP) (d : Nat) (a0 : Int32) (a1 : Int32) (a2 : Int32) (a3 : Int32) (m : Mem) (K : Int32 → Mem → Prop) (hF : ((2 ≤ a0 ∧ a0 ≤ 5) → Evi G (d + 2) mX4_packed [.int a0, .int a1] m (fun r2 m1 => Evi G (d + 2) mX4_packed [.int a0, .int a2] m1 (fun r4 m3 => ((r2 = (-1)) → K (-1) m3) ∧ ((¬ r2 = (-1)) → ((¬ r4 = (-1)) → Evi G (d + 2) mX4_rankOf [.int a0, .int r2] m3 (fun r6 m5 => Evv G (d + 2) mX4_measure [.ref (ga G 235), .int a0, .int r4, .int r6] m5 (fun m7 => Evi G (d + 2) mX4_rankOf [.int a0, .int r2] m7 (fun r9 m8 => vp_in r9 120 ∧ ∀ x10 : Int32, x10 = m8.1 237 r9.toNatClampNeg → ((¬ a3 = 0) → ((¬ x10 = 0) → Evi G (d + 2) mX4_lowestBehind [.ref (ga G 235), .int a0, .int r2, .int (x10 - 1)] m8 (fun r12 m11 => K r12 m11)) ∧ ((x10 = 0) → K a1 m8)) ∧ ((a3 = 0) → K x10 m8))))) ∧ ((r4 = (-1)) → K (-1) m3))))) ∧ (¬ (2 ≤ a0 ∧ a0 ≤ 5) → K (-1) m)) : Evi G (d + 3) mX4_fewest [.ref (ga G 235), .int a0, .int a1, .int a2, .int a3] m K := by
  refine Ev.go [.ref (ga G 235), .int a0, .int a1, .int a2, .int a3, uu, uu, uu] (by decide) (Nat.le_of_ble_eq_true rfl) rfl ?_
  refine go_iload_n dX4_fewest_0 rfl ?_
  refine go_iconst (v := 2) dX4_fewest_1 (by decide) ?_
  refine go_iconst (v := 5) dX4_fewest_2 (by decide) ?_
  rcases Classical.em (2 ≤ a0 ∧ a0 ≤ 5) with hp | hp
  · have hF := hF.1 hp
    refine go_callN mX11_within "BellTongue" dX4_fewest_3 ln_X4_18 okX11_within isX11_within (As := [.int a0, .int 2, .int 5]) (S := []) rfl rfl (Nat.le_of_ble_eq_true rfl) (eX11_within G _ a0 2 5 m (fun r m' => r = 1 ∧ m = m') ⟨fun _ => ⟨rfl, rfl⟩, fun q => absurd hp q⟩) (k_i (fun r m' hr => ?_))
    obtain ⟨hr1, hr2⟩ := hr
    subst hr1
    subst hr2
    refine go_if_ne 11 dX4_fewest_6 rfl ⟨fun _ => ?_, fun hc => absurd hc (by decide)⟩
    refine go_iload_n dX4_fewest_11 rfl ?_
    refine go_iload_n dX4_fewest_12 rfl ?_
    refine go_callS mX4_packed dX4_fewest_13 lm_X4_22 okX4_packed isX4_packed (As := [.int a0, .int a1]) (S := []) rfl rfl (Nat.le_of_ble_eq_true rfl) hF (k_i (fun r2 m1 hF => ?_))
    refine go_istore (L' := [.ref (ga G 235), .int a0, .int a1, .int a2, .int a3, .int r2, uu, uu]) dX4_fewest_16 (Nat.le_of_ble_eq_true rfl) rfl ?_
    refine go_iload_n dX4_fewest_18 rfl ?_
    refine go_iload_n dX4_fewest_19 rfl ?_
    refine go_callS mX4_packed dX4_fewest_20 lm_X4_22 okX4_packed isX4_packed (As := [.int a0, .int a2]) (S := []) rfl rfl (Nat.le_of_ble_eq_true rfl) hF (k_i (fun r4 m3 hF => ?_))
    refine go_istore (L' := [.ref (ga G 235), .int a0, .int a1, .int a2, .int a3, .int r2, .int r4, uu]) dX4_fewest_23 (Nat.le_of_ble_eq_true rfl) rfl ?_
    refine go_iload dX4_fewest_25 rfl ?_
    refine go_iconst (v := -1) dX4_fewest_27 (by decide) ?_
    refine go_icmp_eq 37 dX4_fewest_28 rfl ⟨fun hc => ?_, fun hc => ?_⟩
    · have hF := hF.1 hc
      refine go_iconst (v := -1) dX4_fewest_37 (by decide) ?_
      exact go_iret (S := []) dX4_fewest_38 rfl ⟨_, rfl, hF⟩
    · have hF := hF.2 hc
      refine go_iload dX4_fewest_31 rfl ?_
      refine go_iconst (v := -1) dX4_fewest_33 (by decide) ?_
      refine go_icmp_ne 39 dX4_fewest_34 rfl ⟨fun hc => ?_, fun hc => ?_⟩
      · have hF := hF.1 hc
        refine go_aload_n dX4_fewest_39 rfl ?_
        refine go_iload_n dX4_fewest_40 rfl ?_
        refine go_iload dX4_fewest_41 rfl ?_
        refine go_iload_n dX4_fewest_43 rfl ?_
        refine go_iload dX4_fewest_44 rfl ?_
        refine go_callS mX4_rankOf dX4_fewest_46 lm_X4_26 okX4_rankOf isX4_rankOf (As := [.int a0, .int r2]) (S := [.int r4, .int a0, .ref (ga G 235)]) rfl rfl (Nat.le_of_ble_eq_true rfl) hF (k_i (fun r6 m5 hF => ?_))
        refine go_callV mX4_measure dX4_fewest_49 lm_X4_29 okX4_measure isX4_measure sh_235 rfl (As := [.int a0, .int r4, .int r6]) (S := []) rfl rfl (Nat.le_of_ble_eq_true rfl) hF (k_v (fun m7 hF => ?_))
        refine go_aload_n dX4_fewest_52 rfl ?_
        refine go_getR (k := 1) (r := 237) dX4_fewest_53 sh_235 rfl inX4 (Nat.le_of_ble_eq_true rfl) lf_X4_15 rfl rfl ?_
        refine go_iload_n dX4_fewest_56 rfl ?_
        refine go_iload dX4_fewest_57 rfl ?_
        refine go_callS mX4_rankOf dX4_fewest_59 lm_X4_26 okX4_rankOf isX4_rankOf (As := [.int a0, .int r2]) (S := [.ref (ga G 237)]) rfl rfl (Nat.le_of_ble_eq_true rfl) hF (k_i (fun r9 m8 hF => ?_))
        obtain ⟨hi, hF⟩ := hF
        refine go_iald dX4_fewest_62 sh_237 hi ?_
        refine Gw.namei (fun x10 ex10 => ?_)
        have hF := hF x10 ex10
        refine go_istore (L' := [.ref (ga G 235), .int a0, .int a1, .int a2, .int a3, .int r2, .int r4, .int x10]) dX4_fewest_63 (Nat.le_of_ble_eq_true rfl) rfl ?_
        refine go_iload dX4_fewest_65 rfl ?_
        refine go_if_ne 73 dX4_fewest_67 rfl ⟨fun hc => ?_, fun hc => ?_⟩
        · have hF := hF.1 hc
          refine go_iload dX4_fewest_73 rfl ?_
          refine go_if_ne 82 dX4_fewest_75 rfl ⟨fun hc => ?_, fun hc => ?_⟩
          · have hF := hF.1 hc
            refine go_aload_n dX4_fewest_82 rfl ?_
            refine go_iload_n dX4_fewest_83 rfl ?_
            refine go_iload dX4_fewest_84 rfl ?_
            refine go_iload dX4_fewest_86 rfl ?_
            refine go_iconst (v := 1) dX4_fewest_88 (by decide) ?_
            refine go_isub dX4_fewest_89 ?_
            refine go_callV mX4_lowestBehind dX4_fewest_90 lm_X4_33 okX4_lowestBehind isX4_lowestBehind sh_235 rfl (As := [.int a0, .int r2, .int (x10 - 1)]) (S := []) rfl rfl (Nat.le_of_ble_eq_true rfl) hF (k_i (fun r12 m11 hF => ?_))
            exact go_iret (S := []) dX4_fewest_93 rfl ⟨_, rfl, hF⟩
          · have hF := hF.2 hc
            refine go_iload_n dX4_fewest_78 rfl ?_
            refine go_goto 93 dX4_fewest_79 rfl ?_
            exact go_iret (S := []) dX4_fewest_93 rfl ⟨_, rfl, hF⟩
        · have hF := hF.2 hc
          refine go_iload dX4_fewest_70 rfl ?_
          exact go_iret (S := []) dX4_fewest_72 rfl ⟨_, rfl, hF⟩
      · have hF := hF.2 hc
        refine go_iconst (v := -1) dX4_fewest_37 (by decide) ?_
        exact go_iret (S := []) dX4_fewest_38 rfl ⟨_, rfl, hF⟩
  · have hF := hF.2 hp
    refine go_callN mX11_within "BellTongue" dX4_fewest_3 ln_X4_18 okX11_within isX11_within (As := [.int a0, .int 2, .int 5]) (S := []) rfl rfl (Nat.le_of_ble_eq_true rfl) (eX11_within G _ a0 2 5 m (fun r m' => r = 0 ∧ m = m') ⟨fun q => absurd q hp, fun _ => ⟨rfl, rfl⟩⟩) (k_i (fun r m' hr => ?_))
    obtain ⟨hr1, hr2⟩ := hr
    subst hr1
    subst hr2
    refine go_if_ne 11 dX4_fewest_6 rfl ⟨fun hc => absurd hc (by decide), fun _ => ?_⟩
    refine go_iconst (v := -1) dX4_fewest_9 (by decide) ?_
    exact go_iret (S := []) dX4_fewest_10 rfl ⟨_, rfl, hF⟩
theorem vX4_measure (G : GP) (d : Nat) (a0 : Int32) (a1 : Int32) (a2 : Int32) (m : Mem) (K : Mem → Prop) (hF : Evv G (d + 1) mJ7_fill_53178 [.ref (ga G 237), .int (-1)] m (fun m1 => Evi G (d + 1) mX4_rankOf [.int a0, .int a1] m1 (fun r3 m2 => vp_in r3 120 ∧ ∀ m4 : Mem, m4 = wI m2 237 r3.toNatClampNeg 0 → ∀ m5 : Mem, m5 = wI m4 236 0 a1 → Gw G (d + 2) mX4_measure 32 [.ref (ga G 235), .int a0, .int a1, .int a2, .int 1, .int 0, uu, uu, uu, uu] [] m5 (Qv K)))) : Evv G (d + 2) mX4_measure [.ref (ga G 235), .int a0, .int a1, .int a2] m K := by
  refine Ev.go [.ref (ga G 235), .int a0, .int a1, .int a2, uu, uu, uu, uu, uu, uu] (by decide) (Nat.le_of_ble_eq_true rfl) rfl ?_
  refine go_aload_n dX4_measure_0 rfl ?_
  refine go_getR (k := 1) (r := 237) dX4_measure_1 sh_235 rfl inX4 (Nat.le_of_ble_eq_true rfl) lf_X4_15 rfl rfl ?_
  refine go_iconst (v := -1) dX4_measure_4 (by decide) ?_
  refine go_callS mJ7_fill_53178 dX4_measure_5 lm_X4_37 okJ7_fill_53178 isJ7_fill_53178 (As := [.ref (ga G 237), .int (-1)]) (S := []) rfl rfl (Nat.le_of_ble_eq_true rfl) hF (k_v (fun m1 hF => ?_))
  refine go_aload_n dX4_measure_8 rfl ?_
  refine go_getR (k := 1) (r := 237) dX4_measure_9 sh_235 rfl inX4 (Nat.le_of_ble_eq_true rfl) lf_X4_15 rfl rfl ?_
  refine go_iload_n dX4_measure_12 rfl ?_
  refine go_iload_n dX4_measure_13 rfl ?_
  refine go_callS mX4_rankOf dX4_measure_14 lm_X4_26 okX4_rankOf isX4_rankOf (As := [.int a0, .int a1]) (S := [.ref (ga G 237)]) rfl rfl (Nat.le_of_ble_eq_true rfl) hF (k_i (fun r3 m2 hF => ?_))
  refine go_iconst (v := 0) dX4_measure_17 (by decide) ?_
  obtain ⟨hi, hF⟩ := hF
  refine go_iast dX4_measure_18 sh_237 hi ?_
  obtain ⟨m4, em4⟩ : ∃ z : Mem, z = wI m2 237 r3.toNatClampNeg 0 := ⟨_, rfl⟩
  rw [← em4]
  have hF := hF m4 em4
  refine go_aload_n dX4_measure_19 rfl ?_
  refine go_getR (k := 0) (r := 236) dX4_measure_20 sh_235 rfl inX4 (Nat.le_of_ble_eq_true rfl) lf_X4_11 rfl rfl ?_
  refine go_iconst (v := 0) dX4_measure_23 (by decide) ?_
  refine go_iload_n dX4_measure_24 rfl ?_
  refine go_iastK (k := 0) dX4_measure_25 sh_236 (vp_in_dec (by decide)) (by decide) ?_
  obtain ⟨m5, em5⟩ : ∃ z : Mem, z = wI m4 236 0 a1 := ⟨_, rfl⟩
  rw [← em5]
  have hF := hF m5 em5
  refine go_iconst (v := 1) dX4_measure_26 (by decide) ?_
  refine go_istore (L' := [.ref (ga G 235), .int a0, .int a1, .int a2, .int 1, uu, uu, uu, uu, uu]) dX4_measure_27 (Nat.le_of_ble_eq_true rfl) rfl ?_
  refine go_iconst (v := 0) dX4_measure_29 (by decide) ?_
  refine go_istore (L' := [.ref (ga G 235), .int a0, .int a1, .int a2, .int 1, .int 0, uu, uu, uu, uu]) dX4_measure_30 (Nat.le_of_ble_eq_true rfl) rfl ?_
  exact hF
theorem vX4_measure_32 (G : GP) (d : Nat) (l1 : Int32) (u2 : Value) (l3 : Int32) (l4 : Int32) (l5 : Int32) (u6 : Value) (u7 : Value) (u8 : Value) (u9 : Value) (m : Mem) (K : Mem → Prop) (hF : ((l4 ≤ l5) → K m) ∧ ((¬ l4 ≤ l5) → vp_in l3 120 ∧ ((¬ (m.1 237 l3.toNatClampNeg) = (-1)) → K m) ∧ (((m.1 237 l3.toNatClampNeg) = (-1)) → vp_in l5 120 ∧ Evi G (d + 1) mX4_rankOf [.int l1, .int (m.1 236 l5.toNatClampNeg)] m (fun r7 m6 => vp_in r7 120 ∧ ∀ x8 : Int32, x8 = m6.1 237 r7.toNatClampNeg → Gw G (d + 2) mX4_measure 70 [.ref (ga G 235), .int l1, uu, .int l3, .int l4, .int l5, .int x8, .int 1, uu, uu] [] m6 (Qv K))))) : Gw G (d + 2) mX4_measure 32 [.ref (ga G 235), .int l1, u2, .int l3, .int l4, .int l5, u6, u7, u8, u9] [] m (Qv K) := by
  refine Gw.weak (L' := [.ref (ga G 235), .int l1, uu, .int l3, .int l4, .int l5, uu, uu, uu, uu]) ⟨Or.inl rfl, Or.inl rfl, Or.inr rfl, Or.inl rfl, Or.inl rfl, Or.inl rfl, Or.inr rfl, Or.inr rfl, Or.inr rfl, Or.inr rfl, trivial⟩ ?_
  refine go_iload dX4_measure_32 rfl ?_
  refine go_iload dX4_measure_34 rfl ?_
  refine go_icmp_ge 155 dX4_measure_36 rfl ⟨fun hc => ?_, fun hc => ?_⟩
  · have hF := hF.1 hc
    exact go_vret (S := []) dX4_measure_155 rfl ⟨rfl, hF⟩
  · have hF := hF.2 hc
    refine go_aload_n dX4_measure_39 rfl ?_
    refine go_getR (k := 1) (r := 237) dX4_measure_40 sh_235 rfl inX4 (Nat.le_of_ble_eq_true rfl) lf_X4_15 rfl rfl ?_
    refine go_iload_n dX4_measure_43 rfl ?_
    obtain ⟨hi, hF⟩ := hF
    refine go_iald dX4_measure_44 sh_237 hi ?_
    refine go_iconst (v := -1) dX4_measure_45 (by decide) ?_
    refine go_icmp_ne 155 dX4_measure_46 rfl ⟨fun hc => ?_, fun hc => ?_⟩
    · have hF := hF.1 hc
      exact go_vret (S := []) dX4_measure_155 rfl ⟨rfl, hF⟩
    · have hF := hF.2 hc
      refine go_aload_n dX4_measure_49 rfl ?_
      refine go_getR (k := 1) (r := 237) dX4_measure_50 sh_235 rfl inX4 (Nat.le_of_ble_eq_true rfl) lf_X4_15 rfl rfl ?_
      refine go_iload_n dX4_measure_53 rfl ?_
      refine go_aload_n dX4_measure_54 rfl ?_
      refine go_getR (k := 0) (r := 236) dX4_measure_55 sh_235 rfl inX4 (Nat.le_of_ble_eq_true rfl) lf_X4_11 rfl rfl ?_
      refine go_iload dX4_measure_58 rfl ?_
      obtain ⟨hi, hF⟩ := hF
      refine go_iald dX4_measure_60 sh_236 hi ?_
      refine go_callS mX4_rankOf dX4_measure_61 lm_X4_26 okX4_rankOf isX4_rankOf (As := [.int l1, .int (m.1 236 l5.toNatClampNeg)]) (S := [.ref (ga G 237)]) rfl rfl (Nat.le_of_ble_eq_true rfl) hF (k_i (fun r7 m6 hF => ?_))
      obtain ⟨hi, hF⟩ := hF
      refine go_iald dX4_measure_64 sh_237 hi ?_
      refine Gw.namei (fun x8 ex8 => ?_)
      have hF := hF x8 ex8
      refine go_istore (L' := [.ref (ga G 235), .int l1, uu, .int l3, .int l4, .int l5, .int x8, uu, uu, uu]) dX4_measure_65 (Nat.le_of_ble_eq_true rfl) rfl ?_
      refine go_iconst (v := 1) dX4_measure_67 (by decide) ?_
      refine go_istore (L' := [.ref (ga G 235), .int l1, uu, .int l3, .int l4, .int l5, .int x8, .int 1, uu, uu]) dX4_measure_68 (Nat.le_of_ble_eq_true rfl) rfl ?_
      exact hF
theorem vX4_measure_70 (G : GP) (d : Nat) (l1 : Int32) (u2 : Value) (l3 : Int32) (l4 : Int32) (l5 : Int32) (l6 : Int32) (l7 : Int32) (u8 : Value) (u9 : Value) (m : Mem) (K : Mem → Prop) (hF : ((((1 : Int32) <<< ((l1 - 1) &&& 31)) ≤ l7) → ∀ x9 : Int32, x9 = l5 + 1 → Gw G (d + 2) mX4_measure 32 [.ref (ga G 235), .int l1, uu, .int l3, .int l4, .int x9, .int l6, .int l7, uu, uu] [] m (Qv K)) ∧ ((¬ ((1 : Int32) <<< ((l1 - 1) &&& 31)) ≤ l7) → vp_in l5 120 ∧ Evi G (d + 1) mX4_changed [.int (m.1 236 l5.toNatClampNeg), .int l7] m (fun r11 m10 => Evi G (d + 1) mX4_rankOf [.int l1, .int r11] m10 (fun r13 m12 => vp_in r13 120 ∧ ((¬ (m12.1 237 r13.toNatClampNeg) = (-1)) → ∀ x14 : Int32, x14 = l7 + 1 → Gw G (d + 2) mX4_measure 70 [.ref (ga G 235), .int l1, uu, .int l3, .int l4, .int l5, .int l6, .int x14, .int r11, .int r13] [] m12 (Qv K)) ∧ (((m12.1 237 r13.toNatClampNeg) = (-1)) → ((120 ≤ l4) → ∀ x15 : Int32, x15 = l7 + 1 → Gw G (d + 2) mX4_measure 70 [.ref (ga G 235), .int l1, uu, .int l3, .int l4, .int l5, .int l6, .int x15, .int r11, .int r13] [] m12 (Qv K)) ∧ ((¬ 120 ≤ l4) → vp_in r13 120 ∧ ∀ m16 : Mem, m16 = wI m12 237 r13.toNatClampNeg (l6 + 1) → vp_in l4 120 ∧ ∀ m17 : Mem, m17 = wI m16 236 l4.toNatClampNeg r11 → ∀ x18 : Int32, x18 = l4 + 1 → ∀ x19 : Int32, x19 = l7 + 1 → Gw G (d + 2) mX4_measure 70 [.ref (ga G 235), .int l1, uu, .int l3, .int x18, .int l5, .int l6, .int x19, .int r11, .int r13] [] m17 (Qv K))))))) : Gw G (d + 2) mX4_measure 70 [.ref (ga G 235), .int l1, u2, .int l3, .int l4, .int l5, .int l6, .int l7, u8, u9] [] m (Qv K) := by
  refine Gw.weak (L' := [.ref (ga G 235), .int l1, uu, .int l3, .int l4, .int l5, .int l6, .int l7, uu, uu]) ⟨Or.inl rfl, Or.inl rfl, Or.inr rfl, Or.inl rfl, Or.inl rfl, Or.inl rfl, Or.inl rfl, Or.inl rfl, Or.inr rfl, Or.inr rfl, trivial⟩ ?_
  refine go_iload dX4_measure_70 rfl ?_
  refine go_iconst (v := 1) dX4_measure_72 (by decide) ?_
  refine go_iload_n dX4_measure_73 rfl ?_
  refine go_iconst (v := 1) dX4_measure_74 (by decide) ?_
  refine go_isub dX4_measure_75 ?_
  refine go_ishl dX4_measure_76 ?_
  refine go_icmp_ge 149 dX4_measure_77 rfl ⟨fun hc => ?_, fun hc => ?_⟩
  · have hF := hF.1 hc
    obtain ⟨x9, ex9⟩ : ∃ z : Int32, z = l5 + 1 := ⟨_, rfl⟩
    have hF := hF x9 ex9
    refine go_iinc (v := x9) (L' := [.ref (ga G 235), .int l1, uu, .int l3, .int l4, .int x9, .int l6, .int l7, uu, uu]) dX4_measure_149 rfl (by rw [ex9]; rfl) (Nat.le_of_ble_eq_true rfl) rfl ?_
    refine go_goto 32 dX4_measure_152 rfl ?_
    exact hF
  · have hF := hF.2 hc
    refine go_aload_n dX4_measure_80 rfl ?_
    refine go_getR (k := 0) (r := 236) dX4_measure_81 sh_235 rfl inX4 (Nat.le_of_ble_eq_true rfl) lf_X4_11 rfl rfl ?_
    refine go_iload dX4_measure_84 rfl ?_
    obtain ⟨hi, hF⟩ := hF
    refine go_iald dX4_measure_86 sh_236 hi ?_
    refine go_iload dX4_measure_87 rfl ?_
    refine go_callS mX4_changed dX4_measure_89 lm_X4_43 okX4_changed isX4_changed (As := [.int (m.1 236 l5.toNatClampNeg), .int l7]) (S := []) rfl rfl (Nat.le_of_ble_eq_true rfl) hF (k_i (fun r11 m10 hF => ?_))
    refine go_istore (L' := [.ref (ga G 235), .int l1, uu, .int l3, .int l4, .int l5, .int l6, .int l7, .int r11, uu]) dX4_measure_92 (Nat.le_of_ble_eq_true rfl) rfl ?_
    refine go_iload_n dX4_measure_94 rfl ?_
    refine go_iload dX4_measure_95 rfl ?_
    refine go_callS mX4_rankOf dX4_measure_97 lm_X4_26 okX4_rankOf isX4_rankOf (As := [.int l1, .int r11]) (S := []) rfl rfl (Nat.le_of_ble_eq_true rfl) hF (k_i (fun r13 m12 hF => ?_))
    refine go_istore (L' := [.ref (ga G 235), .int l1, uu, .int l3, .int l4, .int l5, .int l6, .int l7, .int r11, .int r13]) dX4_measure_100 (Nat.le_of_ble_eq_true rfl) rfl ?_
    refine go_aload_n dX4_measure_102 rfl ?_
    refine go_getR (k := 1) (r := 237) dX4_measure_103 sh_235 rfl inX4 (Nat.le_of_ble_eq_true rfl) lf_X4_15 rfl rfl ?_
    refine go_iload dX4_measure_106 rfl ?_
    obtain ⟨hi, hF⟩ := hF
    refine go_iald dX4_measure_108 sh_237 hi ?_
    refine go_iconst (v := -1) dX4_measure_109 (by decide) ?_
    refine go_icmp_ne 143 dX4_measure_110 rfl ⟨fun hc => ?_, fun hc => ?_⟩
    · have hF := hF.1 hc
      obtain ⟨x14, ex14⟩ : ∃ z : Int32, z = l7 + 1 := ⟨_, rfl⟩
      have hF := hF x14 ex14
      refine go_iinc (v := x14) (L' := [.ref (ga G 235), .int l1, uu, .int l3, .int l4, .int l5, .int l6, .int x14, .int r11, .int r13]) dX4_measure_143 rfl (by rw [ex14]; rfl) (Nat.le_of_ble_eq_true rfl) rfl ?_
      refine go_goto 70 dX4_measure_146 rfl ?_
      exact hF
    · have hF := hF.2 hc
      refine go_iload dX4_measure_113 rfl ?_
      refine go_bipush (v := 120) dX4_measure_115 (by decide) ?_
      refine go_icmp_ge 143 dX4_measure_117 rfl ⟨fun hc => ?_, fun hc => ?_⟩
      · have hF := hF.1 hc
        obtain ⟨x15, ex15⟩ : ∃ z : Int32, z = l7 + 1 := ⟨_, rfl⟩
        have hF := hF x15 ex15
        refine go_iinc (v := x15) (L' := [.ref (ga G 235), .int l1, uu, .int l3, .int l4, .int l5, .int l6, .int x15, .int r11, .int r13]) dX4_measure_143 rfl (by rw [ex15]; rfl) (Nat.le_of_ble_eq_true rfl) rfl ?_
        refine go_goto 70 dX4_measure_146 rfl ?_
        exact hF
      · have hF := hF.2 hc
        refine go_aload_n dX4_measure_120 rfl ?_
        refine go_getR (k := 1) (r := 237) dX4_measure_121 sh_235 rfl inX4 (Nat.le_of_ble_eq_true rfl) lf_X4_15 rfl rfl ?_
        refine go_iload dX4_measure_124 rfl ?_
        refine go_iload dX4_measure_126 rfl ?_
        refine go_iconst (v := 1) dX4_measure_128 (by decide) ?_
        refine go_iadd dX4_measure_129 ?_
        obtain ⟨hi, hF⟩ := hF
        refine go_iast dX4_measure_130 sh_237 hi ?_
        obtain ⟨m16, em16⟩ : ∃ z : Mem, z = wI m12 237 r13.toNatClampNeg (l6 + 1) := ⟨_, rfl⟩
        rw [← em16]
        have hF := hF m16 em16
        refine go_aload_n dX4_measure_131 rfl ?_
        refine go_getR (k := 0) (r := 236) dX4_measure_132 sh_235 rfl inX4 (Nat.le_of_ble_eq_true rfl) lf_X4_11 rfl rfl ?_
        refine go_iload dX4_measure_135 rfl ?_
        refine go_iload dX4_measure_137 rfl ?_
        obtain ⟨hi, hF⟩ := hF
        refine go_iast dX4_measure_139 sh_236 hi ?_
        obtain ⟨m17, em17⟩ : ∃ z : Mem, z = wI m16 236 l4.toNatClampNeg r11 := ⟨_, rfl⟩
        rw [← em17]
        have hF := hF m17 em17
        obtain ⟨x18, ex18⟩ : ∃ z : Int32, z = l4 + 1 := ⟨_, rfl⟩
        have hF := hF x18 ex18
        refine go_iinc (v := x18) (L' := [.ref (ga G 235), .int l1, uu, .int l3, .int x18, .int l5, .int l6, .int l7, .int r11, .int r13]) dX4_measure_140 rfl (by rw [ex18]; rfl) (Nat.le_of_ble_eq_true rfl) rfl ?_
        obtain ⟨x19, ex19⟩ : ∃ z : Int32, z = l7 + 1 := ⟨_, rfl⟩
        have hF := hF x19 ex19
        refine go_iinc (v := x19) (L' := [.ref (ga G 235), .int l1, uu, .int l3, .int x18, .int l5, .int l6, .int x19, .int r11, .int r13]) dX4_measure_143 rfl (by rw [ex19]; rfl) (Nat.le_of_ble_eq_true rfl) rfl ?_
        refine go_goto 70 dX4_measure_146 rfl ?_
        exact hF
theorem vX4_lowestBehind (G : GP) (d : Nat) (a0 : Int32) (a1 : Int32) (a2 : Int32) (m : Mem) (K : Int32 → Mem → Prop) (hF : Gw G (d + 2) mX4_lowestBehind 6 [.ref (ga G 235), .int a0, .int a1, .int a2, .int (-1), .int 1, uu, uu] [] m (Qi K)) : Evi G (d + 2) mX4_lowestBehind [.ref (ga G 235), .int a0, .int a1, .int a2] m K := by
  refine Ev.go [.ref (ga G 235), .int a0, .int a1, .int a2, uu, uu, uu, uu] (by decide) (Nat.le_of_ble_eq_true rfl) rfl ?_
  refine go_iconst (v := -1) dX4_lowestBehind_0 (by decide) ?_
  refine go_istore (L' := [.ref (ga G 235), .int a0, .int a1, .int a2, .int (-1), uu, uu, uu]) dX4_lowestBehind_1 (Nat.le_of_ble_eq_true rfl) rfl ?_
  refine go_iconst (v := 1) dX4_lowestBehind_3 (by decide) ?_
  refine go_istore (L' := [.ref (ga G 235), .int a0, .int a1, .int a2, .int (-1), .int 1, uu, uu]) dX4_lowestBehind_4 (Nat.le_of_ble_eq_true rfl) rfl ?_
  exact hF
theorem vX4_lowestBehind_6 (G : GP) (d : Nat) (l1 : Int32) (l2 : Int32) (l3 : Int32) (l4 : Int32) (l5 : Int32) (u6 : Value) (u7 : Value) (m : Mem) (K : Int32 → Mem → Prop) (hF : ((((1 : Int32) <<< ((l1 - 1) &&& 31)) ≤ l5) → K l4 m) ∧ ((¬ ((1 : Int32) <<< ((l1 - 1) &&& 31)) ≤ l5) → Evi G (d + 1) mX4_changed [.int l2, .int l5] m (fun r2 m1 => Evi G (d + 1) mX4_rankOf [.int l1, .int r2] m1 (fun r4 m3 => vp_in r4 120 ∧ ((¬ (m3.1 237 r4.toNatClampNeg) = l3) → ∀ x5 : Int32, x5 = l5 + 1 → Gw G (d + 2) mX4_lowestBehind 6 [.ref (ga G 235), .int l1, .int l2, .int l3, .int l4, .int x5, .int r2, uu] [] m3 (Qi K)) ∧ (((m3.1 237 r4.toNatClampNeg) = l3) → Evi G (d + 1) mX4_unpacked [.int l1, .int r2] m3 (fun r7 m6 => ((l4 = (-1)) → ∀ x8 : Int32, x8 = l5 + 1 → Gw G (d + 2) mX4_lowestBehind 6 [.ref (ga G 235), .int l1, .int l2, .int l3, .int r7, .int x8, .int r2, .int r7] [] m6 (Qi K)) ∧ ((¬ l4 = (-1)) → ((l4 ≤ r7) → ∀ x9 : Int32, x9 = l5 + 1 → Gw G (d + 2) mX4_lowestBehind 6 [.ref (ga G 235), .int l1, .int l2, .int l3, .int l4, .int x9, .int r2, .int r7] [] m6 (Qi K)) ∧ ((¬ l4 ≤ r7) → ∀ x10 : Int32, x10 = l5 + 1 → Gw G (d + 2) mX4_lowestBehind 6 [.ref (ga G 235), .int l1, .int l2, .int l3, .int r7, .int x10, .int r2, .int r7] [] m6 (Qi K))))))))) : Gw G (d + 2) mX4_lowestBehind 6 [.ref (ga G 235), .int l1, .int l2, .int l3, .int l4, .int l5, u6, u7] [] m (Qi K) := by
  refine Gw.weak (L' := [.ref (ga G 235), .int l1, .int l2, .int l3, .int l4, .int l5, uu, uu]) ⟨Or.inl rfl, Or.inl rfl, Or.inl rfl, Or.inl rfl, Or.inl rfl, Or.inl rfl, Or.inr rfl, Or.inr rfl, trivial⟩ ?_
  refine go_iload dX4_lowestBehind_6 rfl ?_
  refine go_iconst (v := 1) dX4_lowestBehind_8 (by decide) ?_
  refine go_iload_n dX4_lowestBehind_9 rfl ?_
  refine go_iconst (v := 1) dX4_lowestBehind_10 (by decide) ?_
  refine go_isub dX4_lowestBehind_11 ?_
  refine go_ishl dX4_lowestBehind_12 ?_
  refine go_icmp_ge 70 dX4_lowestBehind_13 rfl ⟨fun hc => ?_, fun hc => ?_⟩
  · have hF := hF.1 hc
    refine go_iload dX4_lowestBehind_70 rfl ?_
    exact go_iret (S := []) dX4_lowestBehind_72 rfl ⟨_, rfl, hF⟩
  · have hF := hF.2 hc
    refine go_iload_n dX4_lowestBehind_16 rfl ?_
    refine go_iload dX4_lowestBehind_17 rfl ?_
    refine go_callS mX4_changed dX4_lowestBehind_19 lm_X4_43 okX4_changed isX4_changed (As := [.int l2, .int l5]) (S := []) rfl rfl (Nat.le_of_ble_eq_true rfl) hF (k_i (fun r2 m1 hF => ?_))
    refine go_istore (L' := [.ref (ga G 235), .int l1, .int l2, .int l3, .int l4, .int l5, .int r2, uu]) dX4_lowestBehind_22 (Nat.le_of_ble_eq_true rfl) rfl ?_
    refine go_aload_n dX4_lowestBehind_24 rfl ?_
    refine go_getR (k := 1) (r := 237) dX4_lowestBehind_25 sh_235 rfl inX4 (Nat.le_of_ble_eq_true rfl) lf_X4_15 rfl rfl ?_
    refine go_iload_n dX4_lowestBehind_28 rfl ?_
    refine go_iload dX4_lowestBehind_29 rfl ?_
    refine go_callS mX4_rankOf dX4_lowestBehind_31 lm_X4_26 okX4_rankOf isX4_rankOf (As := [.int l1, .int r2]) (S := [.ref (ga G 237)]) rfl rfl (Nat.le_of_ble_eq_true rfl) hF (k_i (fun r4 m3 hF => ?_))
    obtain ⟨hi, hF⟩ := hF
    refine go_iald dX4_lowestBehind_34 sh_237 hi ?_
    refine go_iload_n dX4_lowestBehind_35 rfl ?_
    refine go_icmp_ne 64 dX4_lowestBehind_36 rfl ⟨fun hc => ?_, fun hc => ?_⟩
    · have hF := hF.1 hc
      obtain ⟨x5, ex5⟩ : ∃ z : Int32, z = l5 + 1 := ⟨_, rfl⟩
      have hF := hF x5 ex5
      refine go_iinc (v := x5) (L' := [.ref (ga G 235), .int l1, .int l2, .int l3, .int l4, .int x5, .int r2, uu]) dX4_lowestBehind_64 rfl (by rw [ex5]; rfl) (Nat.le_of_ble_eq_true rfl) rfl ?_
      refine go_goto 6 dX4_lowestBehind_67 rfl ?_
      exact hF
    · have hF := hF.2 hc
      refine go_iload_n dX4_lowestBehind_39 rfl ?_
      refine go_iload dX4_lowestBehind_40 rfl ?_
      refine go_callS mX4_unpacked dX4_lowestBehind_42 lm_X4_46 okX4_unpacked isX4_unpacked (As := [.int l1, .int r2]) (S := []) rfl rfl (Nat.le_of_ble_eq_true rfl) hF (k_i (fun r7 m6 hF => ?_))
      refine go_istore (L' := [.ref (ga G 235), .int l1, .int l2, .int l3, .int l4, .int l5, .int r2, .int r7]) dX4_lowestBehind_45 (Nat.le_of_ble_eq_true rfl) rfl ?_
      refine go_iload dX4_lowestBehind_47 rfl ?_
      refine go_iconst (v := -1) dX4_lowestBehind_49 (by decide) ?_
      refine go_icmp_eq 60 dX4_lowestBehind_50 rfl ⟨fun hc => ?_, fun hc => ?_⟩
      · have hF := hF.1 hc
        refine go_iload dX4_lowestBehind_60 rfl ?_
        refine go_istore (L' := [.ref (ga G 235), .int l1, .int l2, .int l3, .int r7, .int l5, .int r2, .int r7]) dX4_lowestBehind_62 (Nat.le_of_ble_eq_true rfl) rfl ?_
        obtain ⟨x8, ex8⟩ : ∃ z : Int32, z = l5 + 1 := ⟨_, rfl⟩
        have hF := hF x8 ex8
        refine go_iinc (v := x8) (L' := [.ref (ga G 235), .int l1, .int l2, .int l3, .int r7, .int x8, .int r2, .int r7]) dX4_lowestBehind_64 rfl (by rw [ex8]; rfl) (Nat.le_of_ble_eq_true rfl) rfl ?_
        refine go_goto 6 dX4_lowestBehind_67 rfl ?_
        exact hF
      · have hF := hF.2 hc
        refine go_iload dX4_lowestBehind_53 rfl ?_
        refine go_iload dX4_lowestBehind_55 rfl ?_
        refine go_icmp_ge 64 dX4_lowestBehind_57 rfl ⟨fun hc => ?_, fun hc => ?_⟩
        · have hF := hF.1 hc
          obtain ⟨x9, ex9⟩ : ∃ z : Int32, z = l5 + 1 := ⟨_, rfl⟩
          have hF := hF x9 ex9
          refine go_iinc (v := x9) (L' := [.ref (ga G 235), .int l1, .int l2, .int l3, .int l4, .int x9, .int r2, .int r7]) dX4_lowestBehind_64 rfl (by rw [ex9]; rfl) (Nat.le_of_ble_eq_true rfl) rfl ?_
          refine go_goto 6 dX4_lowestBehind_67 rfl ?_
          exact hF
        · have hF := hF.2 hc
          refine go_iload dX4_lowestBehind_60 rfl ?_
          refine go_istore (L' := [.ref (ga G 235), .int l1, .int l2, .int l3, .int r7, .int l5, .int r2, .int r7]) dX4_lowestBehind_62 (Nat.le_of_ble_eq_true rfl) rfl ?_
          obtain ⟨x10, ex10⟩ : ∃ z : Int32, z = l5 + 1 := ⟨_, rfl⟩
          have hF := hF x10 ex10
          refine go_iinc (v := x10) (L' := [.ref (ga G 235), .int l1, .int l2, .int l3, .int r7, .int x10, .int r2, .int r7]) dX4_lowestBehind_64 rfl (by rw [ex10]; rfl) (Nat.le_of_ble_eq_true rfl) rfl ?_
          refine go_goto 6 dX4_lowestBehind_67 rfl ?_
          exact hF
theorem vX4_changed (G : GP) (d : Nat) (a0 : Int32) (a1 : Int32) (m : Mem) (K : Int32 → Mem → Prop) (hF : (((a1 &&& (a1 <<< (1 &&& 31))) = 0) → Gw G (d) mX4_changed 14 [.int a0, .int a1, .int a0, .int 0, uu] [] m (Qi K)) ∧ ((¬ (a1 &&& (a1 <<< (1 &&& 31))) = 0) → K a0 m)) : Evi G (d) mX4_changed [.int a0, .int a1] m K := by
  refine Ev.go [.int a0, .int a1, uu, uu, uu] (by decide) (Nat.le_of_ble_eq_true rfl) rfl ?_
  refine go_iload_n dX4_changed_0 rfl ?_
  refine go_iload_n dX4_changed_1 rfl ?_
  refine go_iconst (v := 1) dX4_changed_2 (by decide) ?_
  refine go_ishl dX4_changed_3 ?_
  refine go_iand dX4_changed_4 ?_
  refine go_if_eq 10 dX4_changed_5 rfl ⟨fun hc => ?_, fun hc => ?_⟩
  · have hF := hF.1 hc
    refine go_iload_n dX4_changed_10 rfl ?_
    refine go_istore_n (L' := [.int a0, .int a1, .int a0, uu, uu]) dX4_changed_11 (Nat.le_of_ble_eq_true rfl) rfl ?_
    refine go_iconst (v := 0) dX4_changed_12 (by decide) ?_
    refine go_istore_n (L' := [.int a0, .int a1, .int a0, .int 0, uu]) dX4_changed_13 (Nat.le_of_ble_eq_true rfl) rfl ?_
    exact hF
  · have hF := hF.2 hc
    refine go_iload_n dX4_changed_8 rfl ?_
    exact go_iret (S := []) dX4_changed_9 rfl ⟨_, rfl, hF⟩
theorem vX4_changed_14 (G : GP) (d : Nat) (l0 : Int32) (l1 : Int32) (l2 : Int32) (l3 : Int32) (u4 : Value) (m : Mem) (K : Int32 → Mem → Prop) (hF : ((4 ≤ l3) → K l2 m) ∧ ((¬ 4 ≤ l3) → ((((l1 >>> (l3 &&& 31)) &&& 1) = 0) → ∀ x1 : Int32, x1 = l3 + 1 → Gw G (d) mX4_changed 14 [.int l0, .int l1, .int l2, .int x1, uu] [] m (Qi K)) ∧ ((¬ ((l1 >>> (l3 &&& 31)) &&& 1) = 0) → ∀ x2 : Int32, x2 = ((l0 >>> (((3 : Int32) * l3) &&& 31)) ^^^ (l0 >>> ((((3 : Int32) * l3) + 3) &&& 31))) &&& 7 → ∀ x3 : Int32, x3 = l2 ^^^ ((x2 <<< (((3 : Int32) * l3) &&& 31)) ||| (x2 <<< ((((3 : Int32) * l3) + 3) &&& 31))) → ∀ x4 : Int32, x4 = l3 + 1 → Gw G (d) mX4_changed 14 [.int l0, .int l1, .int x3, .int x4, .int x2] [] m (Qi K)))) : Gw G (d) mX4_changed 14 [.int l0, .int l1, .int l2, .int l3, u4] [] m (Qi K) := by
  refine Gw.weak (L' := [.int l0, .int l1, .int l2, .int l3, uu]) ⟨Or.inl rfl, Or.inl rfl, Or.inl rfl, Or.inl rfl, Or.inr rfl, trivial⟩ ?_
  refine go_iload_n dX4_changed_14 rfl ?_
  refine go_iconst (v := 4) dX4_changed_15 (by decide) ?_
  refine go_icmp_ge 69 dX4_changed_16 rfl ⟨fun hc => ?_, fun hc => ?_⟩
  · have hF := hF.1 hc
    refine go_iload_n dX4_changed_69 rfl ?_
    exact go_iret (S := []) dX4_changed_70 rfl ⟨_, rfl, hF⟩
  · have hF := hF.2 hc
    refine go_iload_n dX4_changed_19 rfl ?_
    refine go_iload_n dX4_changed_20 rfl ?_
    refine go_ishr dX4_changed_21 ?_
    refine go_iconst (v := 1) dX4_changed_22 (by decide) ?_
    refine go_iand dX4_changed_23 ?_
    refine go_if_eq 63 dX4_changed_24 rfl ⟨fun hc => ?_, fun hc => ?_⟩
    · have hF := hF.1 hc
      obtain ⟨x1, ex1⟩ : ∃ z : Int32, z = l3 + 1 := ⟨_, rfl⟩
      have hF := hF x1 ex1
      refine go_iinc (v := x1) (L' := [.int l0, .int l1, .int l2, .int x1, uu]) dX4_changed_63 rfl (by rw [ex1]; rfl) (Nat.le_of_ble_eq_true rfl) rfl ?_
      refine go_goto 14 dX4_changed_66 rfl ?_
      exact hF
    · have hF := hF.2 hc
      refine go_iload_n dX4_changed_27 rfl ?_
      refine go_iconst (v := 3) dX4_changed_28 (by decide) ?_
      refine go_iload_n dX4_changed_29 rfl ?_
      refine go_imul dX4_changed_30 ?_
      refine go_ishr dX4_changed_31 ?_
      refine go_iload_n dX4_changed_32 rfl ?_
      refine go_iconst (v := 3) dX4_changed_33 (by decide) ?_
      refine go_iload_n dX4_changed_34 rfl ?_
      refine go_imul dX4_changed_35 ?_
      refine go_iconst (v := 3) dX4_changed_36 (by decide) ?_
      refine go_iadd dX4_changed_37 ?_
      refine go_ishr dX4_changed_38 ?_
      refine go_ixor dX4_changed_39 ?_
      refine go_bipush (v := 7) dX4_changed_40 (by decide) ?_
      refine go_iand dX4_changed_42 ?_
      refine Gw.namei (fun x2 ex2 => ?_)
      have hF := hF x2 ex2
      refine go_istore (L' := [.int l0, .int l1, .int l2, .int l3, .int x2]) dX4_changed_43 (Nat.le_of_ble_eq_true rfl) rfl ?_
      refine go_iload_n dX4_changed_45 rfl ?_
      refine go_iload dX4_changed_46 rfl ?_
      refine go_iconst (v := 3) dX4_changed_48 (by decide) ?_
      refine go_iload_n dX4_changed_49 rfl ?_
      refine go_imul dX4_changed_50 ?_
      refine go_ishl dX4_changed_51 ?_
      refine go_iload dX4_changed_52 rfl ?_
      refine go_iconst (v := 3) dX4_changed_54 (by decide) ?_
      refine go_iload_n dX4_changed_55 rfl ?_
      refine go_imul dX4_changed_56 ?_
      refine go_iconst (v := 3) dX4_changed_57 (by decide) ?_
      refine go_iadd dX4_changed_58 ?_
      refine go_ishl dX4_changed_59 ?_
      refine go_ior dX4_changed_60 ?_
      refine go_ixor dX4_changed_61 ?_
      refine Gw.namei (fun x3 ex3 => ?_)
      have hF := hF x3 ex3
      refine go_istore_n (L' := [.int l0, .int l1, .int x3, .int l3, .int x2]) dX4_changed_62 (Nat.le_of_ble_eq_true rfl) rfl ?_
      obtain ⟨x4, ex4⟩ : ∃ z : Int32, z = l3 + 1 := ⟨_, rfl⟩
      have hF := hF x4 ex4
      refine go_iinc (v := x4) (L' := [.int l0, .int l1, .int x3, .int x4, .int x2]) dX4_changed_63 rfl (by rw [ex4]; rfl) (Nat.le_of_ble_eq_true rfl) rfl ?_
      refine go_goto 14 dX4_changed_66 rfl ?_
      exact hF
theorem vX4_packed (G : GP) (d : Nat) (a0 : Int32) (a1 : Int32) (m : Mem) (K : Int32 → Mem → Prop) (hF : ((0 ≤ a1) → Gw G (d) mX4_packed 16 [.int a0, .int a1, .int a1, .int 0, .int 0, .int 0, uu] [] m (Qi K)) ∧ ((¬ 0 ≤ a1) → K (-1) m)) : Evi G (d) mX4_packed [.int a0, .int a1] m K := by
  refine Ev.go [.int a0, .int a1, uu, uu, uu, uu, uu] (by decide) (Nat.le_of_ble_eq_true rfl) rfl ?_
  refine go_iload_n dX4_packed_0 rfl ?_
  refine go_if_ge 6 dX4_packed_1 rfl ⟨fun hc => ?_, fun hc => ?_⟩
  · have hF := hF.1 hc
    refine go_iload_n dX4_packed_6 rfl ?_
    refine go_istore_n (L' := [.int a0, .int a1, .int a1, uu, uu, uu, uu]) dX4_packed_7 (Nat.le_of_ble_eq_true rfl) rfl ?_
    refine go_iconst (v := 0) dX4_packed_8 (by decide) ?_
    refine go_istore_n (L' := [.int a0, .int a1, .int a1, .int 0, uu, uu, uu]) dX4_packed_9 (Nat.le_of_ble_eq_true rfl) rfl ?_
    refine go_iconst (v := 0) dX4_packed_10 (by decide) ?_
    refine go_istore (L' := [.int a0, .int a1, .int a1, .int 0, .int 0, uu, uu]) dX4_packed_11 (Nat.le_of_ble_eq_true rfl) rfl ?_
    refine go_iconst (v := 0) dX4_packed_13 (by decide) ?_
    refine go_istore (L' := [.int a0, .int a1, .int a1, .int 0, .int 0, .int 0, uu]) dX4_packed_14 (Nat.le_of_ble_eq_true rfl) rfl ?_
    exact hF
  · have hF := hF.2 hc
    refine go_iconst (v := -1) dX4_packed_4 (by decide) ?_
    exact go_iret (S := []) dX4_packed_5 rfl ⟨_, rfl, hF⟩
theorem vX4_packed_16 (G : GP) (d : Nat) (l0 : Int32) (u1 : Value) (l2 : Int32) (l3 : Int32) (l4 : Int32) (l5 : Int32) (u6 : Value) (m : Mem) (K : Int32 → Mem → Prop) (hF : ((l0 ≤ l5) → ((¬ l2 = 0) → K (-1) m) ∧ ((l2 = 0) → ((¬ l3 = (((1 : Int32) <<< (l0 &&& 31)) - 1)) → K (-1) m) ∧ ((l3 = (((1 : Int32) <<< (l0 &&& 31)) - 1)) → K l4 m))) ∧ ((¬ l0 ≤ l5) → ∀ x1 : Int32, x1 = l2 - l2 / 10 * 10 → ∀ x2 : Int32, x2 = l2 / 10 → ∀ x3 : Int32, x3 = l4 ||| (x1 <<< (((3 : Int32) * l5) &&& 31)) → ∀ x4 : Int32, x4 = l3 ||| ((1 : Int32) <<< (x1 &&& 31)) → ∀ x5 : Int32, x5 = l5 + 1 → Gw G (d) mX4_packed 16 [.int l0, uu, .int x2, .int x4, .int x3, .int x5, .int x1] [] m (Qi K))) : Gw G (d) mX4_packed 16 [.int l0, u1, .int l2, .int l3, .int l4, .int l5, u6] [] m (Qi K) := by
  refine Gw.weak (L' := [.int l0, uu, .int l2, .int l3, .int l4, .int l5, uu]) ⟨Or.inl rfl, Or.inr rfl, Or.inl rfl, Or.inl rfl, Or.inl rfl, Or.inl rfl, Or.inr rfl, trivial⟩ ?_
  refine go_iload dX4_packed_16 rfl ?_
  refine go_iload_n dX4_packed_18 rfl ?_
  refine go_icmp_ge 58 dX4_packed_19 rfl ⟨fun hc => ?_, fun hc => ?_⟩
  · have hF := hF.1 hc
    refine go_iload_n dX4_packed_58 rfl ?_
    refine go_if_ne 76 dX4_packed_59 rfl ⟨fun hc => ?_, fun hc => ?_⟩
    · have hF := hF.1 hc
      refine go_iconst (v := -1) dX4_packed_76 (by decide) ?_
      exact go_iret (S := []) dX4_packed_77 rfl ⟨_, rfl, hF⟩
    · have hF := hF.2 hc
      refine go_iload_n dX4_packed_62 rfl ?_
      refine go_iconst (v := 1) dX4_packed_63 (by decide) ?_
      refine go_iload_n dX4_packed_64 rfl ?_
      refine go_ishl dX4_packed_65 ?_
      refine go_iconst (v := 1) dX4_packed_66 (by decide) ?_
      refine go_isub dX4_packed_67 ?_
      refine go_icmp_ne 76 dX4_packed_68 rfl ⟨fun hc => ?_, fun hc => ?_⟩
      · have hF := hF.1 hc
        refine go_iconst (v := -1) dX4_packed_76 (by decide) ?_
        exact go_iret (S := []) dX4_packed_77 rfl ⟨_, rfl, hF⟩
      · have hF := hF.2 hc
        refine go_iload dX4_packed_71 rfl ?_
        refine go_goto 77 dX4_packed_73 rfl ?_
        exact go_iret (S := []) dX4_packed_77 rfl ⟨_, rfl, hF⟩
  · have hF := hF.2 hc
    refine go_iload_n dX4_packed_22 rfl ?_
    refine go_bipush (v := 10) dX4_packed_23 (by decide) ?_
    refine go_irem dX4_packed_25 (by decide) ?_
    refine Gw.namei (fun x1 ex1 => ?_)
    have hF := hF x1 ex1
    refine go_istore (L' := [.int l0, uu, .int l2, .int l3, .int l4, .int l5, .int x1]) dX4_packed_26 (Nat.le_of_ble_eq_true rfl) rfl ?_
    refine go_iload_n dX4_packed_28 rfl ?_
    refine go_bipush (v := 10) dX4_packed_29 (by decide) ?_
    refine go_idiv dX4_packed_31 (by decide) ?_
    refine Gw.namei (fun x2 ex2 => ?_)
    have hF := hF x2 ex2
    refine go_istore_n (L' := [.int l0, uu, .int x2, .int l3, .int l4, .int l5, .int x1]) dX4_packed_32 (Nat.le_of_ble_eq_true rfl) rfl ?_
    refine go_iload dX4_packed_33 rfl ?_
    refine go_iload dX4_packed_35 rfl ?_
    refine go_iconst (v := 3) dX4_packed_37 (by decide) ?_
    refine go_iload dX4_packed_38 rfl ?_
    refine go_imul dX4_packed_40 ?_
    refine go_ishl dX4_packed_41 ?_
    refine go_ior dX4_packed_42 ?_
    refine Gw.namei (fun x3 ex3 => ?_)
    have hF := hF x3 ex3
    refine go_istore (L' := [.int l0, uu, .int x2, .int l3, .int x3, .int l5, .int x1]) dX4_packed_43 (Nat.le_of_ble_eq_true rfl) rfl ?_
    refine go_iload_n dX4_packed_45 rfl ?_
    refine go_iconst (v := 1) dX4_packed_46 (by decide) ?_
    refine go_iload dX4_packed_47 rfl ?_
    refine go_ishl dX4_packed_49 ?_
    refine go_ior dX4_packed_50 ?_
    refine Gw.namei (fun x4 ex4 => ?_)
    have hF := hF x4 ex4
    refine go_istore_n (L' := [.int l0, uu, .int x2, .int x4, .int x3, .int l5, .int x1]) dX4_packed_51 (Nat.le_of_ble_eq_true rfl) rfl ?_
    obtain ⟨x5, ex5⟩ : ∃ z : Int32, z = l5 + 1 := ⟨_, rfl⟩
    have hF := hF x5 ex5
    refine go_iinc (v := x5) (L' := [.int l0, uu, .int x2, .int x4, .int x3, .int x5, .int x1]) dX4_packed_52 rfl (by rw [ex5]; rfl) (Nat.le_of_ble_eq_true rfl) rfl ?_
    refine go_goto 16 dX4_packed_55 rfl ?_
    exact hF
theorem vX4_unpacked (G : GP) (d : Nat) (a0 : Int32) (a1 : Int32) (m : Mem) (K : Int32 → Mem → Prop) (hF : ∀ x1 : Int32, x1 = a0 - 1 → Gw G (d) mX4_unpacked 6 [.int a0, .int a1, .int 0, .int x1] [] m (Qi K)) : Evi G (d) mX4_unpacked [.int a0, .int a1] m K := by
  refine Ev.go [.int a0, .int a1, uu, uu] (by decide) (Nat.le_of_ble_eq_true rfl) rfl ?_
  refine go_iconst (v := 0) dX4_unpacked_0 (by decide) ?_
  refine go_istore_n (L' := [.int a0, .int a1, .int 0, uu]) dX4_unpacked_1 (Nat.le_of_ble_eq_true rfl) rfl ?_
  refine go_iload_n dX4_unpacked_2 rfl ?_
  refine go_iconst (v := 1) dX4_unpacked_3 (by decide) ?_
  refine go_isub dX4_unpacked_4 ?_
  refine Gw.namei (fun x1 ex1 => ?_)
  have hF := hF x1 ex1
  refine go_istore_n (L' := [.int a0, .int a1, .int 0, .int x1]) dX4_unpacked_5 (Nat.le_of_ble_eq_true rfl) rfl ?_
  exact hF
theorem vX4_unpacked_6 (G : GP) (d : Nat) (u0 : Value) (l1 : Int32) (l2 : Int32) (l3 : Int32) (m : Mem) (K : Int32 → Mem → Prop) (hF : ((l3 < 0) → K l2 m) ∧ ((¬ l3 < 0) → ∀ x2 : Int32, x2 = (l2 * 10) + ((l1 >>> (((3 : Int32) * l3) &&& 31)) &&& 7) → ∀ x3 : Int32, x3 = l3 + (-1) → Gw G (d) mX4_unpacked 6 [uu, .int l1, .int x2, .int x3] [] m (Qi K))) : Gw G (d) mX4_unpacked 6 [u0, .int l1, .int l2, .int l3] [] m (Qi K) := by
  refine Gw.weak (L' := [uu, .int l1, .int l2, .int l3]) ⟨Or.inr rfl, Or.inl rfl, Or.inl rfl, Or.inl rfl, trivial⟩ ?_
  refine go_iload_n dX4_unpacked_6 rfl ?_
  refine go_if_lt 30 dX4_unpacked_7 rfl ⟨fun hc => ?_, fun hc => ?_⟩
  · have hF := hF.1 hc
    refine go_iload_n dX4_unpacked_30 rfl ?_
    exact go_iret (S := []) dX4_unpacked_31 rfl ⟨_, rfl, hF⟩
  · have hF := hF.2 hc
    refine go_iload_n dX4_unpacked_10 rfl ?_
    refine go_bipush (v := 10) dX4_unpacked_11 (by decide) ?_
    refine go_imul dX4_unpacked_13 ?_
    refine go_iload_n dX4_unpacked_14 rfl ?_
    refine go_iconst (v := 3) dX4_unpacked_15 (by decide) ?_
    refine go_iload_n dX4_unpacked_16 rfl ?_
    refine go_imul dX4_unpacked_17 ?_
    refine go_ishr dX4_unpacked_18 ?_
    refine go_bipush (v := 7) dX4_unpacked_19 (by decide) ?_
    refine go_iand dX4_unpacked_21 ?_
    refine go_iadd dX4_unpacked_22 ?_
    refine Gw.namei (fun x2 ex2 => ?_)
    have hF := hF x2 ex2
    refine go_istore_n (L' := [uu, .int l1, .int x2, .int l3]) dX4_unpacked_23 (Nat.le_of_ble_eq_true rfl) rfl ?_
    obtain ⟨x3, ex3⟩ : ∃ z : Int32, z = l3 + (-1) := ⟨_, rfl⟩
    have hF := hF x3 ex3
    refine go_iinc (v := x3) (L' := [uu, .int l1, .int x2, .int x3]) dX4_unpacked_24 rfl (by rw [ex3]; rfl) (Nat.le_of_ble_eq_true rfl) rfl ?_
    refine go_goto 6 dX4_unpacked_27 rfl ?_
    exact hF
theorem vX4_rankOf (G : GP) (d : Nat) (a0 : Int32) (a1 : Int32) (m : Mem) (K : Int32 → Mem → Prop) (hF : ∀ x1 : Int32, x1 = ((1 : Int32) <<< (a0 &&& 31)) - 1 → ∀ x2 : Int32, x2 = a0 - 1 → Gw G (d + 1) mX4_rankOf 13 [.int a0, .int a1, .int x1, .int 0, .int x2, uu] [] m (Qi K)) : Evi G (d + 1) mX4_rankOf [.int a0, .int a1] m K := by
  refine Ev.go [.int a0, .int a1, uu, uu, uu, uu] (by decide) (Nat.le_of_ble_eq_true rfl) rfl ?_
  refine go_iconst (v := 1) dX4_rankOf_0 (by decide) ?_
  refine go_iload_n dX4_rankOf_1 rfl ?_
  refine go_ishl dX4_rankOf_2 ?_
  refine go_iconst (v := 1) dX4_rankOf_3 (by decide) ?_
  refine go_isub dX4_rankOf_4 ?_
  refine Gw.namei (fun x1 ex1 => ?_)
  have hF := hF x1 ex1
  refine go_istore_n (L' := [.int a0, .int a1, .int x1, uu, uu, uu]) dX4_rankOf_5 (Nat.le_of_ble_eq_true rfl) rfl ?_
  refine go_iconst (v := 0) dX4_rankOf_6 (by decide) ?_
  refine go_istore_n (L' := [.int a0, .int a1, .int x1, .int 0, uu, uu]) dX4_rankOf_7 (Nat.le_of_ble_eq_true rfl) rfl ?_
  refine go_iload_n dX4_rankOf_8 rfl ?_
  refine go_iconst (v := 1) dX4_rankOf_9 (by decide) ?_
  refine go_isub dX4_rankOf_10 ?_
  refine Gw.namei (fun x2 ex2 => ?_)
  have hF := hF x2 ex2
  refine go_istore (L' := [.int a0, .int a1, .int x1, .int 0, .int x2, uu]) dX4_rankOf_11 (Nat.le_of_ble_eq_true rfl) rfl ?_
  exact hF
theorem vX4_rankOf_13 (G : GP) (d : Nat) (u0 : Value) (l1 : Int32) (l2 : Int32) (l3 : Int32) (l4 : Int32) (u5 : Value) (m : Mem) (K : Int32 → Mem → Prop) (hF : ((l4 < 0) → K l3 m) ∧ ((¬ l4 < 0) → ∀ x3 : Int32, x3 = (l1 >>> (((3 : Int32) * l4) &&& 31)) &&& 7 → ∀ x4 : Int32, x4 = (l3 * (l4 + 1)) + (bitC (l2 &&& (((1 : Int32) <<< (x3 &&& 31)) - 1))) → ∀ x5 : Int32, x5 = l2 &&& (((1 : Int32) <<< (x3 &&& 31)) ^^^ (-1)) → ∀ x6 : Int32, x6 = l4 + (-1) → Gw G (d + 1) mX4_rankOf 13 [uu, .int l1, .int x5, .int x4, .int x6, .int x3] [] m (Qi K))) : Gw G (d + 1) mX4_rankOf 13 [u0, .int l1, .int l2, .int l3, .int l4, u5] [] m (Qi K) := by
  refine Gw.weak (L' := [uu, .int l1, .int l2, .int l3, .int l4, uu]) ⟨Or.inr rfl, Or.inl rfl, Or.inl rfl, Or.inl rfl, Or.inl rfl, Or.inr rfl, trivial⟩ ?_
  refine go_iload dX4_rankOf_13 rfl ?_
  refine go_if_lt 63 dX4_rankOf_15 rfl ⟨fun hc => ?_, fun hc => ?_⟩
  · have hF := hF.1 hc
    refine go_iload_n dX4_rankOf_63 rfl ?_
    exact go_iret (S := []) dX4_rankOf_64 rfl ⟨_, rfl, hF⟩
  · have hF := hF.2 hc
    refine go_iload_n dX4_rankOf_18 rfl ?_
    refine go_iconst (v := 3) dX4_rankOf_19 (by decide) ?_
    refine go_iload dX4_rankOf_20 rfl ?_
    refine go_imul dX4_rankOf_22 ?_
    refine go_ishr dX4_rankOf_23 ?_
    refine go_bipush (v := 7) dX4_rankOf_24 (by decide) ?_
    refine go_iand dX4_rankOf_26 ?_
    refine Gw.namei (fun x3 ex3 => ?_)
    have hF := hF x3 ex3
    refine go_istore (L' := [uu, .int l1, .int l2, .int l3, .int l4, .int x3]) dX4_rankOf_27 (Nat.le_of_ble_eq_true rfl) rfl ?_
    refine go_iload_n dX4_rankOf_29 rfl ?_
    refine go_iload dX4_rankOf_30 rfl ?_
    refine go_iconst (v := 1) dX4_rankOf_32 (by decide) ?_
    refine go_iadd dX4_rankOf_33 ?_
    refine go_imul dX4_rankOf_34 ?_
    refine go_iload_n dX4_rankOf_35 rfl ?_
    refine go_iconst (v := 1) dX4_rankOf_36 (by decide) ?_
    refine go_iload dX4_rankOf_37 rfl ?_
    refine go_ishl dX4_rankOf_39 ?_
    refine go_iconst (v := 1) dX4_rankOf_40 (by decide) ?_
    refine go_isub dX4_rankOf_41 ?_
    refine go_iand dX4_rankOf_42 ?_
    refine go_callS mJ6_bitCount_0f7a4 dX4_rankOf_43 lm_X4_49 okJ6_bitCount_0f7a4 isJ6_bitCount_0f7a4 (As := [.int (l2 &&& (((1 : Int32) <<< (x3 &&& 31)) - 1))]) (S := [.int (l3 * (l4 + 1))]) rfl rfl (Nat.le_of_ble_eq_true rfl) (eJ6_bitCount_0f7a4 G _ (l2 &&& (((1 : Int32) <<< (x3 &&& 31)) - 1)) m (fun r m' => r = bitC (l2 &&& (((1 : Int32) <<< (x3 &&& 31)) - 1)) ∧ m = m') ⟨rfl, rfl⟩) (k_i (fun r m' hr => ?_))
    obtain ⟨hr1, hr2⟩ := hr
    subst hr1
    subst hr2
    refine go_iadd dX4_rankOf_46 ?_
    refine Gw.namei (fun x4 ex4 => ?_)
    have hF := hF x4 ex4
    refine go_istore_n (L' := [uu, .int l1, .int l2, .int x4, .int l4, .int x3]) dX4_rankOf_47 (Nat.le_of_ble_eq_true rfl) rfl ?_
    refine go_iload_n dX4_rankOf_48 rfl ?_
    refine go_iconst (v := 1) dX4_rankOf_49 (by decide) ?_
    refine go_iload dX4_rankOf_50 rfl ?_
    refine go_ishl dX4_rankOf_52 ?_
    refine go_iconst (v := -1) dX4_rankOf_53 (by decide) ?_
    refine go_ixor dX4_rankOf_54 ?_
    refine go_iand dX4_rankOf_55 ?_
    refine Gw.namei (fun x5 ex5 => ?_)
    have hF := hF x5 ex5
    refine go_istore_n (L' := [uu, .int l1, .int x5, .int x4, .int l4, .int x3]) dX4_rankOf_56 (Nat.le_of_ble_eq_true rfl) rfl ?_
    obtain ⟨x6, ex6⟩ : ∃ z : Int32, z = l4 + (-1) := ⟨_, rfl⟩
    have hF := hF x6 ex6
    refine go_iinc (v := x6) (L' := [uu, .int l1, .int x5, .int x4, .int x6, .int x3]) dX4_rankOf_57 rfl (by rw [ex6]; rfl) (Nat.le_of_ble_eq_true rfl) rfl ?_
    refine go_goto 13 dX4_rankOf_60 rfl ?_
    exact hF
theorem vX5_addStroke (G : GP) (d : Nat) (a0 : Int32) (a1 : Int32) (m : Mem) (K : Int32 → Mem → Prop) (hF : (((m.1 12 4) < 24) → ((a1 = 0) → vp_in (m.1 12 4) 24 ∧ ∀ m1 : Mem, m1 = wI m 13 (m.1 12 4).toNatClampNeg a0 → ∀ m2 : Mem, m2 = wI m1 12 4 ((m1.1 12 4) + 1) → ((a1 = 0) → K 0 m2) ∧ ((¬ a1 = 0) → K 1 m2)) ∧ ((¬ a1 = 0) → vp_in (m.1 12 4) 24 ∧ ∀ m3 : Mem, m3 = wI m 13 (m.1 12 4).toNatClampNeg (a0 + 10) → ∀ m4 : Mem, m4 = wI m3 12 4 ((m3.1 12 4) + 1) → ((a1 = 0) → K 0 m4) ∧ ((¬ a1 = 0) → K 1 m4))) ∧ ((¬ (m.1 12 4) < 24) → K 0 m)) : Evi G (d) mX5_addStroke [.ref (ga G 12), .int a0, .int a1] m K := by
  refine Ev.go [.ref (ga G 12), .int a0, .int a1] (by decide) (Nat.le_of_ble_eq_true rfl) rfl ?_
  refine go_aload_n dX5_addStroke_0 rfl ?_
  refine go_getI (k := 4) dX5_addStroke_1 sh_12 rfl inX5 (Nat.le_of_ble_eq_true rfl) lf_X5_25 rfl ?_
  refine go_bipush (v := 24) dX5_addStroke_4 (by decide) ?_
  refine go_icmp_lt 11 dX5_addStroke_6 rfl ⟨fun hc => ?_, fun hc => ?_⟩
  · have hF := hF.1 hc
    refine go_aload_n dX5_addStroke_11 rfl ?_
    refine go_getR (k := 5) (r := 13) dX5_addStroke_12 sh_12 rfl inX5 (Nat.le_of_ble_eq_true rfl) lf_X5_18 rfl rfl ?_
    refine go_aload_n dX5_addStroke_15 rfl ?_
    refine go_getI (k := 4) dX5_addStroke_16 sh_12 rfl inX5 (Nat.le_of_ble_eq_true rfl) lf_X5_25 rfl ?_
    refine go_iload_n dX5_addStroke_19 rfl ?_
    refine go_if_eq 30 dX5_addStroke_20 rfl ⟨fun hc => ?_, fun hc => ?_⟩
    · have hF := hF.1 hc
      refine go_iload_n dX5_addStroke_30 rfl ?_
      obtain ⟨hi, hF⟩ := hF
      refine go_iast dX5_addStroke_31 sh_13 hi ?_
      obtain ⟨m1, em1⟩ : ∃ z : Mem, z = wI m 13 (m.1 12 4).toNatClampNeg a0 := ⟨_, rfl⟩
      rw [← em1]
      have hF := hF m1 em1
      refine go_aload_n dX5_addStroke_32 rfl ?_
      refine go_dup dX5_addStroke_33 rfl ?_
      refine go_getI (k := 4) dX5_addStroke_34 sh_12 rfl inX5 (Nat.le_of_ble_eq_true rfl) lf_X5_25 rfl ?_
      refine go_iconst (v := 1) dX5_addStroke_37 (by decide) ?_
      refine go_iadd dX5_addStroke_38 ?_
      refine go_putI (k := 4) dX5_addStroke_39 sh_12 rfl inX5 (Nat.le_of_ble_eq_true rfl) lf_X5_25 tyX5 tyX5_ok nmX5 rfl rfl (by decide +kernel) ?_
      obtain ⟨m2, em2⟩ : ∃ z : Mem, z = wI m1 12 4 ((m1.1 12 4) + 1) := ⟨_, rfl⟩
      rw [← em2]
      have hF := hF m2 em2
      refine go_iload_n dX5_addStroke_42 rfl ?_
      refine go_if_eq 50 dX5_addStroke_43 rfl ⟨fun hc => ?_, fun hc => ?_⟩
      · have hF := hF.1 hc
        refine go_iconst (v := 0) dX5_addStroke_50 (by decide) ?_
        exact go_iret (S := []) dX5_addStroke_51 rfl ⟨_, rfl, hF⟩
      · have hF := hF.2 hc
        refine go_iconst (v := 1) dX5_addStroke_46 (by decide) ?_
        refine go_goto 51 dX5_addStroke_47 rfl ?_
        exact go_iret (S := []) dX5_addStroke_51 rfl ⟨_, rfl, hF⟩
    · have hF := hF.2 hc
      refine go_iload_n dX5_addStroke_23 rfl ?_
      refine go_bipush (v := 10) dX5_addStroke_24 (by decide) ?_
      refine go_iadd dX5_addStroke_26 ?_
      refine go_goto 31 dX5_addStroke_27 rfl ?_
      obtain ⟨hi, hF⟩ := hF
      refine go_iast dX5_addStroke_31 sh_13 hi ?_
      obtain ⟨m3, em3⟩ : ∃ z : Mem, z = wI m 13 (m.1 12 4).toNatClampNeg (a0 + 10) := ⟨_, rfl⟩
      rw [← em3]
      have hF := hF m3 em3
      refine go_aload_n dX5_addStroke_32 rfl ?_
      refine go_dup dX5_addStroke_33 rfl ?_
      refine go_getI (k := 4) dX5_addStroke_34 sh_12 rfl inX5 (Nat.le_of_ble_eq_true rfl) lf_X5_25 rfl ?_
      refine go_iconst (v := 1) dX5_addStroke_37 (by decide) ?_
      refine go_iadd dX5_addStroke_38 ?_
      refine go_putI (k := 4) dX5_addStroke_39 sh_12 rfl inX5 (Nat.le_of_ble_eq_true rfl) lf_X5_25 tyX5 tyX5_ok nmX5 rfl rfl (by decide +kernel) ?_
      obtain ⟨m4, em4⟩ : ∃ z : Mem, z = wI m3 12 4 ((m3.1 12 4) + 1) := ⟨_, rfl⟩
      rw [← em4]
      have hF := hF m4 em4
      refine go_iload_n dX5_addStroke_42 rfl ?_
      refine go_if_eq 50 dX5_addStroke_43 rfl ⟨fun hc => ?_, fun hc => ?_⟩
      · have hF := hF.1 hc
        refine go_iconst (v := 0) dX5_addStroke_50 (by decide) ?_
        exact go_iret (S := []) dX5_addStroke_51 rfl ⟨_, rfl, hF⟩
      · have hF := hF.2 hc
        refine go_iconst (v := 1) dX5_addStroke_46 (by decide) ?_
        refine go_goto 51 dX5_addStroke_47 rfl ?_
        exact go_iret (S := []) dX5_addStroke_51 rfl ⟨_, rfl, hF⟩
  · have hF := hF.2 hc
    refine go_iconst (v := 0) dX5_addStroke_9 (by decide) ?_
    exact go_iret (S := []) dX5_addStroke_10 rfl ⟨_, rfl, hF⟩
theorem vX5_turn (G : GP) (d : Nat)  (m : Mem) (K : Mem → Prop) (hF : ∀ m1 : Mem, m1 = wI m 12 3 ((((m.1 12 3) * 313) + 199) - (((m.1 12 3) * 313) + 199) / 30341 * 30341) → K m1) : Evv G (d) mX5_turn [.ref (ga G 12)] m K := by
  refine Ev.go [.ref (ga G 12)] (by decide) (Nat.le_of_ble_eq_true rfl) rfl ?_
  refine go_aload_n dX5_turn_0 rfl ?_
  refine go_aload_n dX5_turn_1 rfl ?_
  refine go_getI (k := 3) dX5_turn_2 sh_12 rfl inX5 (Nat.le_of_ble_eq_true rfl) lf_X5_15 rfl ?_
  refine go_sipush (v := 313) dX5_turn_5 (by decide) ?_
  refine go_imul dX5_turn_8 ?_
  refine go_sipush (v := 199) dX5_turn_9 (by decide) ?_
  refine go_iadd dX5_turn_12 ?_
  refine go_sipush (v := 30341) dX5_turn_13 (by decide) ?_
  refine go_irem dX5_turn_16 (by decide) ?_
  refine go_putI (k := 3) dX5_turn_17 sh_12 rfl inX5 (Nat.le_of_ble_eq_true rfl) lf_X5_15 tyX5 tyX5_ok nmX5 rfl rfl (by decide +kernel) ?_
  obtain ⟨m1, em1⟩ : ∃ z : Mem, z = wI m 12 3 ((((m.1 12 3) * 313) + 199) - (((m.1 12 3) * 313) + 199) / 30341 * 30341) := ⟨_, rfl⟩
  rw [← em1]
  have hF := hF m1 em1
  exact go_vret (S := []) dX5_turn_20 rfl ⟨rfl, hF⟩
theorem vX5_passHour (G : GP) (d : Nat)  (m : Mem) (K : Mem → Prop) (hF : ∀ m1 : Mem, m1 = wI m 12 2 ((m.1 12 2) + 1) → ∀ m2 : Mem, m2 = wI m1 12 0 ((m1.1 12 3) - (m1.1 12 3) / 10 * 10) → Evv G (d) mX5_turn [.ref (ga G 12)] m2 (fun m3 => ∀ m4 : Mem, m4 = wI m3 12 1 (imax 0 (imin 9 (((m3.1 12 1) + ((m3.1 12 3) - (m3.1 12 3) / 3 * 3)) - 1))) → Evv G (d) mX5_turn [.ref (ga G 12)] m4 (fun m5 => K m5))) : Evv G (d + 1) mX5_passHour [.ref (ga G 12)] m K := by
  refine Ev.go [.ref (ga G 12)] (by decide) (Nat.le_of_ble_eq_true rfl) rfl ?_
  refine go_aload_n dX5_passHour_0 rfl ?_
  refine go_dup dX5_passHour_1 rfl ?_
  refine go_getI (k := 2) dX5_passHour_2 sh_12 rfl inX5 (Nat.le_of_ble_eq_true rfl) lf_X5_28 rfl ?_
  refine go_iconst (v := 1) dX5_passHour_5 (by decide) ?_
  refine go_iadd dX5_passHour_6 ?_
  refine go_putI (k := 2) dX5_passHour_7 sh_12 rfl inX5 (Nat.le_of_ble_eq_true rfl) lf_X5_28 tyX5 tyX5_ok nmX5 rfl rfl (by decide +kernel) ?_
  obtain ⟨m1, em1⟩ : ∃ z : Mem, z = wI m 12 2 ((m.1 12 2) + 1) := ⟨_, rfl⟩
  rw [← em1]
  have hF := hF m1 em1
  refine go_aload_n dX5_passHour_10 rfl ?_
  refine go_aload_n dX5_passHour_11 rfl ?_
  refine go_getI (k := 3) dX5_passHour_12 sh_12 rfl inX5 (Nat.le_of_ble_eq_true rfl) lf_X5_15 rfl ?_
  refine go_bipush (v := 10) dX5_passHour_15 (by decide) ?_
  refine go_irem dX5_passHour_17 (by decide) ?_
  refine go_putI (k := 0) dX5_passHour_18 sh_12 rfl inX5 (Nat.le_of_ble_eq_true rfl) lf_X5_9 tyX5 tyX5_ok nmX5 rfl rfl (by decide +kernel) ?_
  obtain ⟨m2, em2⟩ : ∃ z : Mem, z = wI m1 12 0 ((m1.1 12 3) - (m1.1 12 3) / 10 * 10) := ⟨_, rfl⟩
  rw [← em2]
  have hF := hF m2 em2
  refine go_aload_n dX5_passHour_21 rfl ?_
  refine go_callV mX5_turn dX5_passHour_22 lm_X5_31 okX5_turn isX5_turn sh_12 rfl (As := []) (S := []) rfl rfl (Nat.le_of_ble_eq_true rfl) hF (k_v (fun m3 hF => ?_))
  refine go_aload_n dX5_passHour_25 rfl ?_
  refine go_iconst (v := 0) dX5_passHour_26 (by decide) ?_
  refine go_bipush (v := 9) dX5_passHour_27 (by decide) ?_
  refine go_aload_n dX5_passHour_29 rfl ?_
  refine go_getI (k := 1) dX5_passHour_30 sh_12 rfl inX5 (Nat.le_of_ble_eq_true rfl) lf_X5_34 rfl ?_
  refine go_aload_n dX5_passHour_33 rfl ?_
  refine go_getI (k := 3) dX5_passHour_34 sh_12 rfl inX5 (Nat.le_of_ble_eq_true rfl) lf_X5_15 rfl ?_
  refine go_iconst (v := 3) dX5_passHour_37 (by decide) ?_
  refine go_irem dX5_passHour_38 (by decide) ?_
  refine go_iadd dX5_passHour_39 ?_
  refine go_iconst (v := 1) dX5_passHour_40 (by decide) ?_
  refine go_isub dX5_passHour_41 ?_
  refine go_mmin dX5_passHour_42 lm_X5_37 (Nat.le_of_ble_eq_true rfl) ?_
  refine go_mmax dX5_passHour_45 lm_X5_43 (Nat.le_of_ble_eq_true rfl) ?_
  refine go_putI (k := 1) dX5_passHour_48 sh_12 rfl inX5 (Nat.le_of_ble_eq_true rfl) lf_X5_34 tyX5 tyX5_ok nmX5 rfl rfl (by decide +kernel) ?_
  obtain ⟨m4, em4⟩ : ∃ z : Mem, z = wI m3 12 1 (imax 0 (imin 9 (((m3.1 12 1) + ((m3.1 12 3) - (m3.1 12 3) / 3 * 3)) - 1))) := ⟨_, rfl⟩
  rw [← em4]
  have hF := hF m4 em4
  refine go_aload_n dX5_passHour_51 rfl ?_
  refine go_callV mX5_turn dX5_passHour_52 lm_X5_31 okX5_turn isX5_turn sh_12 rfl (As := []) (S := []) rfl rfl (Nat.le_of_ble_eq_true rfl) hF (k_v (fun m5 hF => ?_))
  exact go_vret (S := []) dX5_passHour_55 rfl ⟨rfl, hF⟩
theorem vX5_countHeard (G : GP) (d : Nat)  (m : Mem) (K : Int32 → Mem → Prop) (hF : Gw G (d) mX5_countHeard 4 [.ref (ga G 12), .int 0, .int 0] [] m (Qi K)) : Evi G (d) mX5_countHeard [.ref (ga G 12)] m K := by
  refine Ev.go [.ref (ga G 12), uu, uu] (by decide) (Nat.le_of_ble_eq_true rfl) rfl ?_
  refine go_iconst (v := 0) dX5_countHeard_0 (by decide) ?_
  refine go_istore_n (L' := [.ref (ga G 12), .int 0, uu]) dX5_countHeard_1 (Nat.le_of_ble_eq_true rfl) rfl ?_
  refine go_iconst (v := 0) dX5_countHeard_2 (by decide) ?_
  refine go_istore_n (L' := [.ref (ga G 12), .int 0, .int 0]) dX5_countHeard_3 (Nat.le_of_ble_eq_true rfl) rfl ?_
  exact hF
theorem vX5_countHeard_4 (G : GP) (d : Nat) (l1 : Int32) (l2 : Int32) (m : Mem) (K : Int32 → Mem → Prop) (hF : (((m.1 12 4) ≤ l2) → K l1 m) ∧ ((¬ (m.1 12 4) ≤ l2) → vp_in l2 24 ∧ (((m.1 13 l2.toNatClampNeg) < 10) → ∀ x1 : Int32, x1 = l2 + 1 → Gw G (d) mX5_countHeard 4 [.ref (ga G 12), .int l1, .int x1] [] m (Qi K)) ∧ ((¬ (m.1 13 l2.toNatClampNeg) < 10) → ∀ x2 : Int32, x2 = l1 + 1 → ∀ x3 : Int32, x3 = l2 + 1 → Gw G (d) mX5_countHeard 4 [.ref (ga G 12), .int x2, .int x3] [] m (Qi K)))) : Gw G (d) mX5_countHeard 4 [.ref (ga G 12), .int l1, .int l2] [] m (Qi K) := by
  refine go_iload_n dX5_countHeard_4 rfl ?_
  refine go_aload_n dX5_countHeard_5 rfl ?_
  refine go_getI (k := 4) dX5_countHeard_6 sh_12 rfl inX5 (Nat.le_of_ble_eq_true rfl) lf_X5_25 rfl ?_
  refine go_icmp_ge 32 dX5_countHeard_9 rfl ⟨fun hc => ?_, fun hc => ?_⟩
  · have hF := hF.1 hc
    refine go_iload_n dX5_countHeard_32 rfl ?_
    exact go_iret (S := []) dX5_countHeard_33 rfl ⟨_, rfl, hF⟩
  · have hF := hF.2 hc
    refine go_aload_n dX5_countHeard_12 rfl ?_
    refine go_getR (k := 5) (r := 13) dX5_countHeard_13 sh_12 rfl inX5 (Nat.le_of_ble_eq_true rfl) lf_X5_18 rfl rfl ?_
    refine go_iload_n dX5_countHeard_16 rfl ?_
    obtain ⟨hi, hF⟩ := hF
    refine go_iald dX5_countHeard_17 sh_13 hi ?_
    refine go_bipush (v := 10) dX5_countHeard_18 (by decide) ?_
    refine go_icmp_lt 26 dX5_countHeard_20 rfl ⟨fun hc => ?_, fun hc => ?_⟩
    · have hF := hF.1 hc
      obtain ⟨x1, ex1⟩ : ∃ z : Int32, z = l2 + 1 := ⟨_, rfl⟩
      have hF := hF x1 ex1
      refine go_iinc (v := x1) (L' := [.ref (ga G 12), .int l1, .int x1]) dX5_countHeard_26 rfl (by rw [ex1]; rfl) (Nat.le_of_ble_eq_true rfl) rfl ?_
      refine go_goto 4 dX5_countHeard_29 rfl ?_
      exact hF
    · have hF := hF.2 hc
      obtain ⟨x2, ex2⟩ : ∃ z : Int32, z = l1 + 1 := ⟨_, rfl⟩
      have hF := hF x2 ex2
      refine go_iinc (v := x2) (L' := [.ref (ga G 12), .int x2, .int l2]) dX5_countHeard_23 rfl (by rw [ex2]; rfl) (Nat.le_of_ble_eq_true rfl) rfl ?_
      obtain ⟨x3, ex3⟩ : ∃ z : Int32, z = l2 + 1 := ⟨_, rfl⟩
      have hF := hF x3 ex3
      refine go_iinc (v := x3) (L' := [.ref (ga G 12), .int x2, .int x3]) dX5_countHeard_26 rfl (by rw [ex3]; rfl) (Nat.le_of_ble_eq_true rfl) rfl ?_
      refine go_goto 4 dX5_countHeard_29 rfl ?_
      exact hF
theorem vX5_writeSunday (G : GP) (d : Nat) (a0 : Int32) (m : Mem) (K : Int32 → Mem → Prop) (hF : (((m.1 12 6) < 20) → ∀ x1 : Int32, x1 = (m.1 12 6) * 4 → vp_in x1 80 ∧ ∀ m2 : Mem, m2 = wI m 14 x1.toNatClampNeg (m.1 12 2) → vp_in (x1 + 1) 80 ∧ ∀ m3 : Mem, m3 = wI m2 14 (x1 + 1).toNatClampNeg (m2.1 12 4) → Evi G (d) mX5_countHeard [.ref (ga G 12)] m3 (fun r5 m4 => vp_in (x1 + 2) 80 ∧ ∀ m6 : Mem, m6 = wI m4 14 (x1 + 2).toNatClampNeg r5 → vp_in (x1 + 3) 80 ∧ ∀ m7 : Mem, m7 = wI m6 14 (x1 + 3).toNatClampNeg a0 → ∀ m8 : Mem, m8 = wI m7 12 6 ((m7.1 12 6) + 1) → ∀ m9 : Mem, m9 = wI m8 12 4 0 → K a0 m9)) ∧ ((¬ (m.1 12 6) < 20) → ∀ m10 : Mem, m10 = wI m 12 6 19 → (¬ (4 : Int32) < 0 ∧ ¬ (0 : Int32) < 0 ∧ ¬ ((m10.1 12 6) * 4) < 0 ∧ (4 : Int32).toNatClampNeg + ((m10.1 12 6) * 4).toNatClampNeg ≤ 80 ∧ (0 : Int32).toNatClampNeg + ((m10.1 12 6) * 4).toNatClampNeg ≤ 80) ∧ ∀ m11 : Mem, m11 = wA m10 14 (va_cpy (m10.1 14) (m10.1 14) (4 : Int32).toNatClampNeg (0 : Int32).toNatClampNeg ((m10.1 12 6) * 4).toNatClampNeg) → ∀ x12 : Int32, x12 = (m11.1 12 6) * 4 → vp_in x12 80 ∧ ∀ m13 : Mem, m13 = wI m11 14 x12.toNatClampNeg (m11.1 12 2) → vp_in (x12 + 1) 80 ∧ ∀ m14 : Mem, m14 = wI m13 14 (x12 + 1).toNatClampNeg (m13.1 12 4) → Evi G (d) mX5_countHeard [.ref (ga G 12)] m14 (fun r16 m15 => vp_in (x12 + 2) 80 ∧ ∀ m17 : Mem, m17 = wI m15 14 (x12 + 2).toNatClampNeg r16 → vp_in (x12 + 3) 80 ∧ ∀ m18 : Mem, m18 = wI m17 14 (x12 + 3).toNatClampNeg a0 → ∀ m19 : Mem, m19 = wI m18 12 6 ((m18.1 12 6) + 1) → ∀ m20 : Mem, m20 = wI m19 12 4 0 → K a0 m20))) : Evi G (d + 1) mX5_writeSunday [.ref (ga G 12), .int a0] m K := by
  refine Ev.go [.ref (ga G 12), .int a0, uu] (by decide) (Nat.le_of_ble_eq_true rfl) rfl ?_
  refine go_aload_n dX5_writeSunday_0 rfl ?_
  refine go_getI (k := 6) dX5_writeSunday_1 sh_12 rfl inX5 (Nat.le_of_ble_eq_true rfl) lf_X5_46 rfl ?_
  refine go_bipush (v := 20) dX5_writeSunday_4 (by decide) ?_
  refine go_icmp_lt 34 dX5_writeSunday_6 rfl ⟨fun hc => ?_, fun hc => ?_⟩
  · have hF := hF.1 hc
    refine go_aload_n dX5_writeSunday_34 rfl ?_
    refine go_getI (k := 6) dX5_writeSunday_35 sh_12 rfl inX5 (Nat.le_of_ble_eq_true rfl) lf_X5_46 rfl ?_
    refine go_iconst (v := 4) dX5_writeSunday_38 (by decide) ?_
    refine go_imul dX5_writeSunday_39 ?_
    refine Gw.namei (fun x1 ex1 => ?_)
    have hF := hF x1 ex1
    refine go_istore_n (L' := [.ref (ga G 12), .int a0, .int x1]) dX5_writeSunday_40 (Nat.le_of_ble_eq_true rfl) rfl ?_
    refine go_aload_n dX5_writeSunday_41 rfl ?_
    refine go_getR (k := 7) (r := 14) dX5_writeSunday_42 sh_12 rfl inX5 (Nat.le_of_ble_eq_true rfl) lf_X5_22 rfl rfl ?_
    refine go_iload_n dX5_writeSunday_45 rfl ?_
    refine go_aload_n dX5_writeSunday_46 rfl ?_
    refine go_getI (k := 2) dX5_writeSunday_47 sh_12 rfl inX5 (Nat.le_of_ble_eq_true rfl) lf_X5_28 rfl ?_
    obtain ⟨hi, hF⟩ := hF
    refine go_iast dX5_writeSunday_50 sh_14 hi ?_
    obtain ⟨m2, em2⟩ : ∃ z : Mem, z = wI m 14 x1.toNatClampNeg (m.1 12 2) := ⟨_, rfl⟩
    rw [← em2]
    have hF := hF m2 em2
    refine go_aload_n dX5_writeSunday_51 rfl ?_
    refine go_getR (k := 7) (r := 14) dX5_writeSunday_52 sh_12 rfl inX5 (Nat.le_of_ble_eq_true rfl) lf_X5_22 rfl rfl ?_
    refine go_iload_n dX5_writeSunday_55 rfl ?_
    refine go_iconst (v := 1) dX5_writeSunday_56 (by decide) ?_
    refine go_iadd dX5_writeSunday_57 ?_
    refine go_aload_n dX5_writeSunday_58 rfl ?_
    refine go_getI (k := 4) dX5_writeSunday_59 sh_12 rfl inX5 (Nat.le_of_ble_eq_true rfl) lf_X5_25 rfl ?_
    obtain ⟨hi, hF⟩ := hF
    refine go_iast dX5_writeSunday_62 sh_14 hi ?_
    obtain ⟨m3, em3⟩ : ∃ z : Mem, z = wI m2 14 (x1 + 1).toNatClampNeg (m2.1 12 4) := ⟨_, rfl⟩
    rw [← em3]
    have hF := hF m3 em3
    refine go_aload_n dX5_writeSunday_63 rfl ?_
    refine go_getR (k := 7) (r := 14) dX5_writeSunday_64 sh_12 rfl inX5 (Nat.le_of_ble_eq_true rfl) lf_X5_22 rfl rfl ?_
    refine go_iload_n dX5_writeSunday_67 rfl ?_
    refine go_iconst (v := 2) dX5_writeSunday_68 (by decide) ?_
    refine go_iadd dX5_writeSunday_69 ?_
    refine go_aload_n dX5_writeSunday_70 rfl ?_
    refine go_callV mX5_countHeard dX5_writeSunday_71 lm_X5_55 okX5_countHeard isX5_countHeard sh_12 rfl (As := []) (S := [.int (x1 + 2), .ref (ga G 14)]) rfl rfl (Nat.le_of_ble_eq_true rfl) hF (k_i (fun r5 m4 hF => ?_))
    obtain ⟨hi, hF⟩ := hF
    refine go_iast dX5_writeSunday_74 sh_14 hi ?_
    obtain ⟨m6, em6⟩ : ∃ z : Mem, z = wI m4 14 (x1 + 2).toNatClampNeg r5 := ⟨_, rfl⟩
    rw [← em6]
    have hF := hF m6 em6
    refine go_aload_n dX5_writeSunday_75 rfl ?_
    refine go_getR (k := 7) (r := 14) dX5_writeSunday_76 sh_12 rfl inX5 (Nat.le_of_ble_eq_true rfl) lf_X5_22 rfl rfl ?_
    refine go_iload_n dX5_writeSunday_79 rfl ?_
    refine go_iconst (v := 3) dX5_writeSunday_80 (by decide) ?_
    refine go_iadd dX5_writeSunday_81 ?_
    refine go_iload_n dX5_writeSunday_82 rfl ?_
    obtain ⟨hi, hF⟩ := hF
    refine go_iast dX5_writeSunday_83 sh_14 hi ?_
    obtain ⟨m7, em7⟩ : ∃ z : Mem, z = wI m6 14 (x1 + 3).toNatClampNeg a0 := ⟨_, rfl⟩
    rw [← em7]
    have hF := hF m7 em7
    refine go_aload_n dX5_writeSunday_84 rfl ?_
    refine go_dup dX5_writeSunday_85 rfl ?_
    refine go_getI (k := 6) dX5_writeSunday_86 sh_12 rfl inX5 (Nat.le_of_ble_eq_true rfl) lf_X5_46 rfl ?_
    refine go_iconst (v := 1) dX5_writeSunday_89 (by decide) ?_
    refine go_iadd dX5_writeSunday_90 ?_
    refine go_putI (k := 6) dX5_writeSunday_91 sh_12 rfl inX5 (Nat.le_of_ble_eq_true rfl) lf_X5_46 tyX5 tyX5_ok nmX5 rfl rfl (by decide +kernel) ?_
    obtain ⟨m8, em8⟩ : ∃ z : Mem, z = wI m7 12 6 ((m7.1 12 6) + 1) := ⟨_, rfl⟩
    rw [← em8]
    have hF := hF m8 em8
    refine go_aload_n dX5_writeSunday_94 rfl ?_
    refine go_iconst (v := 0) dX5_writeSunday_95 (by decide) ?_
    refine go_putI (k := 4) dX5_writeSunday_96 sh_12 rfl inX5 (Nat.le_of_ble_eq_true rfl) lf_X5_25 tyX5 tyX5_ok nmX5 rfl rfl (by decide +kernel) ?_
    obtain ⟨m9, em9⟩ : ∃ z : Mem, z = wI m8 12 4 0 := ⟨_, rfl⟩
    rw [← em9]
    have hF := hF m9 em9
    refine go_iload_n dX5_writeSunday_99 rfl ?_
    exact go_iret (S := []) dX5_writeSunday_100 rfl ⟨_, rfl, hF⟩
  · have hF := hF.2 hc
    refine go_aload_n dX5_writeSunday_9 rfl ?_
    refine go_bipush (v := 19) dX5_writeSunday_10 (by decide) ?_
    refine go_putI (k := 6) dX5_writeSunday_12 sh_12 rfl inX5 (Nat.le_of_ble_eq_true rfl) lf_X5_46 tyX5 tyX5_ok nmX5 rfl rfl (by decide +kernel) ?_
    obtain ⟨m10, em10⟩ : ∃ z : Mem, z = wI m 12 6 19 := ⟨_, rfl⟩
    rw [← em10]
    have hF := hF m10 em10
    refine go_aload_n dX5_writeSunday_15 rfl ?_
    refine go_getR (k := 7) (r := 14) dX5_writeSunday_16 sh_12 rfl inX5 (Nat.le_of_ble_eq_true rfl) lf_X5_22 rfl rfl ?_
    refine go_iconst (v := 4) dX5_writeSunday_19 (by decide) ?_
    refine go_aload_n dX5_writeSunday_20 rfl ?_
    refine go_getR (k := 7) (r := 14) dX5_writeSunday_21 sh_12 rfl inX5 (Nat.le_of_ble_eq_true rfl) lf_X5_22 rfl rfl ?_
    refine go_iconst (v := 0) dX5_writeSunday_24 (by decide) ?_
    refine go_aload_n dX5_writeSunday_25 rfl ?_
    refine go_getI (k := 6) dX5_writeSunday_26 sh_12 rfl inX5 (Nat.le_of_ble_eq_true rfl) lf_X5_46 rfl ?_
    refine go_iconst (v := 4) dX5_writeSunday_29 (by decide) ?_
    refine go_imul dX5_writeSunday_30 ?_
    obtain ⟨hi, hF⟩ := hF
    refine go_acopy dX5_writeSunday_31 lm_X5_49 wcopy sh_14 sh_14 (Nat.le_of_ble_eq_true rfl) hi ?_
    obtain ⟨m11, em11⟩ : ∃ z : Mem, z = wA m10 14 (va_cpy (m10.1 14) (m10.1 14) (4 : Int32).toNatClampNeg (0 : Int32).toNatClampNeg ((m10.1 12 6) * 4).toNatClampNeg) := ⟨_, rfl⟩
    rw [← em11]
    have hF := hF m11 em11
    refine go_aload_n dX5_writeSunday_34 rfl ?_
    refine go_getI (k := 6) dX5_writeSunday_35 sh_12 rfl inX5 (Nat.le_of_ble_eq_true rfl) lf_X5_46 rfl ?_
    refine go_iconst (v := 4) dX5_writeSunday_38 (by decide) ?_
    refine go_imul dX5_writeSunday_39 ?_
    refine Gw.namei (fun x12 ex12 => ?_)
    have hF := hF x12 ex12
    refine go_istore_n (L' := [.ref (ga G 12), .int a0, .int x12]) dX5_writeSunday_40 (Nat.le_of_ble_eq_true rfl) rfl ?_
    refine go_aload_n dX5_writeSunday_41 rfl ?_
    refine go_getR (k := 7) (r := 14) dX5_writeSunday_42 sh_12 rfl inX5 (Nat.le_of_ble_eq_true rfl) lf_X5_22 rfl rfl ?_
    refine go_iload_n dX5_writeSunday_45 rfl ?_
    refine go_aload_n dX5_writeSunday_46 rfl ?_
    refine go_getI (k := 2) dX5_writeSunday_47 sh_12 rfl inX5 (Nat.le_of_ble_eq_true rfl) lf_X5_28 rfl ?_
    obtain ⟨hi, hF⟩ := hF
    refine go_iast dX5_writeSunday_50 sh_14 hi ?_
    obtain ⟨m13, em13⟩ : ∃ z : Mem, z = wI m11 14 x12.toNatClampNeg (m11.1 12 2) := ⟨_, rfl⟩
    rw [← em13]
    have hF := hF m13 em13
    refine go_aload_n dX5_writeSunday_51 rfl ?_
    refine go_getR (k := 7) (r := 14) dX5_writeSunday_52 sh_12 rfl inX5 (Nat.le_of_ble_eq_true rfl) lf_X5_22 rfl rfl ?_
    refine go_iload_n dX5_writeSunday_55 rfl ?_
    refine go_iconst (v := 1) dX5_writeSunday_56 (by decide) ?_
    refine go_iadd dX5_writeSunday_57 ?_
    refine go_aload_n dX5_writeSunday_58 rfl ?_
    refine go_getI (k := 4) dX5_writeSunday_59 sh_12 rfl inX5 (Nat.le_of_ble_eq_true rfl) lf_X5_25 rfl ?_
    obtain ⟨hi, hF⟩ := hF
    refine go_iast dX5_writeSunday_62 sh_14 hi ?_
    obtain ⟨m14, em14⟩ : ∃ z : Mem, z = wI m13 14 (x12 + 1).toNatClampNeg (m13.1 12 4) := ⟨_, rfl⟩
    rw [← em14]
    have hF := hF m14 em14
    refine go_aload_n dX5_writeSunday_63 rfl ?_
    refine go_getR (k := 7) (r := 14) dX5_writeSunday_64 sh_12 rfl inX5 (Nat.le_of_ble_eq_true rfl) lf_X5_22 rfl rfl ?_
    refine go_iload_n dX5_writeSunday_67 rfl ?_
    refine go_iconst (v := 2) dX5_writeSunday_68 (by decide) ?_
    refine go_iadd dX5_writeSunday_69 ?_
    refine go_aload_n dX5_writeSunday_70 rfl ?_
    refine go_callV mX5_countHeard dX5_writeSunday_71 lm_X5_55 okX5_countHeard isX5_countHeard sh_12 rfl (As := []) (S := [.int (x12 + 2), .ref (ga G 14)]) rfl rfl (Nat.le_of_ble_eq_true rfl) hF (k_i (fun r16 m15 hF => ?_))
    obtain ⟨hi, hF⟩ := hF
    refine go_iast dX5_writeSunday_74 sh_14 hi ?_
    obtain ⟨m17, em17⟩ : ∃ z : Mem, z = wI m15 14 (x12 + 2).toNatClampNeg r16 := ⟨_, rfl⟩
    rw [← em17]
    have hF := hF m17 em17
    refine go_aload_n dX5_writeSunday_75 rfl ?_
    refine go_getR (k := 7) (r := 14) dX5_writeSunday_76 sh_12 rfl inX5 (Nat.le_of_ble_eq_true rfl) lf_X5_22 rfl rfl ?_
    refine go_iload_n dX5_writeSunday_79 rfl ?_
    refine go_iconst (v := 3) dX5_writeSunday_80 (by decide) ?_
    refine go_iadd dX5_writeSunday_81 ?_
    refine go_iload_n dX5_writeSunday_82 rfl ?_
    obtain ⟨hi, hF⟩ := hF
    refine go_iast dX5_writeSunday_83 sh_14 hi ?_
    obtain ⟨m18, em18⟩ : ∃ z : Mem, z = wI m17 14 (x12 + 3).toNatClampNeg a0 := ⟨_, rfl⟩
    rw [← em18]
    have hF := hF m18 em18
    refine go_aload_n dX5_writeSunday_84 rfl ?_
    refine go_dup dX5_writeSunday_85 rfl ?_
    refine go_getI (k := 6) dX5_writeSunday_86 sh_12 rfl inX5 (Nat.le_of_ble_eq_true rfl) lf_X5_46 rfl ?_
    refine go_iconst (v := 1) dX5_writeSunday_89 (by decide) ?_
    refine go_iadd dX5_writeSunday_90 ?_
    refine go_putI (k := 6) dX5_writeSunday_91 sh_12 rfl inX5 (Nat.le_of_ble_eq_true rfl) lf_X5_46 tyX5 tyX5_ok nmX5 rfl rfl (by decide +kernel) ?_
    obtain ⟨m19, em19⟩ : ∃ z : Mem, z = wI m18 12 6 ((m18.1 12 6) + 1) := ⟨_, rfl⟩
    rw [← em19]
    have hF := hF m19 em19
    refine go_aload_n dX5_writeSunday_94 rfl ?_
    refine go_iconst (v := 0) dX5_writeSunday_95 (by decide) ?_
    refine go_putI (k := 4) dX5_writeSunday_96 sh_12 rfl inX5 (Nat.le_of_ble_eq_true rfl) lf_X5_25 tyX5 tyX5_ok nmX5 rfl rfl (by decide +kernel) ?_
    obtain ⟨m20, em20⟩ : ∃ z : Mem, z = wI m19 12 4 0 := ⟨_, rfl⟩
    rw [← em20]
    have hF := hF m20 em20
    refine go_iload_n dX5_writeSunday_99 rfl ?_
    exact go_iret (S := []) dX5_writeSunday_100 rfl ⟨_, rfl, hF⟩
theorem vX5_copyFrom (G : GP) (d : Nat) (c0 : Nat) (hc0 : SeAt c0) (p0 : Nat) (hp0 : SeAt p0) (m : Mem) (K : Mem → Prop) (hF : ∀ m1 : Mem, m1 = wI m c0 0 (m.1 p0 0) → ∀ m2 : Mem, m2 = wI m1 c0 1 (m1.1 p0 1) → ∀ m3 : Mem, m3 = wI m2 c0 2 (m2.1 p0 2) → ∀ m4 : Mem, m4 = wI m3 c0 3 (m3.1 p0 3) → ∀ m5 : Mem, m5 = wI m4 c0 4 (m4.1 p0 4) → (¬ (0 : Int32) < 0 ∧ ¬ (0 : Int32) < 0 ∧ ¬ (m5.1 p0 4) < 0 ∧ (0 : Int32).toNatClampNeg + (m5.1 p0 4).toNatClampNeg ≤ 24 ∧ (0 : Int32).toNatClampNeg + (m5.1 p0 4).toNatClampNeg ≤ 24) ∧ ∀ m6 : Mem, m6 = wA m5 (c0 + 1) (va_cpy (m5.1 (p0 + 1)) (m5.1 (c0 + 1)) (0 : Int32).toNatClampNeg (0 : Int32).toNatClampNeg (m5.1 p0 4).toNatClampNeg) → ∀ m7 : Mem, m7 = wI m6 c0 6 (m6.1 p0 6) → (¬ (0 : Int32) < 0 ∧ ¬ (0 : Int32) < 0 ∧ ¬ ((m7.1 p0 6) * 4) < 0 ∧ (0 : Int32).toNatClampNeg + ((m7.1 p0 6) * 4).toNatClampNeg ≤ 80 ∧ (0 : Int32).toNatClampNeg + ((m7.1 p0 6) * 4).toNatClampNeg ≤ 80) ∧ ∀ m8 : Mem, m8 = wA m7 (c0 + 2) (va_cpy (m7.1 (p0 + 2)) (m7.1 (c0 + 2)) (0 : Int32).toNatClampNeg (0 : Int32).toNatClampNeg ((m7.1 p0 6) * 4).toNatClampNeg) → K m8) : Evv G (d + 1) mX5_copyFrom [.ref (ga G c0), .ref (ga G p0)] m K := by
  refine Ev.go [.ref (ga G c0), .ref (ga G p0)] (by decide) (Nat.le_of_ble_eq_true rfl) rfl ?_
  refine go_aload_n dX5_copyFrom_0 rfl ?_
  refine go_aload_n dX5_copyFrom_1 rfl ?_
  refine go_getI (k := 0) dX5_copyFrom_2 hp0.1 rfl inX5 (Nat.le_of_ble_eq_true rfl) lf_X5_9 rfl ?_
  refine go_putI (k := 0) dX5_copyFrom_5 hc0.1 rfl inX5 (Nat.le_of_ble_eq_true rfl) lf_X5_9 tyX5 tyX5_ok nmX5 rfl rfl (by decide +kernel) ?_
  obtain ⟨m1, em1⟩ : ∃ z : Mem, z = wI m c0 0 (m.1 p0 0) := ⟨_, rfl⟩
  rw [← em1]
  have hF := hF m1 em1
  refine go_aload_n dX5_copyFrom_8 rfl ?_
  refine go_aload_n dX5_copyFrom_9 rfl ?_
  refine go_getI (k := 1) dX5_copyFrom_10 hp0.1 rfl inX5 (Nat.le_of_ble_eq_true rfl) lf_X5_34 rfl ?_
  refine go_putI (k := 1) dX5_copyFrom_13 hc0.1 rfl inX5 (Nat.le_of_ble_eq_true rfl) lf_X5_34 tyX5 tyX5_ok nmX5 rfl rfl (by decide +kernel) ?_
  obtain ⟨m2, em2⟩ : ∃ z : Mem, z = wI m1 c0 1 (m1.1 p0 1) := ⟨_, rfl⟩
  rw [← em2]
  have hF := hF m2 em2
  refine go_aload_n dX5_copyFrom_16 rfl ?_
  refine go_aload_n dX5_copyFrom_17 rfl ?_
  refine go_getI (k := 2) dX5_copyFrom_18 hp0.1 rfl inX5 (Nat.le_of_ble_eq_true rfl) lf_X5_28 rfl ?_
  refine go_putI (k := 2) dX5_copyFrom_21 hc0.1 rfl inX5 (Nat.le_of_ble_eq_true rfl) lf_X5_28 tyX5 tyX5_ok nmX5 rfl rfl (by decide +kernel) ?_
  obtain ⟨m3, em3⟩ : ∃ z : Mem, z = wI m2 c0 2 (m2.1 p0 2) := ⟨_, rfl⟩
  rw [← em3]
  have hF := hF m3 em3
  refine go_aload_n dX5_copyFrom_24 rfl ?_
  refine go_aload_n dX5_copyFrom_25 rfl ?_
  refine go_getI (k := 3) dX5_copyFrom_26 hp0.1 rfl inX5 (Nat.le_of_ble_eq_true rfl) lf_X5_15 rfl ?_
  refine go_putI (k := 3) dX5_copyFrom_29 hc0.1 rfl inX5 (Nat.le_of_ble_eq_true rfl) lf_X5_15 tyX5 tyX5_ok nmX5 rfl rfl (by decide +kernel) ?_
  obtain ⟨m4, em4⟩ : ∃ z : Mem, z = wI m3 c0 3 (m3.1 p0 3) := ⟨_, rfl⟩
  rw [← em4]
  have hF := hF m4 em4
  refine go_aload_n dX5_copyFrom_32 rfl ?_
  refine go_aload_n dX5_copyFrom_33 rfl ?_
  refine go_getI (k := 4) dX5_copyFrom_34 hp0.1 rfl inX5 (Nat.le_of_ble_eq_true rfl) lf_X5_25 rfl ?_
  refine go_putI (k := 4) dX5_copyFrom_37 hc0.1 rfl inX5 (Nat.le_of_ble_eq_true rfl) lf_X5_25 tyX5 tyX5_ok nmX5 rfl rfl (by decide +kernel) ?_
  obtain ⟨m5, em5⟩ : ∃ z : Mem, z = wI m4 c0 4 (m4.1 p0 4) := ⟨_, rfl⟩
  rw [← em5]
  have hF := hF m5 em5
  refine go_aload_n dX5_copyFrom_40 rfl ?_
  refine go_getR (k := 5) (r := (p0 + 1)) dX5_copyFrom_41 hp0.1 rfl inX5 (Nat.le_of_ble_eq_true rfl) lf_X5_18 rfl rfl ?_
  refine go_iconst (v := 0) dX5_copyFrom_44 (by decide) ?_
  refine go_aload_n dX5_copyFrom_45 rfl ?_
  refine go_getR (k := 5) (r := (c0 + 1)) dX5_copyFrom_46 hc0.1 rfl inX5 (Nat.le_of_ble_eq_true rfl) lf_X5_18 rfl rfl ?_
  refine go_iconst (v := 0) dX5_copyFrom_49 (by decide) ?_
  refine go_aload_n dX5_copyFrom_50 rfl ?_
  refine go_getI (k := 4) dX5_copyFrom_51 hp0.1 rfl inX5 (Nat.le_of_ble_eq_true rfl) lf_X5_25 rfl ?_
  obtain ⟨hi, hF⟩ := hF
  refine go_acopy dX5_copyFrom_54 lm_X5_49 wcopy hp0.2.1 hc0.2.1 (Nat.le_of_ble_eq_true rfl) hi ?_
  obtain ⟨m6, em6⟩ : ∃ z : Mem, z = wA m5 (c0 + 1) (va_cpy (m5.1 (p0 + 1)) (m5.1 (c0 + 1)) (0 : Int32).toNatClampNeg (0 : Int32).toNatClampNeg (m5.1 p0 4).toNatClampNeg) := ⟨_, rfl⟩
  rw [← em6]
  have hF := hF m6 em6
  refine go_aload_n dX5_copyFrom_57 rfl ?_
  refine go_aload_n dX5_copyFrom_58 rfl ?_
  refine go_getI (k := 6) dX5_copyFrom_59 hp0.1 rfl inX5 (Nat.le_of_ble_eq_true rfl) lf_X5_46 rfl ?_
  refine go_putI (k := 6) dX5_copyFrom_62 hc0.1 rfl inX5 (Nat.le_of_ble_eq_true rfl) lf_X5_46 tyX5 tyX5_ok nmX5 rfl rfl (by decide +kernel) ?_
  obtain ⟨m7, em7⟩ : ∃ z : Mem, z = wI m6 c0 6 (m6.1 p0 6) := ⟨_, rfl⟩
  rw [← em7]
  have hF := hF m7 em7
  refine go_aload_n dX5_copyFrom_65 rfl ?_
  refine go_getR (k := 7) (r := (p0 + 2)) dX5_copyFrom_66 hp0.1 rfl inX5 (Nat.le_of_ble_eq_true rfl) lf_X5_22 rfl rfl ?_
  refine go_iconst (v := 0) dX5_copyFrom_69 (by decide) ?_
  refine go_aload_n dX5_copyFrom_70 rfl ?_
  refine go_getR (k := 7) (r := (c0 + 2)) dX5_copyFrom_71 hc0.1 rfl inX5 (Nat.le_of_ble_eq_true rfl) lf_X5_22 rfl rfl ?_
  refine go_iconst (v := 0) dX5_copyFrom_74 (by decide) ?_
  refine go_aload_n dX5_copyFrom_75 rfl ?_
  refine go_getI (k := 6) dX5_copyFrom_76 hp0.1 rfl inX5 (Nat.le_of_ble_eq_true rfl) lf_X5_46 rfl ?_
  refine go_iconst (v := 4) dX5_copyFrom_79 (by decide) ?_
  refine go_imul dX5_copyFrom_80 ?_
  obtain ⟨hi, hF⟩ := hF
  refine go_acopy dX5_copyFrom_81 lm_X5_49 wcopy hp0.2.2 hc0.2.2 (Nat.le_of_ble_eq_true rfl) hi ?_
  obtain ⟨m8, em8⟩ : ∃ z : Mem, z = wA m7 (c0 + 2) (va_cpy (m7.1 (p0 + 2)) (m7.1 (c0 + 2)) (0 : Int32).toNatClampNeg (0 : Int32).toNatClampNeg ((m7.1 p0 6) * 4).toNatClampNeg) := ⟨_, rfl⟩
  rw [← em8]
  have hF := hF m8 em8
  exact go_vret (S := []) dX5_copyFrom_84 rfl ⟨rfl, hF⟩
theorem vX6_keep (G : GP) (d : Nat)  (m : Mem) (K : Mem → Prop) (hF : vp_in (((m.1 15 1) + (m.1 15 0)) - ((m.1 15 1) + (m.1 15 0)) / 30 * 30) 30 ∧ ∀ t1 : Nat, t1 = 17 + 3 * (((m.1 15 1) + (m.1 15 0)) - ((m.1 15 1) + (m.1 15 0)) / 30 * 30).toNatClampNeg → Evv G (d + 1) mX5_copyFrom [.ref (ga G t1), .ref (ga G 12)] m (fun m2 => ((30 ≤ (m2.1 15 0)) → ∀ m3 : Mem, m3 = wI m2 15 1 (((m2.1 15 1) + 1) - ((m2.1 15 1) + 1) / 30 * 30) → K m3) ∧ ((¬ 30 ≤ (m2.1 15 0)) → ∀ m4 : Mem, m4 = wI m2 15 0 ((m2.1 15 0) + 1) → K m4))) : Evv G (d + 2) mX6_keep [.ref (ga G 15), .ref (ga G 12)] m K := by
  refine Ev.go [.ref (ga G 15), .ref (ga G 12)] (by decide) (Nat.le_of_ble_eq_true rfl) rfl ?_
  refine go_aload_n dX6_keep_0 rfl ?_
  refine go_getR (k := 2) (r := 16) dX6_keep_1 sh_15 rfl inX6 (Nat.le_of_ble_eq_true rfl) lf_X6_11 rfl rfl ?_
  refine go_aload_n dX6_keep_4 rfl ?_
  refine go_getI (k := 1) dX6_keep_5 sh_15 rfl inX6 (Nat.le_of_ble_eq_true rfl) lf_X6_18 rfl ?_
  refine go_aload_n dX6_keep_8 rfl ?_
  refine go_getI (k := 0) dX6_keep_9 sh_15 rfl inX6 (Nat.le_of_ble_eq_true rfl) lf_X6_22 rfl ?_
  refine go_iadd dX6_keep_12 ?_
  refine go_bipush (v := 30) dX6_keep_13 (by decide) ?_
  refine go_irem dX6_keep_15 (by decide) ?_
  obtain ⟨hi, hF⟩ := hF
  obtain ⟨t1, et1⟩ : ∃ z : Nat, z = 17 + 3 * (((m.1 15 1) + (m.1 15 0)) - ((m.1 15 1) + (m.1 15 0)) / 30 * 30).toNatClampNeg := ⟨_, rfl⟩
  have hF := hF t1 et1
  obtain ⟨gt1, ht1⟩ := se_get16 hi et1
  refine go_aaldS dX6_keep_16 sh_16 hi gt1 ?_
  refine go_aload_n dX6_keep_17 rfl ?_
  refine go_callV mX5_copyFrom dX6_keep_18 lm_X6_25 okX5_copyFrom isX5_copyFrom ht1.1 rfl (As := [.ref (ga G 12)]) (S := []) rfl rfl (Nat.le_of_ble_eq_true rfl) hF (k_v (fun m2 hF => ?_))
  refine go_aload_n dX6_keep_21 rfl ?_
  refine go_getI (k := 0) dX6_keep_22 sh_15 rfl inX6 (Nat.le_of_ble_eq_true rfl) lf_X6_22 rfl ?_
  refine go_bipush (v := 30) dX6_keep_25 (by decide) ?_
  refine go_icmp_ge 43 dX6_keep_27 rfl ⟨fun hc => ?_, fun hc => ?_⟩
  · have hF := hF.1 hc
    refine go_aload_n dX6_keep_43 rfl ?_
    refine go_aload_n dX6_keep_44 rfl ?_
    refine go_getI (k := 1) dX6_keep_45 sh_15 rfl inX6 (Nat.le_of_ble_eq_true rfl) lf_X6_18 rfl ?_
    refine go_iconst (v := 1) dX6_keep_48 (by decide) ?_
    refine go_iadd dX6_keep_49 ?_
    refine go_bipush (v := 30) dX6_keep_50 (by decide) ?_
    refine go_irem dX6_keep_52 (by decide) ?_
    refine go_putI (k := 1) dX6_keep_53 sh_15 rfl inX6 (Nat.le_of_ble_eq_true rfl) lf_X6_18 tyX6 tyX6_ok nmX6 rfl rfl (by decide +kernel) ?_
    obtain ⟨m3, em3⟩ : ∃ z : Mem, z = wI m2 15 1 (((m2.1 15 1) + 1) - ((m2.1 15 1) + 1) / 30 * 30) := ⟨_, rfl⟩
    rw [← em3]
    have hF := hF m3 em3
    exact go_vret (S := []) dX6_keep_56 rfl ⟨rfl, hF⟩
  · have hF := hF.2 hc
    refine go_aload_n dX6_keep_30 rfl ?_
    refine go_dup dX6_keep_31 rfl ?_
    refine go_getI (k := 0) dX6_keep_32 sh_15 rfl inX6 (Nat.le_of_ble_eq_true rfl) lf_X6_22 rfl ?_
    refine go_iconst (v := 1) dX6_keep_35 (by decide) ?_
    refine go_iadd dX6_keep_36 ?_
    refine go_putI (k := 0) dX6_keep_37 sh_15 rfl inX6 (Nat.le_of_ble_eq_true rfl) lf_X6_22 tyX6 tyX6_ok nmX6 rfl rfl (by decide +kernel) ?_
    obtain ⟨m4, em4⟩ : ∃ z : Mem, z = wI m2 15 0 ((m2.1 15 0) + 1) := ⟨_, rfl⟩
    rw [← em4]
    have hF := hF m4 em4
    refine go_goto 56 dX6_keep_40 rfl ?_
    exact go_vret (S := []) dX6_keep_56 rfl ⟨rfl, hF⟩
theorem vX6_takeBack (G : GP) (d : Nat)  (m : Mem) (K : Int32 → Mem → Prop) (hF : ((¬ (m.1 15 0) = 0) → ∀ m1 : Mem, m1 = wI m 15 0 ((m.1 15 0) - 1) → vp_in (((m1.1 15 1) + (m1.1 15 0)) - ((m1.1 15 1) + (m1.1 15 0)) / 30 * 30) 30 ∧ ∀ t2 : Nat, t2 = 17 + 3 * (((m1.1 15 1) + (m1.1 15 0)) - ((m1.1 15 1) + (m1.1 15 0)) / 30 * 30).toNatClampNeg → Evv G (d + 1) mX5_copyFrom [.ref (ga G 12), .ref (ga G t2)] m1 (fun m3 => K (m3.1 15 0) m3)) ∧ (((m.1 15 0) = 0) → K (-1) m)) : Evi G (d + 2) mX6_takeBack [.ref (ga G 15), .ref (ga G 12)] m K := by
  refine Ev.go [.ref (ga G 15), .ref (ga G 12)] (by decide) (Nat.le_of_ble_eq_true rfl) rfl ?_
  refine go_aload_n dX6_takeBack_0 rfl ?_
  refine go_getI (k := 0) dX6_takeBack_1 sh_15 rfl inX6 (Nat.le_of_ble_eq_true rfl) lf_X6_22 rfl ?_
  refine go_if_ne 9 dX6_takeBack_4 rfl ⟨fun hc => ?_, fun hc => ?_⟩
  · have hF := hF.1 hc
    refine go_aload_n dX6_takeBack_9 rfl ?_
    refine go_dup dX6_takeBack_10 rfl ?_
    refine go_getI (k := 0) dX6_takeBack_11 sh_15 rfl inX6 (Nat.le_of_ble_eq_true rfl) lf_X6_22 rfl ?_
    refine go_iconst (v := 1) dX6_takeBack_14 (by decide) ?_
    refine go_isub dX6_takeBack_15 ?_
    refine go_putI (k := 0) dX6_takeBack_16 sh_15 rfl inX6 (Nat.le_of_ble_eq_true rfl) lf_X6_22 tyX6 tyX6_ok nmX6 rfl rfl (by decide +kernel) ?_
    obtain ⟨m1, em1⟩ : ∃ z : Mem, z = wI m 15 0 ((m.1 15 0) - 1) := ⟨_, rfl⟩
    rw [← em1]
    have hF := hF m1 em1
    refine go_aload_n dX6_takeBack_19 rfl ?_
    refine go_aload_n dX6_takeBack_20 rfl ?_
    refine go_getR (k := 2) (r := 16) dX6_takeBack_21 sh_15 rfl inX6 (Nat.le_of_ble_eq_true rfl) lf_X6_11 rfl rfl ?_
    refine go_aload_n dX6_takeBack_24 rfl ?_
    refine go_getI (k := 1) dX6_takeBack_25 sh_15 rfl inX6 (Nat.le_of_ble_eq_true rfl) lf_X6_18 rfl ?_
    refine go_aload_n dX6_takeBack_28 rfl ?_
    refine go_getI (k := 0) dX6_takeBack_29 sh_15 rfl inX6 (Nat.le_of_ble_eq_true rfl) lf_X6_22 rfl ?_
    refine go_iadd dX6_takeBack_32 ?_
    refine go_bipush (v := 30) dX6_takeBack_33 (by decide) ?_
    refine go_irem dX6_takeBack_35 (by decide) ?_
    obtain ⟨hi, hF⟩ := hF
    obtain ⟨t2, et2⟩ : ∃ z : Nat, z = 17 + 3 * (((m1.1 15 1) + (m1.1 15 0)) - ((m1.1 15 1) + (m1.1 15 0)) / 30 * 30).toNatClampNeg := ⟨_, rfl⟩
    have hF := hF t2 et2
    obtain ⟨gt2, ht2⟩ := se_get16 hi et2
    refine go_aaldS dX6_takeBack_36 sh_16 hi gt2 ?_
    refine go_callV mX5_copyFrom dX6_takeBack_37 lm_X6_25 okX5_copyFrom isX5_copyFrom sh_12 rfl (As := [.ref (ga G t2)]) (S := []) rfl rfl (Nat.le_of_ble_eq_true rfl) hF (k_v (fun m3 hF => ?_))
    refine go_aload_n dX6_takeBack_40 rfl ?_
    refine go_getI (k := 0) dX6_takeBack_41 sh_15 rfl inX6 (Nat.le_of_ble_eq_true rfl) lf_X6_22 rfl ?_
    exact go_iret (S := []) dX6_takeBack_44 rfl ⟨_, rfl, hF⟩
  · have hF := hF.2 hc
    refine go_iconst (v := -1) dX6_takeBack_7 (by decide) ?_
    exact go_iret (S := []) dX6_takeBack_8 rfl ⟨_, rfl, hF⟩
theorem vX6_copyFrom_w (G : GP) (d : Nat)  (m : Mem) (K : Mem → Prop) (hF : ∀ m1 : Mem, m1 = wI m 15 0 (m.1 128 0) → ∀ m2 : Mem, m2 = wI m1 15 1 (m1.1 128 1) → Gw G (d + 2) mX6_copyFrom 18 [.ref (ga G 15), .ref (ga G 128), .int 0] [] m2 (Qv K)) : Evv G (d + 2) mX6_copyFrom [.ref (ga G 15), .ref (ga G 128)] m K := by
  refine Ev.go [.ref (ga G 15), .ref (ga G 128), uu] (by decide) (Nat.le_of_ble_eq_true rfl) rfl ?_
  refine go_aload_n dX6_copyFrom_0 rfl ?_
  refine go_aload_n dX6_copyFrom_1 rfl ?_
  refine go_getI (k := 0) dX6_copyFrom_2 sh_128 rfl inX6 (Nat.le_of_ble_eq_true rfl) lf_X6_22 rfl ?_
  refine go_putI (k := 0) dX6_copyFrom_5 sh_15 rfl inX6 (Nat.le_of_ble_eq_true rfl) lf_X6_22 tyX6 tyX6_ok nmX6 rfl rfl (by decide +kernel) ?_
  obtain ⟨m1, em1⟩ : ∃ z : Mem, z = wI m 15 0 (m.1 128 0) := ⟨_, rfl⟩
  rw [← em1]
  have hF := hF m1 em1
  refine go_aload_n dX6_copyFrom_8 rfl ?_
  refine go_aload_n dX6_copyFrom_9 rfl ?_
  refine go_getI (k := 1) dX6_copyFrom_10 sh_128 rfl inX6 (Nat.le_of_ble_eq_true rfl) lf_X6_18 rfl ?_
  refine go_putI (k := 1) dX6_copyFrom_13 sh_15 rfl inX6 (Nat.le_of_ble_eq_true rfl) lf_X6_18 tyX6 tyX6_ok nmX6 rfl rfl (by decide +kernel) ?_
  obtain ⟨m2, em2⟩ : ∃ z : Mem, z = wI m1 15 1 (m1.1 128 1) := ⟨_, rfl⟩
  rw [← em2]
  have hF := hF m2 em2
  refine go_iconst (v := 0) dX6_copyFrom_16 (by decide) ?_
  refine go_istore_n (L' := [.ref (ga G 15), .ref (ga G 128), .int 0]) dX6_copyFrom_17 (Nat.le_of_ble_eq_true rfl) rfl ?_
  exact hF
theorem vX6_copyFrom_w_18 (G : GP) (d : Nat) (l2 : Int32) (m : Mem) (K : Mem → Prop) (hF : ((30 ≤ l2) → K m) ∧ ((¬ 30 ≤ l2) → vp_in l2 30 ∧ ∀ t3 : Nat, t3 = 17 + 3 * l2.toNatClampNeg → vp_in l2 30 ∧ ∀ t4 : Nat, t4 = 130 + 3 * l2.toNatClampNeg → Evv G (d + 1) mX5_copyFrom [.ref (ga G t3), .ref (ga G t4)] m (fun m5 => ∀ x6 : Int32, x6 = l2 + 1 → Gw G (d + 2) mX6_copyFrom 18 [.ref (ga G 15), .ref (ga G 128), .int x6] [] m5 (Qv K)))) : Gw G (d + 2) mX6_copyFrom 18 [.ref (ga G 15), .ref (ga G 128), .int l2] [] m (Qv K) := by
  refine go_iload_n dX6_copyFrom_18 rfl ?_
  refine go_bipush (v := 30) dX6_copyFrom_19 (by decide) ?_
  refine go_icmp_ge 45 dX6_copyFrom_21 rfl ⟨fun hc => ?_, fun hc => ?_⟩
  · have hF := hF.1 hc
    exact go_vret (S := []) dX6_copyFrom_45 rfl ⟨rfl, hF⟩
  · have hF := hF.2 hc
    refine go_aload_n dX6_copyFrom_24 rfl ?_
    refine go_getR (k := 2) (r := 16) dX6_copyFrom_25 sh_15 rfl inX6 (Nat.le_of_ble_eq_true rfl) lf_X6_11 rfl rfl ?_
    refine go_iload_n dX6_copyFrom_28 rfl ?_
    obtain ⟨hi, hF⟩ := hF
    obtain ⟨t3, et3⟩ : ∃ z : Nat, z = 17 + 3 * l2.toNatClampNeg := ⟨_, rfl⟩
    have hF := hF t3 et3
    obtain ⟨gt3, ht3⟩ := se_get16 hi et3
    refine go_aaldS dX6_copyFrom_29 sh_16 hi gt3 ?_
    refine go_aload_n dX6_copyFrom_30 rfl ?_
    refine go_getR (k := 2) (r := 129) dX6_copyFrom_31 sh_128 rfl inX6 (Nat.le_of_ble_eq_true rfl) lf_X6_11 rfl rfl ?_
    refine go_iload_n dX6_copyFrom_34 rfl ?_
    obtain ⟨hi, hF⟩ := hF
    obtain ⟨t4, et4⟩ : ∃ z : Nat, z = 130 + 3 * l2.toNatClampNeg := ⟨_, rfl⟩
    have hF := hF t4 et4
    obtain ⟨gt4, ht4⟩ := se_get129 hi et4
    refine go_aaldS dX6_copyFrom_35 sh_129 hi gt4 ?_
    refine go_callV mX5_copyFrom dX6_copyFrom_36 lm_X6_25 okX5_copyFrom isX5_copyFrom ht3.1 rfl (As := [.ref (ga G t4)]) (S := []) rfl rfl (Nat.le_of_ble_eq_true rfl) hF (k_v (fun m5 hF => ?_))
    obtain ⟨x6, ex6⟩ : ∃ z : Int32, z = l2 + 1 := ⟨_, rfl⟩
    have hF := hF x6 ex6
    refine go_iinc (v := x6) (L' := [.ref (ga G 15), .ref (ga G 128), .int x6]) dX6_copyFrom_39 rfl (by rw [ex6]; rfl) (Nat.le_of_ble_eq_true rfl) rfl ?_
    refine go_goto 18 dX6_copyFrom_42 rfl ?_
    exact hF
theorem vX6_copyFrom_k (G : GP) (d : Nat)  (m : Mem) (K : Mem → Prop) (hF : ∀ m1 : Mem, m1 = wI m 128 0 (m.1 15 0) → ∀ m2 : Mem, m2 = wI m1 128 1 (m1.1 15 1) → Gw G (d + 2) mX6_copyFrom 18 [.ref (ga G 128), .ref (ga G 15), .int 0] [] m2 (Qv K)) : Evv G (d + 2) mX6_copyFrom [.ref (ga G 128), .ref (ga G 15)] m K := by
  refine Ev.go [.ref (ga G 128), .ref (ga G 15), uu] (by decide) (Nat.le_of_ble_eq_true rfl) rfl ?_
  refine go_aload_n dX6_copyFrom_0 rfl ?_
  refine go_aload_n dX6_copyFrom_1 rfl ?_
  refine go_getI (k := 0) dX6_copyFrom_2 sh_15 rfl inX6 (Nat.le_of_ble_eq_true rfl) lf_X6_22 rfl ?_
  refine go_putI (k := 0) dX6_copyFrom_5 sh_128 rfl inX6 (Nat.le_of_ble_eq_true rfl) lf_X6_22 tyX6 tyX6_ok nmX6 rfl rfl (by decide +kernel) ?_
  obtain ⟨m1, em1⟩ : ∃ z : Mem, z = wI m 128 0 (m.1 15 0) := ⟨_, rfl⟩
  rw [← em1]
  have hF := hF m1 em1
  refine go_aload_n dX6_copyFrom_8 rfl ?_
  refine go_aload_n dX6_copyFrom_9 rfl ?_
  refine go_getI (k := 1) dX6_copyFrom_10 sh_15 rfl inX6 (Nat.le_of_ble_eq_true rfl) lf_X6_18 rfl ?_
  refine go_putI (k := 1) dX6_copyFrom_13 sh_128 rfl inX6 (Nat.le_of_ble_eq_true rfl) lf_X6_18 tyX6 tyX6_ok nmX6 rfl rfl (by decide +kernel) ?_
  obtain ⟨m2, em2⟩ : ∃ z : Mem, z = wI m1 128 1 (m1.1 15 1) := ⟨_, rfl⟩
  rw [← em2]
  have hF := hF m2 em2
  refine go_iconst (v := 0) dX6_copyFrom_16 (by decide) ?_
  refine go_istore_n (L' := [.ref (ga G 128), .ref (ga G 15), .int 0]) dX6_copyFrom_17 (Nat.le_of_ble_eq_true rfl) rfl ?_
  exact hF
theorem vX6_copyFrom_k_18 (G : GP) (d : Nat) (l2 : Int32) (m : Mem) (K : Mem → Prop) (hF : ((30 ≤ l2) → K m) ∧ ((¬ 30 ≤ l2) → vp_in l2 30 ∧ ∀ t3 : Nat, t3 = 130 + 3 * l2.toNatClampNeg → vp_in l2 30 ∧ ∀ t4 : Nat, t4 = 17 + 3 * l2.toNatClampNeg → Evv G (d + 1) mX5_copyFrom [.ref (ga G t3), .ref (ga G t4)] m (fun m5 => ∀ x6 : Int32, x6 = l2 + 1 → Gw G (d + 2) mX6_copyFrom 18 [.ref (ga G 128), .ref (ga G 15), .int x6] [] m5 (Qv K)))) : Gw G (d + 2) mX6_copyFrom 18 [.ref (ga G 128), .ref (ga G 15), .int l2] [] m (Qv K) := by
  refine go_iload_n dX6_copyFrom_18 rfl ?_
  refine go_bipush (v := 30) dX6_copyFrom_19 (by decide) ?_
  refine go_icmp_ge 45 dX6_copyFrom_21 rfl ⟨fun hc => ?_, fun hc => ?_⟩
  · have hF := hF.1 hc
    exact go_vret (S := []) dX6_copyFrom_45 rfl ⟨rfl, hF⟩
  · have hF := hF.2 hc
    refine go_aload_n dX6_copyFrom_24 rfl ?_
    refine go_getR (k := 2) (r := 129) dX6_copyFrom_25 sh_128 rfl inX6 (Nat.le_of_ble_eq_true rfl) lf_X6_11 rfl rfl ?_
    refine go_iload_n dX6_copyFrom_28 rfl ?_
    obtain ⟨hi, hF⟩ := hF
    obtain ⟨t3, et3⟩ : ∃ z : Nat, z = 130 + 3 * l2.toNatClampNeg := ⟨_, rfl⟩
    have hF := hF t3 et3
    obtain ⟨gt3, ht3⟩ := se_get129 hi et3
    refine go_aaldS dX6_copyFrom_29 sh_129 hi gt3 ?_
    refine go_aload_n dX6_copyFrom_30 rfl ?_
    refine go_getR (k := 2) (r := 16) dX6_copyFrom_31 sh_15 rfl inX6 (Nat.le_of_ble_eq_true rfl) lf_X6_11 rfl rfl ?_
    refine go_iload_n dX6_copyFrom_34 rfl ?_
    obtain ⟨hi, hF⟩ := hF
    obtain ⟨t4, et4⟩ : ∃ z : Nat, z = 17 + 3 * l2.toNatClampNeg := ⟨_, rfl⟩
    have hF := hF t4 et4
    obtain ⟨gt4, ht4⟩ := se_get16 hi et4
    refine go_aaldS dX6_copyFrom_35 sh_16 hi gt4 ?_
    refine go_callV mX5_copyFrom dX6_copyFrom_36 lm_X6_25 okX5_copyFrom isX5_copyFrom ht3.1 rfl (As := [.ref (ga G t4)]) (S := []) rfl rfl (Nat.le_of_ble_eq_true rfl) hF (k_v (fun m5 hF => ?_))
    obtain ⟨x6, ex6⟩ : ∃ z : Int32, z = l2 + 1 := ⟨_, rfl⟩
    have hF := hF x6 ex6
    refine go_iinc (v := x6) (L' := [.ref (ga G 128), .ref (ga G 15), .int x6]) dX6_copyFrom_39 rfl (by rw [ex6]; rfl) (Nat.le_of_ble_eq_true rfl) rfl ?_
    refine go_goto 18 dX6_copyFrom_42 rfl ?_
    exact hF
